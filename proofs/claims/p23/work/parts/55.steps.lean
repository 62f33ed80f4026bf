/-! ===== the model: steps of one board ===== -/
section ST
variable {h h1 : zPH} {E : zEnv} {A : Nat → Prop} {mm s b r g e w hh m le k : Nat} {X : rX4} {cl : List Int32} {mi sp n0 n2 : Int32} {KS : List rKS} {B : List rBS}
theorem rget_set {β β' : rBS} (hk : B[k]? = some β) : (B.set k β')[k]? = some β' := by
  have hl : k < B.length := by
    rcases Nat.lt_or_ge k B.length with q | q
    · exact q
    · rw [List.getElem?_eq_none q] at hk; cases hk
  rw [List.getElem?_set, if_pos rfl, if_pos hl]
theorem rC.up {β : rBS} {r' g' e' w' hh' : Nat} {X' : rX4} {cl' : List Int32} {mi' sp' : Int32} {KS' : List rKS} (C : rC h E m le n0 n2 B) (hk : B[k]? = some β) (F : yFr (fun x => rOw β x ∨ h.2.1 ≤ x) h h1 mm s) (D' : rD h1 E β.1 r' g' e' w' hh' X' cl' mi' sp' KS') (hs : ∀ x, rOn β.1 r' g' e' KS' x → rOw β x ∨ h.2.1 ≤ x) :
    rC h1 E m le n0 n2 (B.set k (β.1, r', g', e', (w', hh'), X', cl', (mi', sp'), KS')) ∧ rNx h h1 E m n2 n2 le B le (B.set k (β.1, r', g', e', (w', hh'), X', cl', (mi', sp'), KS')) mm s ∧ (B.set k (β.1, r', g', e', (w', hh'), X', cl', (mi', sp'), KS'))[k]? = some (β.1, r', g', e', (w', hh'), X', cl', (mi', sp'), KS') :=
  ⟨C.step hk F D' hs rfl, rNx.step C hk F D' hs rfl, rget_set hk⟩
theorem rD.gr (D : rD h E b r g e w hh X cl mi sp KS) : g + 1 ≤ r ∨ r + 5 ≤ g := D.2.2.2.2.2.1.2.2
theorem rC.go {w' hh' : Nat} {y0 y1 y2 y3 cl' : List Int32} {mi' sp' : Int32} (C : rC h E m le n0 n2 B) (hk : B[k]? = some (b, r, g, e, (w, hh), X, cl, (mi, sp), KS)) (F : yFr A h h1 mm s) (hA : ∀ x, A x → rP b r (b + 2) x ∨ h.2.1 ≤ x) (P' : rB h1 b r (b + 2) g w' hh' y0 y1 y2 y3 cl' mi' sp') (ew : w' * hh' = w * hh) :
    rC h1 E m le n0 n2 (B.set k (b, r, g, e, (w', hh'), (y0, y1, y2, y3), cl', (mi', sp'), KS)) ∧ rNx h h1 E m n2 n2 le B le (B.set k (b, r, g, e, (w', hh'), (y0, y1, y2, y3), cl', (mi', sp'), KS)) mm s ∧ (B.set k (b, r, g, e, (w', hh'), (y0, y1, y2, y3), cl', (mi', sp'), KS))[k]? = some (b, r, g, e, (w', hh'), (y0, y1, y2, y3), cl', (mi', sp'), KS) := by
  have D : rD h E b r g e w hh X cl mi sp KS := (C.2.2.2.2.1 k _ hk).1
  have D0 := D
  have hlt : ∀ x, rOn b r g e KS x → x < h.2.1 := fun x => D0.lt
  obtain ⟨P, L, K, hK6, hbr, ⟨g1, g2, g3⟩, he, hκ, hp⟩ := D
  refine rC.up C hk (F.mono (fun x _ z => ?_) (Nat.le_refl _) (Nat.le_refl _)) (D0.core F (fun x z y => ?_) P' ew) (fun x z => Or.inl z)
  · rcases hA x z with q | q
    · left
      rcases q with q | q | q
      · exact Or.inl ⟨q.1, by have := q.2; omega⟩
      · exact Or.inr (Or.inl q)
      · exact Or.inl ⟨by have := q.1; omega, by have := q.2; omega⟩
    · exact Or.inr q
  · have hx : x < h.2.1 := hlt x (Or.inr (Or.inr z))
    rcases hA x y with q | q
    · rcases z with rfl | rfl | ⟨κ, hκm, z⟩
      · rcases q with q | q | q <;> (have q1 := q.1; have q2 := q.2; omega)
      · rcases q with q | q | q <;> (have q1 := q.1; have q2 := q.2; rcases he with he | he <;> omega)
      · have hk1 := hκ κ hκm
        have z1 := z.1
        have z2 := z.2
        rcases q with q | q | q <;> (have q1 := q.1; have q2 := q.2; omega)
    · omega
/-- new rows -/
theorem rC.goR {r' : Nat} {y0 y1 y2 y3 : List Int32} (C : rC h E m le n0 n2 B) (hk : B[k]? = some (b, r, g, e, (w, hh), X, cl, (mi, sp), KS)) (F : yFr (fun x => h.2.1 ≤ x ∨ yIv b 1 x) h h1 mm s) (hr : h.2.1 ≤ r') (P' : rB h1 b r' (b + 2) g w hh y0 y1 y2 y3 cl mi sp) :
    rC h1 E m le n0 n2 (B.set k (b, r', g, e, (w, hh), (y0, y1, y2, y3), cl, (mi, sp), KS)) ∧ rNx h h1 E m n2 n2 le B le (B.set k (b, r', g, e, (w, hh), (y0, y1, y2, y3), cl, (mi, sp), KS)) mm s ∧ (B.set k (b, r', g, e, (w, hh), (y0, y1, y2, y3), cl, (mi, sp), KS))[k]? = some (b, r', g, e, (w, hh), (y0, y1, y2, y3), cl, (mi, sp), KS) := by
  have D0 : rD h E b r g e w hh X cl mi sp KS := (C.2.2.2.2.1 k _ hk).1
  have hlt : ∀ x, rOn b r g e KS x → x < h.2.1 := fun x => D0.lt
  obtain ⟨P, L, K, hK6, hbr, ⟨g1, g2, g3⟩, he, hκ, hp⟩ := D0
  have hgl := hlt g (Or.inr (Or.inr (Or.inl rfl)))
  have hel := hlt e (Or.inr (Or.inr (Or.inr (Or.inl rfl))))
  have hkl : ∀ κ ∈ KS, κ.1 + 6 ≤ h.2.1 := fun κ hm => (K κ hm).1.1
  have hbl : b + 2 < h.2.1 := hlt (b + 2) (Or.inl ⟨by omega, by omega⟩)
  have nb : ∀ x, x < h.2.1 → x ≠ b → ¬ (h.2.1 ≤ x ∨ yIv b 1 x) := fun x z1 z2 z3 => by
    rcases z3 with z | z
    · omega
    · have := z.1; have := z.2; omega
  refine rC.up C hk (F.mono (fun x _ z => ?_) (Nat.le_refl _) (Nat.le_refl _)) ⟨P', L.fr F (nb _ hgl (by omega)) (nb _ hel (by rcases he with he | he <;> omega)), fun κ hm => (K κ hm).fr F (fun x z => nb x (by have := hkl κ hm; have := z.2; omega) (by have := (hκ κ hm).1; have := z.1; omega)), hK6, by omega, ⟨g1, g2, by omega⟩, ?_, fun κ hm => ⟨(hκ κ hm).1, Or.inl (by have := hkl κ hm; omega), (hκ κ hm).2.2⟩, hp⟩ (fun x z => ?_)
  · rcases z with z | z
    · exact Or.inr z
    · exact Or.inl (Or.inl ⟨z.1, by have := z.2; omega⟩)
  · rcases he with he | he
    · exact Or.inl he
    · exact Or.inr ⟨he.1, by omega⟩
  · rcases z with z | z | z
    · exact Or.inl (Or.inl z)
    · exact Or.inr (by have := z.1; omega)
    · exact Or.inl (Or.inr (Or.inr z))
/-- a new list, nothing kept -/
theorem rC.goG {g' : Nat} {n : Int32} {mc : Int32} (C : rC h E m le n0 n2 B) (hk : B[k]? = some (b, r, g, e, (w, hh), X, cl, (mi, sp), KS)) (F : yFr (fun x => h.2.1 ≤ x ∨ yIv b 1 x) h h1 mm s) (hg : h.2.1 ≤ g') (L' : rL0 h1 E g' mc) (P' : rB h1 b r (b + 2) g' w hh X.1 X.2.1 X.2.2.1 X.2.2.2 cl mi sp) :
    rC h1 E m le n0 n2 (B.set k (b, r, g', g', (w, hh), X, cl, (mi, sp), [])) ∧ rNx h h1 E m n2 n2 le B le (B.set k (b, r, g', g', (w, hh), X, cl, (mi, sp), [])) mm s ∧ (B.set k (b, r, g', g', (w, hh), X, cl, (mi, sp), []))[k]? = some (b, r, g', g', (w, hh), X, cl, (mi, sp), []) := by
  have D0 : rD h E b r g e w hh X cl mi sp KS := (C.2.2.2.2.1 k _ hk).1
  have hlt : ∀ x, rOn b r g e KS x → x < h.2.1 := fun x => D0.lt
  obtain ⟨P, L, K, hK6, hbr, ⟨g1, g2, g3⟩, he, hκ, hp⟩ := D0
  have hrl : r + 4 < h.2.1 := hlt (r + 4) (Or.inr (Or.inl ⟨by omega, by omega⟩))
  have hbl : b + 2 < h.2.1 := hlt (b + 2) (Or.inl ⟨by omega, by omega⟩)
  obtain ⟨el, eE, G⟩ := L'
  refine rC.up C hk (F.mono (fun x _ z => ?_) (Nat.le_refl _) (Nat.le_refl _)) ⟨P', ⟨Nat.zero_le _, el, mc, G, Or.inl ⟨rfl, rfl, eE⟩⟩, fun κ hm => (by cases hm), Nat.zero_le _, hbr, ⟨by omega, by omega, by omega⟩, Or.inl rfl, fun κ hm => (by cases hm), List.Pairwise.nil⟩ (fun x z => ?_)
  · rcases z with z | z
    · exact Or.inr z
    · exact Or.inl (Or.inl ⟨z.1, by have := z.2; omega⟩)
  · rcases z with z | z | z | z | ⟨κ, hm, z⟩
    · exact Or.inl (Or.inl z)
    · exact Or.inl (Or.inr (Or.inl z))
    · exact Or.inr (by omega)
    · exact Or.inr (by omega)
    · cases hm
end ST
