/-! ===== the model: a board kept, restored, added ===== -/
section ST2
variable {h h1 h2 : zPH} {E : zEnv} {A : Nat → Prop} {m1 s1 m2 s2 b r g e w hh m le k : Nat} {X : rX4} {cl : List Int32} {mi sp n0 n2 : Int32} {KS : List rKS} {B : List rBS}
theorem rC.goK {kk c e1 : Nat} {Y : rX4} {y : Bool} (C : rC h E m le n0 n2 B) (hk : B[k]? = some (b, r, g, e, (w, hh), X, cl, (mi, sp), KS)) (F1 : yFr (fun x => h.2.1 ≤ x) h h1 m1 s1) (F2 : yFr (fun x => h1.2.1 ≤ x ∨ x = g ∨ x = e) h1 h2 m2 s2) (hkk : h.2.1 ≤ kk) (Kb : yBk h1 kk ((10, [.ref (kk + 1), .int (zJ c), .int (zB y)]) :: rRX (kk + 1) Y)) (hc : c < w * hh) (hY : rLn (w * hh) Y) (he1 : e1 = e ∨ (e = g ∧ e1 = h1.2.1)) (L : rL h2 E g e1 (KS.map (fun κ => .ref κ.1) ++ [.ref kk])) (h6 : KS.length < 6) :
    rC h2 E m le n0 n2 (B.set k (b, r, g, e1, (w, hh), X, cl, (mi, sp), KS ++ [(kk, Y, c, y)])) ∧ rNx h h2 E m n2 n2 le B le (B.set k (b, r, g, e1, (w, hh), X, cl, (mi, sp), KS ++ [(kk, Y, c, y)])) (m1 + m2) (s1 + s2) ∧ (B.set k (b, r, g, e1, (w, hh), X, cl, (mi, sp), KS ++ [(kk, Y, c, y)]))[k]? = some (b, r, g, e1, (w, hh), X, cl, (mi, sp), KS ++ [(kk, Y, c, y)]) := by
  have D0 : rD h E b r g e w hh X cl mi sp KS := (C.2.2.2.2.1 k _ hk).1
  have hlt : ∀ x, rOn b r g e KS x → x < h.2.1 := fun x => D0.lt
  have D1 : rD h1 E b r g e w hh X cl mi sp KS := D0.fr F1 (fun x z y => by have := hlt x z; have y : h.2.1 ≤ x := y; omega)
  have hn1 := F1.2.1
  obtain ⟨P, -, K, hK6, hbr, ⟨g1, g2, g3⟩, he, hκ, hp⟩ := D1
  have hgl := hlt g (Or.inr (Or.inr (Or.inl rfl)))
  have hel := hlt e (Or.inr (Or.inr (Or.inr (Or.inl rfl))))
  have hrl : r + 4 < h.2.1 := hlt (r + 4) (Or.inr (Or.inl ⟨by omega, by omega⟩))
  have hbl : b + 2 < h.2.1 := hlt (b + 2) (Or.inl ⟨by omega, by omega⟩)
  have hkl : ∀ κ ∈ KS, κ.1 + 6 ≤ h.2.1 := fun κ hm => by
    have := hlt (κ.1 + 5) (Or.inr (Or.inr (Or.inr (Or.inr ⟨κ, hm, by omega, by omega⟩))))
    omega
  have hk1 : kk + 6 ≤ h1.2.1 := Kb.1
  have nb : ∀ x, x < h1.2.1 → x ≠ g → x ≠ e → ¬ (h1.2.1 ≤ x ∨ x = g ∨ x = e) := fun x z1 z2 z3 z4 => by
    rcases z4 with z | z | z
    · omega
    · exact z2 z
    · exact z3 z
  have FF : yFr (fun x => rOw (b, r, g, e, (w, hh), X, cl, (mi, sp), KS) x ∨ h.2.1 ≤ x) h h2 (m1 + m2) (s1 + s2) := (F1.mono (fun _ _ z => Or.inr z) (Nat.le_refl _) (Nat.le_refl _)).trans (F2.mono (fun x _ z => by
    rcases z with z | z | z
    · exact Or.inr (by omega)
    · exact Or.inl (Or.inr (Or.inr (Or.inl z)))
    · exact Or.inl (Or.inr (Or.inr (Or.inr (Or.inl z))))) (Nat.le_refl _) (Nat.le_refl _))
  have ne1 : b ≠ e := by rcases he with he | he <;> omega
  have ne2 : b + 2 ≠ e := by rcases he with he | he <;> omega
  refine rC.up C hk FF (β := (b, r, g, e, (w, hh), X, cl, (mi, sp), KS)) ⟨P.fr F2 (fun x z => ?_), by rw [List.map_append]; exact L, fun κ hm => ?_, by rw [List.length_append]; show KS.length + 1 ≤ 6; omega, hbr, ⟨g1, g2, g3⟩, ?_, fun κ hm => ?_, ?_⟩ (fun x z => ?_)
  · rcases z with z | z | z
    · have := z.1; have := z.2; exact nb x (by omega) (by omega) (by omega)
    · have := z.1; have := z.2; exact nb x (by omega) (by omega) (by rcases he with he | he <;> omega)
    · have := z.1; have := z.2; exact nb x (by omega) (by omega) (by omega)
  · rcases List.mem_append.mp hm with hm | hm
    · refine (K κ hm).fr F2 (fun x z => ?_)
      have z1 := z.1; have z2 := z.2; have z3 := hkl κ hm; have z4 := hκ κ hm
      exact nb x (by omega) (by omega) (by omega)
    · obtain rfl := List.mem_singleton.mp hm
      refine ⟨F2.bk Kb (fun x z1 z2 => ?_), hc, hY⟩
      have z2 : x < kk + 6 := z2
      have z1 : kk ≤ x := z1
      exact nb x (by omega) (by omega) (by omega)
  · rcases he1 with rfl | ⟨z1, z2⟩
    · exact he
    · exact Or.inr ⟨by omega, by omega⟩
  · rcases List.mem_append.mp hm with hm | hm
    · have z3 := hkl κ hm; have z4 := hκ κ hm
      refine ⟨z4.1, z4.2.1, ?_, z4.2.2.2⟩
      rcases he1 with rfl | ⟨z1, z2⟩
      · exact z4.2.2.1
      · omega
    · obtain rfl := List.mem_singleton.mp hm
      show b + 3 ≤ kk ∧ (kk + 6 ≤ r ∨ r + 5 ≤ kk) ∧ (kk + 6 ≤ e1 ∨ e1 + 1 ≤ kk) ∧ (kk + 6 ≤ g ∨ g + 1 ≤ kk)
      refine ⟨by omega, by omega, ?_, by omega⟩
      rcases he1 with rfl | ⟨z1, z2⟩ <;> omega
  · refine List.pairwise_append.mpr ⟨hp, List.pairwise_singleton _ _, fun κ hm κ' hm' => ?_⟩
    obtain rfl := List.mem_singleton.mp hm'
    have := hkl κ hm
    show κ.1 + 6 ≤ kk
    omega
  · rcases z with z | z | z | z | ⟨κ, hm, z⟩
    · exact Or.inl (Or.inl z)
    · exact Or.inl (Or.inr (Or.inl z))
    · exact Or.inl (Or.inr (Or.inr (Or.inl z)))
    · rcases he1 with rfl | ⟨z1, z2⟩
      · exact Or.inl (Or.inr (Or.inr (Or.inr (Or.inl z))))
      · exact Or.inr (by omega)
    · rcases List.mem_append.mp hm with hm | hm
      · exact Or.inl (Or.inr (Or.inr (Or.inr (Or.inr ⟨κ, hm, z⟩))))
      · obtain rfl := List.mem_singleton.mp hm
        have z1 : kk ≤ x := z.1
        exact Or.inr (by omega)
/-- what was kept is restored -/
theorem rC.goB {κ : rKS} {K0 : List rKS} (C : rC h E m le n0 n2 B) (hk : B[k]? = some (b, r, g, e, (w, hh), X, cl, (mi, sp), K0 ++ [κ])) (F1 : yFr (fun x => x = g ∨ x = e) h h1 0 0) (L : rL h1 E g e (K0.map (fun κ => .ref κ.1))) (F2 : yFr (yIv b 1) h1 h2 0 0) (P' : rB h2 b (κ.1 + 1) (b + 2) g w hh κ.2.1.1 κ.2.1.2.1 κ.2.1.2.2.1 κ.2.1.2.2.2 cl mi sp) :
    rC h2 E m le n0 n2 (B.set k (b, κ.1 + 1, g, e, (w, hh), κ.2.1, cl, (mi, sp), K0)) ∧ rNx h h2 E m n2 n2 le B le (B.set k (b, κ.1 + 1, g, e, (w, hh), κ.2.1, cl, (mi, sp), K0)) 0 0 ∧ (B.set k (b, κ.1 + 1, g, e, (w, hh), κ.2.1, cl, (mi, sp), K0))[k]? = some (b, κ.1 + 1, g, e, (w, hh), κ.2.1, cl, (mi, sp), K0) := by
  have D0 : rD h E b r g e w hh X cl mi sp (K0 ++ [κ]) := (C.2.2.2.2.1 k _ hk).1
  have hlt : ∀ x, rOn b r g e (K0 ++ [κ]) x → x < h.2.1 := fun x => D0.lt
  obtain ⟨P, -, K, hK6, hbr, ⟨g1, g2, g3⟩, he, hκ, hp⟩ := D0
  have hmκ : κ ∈ K0 ++ [κ] := List.mem_append.mpr (Or.inr (List.mem_singleton.mpr rfl))
  have hz := hκ κ hmκ
  have hp2 := List.pairwise_append.mp hp
  have FF : yFr (fun x => rOw (b, r, g, e, (w, hh), X, cl, (mi, sp), K0 ++ [κ]) x ∨ h.2.1 ≤ x) h h2 0 0 := (F1.mono (fun x _ z => by
    rcases z with z | z
    · exact Or.inl (Or.inr (Or.inr (Or.inl z)))
    · exact Or.inl (Or.inr (Or.inr (Or.inr (Or.inl z))))) (Nat.le_refl _) (Nat.le_refl _)).trans (F2.mono (fun x _ z => Or.inl (Or.inl ⟨z.1, by have := z.2; omega⟩)) (Nat.le_refl _) (Nat.le_refl _))
  refine rC.up C hk FF (β := (b, r, g, e, (w, hh), X, cl, (mi, sp), K0 ++ [κ])) ⟨P', L.fr F2 (fun z => by have := z.1; have := z.2; omega) (fun z => by have := z.1; have := z.2; rcases he with he | he <;> omega), fun κ' hm => ?_, by rw [List.length_append] at hK6; omega, by omega, ⟨g1, g2, by omega⟩, ?_, fun κ' hm => ?_, hp2.1⟩ (fun x z => ?_)
  · have hm2 : κ' ∈ K0 ++ [κ] := List.mem_append.mpr (Or.inl hm)
    have h1 := hκ κ' hm2
    refine ((K κ' hm2).fr F1 (fun x z y => ?_)).fr F2 (fun x z y => ?_)
    · have := z.1; have := z.2
      rcases y with y | y <;> omega
    · have := z.1; have := y.2; omega
  · rcases he with he | he
    · exact Or.inl he
    · exact Or.inr ⟨he.1, by omega⟩
  · have hm2 : κ' ∈ K0 ++ [κ] := List.mem_append.mpr (Or.inl hm)
    have h1 := hκ κ' hm2
    have h3 := hp2.2.2 κ' hm κ (List.mem_singleton.mpr rfl)
    exact ⟨h1.1, by omega, h1.2.2⟩
  · rcases z with z | z | z | z | ⟨κ', hm, z⟩
    · exact Or.inl (Or.inl z)
    · exact Or.inl (Or.inr (Or.inr (Or.inr (Or.inr ⟨κ, hmκ, by have := z.1; omega, by have := z.2; omega⟩))))
    · exact Or.inl (Or.inr (Or.inr (Or.inl z)))
    · exact Or.inl (Or.inr (Or.inr (Or.inr (Or.inl z))))
    · exact Or.inl (Or.inr (Or.inr (Or.inr (Or.inr ⟨κ', List.mem_append.mpr (Or.inl hm), z⟩))))
/-- a board more -/
theorem rC.add {le1 : Nat} (C : rC h E m le n0 n2 B) (F1 : yFr (fun x => h.2.1 ≤ x) h h1 m1 s1) (F2 : yFr (fun x => h1.2.1 ≤ x ∨ x = m + 1 ∨ x = le) h1 h2 m2 s2) (D : rD h1 E b r g e w hh X cl mi sp KS) (hs : ∀ x, rOn b r g e KS x → h.2.1 ≤ x) (hl3 : B.length < 3) (hle1 : le1 = le ∨ (le = m + 1 ∧ le1 = h1.2.1)) (L : rL h2 E (m + 1) le1 (B.map (fun β => .ref β.1) ++ [.ref b])) :
    rC h2 E m le1 n0 n2 (B ++ [(b, r, g, e, (w, hh), X, cl, (mi, sp), KS)]) ∧ rNx h h2 E m n2 n2 le B le1 (B ++ [(b, r, g, e, (w, hh), X, cl, (mi, sp), KS)]) (m1 + m2) (s1 + s2) := by
  have hlt : ∀ x, rAl m le B x → x < h.2.1 := fun x => C.lt
  have hDl : ∀ x, rOn b r g e KS x → x < h1.2.1 := fun x => D.lt
  have hn1 := F1.2.1
  obtain ⟨M, -, hl, hle, DD, J⟩ := C.nw F1
  have hm := hlt m (Or.inl rfl)
  have hm1 := hlt (m + 1) (Or.inr (Or.inl rfl))
  have hmle := hlt le (Or.inr (Or.inr (Or.inl rfl)))
  have nb : ∀ x, x < h1.2.1 → x ≠ m + 1 → x ≠ le → ¬ (h1.2.1 ≤ x ∨ x = m + 1 ∨ x = le) := fun x z1 z2 z3 z4 => by
    rcases z4 with z | z | z
    · omega
    · exact z2 z
    · exact z3 z
  have ix : ∀ (i : Nat) (β : rBS), (B ++ [(b, r, g, e, (w, hh), X, cl, (mi, sp), KS)])[i]? = some β → B[i]? = some β ∨ (i = B.length ∧ β = (b, r, g, e, (w, hh), X, cl, (mi, sp), KS)) := by
    intro i β hi
    rcases Nat.lt_or_ge i B.length with z | z
    · rw [List.getElem?_append_left z] at hi
      exact Or.inl hi
    · rw [List.getElem?_append_right z] at hi
      have : i - B.length = 0 := by
        rcases Nat.eq_zero_or_pos (i - B.length) with y | y
        · exact y
        · rw [List.getElem?_eq_none (by show 1 ≤ _; omega)] at hi; cases hi
      rw [this] at hi
      exact Or.inr ⟨by omega, (Option.some.inj hi).symm⟩
  have C2 : rC h2 E m le1 n0 n2 (B ++ [(b, r, g, e, (w, hh), X, cl, (mi, sp), KS)]) := by
    refine ⟨M.f1 F2 (nb _ (by omega) (by omega) (by rcases hle with z | z <;> omega)), by rw [List.map_append]; exact L, by rw [List.length_append]; show B.length + 1 ≤ 3; omega, ?_, fun i β hi => ?_, fun i j β γ hi hj q x hx hy => ?_⟩
    · rcases hle1 with rfl | ⟨z1, z2⟩
      · exact hle
      · exact Or.inr (by omega)
    · rcases ix i β hi with hi | ⟨-, rfl⟩
      · refine ⟨(DD i β hi).1.fr F2 (fun x z => ?_), fun x z => ?_⟩
        · have h1 := (DD i β hi).2 x z
          have h3 := hlt x (Or.inr (Or.inr (Or.inr ⟨i, β, hi, z⟩)))
          exact nb x (by omega) h1.2.1 h1.2.2
        · have h1 := (DD i β hi).2 x z
          have h3 := hlt x (Or.inr (Or.inr (Or.inr ⟨i, β, hi, z⟩)))
          refine ⟨h1.1, h1.2.1, ?_⟩
          rcases hle1 with rfl | ⟨z1, z2⟩
          · exact h1.2.2
          · omega
      · refine ⟨D.fr F2 (fun x z => ?_), fun x z => ?_⟩
        · have h3 := hs x z
          exact nb x (hDl x z) (by omega) (by omega)
        · have h3 := hs x z
          have h4 := hDl x z
          refine ⟨by omega, by omega, ?_⟩
          rcases hle1 with rfl | ⟨z1, z2⟩ <;> omega
    · rcases ix i β hi with hi | ⟨hi, rfl⟩
      · rcases ix j γ hj with hj | ⟨hj, rfl⟩
        · exact J i j β γ hi hj q x hx hy
        · have h3 := hlt x (Or.inr (Or.inr (Or.inr ⟨i, β, hi, hx⟩)))
          have h4 := hs x hy
          omega
      · rcases ix j γ hj with hj | ⟨hj, rfl⟩
        · have h3 := hlt x (Or.inr (Or.inr (Or.inr ⟨j, γ, hj, hy⟩)))
          have h4 := hs x hx
          omega
        · omega
  refine ⟨C2, (F1.mono (fun _ _ z => Or.inr z) (Nat.le_refl _) (Nat.le_refl _)).trans (F2.mono (fun x _ z => ?_) (Nat.le_refl _) (Nat.le_refl _)), ⟨n0, C2⟩, fun x z => ?_⟩
  · rcases z with z | z | z
    · exact Or.inr (by omega)
    · exact Or.inl (Or.inr (Or.inl z))
    · exact Or.inl (Or.inr (Or.inr (Or.inl z)))
  · rcases z with z | z | z | ⟨i, β, hi, z⟩
    · exact Or.inl (Or.inl z)
    · exact Or.inl (Or.inr (Or.inl z))
    · rcases hle1 with rfl | ⟨z1, z2⟩
      · exact Or.inl (Or.inr (Or.inr (Or.inl z)))
      · exact Or.inr (by omega)
    · rcases ix i β hi with hi | ⟨-, rfl⟩
      · exact Or.inl (Or.inr (Or.inr (Or.inr ⟨i, β, hi, z⟩)))
      · exact Or.inr (hs x z)
end ST2
