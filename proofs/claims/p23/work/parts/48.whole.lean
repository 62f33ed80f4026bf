/-! ===== the reference whole: lists, boards, the model ===== -/
def rRX (q : Nat) (X : rX4) : List zCel := rRows q X.1 X.2.1 X.2.2.1 X.2.2.2
def rLn (n : Nat) (X : rX4) : Prop := X.1.length = n ∧ X.2.1.length = n ∧ X.2.2.1.length = n ∧ X.2.2.2.length = n
/-- a list at g; its row e (g itself while it has the empty one) -/
def rL (h : zPH) (E : zEnv) (g e : Nat) (vs : List Value) : Prop := vs.length ≤ 10 ∧ ∃ q mc, yBk h g [(8, [.ref q, .int (zJ vs.length), .int mc])] ∧ ((vs = [] ∧ e = g ∧ E.1 3 = .ref q) ∨ (q = e ∧ e ≠ g ∧ yBk h e [(69, vs ++ List.replicate (10 - vs.length) .null)]))
/-- a board kept: its address (rows behind it), its rows, the cell, whether dark -/
abbrev rKS := Nat × rX4 × Nat × Bool
def rKp (h : zPH) (n : Nat) (κ : rKS) : Prop := yBk h κ.1 ((10, [.ref (κ.1 + 1), .int (zJ κ.2.2.1), .int (zB κ.2.2.2)]) :: rRX (κ.1 + 1) κ.2.1) ∧ κ.2.2.1 < n ∧ rLn n κ.2.1
/-- a board: its address, its rows' address, its list, that's row, its size, rows, clues, mi sp, what is kept -/
abbrev rBS := Nat × Nat × Nat × Nat × (Nat × Nat) × rX4 × List Int32 × (Int32 × Int32) × List rKS
def rOn (b r g e : Nat) (KS : List rKS) (x : Nat) : Prop := yIv b 3 x ∨ yIv r 5 x ∨ x = g ∨ x = e ∨ ∃ κ ∈ KS, yIv κ.1 6 x
def rD (h : zPH) (E : zEnv) (b r g e w hh : Nat) (X : rX4) (cl : List Int32) (mi sp : Int32) (KS : List rKS) : Prop :=
  rB h b r (b + 2) g w hh X.1 X.2.1 X.2.2.1 X.2.2.2 cl mi sp ∧ rL h E g e (KS.map fun κ => .ref κ.1) ∧ (∀ κ ∈ KS, rKp h (w * hh) κ) ∧ KS.length ≤ 6 ∧ b + 3 ≤ r ∧ (b < g ∧ g ≠ b + 2 ∧ (g + 1 ≤ r ∨ r + 5 ≤ g)) ∧ (e = g ∨ (b + 3 ≤ e ∧ (e + 1 ≤ r ∨ r + 5 ≤ e))) ∧
  (∀ κ ∈ KS, b + 3 ≤ κ.1 ∧ (κ.1 + 6 ≤ r ∨ r + 5 ≤ κ.1) ∧ (κ.1 + 6 ≤ e ∨ e + 1 ≤ κ.1) ∧ (κ.1 + 6 ≤ g ∨ g + 1 ≤ κ.1)) ∧ KS.Pairwise (fun κ κ' => κ.1 + 6 ≤ κ'.1)
def rBk (h : zPH) (E : zEnv) (β : rBS) : Prop := rD h E β.1 β.2.1 β.2.2.1 β.2.2.2.1 β.2.2.2.2.1.1 β.2.2.2.2.1.2 β.2.2.2.2.2.1 β.2.2.2.2.2.2.1 β.2.2.2.2.2.2.2.1.1 β.2.2.2.2.2.2.2.1.2 β.2.2.2.2.2.2.2.2
def rOw (β : rBS) (x : Nat) : Prop := rOn β.1 β.2.1 β.2.2.1 β.2.2.2.1 β.2.2.2.2.2.2.2.2 x
/-- the model -/
def rC (h : zPH) (E : zEnv) (m le : Nat) (n0 n2 : Int32) (B : List rBS) : Prop :=
  yBk h m [(7, [.int n0, .ref (m + 1), .int n2])] ∧ rL h E (m + 1) le (B.map fun β => .ref β.1) ∧ B.length ≤ 3 ∧ (le = m + 1 ∨ m + 2 ≤ le) ∧ (∀ (i : Nat) (β : rBS), B[i]? = some β → rBk h E β ∧ ∀ x, rOw β x → x ≠ m ∧ x ≠ m + 1 ∧ x ≠ le) ∧ (∀ (i j : Nat) (β γ : rBS), B[i]? = some β → B[j]? = some γ → i ≠ j → ∀ x, rOw β x → ¬ rOw γ x)
def rAl (m le : Nat) (B : List rBS) (x : Nat) : Prop := x = m ∨ x = m + 1 ∨ x = le ∨ ∃ (i : Nat) (β : rBS), B[i]? = some β ∧ rOw β x
section RW
variable {h h' h1 : zPH} {E : zEnv} {A : Nat → Prop} {mm s g e b r w hh m le : Nat} {vs : List Value} {X : rX4} {cl : List Int32} {mi sp n0 n2 : Int32} {KS : List rKS} {B : List rBS}
theorem yBk.f1 {c : zCel} (G : yBk h b [c]) (F : yFr A h h' mm s) (hb : ¬ A b) : yBk h' b [c] := F.bk G (fun a z1 z2 => by
  have z2 : a < b + 1 := z2
  obtain rfl : a = b := by omega
  exact hb)
theorem rL.fr (H : rL h E g e vs) (F : yFr A h h' mm s) (hg : ¬ A g) (he : ¬ A e) : rL h' E g e vs := by
  obtain ⟨hl, q, mc, G, Y⟩ := H
  refine ⟨hl, q, mc, G.f1 F hg, ?_⟩
  rcases Y with Y | ⟨x1, x2, Y⟩
  · exact Or.inl Y
  · exact Or.inr ⟨x1, x2, Y.f1 F he⟩
theorem rL.lt (H : rL h E g e vs) : g < h.2.1 ∧ e < h.2.1 := by
  obtain ⟨hl, q, mc, G, Y⟩ := H
  refine ⟨G.1, ?_⟩
  rcases Y with ⟨x1, x2, Y⟩ | ⟨x1, x2, Y⟩
  · rw [x2]; exact G.1
  · exact Y.1
theorem rRX_len (q : Nat) (X : rX4) : (rRX q X).length = 5 := rfl
theorem rKp.fr {n : Nat} {κ : rKS} (H : rKp h n κ) (F : yFr A h h' mm s) (hd : ∀ x, yIv κ.1 6 x → ¬ A x) : rKp h' n κ := ⟨F.bk H.1 (fun x z1 z2 => hd x ⟨z1, z2⟩), H.2⟩
theorem rD.lt (H : rD h E b r g e w hh X cl mi sp KS) {x : Nat} (hx : rOn b r g e KS x) : x < h.2.1 := by
  obtain ⟨P, L, K, -, -, -, -, -, -⟩ := H
  rcases hx with z | z | z | z | ⟨κ, hκ, z⟩
  · have h2 : b + 2 < h.2.1 := P.2.2.1.1
    have := z.2
    omega
  · have := P.lt.2.1
    have := z.2
    omega
  · rw [z]; exact L.lt.1
  · rw [z]; exact L.lt.2
  · have h6 : κ.1 + 6 ≤ h.2.1 := (K κ hκ).1.1
    have := z.2
    omega
theorem rD.core {w' hh' : Nat} {X' : rX4} {cl' : List Int32} {mi' sp' : Int32} (H : rD h E b r g e w hh X cl mi sp KS) (F : yFr A h h' mm s) (hd : ∀ x, (x = g ∨ x = e ∨ ∃ κ ∈ KS, yIv κ.1 6 x) → ¬ A x) (P : rB h' b r (b + 2) g w' hh' X'.1 X'.2.1 X'.2.2.1 X'.2.2.2 cl' mi' sp') (ew : w' * hh' = w * hh) : rD h' E b r g e w' hh' X' cl' mi' sp' KS := by
  obtain ⟨-, L, K, R⟩ := H
  exact ⟨P, L.fr F (hd _ (Or.inl rfl)) (hd _ (Or.inr (Or.inl rfl))), fun κ hκ => by rw [ew]; exact (K κ hκ).fr F (fun x z => hd x (Or.inr (Or.inr ⟨κ, hκ, z⟩))), R⟩
theorem rD.fr (H : rD h E b r g e w hh X cl mi sp KS) (F : yFr A h h' mm s) (hd : ∀ x, rOn b r g e KS x → ¬ A x) : rD h' E b r g e w hh X cl mi sp KS := by
  refine H.core F (fun x z => hd x ?_) (H.1.fr F (fun x z => hd x ?_)) rfl
  · exact Or.inr (Or.inr z)
  · rcases z with z | z | z
    · exact Or.inl ⟨z.1, by have := z.2; omega⟩
    · exact Or.inr (Or.inl z)
    · exact Or.inl ⟨by have := z.1; omega, by have := z.2; omega⟩
theorem rC.lt (C : rC h E m le n0 n2 B) {x : Nat} (hx : rAl m le B x) : x < h.2.1 := by
  obtain ⟨M, L, -, -, D, -⟩ := C
  rcases hx with rfl | rfl | rfl | ⟨i, β, hi, z⟩
  · exact M.1
  · exact L.lt.1
  · exact L.lt.2
  · exact (D i β hi).1.lt z
theorem rmap_set {k : Nat} {β β' : rBS} (hk : B[k]? = some β) (hb : β'.1 = β.1) : (B.set k β').map (fun β => Value.ref β.1) = B.map fun β => .ref β.1 := by
  apply List.ext_getElem?
  intro i
  rw [List.getElem?_map, List.getElem?_map, List.getElem?_set]
  split
  · rename_i q
    subst q
    rw [hk]
    have hl : k < B.length := by
      rcases Nat.lt_or_ge k B.length with q | q
      · exact q
      · rw [List.getElem?_eq_none q] at hk; cases hk
    rw [if_pos hl]
    show some (Value.ref β'.1) = some (Value.ref β.1)
    rw [hb]
  · rfl
/-- one board's step is the whole's -/
theorem rC.step {k : Nat} {β β' : rBS} (C : rC h E m le n0 n2 B) (hk : B[k]? = some β) (F : yFr (fun x => rOw β x ∨ h.2.1 ≤ x) h h1 mm s) (D' : rBk h1 E β') (hs : ∀ x, rOw β' x → rOw β x ∨ h.2.1 ≤ x) (hb : β'.1 = β.1) : rC h1 E m le n0 n2 (B.set k β') := by
  have hlt : ∀ x, rAl m le B x → x < h.2.1 := fun x => C.lt
  obtain ⟨M, L, hl, hle, D, J⟩ := C
  have av : ∀ x, (x = m ∨ x = m + 1 ∨ x = le) → ¬ (rOw β x ∨ h.2.1 ≤ x) := by
    intro x hx z
    rcases z with z | z
    · have := (D k β hk).2 x z
      rcases hx with q | q | q <;> simp [q] at this
    · have h1 := hlt x (by rcases hx with q | q | q; exact Or.inl q; exact Or.inr (Or.inl q); exact Or.inr (Or.inr (Or.inl q)))
      omega
  refine ⟨M.f1 F (av _ (Or.inl rfl)), ?_, by rw [List.length_set]; exact hl, hle, ?_, ?_⟩
  · rw [rmap_set hk hb]
    exact L.fr F (av _ (Or.inr (Or.inl rfl))) (av _ (Or.inr (Or.inr rfl)))
  · intro i γ hi
    rw [List.getElem?_set] at hi
    split at hi
    · split at hi
      · obtain rfl := Option.some.inj hi
        refine ⟨D', fun x hx => ?_⟩
        refine ⟨?_, ?_, ?_⟩
        · rintro rfl; exact av _ (Or.inl rfl) (hs _ hx)
        · rintro rfl; exact av _ (Or.inr (Or.inl rfl)) (hs _ hx)
        · rintro rfl; exact av _ (Or.inr (Or.inr rfl)) (hs _ hx)
      · cases hi
    · rename_i q
      refine ⟨(D i γ hi).1.fr F (fun x hx z => ?_), (D i γ hi).2⟩
      rcases z with z | z
      · exact J i k γ β hi hk (fun e => q e.symm) x hx z
      · have := hlt x (Or.inr (Or.inr (Or.inr ⟨i, γ, hi, hx⟩)))
        omega
  · have key : ∀ j γ, B[j]? = some γ → k ≠ j → ∀ x, rOw β' x → ¬ rOw γ x := by
      intro j γ hj q x hx hy
      rcases hs x hx with z | z
      · exact J k j β γ hk hj q x z hy
      · have := hlt x (Or.inr (Or.inr (Or.inr ⟨j, γ, hj, hy⟩)))
        omega
    intro i j β1 γ1 hi hj q x hx hy
    rw [List.getElem?_set] at hi hj
    split at hi
    · rename_i q1
      split at hi
      · obtain rfl := Option.some.inj hi
        split at hj
        · rename_i q2; exact q (q1.symm.trans q2)
        · rename_i q2; exact key j γ1 hj q2 x hx hy
      · cases hi
    · rename_i q1
      split at hj
      · split at hj
        · obtain rfl := Option.some.inj hj
          exact key i β1 hi q1 x hy hx
        · cases hj
      · exact J i j β1 γ1 hi hj q x hx hy
/-- from one state of the model to another -/
def rNx (h h1 : zPH) (E : zEnv) (m : Nat) (n2 n2' : Int32) (le : Nat) (B : List rBS) (le1 : Nat) (B1 : List rBS) (mm s : Nat) : Prop := yFr (fun x => rAl m le B x ∨ h.2.1 ≤ x) h h1 mm s ∧ (∃ n0, rC h1 E m le1 n0 n2' B1) ∧ ∀ x, rAl m le1 B1 x → rAl m le B x ∨ h.2.1 ≤ x
theorem rNx.refl (C : rC h E m le n0 n2 B) : rNx h h E m n2 n2 le B le B 0 0 := ⟨yFr.refl _ _, ⟨n0, C⟩, fun _ z => Or.inl z⟩
theorem rNx.trans {h2 : zPH} {le1 le2 mm' s' : Nat} {B1 B2 : List rBS} {n2' n2'' : Int32} (N : rNx h h1 E m n2 n2' le B le1 B1 mm s) (N' : rNx h1 h2 E m n2' n2'' le1 B1 le2 B2 mm' s') : rNx h h2 E m n2 n2'' le B le2 B2 (mm + mm') (s + s') := by
  obtain ⟨F, -, S⟩ := N
  obtain ⟨F', C', S'⟩ := N'
  have key : ∀ x, rAl m le1 B1 x ∨ h1.2.1 ≤ x → rAl m le B x ∨ h.2.1 ≤ x := by
    rintro x (z | z)
    · exact S x z
    · exact Or.inr (Nat.le_trans F.2.1 z)
  exact ⟨F.trans (F'.mono (fun x _ z => key x z) (Nat.le_refl _) (Nat.le_refl _)), C', fun x z => key x (S' x z)⟩
theorem rNx.fit {le1 mm' s' : Nat} {B1 : List rBS} {n2' : Int32} (N : rNx h h1 E m n2 n2' le B le1 B1 mm s) (hm : mm ≤ mm') (hs : s ≤ s') : rNx h h1 E m n2 n2' le B le1 B1 mm' s' := ⟨N.1.fit hm hs, N.2⟩
/-- what is new alone -/
theorem rNx.new (C : rC h E m le n0 n2 B) (F : yFr (fun x => h.2.1 ≤ x) h h1 mm s) : rNx h h1 E m n2 n2 le B le B mm s := by
  have hlt : ∀ x, rAl m le B x → x < h.2.1 := fun x => C.lt
  obtain ⟨M, L, hl, hle, D, J⟩ := C
  have av : ∀ x, rAl m le B x → ¬ h.2.1 ≤ x := fun x z => Nat.not_le.mpr (hlt x z)
  exact ⟨F.mono (fun _ _ z => Or.inr z) (Nat.le_refl _) (Nat.le_refl _), ⟨n0, M.f1 F (av _ (Or.inl rfl)), L.fr F (av _ (Or.inr (Or.inl rfl))) (av _ (Or.inr (Or.inr (Or.inl rfl)))), hl, hle, fun i β hi => ⟨(D i β hi).1.fr F (fun x z => av x (Or.inr (Or.inr (Or.inr ⟨i, β, hi, z⟩)))), (D i β hi).2⟩, J⟩, fun _ z => Or.inl z⟩
theorem rNx.step {k : Nat} {β β' : rBS} (C : rC h E m le n0 n2 B) (hk : B[k]? = some β) (F : yFr (fun x => rOw β x ∨ h.2.1 ≤ x) h h1 mm s) (D' : rBk h1 E β') (hs : ∀ x, rOw β' x → rOw β x ∨ h.2.1 ≤ x) (hb : β'.1 = β.1) : rNx h h1 E m n2 n2 le B le (B.set k β') mm s := by
  refine ⟨F.mono (fun x _ z => ?_) (Nat.le_refl _) (Nat.le_refl _), ⟨n0, C.step hk F D' hs hb⟩, fun x z => ?_⟩
  · rcases z with z | z
    · exact Or.inl (Or.inr (Or.inr (Or.inr ⟨k, β, hk, z⟩)))
    · exact Or.inr z
  · rcases z with z | z | z | ⟨i, γ, hi, z⟩
    · exact Or.inl (Or.inl z)
    · exact Or.inl (Or.inr (Or.inl z))
    · exact Or.inl (Or.inr (Or.inr (Or.inl z)))
    · rw [List.getElem?_set] at hi
      split at hi
      · split at hi
        · obtain rfl := Option.some.inj hi
          rcases hs x z with y | y
          · exact Or.inl (Or.inr (Or.inr (Or.inr ⟨k, β, hk, y⟩)))
          · exact Or.inr y
        · cases hi
      · exact Or.inl (Or.inr (Or.inr (Or.inr ⟨i, γ, hi, z⟩)))
/-- the model's own cell written -/
theorem rC.wm {E' : zEnv} {d j pc : Nat} {L : zLc} {st : List Value} {Q : zOut → zPH → Prop} {a0 a2 : Int32} (C : rC h E m le n0 n2 B) (K : ∀ h1, rNx h h1 E m n2 a2 le B le B 0 0 → rC h1 E m le a0 a2 B → h1.2.1 = h.2.1 → zwp E' d j (pc, L, st, h1) Q) : zwp E' d j (pc, L, st, zset h m (7, [.int a0, .ref (m + 1), .int a2])) Q := by
  have C0 := C
  obtain ⟨M, L, hl, hle, D, J⟩ := C
  refine zw_bkX0 (N := 1) M rfl (by decide) (Nat.le_refl _) (fun h1 F M1 e1 => ?_)
  have hne : ∀ x, x ≠ m → ¬ yIv m 1 x := fun x hx z => hx (by have := z.1; have := z.2; omega)
  have C1 : rC h1 E m le a0 a2 B := ⟨M1, L.fr F (hne _ (by omega)) (hne _ (by omega)), hl, hle, fun i β hi => ⟨(D i β hi).1.fr F (fun x z => hne x ((D i β hi).2 x z).1), (D i β hi).2⟩, J⟩
  refine K h1 ⟨F.mono (fun x _ z => Or.inl (Or.inl (by have := z.1; have := z.2; omega))) (Nat.le_refl _) (Nat.le_refl _), ⟨a0, C1⟩, fun _ z => Or.inl z⟩ C1 e1
end RW
