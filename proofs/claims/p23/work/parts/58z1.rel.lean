/-! ===== both sides' boards ===== -/
/-- of an unknown cell no more is noted -/
def zxU0 (n : Nat) (X : rX4) : Prop := ∀ c, c < n → X.1.getD c 0 = 0 → X.2.1.getD c 0 = -1 ∧ X.2.2.1.getD c 0 = zJ 0 ∧ X.2.2.2.getD c 0 = zJ 0
theorem zxU0.put {n k : Nat} {X : rX4} {s r o e : Int32} (U : zxU0 n X) (hX : rLn n X) (h : s = 0 → r = -1 ∧ o = zJ 0 ∧ e = zJ 0) : zxU0 n (X.1.set k s, X.2.1.set k r, X.2.2.1.set k o, X.2.2.2.set k e) := by
  obtain ⟨l0, l1, l2, l3⟩ := hX
  intro c hc
  show (X.1.set k s).getD c 0 = 0 → (X.2.1.set k r).getD c 0 = -1 ∧ (X.2.2.1.set k o).getD c 0 = zJ 0 ∧ (X.2.2.2.set k e).getD c 0 = zJ 0
  by_cases q : k = c
  · subst q
    rw [zgetD_eq (by omega), zgetD_eq (by omega), zgetD_eq (by omega), zgetD_eq (by omega)]
    exact h
  · rw [zgetD_ne q, zgetD_ne q, zgetD_ne q, zgetD_ne q]
    exact U c hc
theorem zxU0.be {n k : Nat} {X : rX4} {x y z : Int32} {ng : Nat} (U : zxU0 n X) (hX : rLn n X) (h : x = 0 → y = -1 ∧ z = zJ 0) : zxU0 n (rbe X k x y z ng) :=
  U.put hX fun q => ⟨(h q).1, (h q).2, by rw [if_pos q]⟩
section U0
variable {w hh : Nat} {cl : List Int32} {ng : Nat}
theorem rpl_ln {X : rX4} (hX : rLn (w * hh) X) (i : Nat) (dk li o : Int32) (k : Nat) : rLn (w * hh) (rpl w hh i dk li o ng X k) := by
  induction k with
  | zero => exact hX
  | succ k ih =>
    rw [rpl]
    split
    · exact ih.be
    · exact ih
theorem rpl_u0 {X : rX4} (U : zxU0 (w * hh) X) (hX : rLn (w * hh) X) (i : Nat) (dk li o : Int32) (k : Nat) : zxU0 (w * hh) (rpl w hh i dk li o ng X k) := by
  induction k with
  | zero => exact U
  | succ k ih =>
    rw [rpl]
    split
    · exact ih.be (rpl_ln hX i dk li o k) (fun z => absurd z (rne12 _))
    · exact ih
theorem rsL_u0 (o : Int32) (n : Nat) : ∀ (i : Nat) (X : rX4) (m : Int32), zxU0 (w * hh) X → rLn (w * hh) X → zxU0 (w * hh) (rsL w hh cl o ng n i X m).1 ∧ rLn (w * hh) (rsL w hh cl o ng n i X m).1 := by
  induction n with
  | zero => intro i X m U hX; exact ⟨U, hX⟩
  | succ n ih =>
    intro i X m U hX
    rw [rsL]
    split
    · exact ⟨U, hX⟩
    · exact ih (i + 1) _ _ (rpl_u0 U hX _ _ _ _ _) (rpl_ln hX _ _ _ _ _)
theorem rsR_u0 (f : Nat) : ∀ (o : Nat) (X : rX4) (a : Int32), zxU0 (w * hh) X → rLn (w * hh) X → zxU0 (w * hh) (rsR w hh cl ng f o X a).1 := by
  induction f with
  | zero => intro o X a U _; exact U
  | succ f ih =>
    intro o X a U hX
    have h1 := rsL_u0 (cl := cl) (ng := ng) (zJ o) (w + hh) 0 X (zJ 0) U hX
    rw [rsR]
    split
    · exact h1.1
    · split
      · exact h1.1
      · exact ih (o + 1) _ _ h1.1 h1.2
theorem rsS_u0 {X : rX4} (U : zxU0 (w * hh) X) (hX : rLn (w * hh) X) : zxU0 (w * hh) (rsS w hh cl ng X).1 := rsR_u0 _ _ _ _ U hX
theorem rpt_u0 {X : rX4} (U : zxU0 (w * hh) X) (hX : rLn (w * hh) X) (ro : Nat) (z : Int32) (k : Nat) : zxU0 (w * hh) (rpt w hh ro z ng X k) ∧ rLn (w * hh) (rpt w hh ro z ng X k) := by
  induction k with
  | zero => exact ⟨U, hX⟩
  | succ k ih =>
    rw [rpt]
    exact ⟨ih.1.be ih.2 (fun z => absurd z (mdk_0 _)), ih.2.be⟩
theorem mClr_u0 : zxU0 (w * hh) (mClr w hh) := fun c hc _ => ⟨rn1_at _ (Nat.le_refl _) c hc, rgetD_rep, rgetD_rep⟩
theorem rTk_u0 {X : rX4} (hd : 2 ≤ w ∧ w ≤ 5 ∧ 2 ≤ hh ∧ hh ≤ 5) (U : zxU0 (w * hh) X) (hX : rLn (w * hh) X) (t : Nat) (k : Nat) (hk : k ≤ w * hh) : zxU0 (w * hh) (rTk t w hh X X k) ∧ rLn (w * hh) (rTk t w hh X X k) := by
  induction k with
  | zero => exact ⟨U, hX⟩
  | succ k ih =>
    obtain ⟨i1, i2⟩ := ih (by omega)
    rw [rTk, rTs, List.set_set]
    refine ⟨i1.put i2 (fun z => ?_), i2.set⟩
    obtain ⟨h1, h2, h3⟩ := U k (by omega) z
    rw [h1, h2, h3]
    exact ⟨rfl, rfl, rfl⟩
end U0
/-! ### guesses that stand -/
def zsg (kp : List Int32) (j : Nat) : List Int32 := (kp.drop (j * 100)).take 100
theorem zsg_new {cs kp : List Int32} {g : Nat} (h1 : cs.length = 100) (h2 : kp.length = 600) (hg : g < 6) : zsg (zcpi cs kp 0 (g * 100) 100) g = cs := by
  unfold zsg zcpi
  rw [List.drop_left' (by rw [List.length_take]; omega), List.drop_zero, List.take_of_length_le (l := cs) (by omega), List.take_left' h1]
theorem zsg_old {cs kp : List Int32} {g j : Nat} (h2 : kp.length = 600) (hg : g < 6) (hj : j < g) : zsg (zcpi cs kp 0 (g * 100) 100) j = zsg kp j := by
  unfold zsg zcpi
  rw [List.drop_append_of_le_length (by rw [List.length_take]; omega), List.take_append_of_le_length (by rw [List.length_drop, List.length_take]; omega), List.drop_take, List.take_take, Nat.min_eq_left (by omega)]
theorem zsg_back {cs kp : List Int32} {g : Nat} (h1 : cs.length = 100) : zcpi kp cs (g * 100) 0 100 = zsg kp g := by
  unfold zsg zcpi
  rw [List.take_zero, List.nil_append, Nat.zero_add, List.drop_eq_nil_of_le (show cs.length ≤ 100 by omega), List.append_nil]
theorem zxcl {cs kp : List Int32} {g : Nat} (h1 : cs.length = 100) (h2 : kp.length = 600) (hg : g < 6) : (zcpi cs kp 0 (g * 100) 100).length = 600 := by
  unfold zcpi
  rw [List.length_append, List.length_append, List.length_take, List.length_take, List.length_drop, List.length_drop]
  omega
def zxS (n : Nat) (kp gd : List Int32) (gu : Nat) (KS : List rKS) (x0 : List Int32) : Prop := gu = KS.length ∧ (kp.length = 600 ∧ gd.length = 6 ∧ KS.length ≤ 6) ∧
  (∀ j κ, KS[j]? = some κ → gd.getD j 0 = zJ κ.2.2.1 ∧ κ.2.2.1 < n ∧ zxD n (zsg kp j) κ.2.1 ∧ zxU0 n κ.2.1 ∧ κ.2.1.1.getD κ.2.2.1 0 = 0) ∧
  (∀ j κ κ', KS[j]? = some κ → KS[j + 1]? = some κ' → κ'.2.1.1.getD κ.2.2.1 0 = mdk κ.2.2.2) ∧ (∀ κ, KS[KS.length - 1]? = some κ → x0.getD κ.2.2.1 0 = mdk κ.2.2.2)
section SX
variable {n gu : Nat} {kp gd x0 : List Int32} {KS : List rKS}
theorem zxS.keep {y0 : List Int32} (S : zxS n kp gd gu KS x0) (h : zKp n x0 y0) : zxS n kp gd gu KS y0 := by
  obtain ⟨s1, s2, s3, s4, s5⟩ := S
  refine ⟨s1, s2, s3, s4, fun κ hκ => ?_⟩
  rw [h _ (s3 _ κ hκ).2.1 (by rw [s5 κ hκ]; exact mdk_0 _)]
  exact s5 κ hκ
theorem zxS.none (h1 : kp.length = 600) (h2 : gd.length = 6) : zxS n kp gd 0 [] x0 :=
  ⟨rfl, ⟨h1, h2, Nat.zero_le _⟩, fun j κ h => (by cases h), fun j κ κ' h => (by cases h), fun κ h => (by cases h)⟩
theorem zxS.push (S : zxS n kp gd gu KS x0) {cs : List Int32} {X : rX4} {c : Nat} (ex : X.1 = x0) (hg : gu < 6) (D : zxD n cs X) (U : zxU0 n X) (hc : c < n) (h0 : x0.getD c 0 = 0) (a : Nat) (q : Bool) : zxS n (zcpi cs kp 0 (gu * 100) 100) (gd.set gu (zJ c)) (gu + 1) (KS ++ [(a, X, c, q)]) (x0.set c (mdk q)) := by
  obtain ⟨s1, ⟨l1, l2, l3⟩, s3, s4, s5⟩ := S
  subst s1
  have hlen : (KS ++ [((a, X, c, q) : rKS)]).length = KS.length + 1 := List.length_append
  have hlt : ∀ {j : Nat} {κ : rKS}, KS[j]? = some κ → j < KS.length := fun {j κ} h => by
    rcases Nat.lt_or_ge j KS.length with z | z
    · exact z
    · rw [List.getElem?_eq_none z] at h; cases h
  have hat : ∀ {j : Nat} {κ : rKS}, (KS ++ [((a, X, c, q) : rKS)])[j]? = some κ → KS[j]? = some κ ∨ (j = KS.length ∧ κ = (a, X, c, q)) := fun {j κ} h => by
    rcases Nat.lt_or_ge j KS.length with z | z
    · rw [List.getElem?_append_left z] at h
      exact Or.inl h
    · rw [List.getElem?_append_right z] at h
      cases hz : j - KS.length with
      | zero =>
        rw [hz] at h
        cases h
        exact Or.inr ⟨by omega, rfl⟩
      | succ m => rw [hz] at h; cases h
  refine ⟨hlen.symm, ⟨zxcl D.2.1 l1 hg, by rw [List.length_set]; exact l2, by rw [hlen]; omega⟩, fun j κ h => ?_, fun j κ κ' h h' => ?_, fun κ h => ?_⟩
  · rcases hat h with h | ⟨rfl, rfl⟩
    · have hj := hlt h
      obtain ⟨t1, t2⟩ := s3 j κ h
      rw [zgetD_ne (by omega), zsg_old l1 hg hj]
      exact ⟨t1, t2⟩
    · rw [zgetD_eq (by omega), zsg_new D.2.1 l1 hg]
      exact ⟨rfl, hc, D, U, by show X.1.getD c 0 = 0; rw [ex]; exact h0⟩
  · rcases hat h with h | ⟨rfl, rfl⟩
    · have hj := hlt h
      rcases hat h' with h' | ⟨e, rfl⟩
      · exact s4 j κ κ' h h'
      · show X.1.getD _ 0 = _
        rw [ex]
        exact s5 κ (by rw [show KS.length - 1 = j by omega]; exact h)
    · rcases hat h' with h' | ⟨e, rfl⟩
      · have := hlt h'
        omega
      · omega
  · rw [hlen, Nat.add_sub_cancel] at h
    rcases hat h with h | ⟨-, rfl⟩
    · have := hlt h
      omega
    · show (x0.set c (mdk q)).getD c 0 = mdk q
      exact zgetD_eq (by rw [← ex, D.2.2.1.1]; exact hc)
theorem zxS.pop {K0 : List rKS} {κ : rKS} (S : zxS n kp gd gu KS x0) (e : KS = K0 ++ [κ]) : gu = K0.length + 1 ∧ gd.getD (gu - 1) 0 = zJ κ.2.2.1 ∧ κ.2.2.1 < n ∧ zxD n (zsg kp (gu - 1)) κ.2.1 ∧ zxU0 n κ.2.1 ∧ κ.2.1.1.getD κ.2.2.1 0 = 0 ∧ x0.getD κ.2.2.1 0 = mdk κ.2.2.2 ∧ zxS n kp gd (gu - 1) K0 κ.2.1.1 := by
  obtain ⟨s1, ⟨l1, l2, l3⟩, s3, s4, s5⟩ := S
  subst e
  have hlen : (K0 ++ [κ]).length = K0.length + 1 := List.length_append
  rw [hlen] at s1 l3
  have hl : (K0 ++ [κ])[K0.length]? = some κ := by
    rw [List.getElem?_append_right (Nat.le_refl _), Nat.sub_self]
    rfl
  have hg : gu - 1 = K0.length := by omega
  obtain ⟨t1, t2, t3, t4, t5⟩ := s3 _ κ hl
  have hlt : ∀ {j : Nat} {μ : rKS}, K0[j]? = some μ → j < K0.length ∧ (K0 ++ [κ])[j]? = some μ := fun {j μ} h => by
    have hj : j < K0.length := by
      rcases Nat.lt_or_ge j K0.length with z | z
      · exact z
      · rw [List.getElem?_eq_none z] at h; cases h
    exact ⟨hj, by rw [List.getElem?_append_left hj]; exact h⟩
  rw [hg]
  refine ⟨s1, t1, t2, t3, t4, t5, s5 κ (by rw [hlen]; exact hl), rfl, ⟨l1, l2, by omega⟩, fun j μ h => s3 j μ (hlt h).2, fun j μ μ' h h' => s4 j μ μ' (hlt h).2 (hlt h').2, fun μ h => ?_⟩
  obtain ⟨h1, h2⟩ := hlt h
  exact s4 _ μ κ h2 (by rw [show K0.length - 1 + 1 = K0.length by omega]; exact hl)
end SX
theorem zKp.set {n c : Nat} {x0 : List Int32} {v : Int32} (h : x0.getD c 0 = 0) : zKp n x0 (x0.set c v) := fun c' _ h' => zgetD_ne (fun e => h' (by rw [← e]; exact h))
/-! ### a board of both sides -/
def zRx (w hh : Nat) (cs cl fs kp gd : List Int32) (gu : Nat) (mi sp : Int32) (w' hh' : Nat) (X : rX4) (clr : List Int32) (mi' sp' : Int32) (KS : List rKS) : Prop := w' = w ∧ hh' = hh ∧ (2 ≤ w ∧ w ≤ 5 ∧ 2 ≤ hh ∧ hh ≤ 5) ∧ zCX w hh cs X ∧ zxU0 (w * hh) X ∧ zxK w hh cl fs clr ∧ zxS (w * hh) kp gd gu KS X.1 ∧ mi' = mi ∧ sp' = sp
def zRb (β : yBS) (γ : rBS) : Prop := zRx β.2.1.1 β.2.1.2.1 β.2.1.2.2.1 β.2.1.2.2.2.1 β.2.1.2.2.2.2 β.2.2.2.1 β.2.2.2.2.1 β.2.2.2.2.2.1 β.2.2.2.2.2.2.1 β.2.2.2.2.2.2.2 γ.2.2.2.2.1.1 γ.2.2.2.2.1.2 γ.2.2.2.2.2.1 γ.2.2.2.2.2.2.1 γ.2.2.2.2.2.2.2.1.1 γ.2.2.2.2.2.2.2.1.2 γ.2.2.2.2.2.2.2.2
theorem zRb.no {β β1 : yBS} {γ : rBS} (R : zRb β γ) (e : yNoA β1 = yNoA β) : zRb β1 γ := by
  obtain ⟨b, G, α, rest⟩ := β
  obtain ⟨b1, G1, α1, rest1⟩ := β1
  unfold yNoA at e
  simp only [Prod.mk.injEq] at e
  obtain ⟨rfl, rfl, rfl⟩ := e
  exact R
def zRel (L : List yBS) (B : List rBS) : Prop := L.length = B.length ∧ L.length ≤ 3 ∧ ∀ (k : Nat) (β : yBS) (γ : rBS), L[k]? = some β → B[k]? = some γ → zRb β γ
theorem zRel0 : zRel [] [] := ⟨rfl, by decide, fun k β γ h => by cases h⟩
section RE
variable {L L1 : List yBS} {B B1 : List rBS}
theorem zrel_eqA (R : zRel L B) (e : yEqA L L1) : zRel L1 B := by
  refine ⟨e.len.trans R.1, by rw [e.len]; exact R.2.1, fun k β1 γ h1 hγ => ?_⟩
  have h2 : (L1.map yNoA)[k]? = some (yNoA β1) := by rw [List.getElem?_map, h1]; rfl
  rw [show L1.map yNoA = L.map yNoA from e, List.getElem?_map] at h2
  cases h3 : L[k]? with
  | none => rw [h3] at h2; cases h2
  | some β =>
    rw [h3] at h2
    exact (R.2.2 k β γ h3 hγ).no (Option.some.inj h2).symm
theorem zRel.lt (_ : zRel L B) {k : Nat} {β : yBS} (h : L[k]? = some β) : k < L.length := by
  rcases Nat.lt_or_ge k L.length with z | z
  · exact z
  · rw [List.getElem?_eq_none z] at h; cases h
theorem zRel.set (R : zRel L B) {k : Nat} {β' : yBS} {γ' : rBS} (h : zRb β' γ') : zRel (L.set k β') (B.set k γ') := by
  refine ⟨by rw [List.length_set, List.length_set]; exact R.1, by rw [List.length_set]; exact R.2.1, fun j β γ h1 h2 => ?_⟩
  by_cases e : k = j
  · subst e
    have l1 := R.1
    have hk : k < L.length := by
      rcases Nat.lt_or_ge k L.length with z | z
      · exact z
      · rw [List.getElem?_eq_none (by rw [List.length_set]; exact z)] at h1; cases h1
    rw [List.getElem?_set_self hk] at h1
    rw [List.getElem?_set_self (by omega)] at h2
    cases h1
    cases h2
    exact h
  · rw [List.getElem?_set_ne e] at h1 h2
    exact R.2.2 j β γ h1 h2
theorem zRel.push (R : zRel L B) {β' : yBS} {γ' : rBS} (hl : L.length < 3) (h : zRb β' γ') : zRel (L ++ [β']) (B ++ [γ']) := by
  have l1 := R.1
  refine ⟨by rw [List.length_append, List.length_append, l1]; rfl, by rw [List.length_append]; exact hl, fun j β γ h1 h2 => ?_⟩
  rcases Nat.lt_or_ge j L.length with z | z
  · rw [List.getElem?_append_left z] at h1
    rw [List.getElem?_append_left (by omega)] at h2
    exact R.2.2 j β γ h1 h2
  · rw [List.getElem?_append_right z] at h1
    rw [List.getElem?_append_right (by omega), ← l1] at h2
    cases hz : j - L.length with
    | zero =>
      rw [hz] at h1 h2
      cases h1
      cases h2
      exact h
    | succ m => rw [hz] at h1; cases h1
/-- the same board on both sides -/
theorem zRel.at (R : zRel L B) {x : Int32} {k k' b w hh gu w' hh' : Nat} {cs cl fs kp gd clr : List Int32} {α : yAS} {mi sp mi' sp' : Int32} {X : rX4} {KS : List rKS} (h1 : L[k]? = some (b, (w, hh, cs, cl, fs), α, kp, gd, gu, mi, sp)) (e1 : x = zJ k) (h2 : mAt B k' w' hh' X clr mi' sp' KS) (e2 : x = zJ k') : k' = k ∧ zRx w hh cs cl fs kp gd gu mi sp w' hh' X clr mi' sp' KS := by
  obtain ⟨b', r, g, e, h2⟩ := h2
  have l1 := R.lt h1
  have l2 := rlt_of h2
  have l3 := R.1
  have l4 := R.2.1
  have : k = k' := (zJ_eq (by omega) (by omega)).mp (e1.symm.trans e2)
  subst this
  exact ⟨rfl, R.2.2 k _ _ h1 h2⟩
/-- what the class has, the reference has -/
theorem zRel.has (R : zRel L B) {k : Nat} {β : yBS} (h : L[k]? = some β) : ∃ w hh X clr mi sp KS, mAt B k w hh X clr mi sp KS ∧ zRx β.2.1.1 β.2.1.2.1 β.2.1.2.2.1 β.2.1.2.2.2.1 β.2.1.2.2.2.2 β.2.2.2.1 β.2.2.2.2.1 β.2.2.2.2.2.1 β.2.2.2.2.2.2.1 β.2.2.2.2.2.2.2 w hh X clr mi sp KS := by
  have l1 := R.lt h
  have l2 : k < B.length := by rw [← R.1]; exact l1
  obtain ⟨⟨b, r, g, e, ⟨w, hh⟩, X, clr, ⟨mi, sp⟩, KS⟩, hγ⟩ : ∃ γ, B[k]? = some γ := ⟨_, List.getElem?_eq_getElem l2⟩
  exact ⟨w, hh, X, clr, mi, sp, KS, ⟨b, r, g, e, hγ⟩, R.2.2 k _ _ h hγ⟩
theorem zRel.isz (R : zRel L B) {x : Int32} {k w hh : Nat} {X : rX4} {clr : List Int32} {mi sp : Int32} {KS : List rKS} (h : mAt B k w hh X clr mi sp KS) (e : x = zJ k) : zin x L.length := by
  obtain ⟨b', r, g, e', h⟩ := h
  exact ⟨k, by rw [R.1]; exact rlt_of h, e⟩
end RE
