/-! ===== the reference's sweep: its rounds end ===== -/
theorem zbit_and (a b : Int32) (k : Nat) : zbit (a &&& b) k = (zbit a k && zbit b k) := by
  unfold zbit
  show (a.toBitVec &&& b.toBitVec).getLsbD k = _
  rw [BitVec.getLsbD_and]
theorem zbit_or (a b : Int32) (k : Nat) : zbit (a ||| b) k = (zbit a k || zbit b k) := by
  unfold zbit
  show (a.toBitVec ||| b.toBitVec).getLsbD k = _
  rw [BitVec.getLsbD_or]
theorem zbit_J (n k : Nat) (hk : k < 32) : zbit (zJ n) k = n.testBit k := by
  unfold zbit
  show (BitVec.ofNat 32 n).getLsbD k = _
  rw [BitVec.getLsbD_ofNat]
  simp [hk]
theorem zbit_not (a : Int32) (k : Nat) (hk : k < 32) : zbit (a ^^^ (-1)) k = !zbit a k := by
  unfold zbit
  show (a.toBitVec ^^^ (-1 : Int32).toBitVec).getLsbD k = _
  rw [BitVec.getLsbD_xor, show (-1 : Int32).toBitVec = BitVec.allOnes 32 by decide, BitVec.getLsbD_allOnes]
  simp [hk]
theorem zbit_sh1 {k j : Nat} (hk : k < 32) (hj : j < 32) : zbit (ysh1 k) j = decide (k = j) := by
  rw [ysh1_J hk, zbit_J _ _ hj, Nat.testBit_two_pow]
theorem zbit_ge (a : Int32) {k : Nat} (hk : 32 ≤ k) : zbit a k = false := by
  unfold zbit
  exact BitVec.getLsbD_of_ge _ _ hk
theorem zbit_ext {a b : Int32} (h : ∀ k, k < 32 → zbit a k = zbit b k) : a = b := by
  apply Int32.toBitVec.inj
  exact BitVec.eq_of_getLsbD_eq h
theorem zbit_0 (k : Nat) : zbit (zJ 0) k = false := by
  by_cases hk : k < 32
  · rw [zbit_J _ _ hk, Nat.zero_testBit]
  · exact zbit_ge _ (by omega)
theorem zbit_ne {a : Int32} (h : a ≠ 0) : ∃ k, k < 32 ∧ zbit a k = true := by
  refine Classical.byContradiction fun q => h ?_
  refine zbit_ext (b := 0) fun k hk => ?_
  have h1 : zbit a k = false := by
    cases hz : zbit a k with
    | true => exact absurd ⟨k, hk, hz⟩ q
    | false => rfl
  rw [h1]
  exact (zbit_0 k).symm
/-- what follows is among the line's unknown cells -/
theorem rfa_bit {w hh : Nat} {x0 cl : List Int32} {i : Nat} {d : Bool} (k j : Nat) (hj : yln w hh i ≤ j) (hj2 : j < 32) : zbit (rfa w hh x0 cl i d k).1 j = false := by
  induction k with
  | zero =>
    rw [rfa, zbit_J _ _ hj2, Nat.one_mul]
    exact Nat.testBit_lt_two_pow (Nat.lt_of_lt_of_le (by have := Nat.two_pow_pos (yln w hh i); omega) (Nat.pow_le_pow_right (by omega) hj))
  | succ k ih =>
    rw [rfa]
    split
    · show zbit (_ &&& _) j = false
      rw [zbit_and, ih, Bool.false_and]
    · exact ih
theorem rfb_bit {w hh : Nat} {x0 : List Int32} {i : Nat} {v : Int32} {n j : Nat} (hn : n ≤ 32) (hv : zbit (rfb w hh x0 i v n) j = true) : zbit v j = true ∧ (j < n → x0.getD (ycl w hh i j) 0 = 0) := by
  induction n with
  | zero => exact ⟨hv, fun q => by omega⟩
  | succ n ih =>
    rw [rfb] at hv
    split at hv
    · rename_i hq
      obtain ⟨h1, h2⟩ := ih (by omega) hv
      refine ⟨h1, fun hj => ?_⟩
      by_cases e : j = n
      · rw [e]; exact hq
      · exact h2 (by omega)
    · rw [zbit_and, Bool.and_eq_true] at hv
      obtain ⟨h1, h2⟩ := ih (by omega) hv.1
      refine ⟨h1, fun hj => ?_⟩
      by_cases e : j = n
      · have h3 := hv.2
        rw [zbit_not _ _ (by omega), zbit_sh1 (by omega) (by omega), decide_eq_true e.symm] at h3
        cases h3
      · exact h2 (by omega)
theorem rfo_bit {w hh : Nat} {x0 cl : List Int32} {i : Nat} {d : Bool} {j : Nat} (hl : yln w hh i ≤ 5) (hv : zbit (rfo w hh x0 cl i d) j = true) : j < yln w hh i ∧ x0.getD (ycl w hh i j) 0 = 0 := by
  have hj : j < 32 := Nat.lt_of_not_le fun q => by rw [zbit_ge _ q] at hv; cases hv
  rw [rfo] at hv
  split at hv
  · obtain ⟨h1, h2⟩ := rfb_bit (by omega) hv
    have h3 : j < yln w hh i := Nat.lt_of_not_le fun q => by rw [rfa_bit _ _ q hj] at h1; cases h1
    exact ⟨h3, h2 h3⟩
  · rw [zbit_0] at hv; cases hv
/-- what cells are, their reasons, rounds, depths -/
abbrev rX4 : Type := List Int32 × List Int32 × List Int32 × List Int32
def rbe (X : rX4) (k : Nat) (x y z : Int32) (ng : Nat) : rX4 := (X.1.set k x, X.2.1.set k y, X.2.2.1.set k z, X.2.2.2.set k (if x = 0 then zJ 0 else zJ ng))
/-- a line's cells become known -/
def rpl (w hh i : Nat) (dk li o : Int32) (ng : Nat) (X : rX4) : Nat → rX4
  | 0 => X
  | k + 1 => if zbit (dk ||| li) k = true then rbe (rpl w hh i dk li o ng X k) (ycl w hh i k) (if zbit dk k = true then zJ 1 else zJ 2) (zJ i) o ng else rpl w hh i dk li o ng X k
def rsL (w hh : Nat) (cl : List Int32) (o : Int32) (ng : Nat) : Nat → Nat → rX4 → Int32 → rX4 × Int32 × Bool
  | 0, _, X, m => (X, m, false)
  | n + 1, i, X, m => if rcw w hh X.1 cl i = 0 then (X, m, true) else rsL w hh cl o ng n (i + 1) (rpl w hh i (rfo w hh X.1 cl i true) (rfo w hh X.1 cl i false) o ng X (yln w hh i)) (m + rsz (rfo w hh X.1 cl i true ||| rfo w hh X.1 cl i false))
def rsR (w hh : Nat) (cl : List Int32) (ng : Nat) : Nat → Nat → rX4 → Int32 → rX4 × Int32
  | 0, _, X, a => (X, a)
  | f + 1, o, X, a => if (rsL w hh cl (zJ o) ng (w + hh) 0 X (zJ 0)).2.2 = true then ((rsL w hh cl (zJ o) ng (w + hh) 0 X (zJ 0)).1, a + (rsL w hh cl (zJ o) ng (w + hh) 0 X (zJ 0)).2.1) else if (rsL w hh cl (zJ o) ng (w + hh) 0 X (zJ 0)).2.1 = 0 then ((rsL w hh cl (zJ o) ng (w + hh) 0 X (zJ 0)).1, a + (rsL w hh cl (zJ o) ng (w + hh) 0 X (zJ 0)).2.1) else rsR w hh cl ng f (o + 1) (rsL w hh cl (zJ o) ng (w + hh) 0 X (zJ 0)).1 (a + (rsL w hh cl (zJ o) ng (w + hh) 0 X (zJ 0)).2.1)
def rsS (w hh : Nat) (cl : List Int32) (ng : Nat) (X : rX4) : rX4 × Int32 := rsR w hh cl ng (w * hh + 1) 1 X (zJ 0)
section RS
variable {w hh : Nat} {cl : List Int32} {ng : Nat}
theorem rsL_s {o : Int32} {n i : Nat} {X : rX4} {m : Int32} (hn : i < n) (hw : ¬ rcw w hh X.1 cl i = 0) : rsL w hh cl o ng (n - i) i X m = rsL w hh cl o ng (n - (i + 1)) (i + 1) (rpl w hh i (rfo w hh X.1 cl i true) (rfo w hh X.1 cl i false) o ng X (yln w hh i)) (m + rsz (rfo w hh X.1 cl i true ||| rfo w hh X.1 cl i false)) := by
  rw [show n - i = (n - (i + 1)) + 1 by omega, rsL, if_neg hw]
theorem rsL_b {o : Int32} {n i : Nat} {X : rX4} {m : Int32} (hn : i < n) (hw : rcw w hh X.1 cl i = 0) : rsL w hh cl o ng (n - i) i X m = (X, m, true) := by
  rw [show n - i = (n - (i + 1)) + 1 by omega, rsL, if_pos hw]
theorem rsL_0 {o : Int32} {n : Nat} {X : rX4} {m : Int32} : rsL w hh cl o ng (n - n) n X m = (X, m, false) := by
  rw [Nat.sub_self, rsL]
theorem rsR_b {f o : Nat} {X Y : rX4} {a m : Int32} (h : rsL w hh cl (zJ o) ng (w + hh) 0 X (zJ 0) = (Y, m, true)) : rsR w hh cl ng (f + 1) o X a = (Y, a + m) := by
  rw [rsR, h]
  rfl
theorem rsR_e {f o : Nat} {X Y : rX4} {a m : Int32} (h : rsL w hh cl (zJ o) ng (w + hh) 0 X (zJ 0) = (Y, m, false)) (hm : m = 0) : rsR w hh cl ng (f + 1) o X a = (Y, a + m) := by
  rw [rsR, h]
  exact (if_neg Bool.false_ne_true).trans (if_pos hm)
theorem rsR_n {f o : Nat} {X Y : rX4} {a m : Int32} (h : rsL w hh cl (zJ o) ng (w + hh) 0 X (zJ 0) = (Y, m, false)) (hm : ¬ m = 0) : rsR w hh cl ng (f + 1) o X a = rsR w hh cl ng f (o + 1) Y (a + m) := by
  rw [rsR, h]
  exact (if_neg Bool.false_ne_true).trans (if_neg hm)
/-- how many are unknown below n -/
theorem rcc_set {x0 : List Int32} {k n : Nat} {v : Int32} (hv : ¬ v = 0) : rcc (x0.set k v) 0 n ≤ rcc x0 0 n := by
  induction n with
  | zero => exact Nat.le_refl _
  | succ n ih =>
    rw [rcc, rcc]
    by_cases e : k = n
    · subst e
      by_cases hl : k < x0.length
      · rw [List.getD_eq_getElem?_getD, List.getElem?_set_self hl, if_neg (by exact hv)]
        split <;> omega
      · rw [List.set_eq_of_length_le (by omega)]
        exact Nat.le_refl _
    · rw [List.getD_eq_getElem?_getD, List.getElem?_set_ne e, ← List.getD_eq_getElem?_getD]
      split <;> omega
theorem rcc_set_lt {x0 : List Int32} {k n : Nat} {v : Int32} (hv : ¬ v = 0) (hk : k < n) (hl : k < x0.length) (h0 : x0.getD k 0 = 0) : rcc (x0.set k v) 0 n < rcc x0 0 n := by
  induction n with
  | zero => omega
  | succ n ih =>
    rw [rcc, rcc]
    by_cases e : k = n
    · subst e
      rw [List.getD_eq_getElem?_getD, List.getElem?_set_self hl, if_neg (by exact hv), if_pos h0]
      have := rcc_set (x0 := x0) (k := k) (n := k) hv
      omega
    · rw [List.getD_eq_getElem?_getD, List.getElem?_set_ne e, ← List.getD_eq_getElem?_getD]
      have := ih (by omega)
      split <;> omega
theorem rne12 (b : Bool) : ¬ (if b = true then zJ 1 else zJ 2) = 0 := by cases b <;> decide
theorem rpl_len (i : Nat) (dk li o : Int32) (X : rX4) (k : Nat) : (rpl w hh i dk li o ng X k).1.length = X.1.length := by
  induction k with
  | zero => rfl
  | succ k ih =>
    rw [rpl]
    split
    · show (List.set _ _ _).length = _
      rw [List.length_set, ih]
    · exact ih
theorem rpl_le (i : Nat) (dk li o : Int32) (X : rX4) (k n : Nat) : rcc (rpl w hh i dk li o ng X k).1 0 n ≤ rcc X.1 0 n := by
  induction k with
  | zero => exact Nat.le_refl _
  | succ k ih =>
    rw [rpl]
    split
    · exact Nat.le_trans (rcc_set (rne12 _)) ih
    · exact ih
/-- a cell of the line that is not told keeps its state -/
theorem ycl_inj {i j k : Nat} (hi : i < w + hh) (hj : j < yln w hh i) (hk : k < yln w hh i) (hw : 0 < w) (e : ycl w hh i j = ycl w hh i k) : j = k := by
  unfold ycl at e
  by_cases q : i < hh
  · rw [if_pos q, if_pos q] at e
    omega
  · rw [if_neg q, if_neg q] at e
    have h1 : ∀ a b : Nat, a < b → a * w + w ≤ b * w := fun a b hab => by
      rw [← Nat.succ_mul]; exact Nat.mul_le_mul_right w hab
    rcases Nat.lt_trichotomy j k with z | z | z
    · have := h1 j k z; omega
    · exact z
    · have := h1 k j z; omega
theorem rpl_at {i : Nat} {dk li o : Int32} {X : rX4} {j : Nat} (hi : i < w + hh) (hw : 0 < w) (hj : j < yln w hh i) (k : Nat) (hk : k ≤ j) : (rpl w hh i dk li o ng X k).1.getD (ycl w hh i j) 0 = X.1.getD (ycl w hh i j) 0 := by
  induction k with
  | zero => rfl
  | succ k ih =>
    rw [rpl]
    split
    · show (List.set _ _ _).getD _ _ = _
      rw [List.getD_eq_getElem?_getD, List.getElem?_set_ne (fun e => by have := ycl_inj hi (by omega) hj hw e; omega), ← List.getD_eq_getElem?_getD]
      exact ih (by omega)
    · exact ih (by omega)
theorem rpl_lt {i : Nat} {dk li o : Int32} {X : rX4} {j n : Nat} (hi : i < w + hh) (hw : 0 < w) (hn : n ≤ yln w hh i) (hj : j < n) (hb : zbit (dk ||| li) j = true) (h0 : X.1.getD (ycl w hh i j) 0 = 0) (hl : X.1.length = w * hh) : rcc (rpl w hh i dk li o ng X n).1 0 (w * hh) < rcc X.1 0 (w * hh) := by
  induction n with
  | zero => omega
  | succ n ih =>
    rw [rpl]
    by_cases e : j = n
    · subst e
      rw [if_pos hb]
      have hc := ycl_b hi (show j < yln w hh i by omega)
      refine Nat.lt_of_lt_of_le (rcc_set_lt (rne12 _) hc (by rw [rpl_len, hl]; exact hc) ?_) (rpl_le i dk li o X j (w * hh))
      rw [rpl_at hi hw (by omega) j (Nat.le_refl _)]
      exact h0
    · have := ih (by omega) (by omega)
      split
      · exact Nat.lt_of_le_of_lt (rcc_set (rne12 _)) this
      · exact this
theorem rsz_0 {x : Int32} (h : x = 0) : rsz x = 0 := by
  subst h
  rw [rsz, if_neg (by decide)]
  rfl
theorem rsL_dec {o : Int32} (hd : 2 ≤ w ∧ w ≤ 5 ∧ 2 ≤ hh ∧ hh ≤ 5) (n : Nat) : ∀ i X m, i + n = w + hh → X.1.length = w * hh → rcc (rsL w hh cl o ng n i X m).1.1 0 (w * hh) ≤ rcc X.1 0 (w * hh) ∧ (¬ (rsL w hh cl o ng n i X m).2.1 = m → rcc (rsL w hh cl o ng n i X m).1.1 0 (w * hh) < rcc X.1 0 (w * hh)) := by
  induction n with
  | zero => intro i X m _ _; exact ⟨Nat.le_refl _, fun q => absurd rfl q⟩
  | succ n ih =>
    intro i X m hi hl
    rw [rsL]
    split
    · exact ⟨Nat.le_refl _, fun q => absurd rfl q⟩
    · have hln := yln_b i hd
      have h1 := ih (i + 1) (rpl w hh i (rfo w hh X.1 cl i true) (rfo w hh X.1 cl i false) o ng X (yln w hh i)) (m + rsz (rfo w hh X.1 cl i true ||| rfo w hh X.1 cl i false)) (by omega) (by rw [rpl_len]; exact hl)
      have h2 := rpl_le (w := w) (hh := hh) (ng := ng) i (rfo w hh X.1 cl i true) (rfo w hh X.1 cl i false) o X (yln w hh i) (w * hh)
      refine ⟨Nat.le_trans h1.1 h2, fun hm => ?_⟩
      by_cases hz : (rfo w hh X.1 cl i true ||| rfo w hh X.1 cl i false) = 0
      · have e0 : m + rsz (rfo w hh X.1 cl i true ||| rfo w hh X.1 cl i false) = m := by rw [rsz_0 hz]; exact Int32.add_zero m
        rw [e0] at h1 hm ⊢
        exact Nat.lt_of_lt_of_le (h1.2 hm) h2
      · obtain ⟨j, hj, hb⟩ := zbit_ne hz
        have hb2 := hb
        rw [zbit_or, Bool.or_eq_true] at hb2
        have hc : j < yln w hh i ∧ X.1.getD (ycl w hh i j) 0 = 0 := by
          rcases hb2 with q | q
          · exact rfo_bit hln.2 q
          · exact rfo_bit hln.2 q
        exact Nat.lt_of_le_of_lt h1.1 (rpl_lt (by omega) (by omega) (Nat.le_refl _) hc.1 hb hc.2 hl)
end RS
