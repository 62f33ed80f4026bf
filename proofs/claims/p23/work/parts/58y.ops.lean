/-! ===== both sides' clues ===== -/
theorem zrnF_acc (f k : Nat) : ∀ acc, zrnF f k acc = acc + zrnF f k 0 := by
  induction f generalizing k with
  | zero => intro acc; rw [zrnF, zrnF, Int32.add_zero]
  | succ f ih =>
    intro acc
    rw [zrnF, zrnF]
    split
    · rw [Int32.add_zero]
    · rw [ih (k / 10) (acc + zJ 1), ih (k / 10) (0 + zJ 1), ← Int32.add_assoc, Int32.zero_add]
theorem zic_F (n f k : Nat) : ∀ acc, zicF n f k acc = rcbF n f k (acc + zrnF f k 0) := by
  induction f generalizing k with
  | zero => intro acc; rw [zicF, rcbF, zrnF, Int32.add_zero]
  | succ f ih =>
    intro acc
    rw [zicF, rcbF, zrnF]
    split
    · rw [Int32.add_zero]
    · split
      · rfl
      · rw [ih (k / 10), zrnF_acc f (k / 10) (0 + zJ 1), ← zJ_add (k % 10) 1]
        congr 1
        rw [Int32.zero_add, Int32.add_assoc, Int32.add_assoc, Int32.add_assoc]
        congr 1
        rw [Int32.add_comm (zJ 1 + zrnF f (k / 10) 0) (zJ (k % 10))]
theorem zic_rcb (x : Int32) (n : Nat) : zic x n = rcb x n := by
  unfold zic rcb
  by_cases h : 0 < x
  · have h1 : ¬ x < 0 := fun z => Int32.lt_irrefl (Int32.lt_trans h z)
    have h2 : ¬ x = 0 := fun z => by rw [z] at h; exact Int32.lt_irrefl h
    rw [if_pos h, if_neg h1, if_neg h2, zic_F, rrn, if_pos h]
    congr 1
  · rw [if_neg h]
    by_cases h1 : x < 0
    · have h2 : ¬ x = 0 := fun z => by rw [z] at h1; exact Int32.lt_irrefl h1
      rw [if_pos h1]
      exact decide_eq_false h2
    · have h2 : x = 0 := Int32.le_antisymm (Int32.not_lt.mp h) (Int32.not_lt.mp h1)
      rw [if_neg h1, if_pos h2]
      exact decide_eq_true h2
/-- clues that are told are small -/
def zVd (x : Int32) : Prop := (x = -1 ∨ ∃ n, n < 1000 ∧ x = zJ n) ∧ rrv (rrv x) = x
theorem zVd_m : zVd (-1) := ⟨Or.inl rfl, rfl⟩
theorem zicF_gt (n f : Nat) : ∀ k a, n < a → a + 10 * f < 2147483648 → zicF n f k (zJ a) = false := by
  induction f with
  | zero =>
    intro k a h1 h2
    rw [zicF, decide_eq_false_iff_not, zJ_le (by omega) (by omega)]
    omega
  | succ f ih =>
    intro k a h1 h2
    rw [zicF]
    split
    · rw [decide_eq_false_iff_not, zJ_le (by omega) (by omega)]
      omega
    · split
      · rfl
      · rw [zJ_add]
        exact ih _ _ (by omega) (by omega)
theorem zicF_st {n f k a : Nat} (hk : 0 < k) (h : zicF n (f + 1) k (zJ a) = true) : 0 < k % 10 ∧ zicF n f (k / 10) (zJ (a + (k % 10 + 1))) = true := by
  rw [zicF, if_neg (by omega)] at h
  split at h
  · cases h
  · rename_i q
    rw [zJ_add] at h
    exact ⟨by omega, h⟩
theorem zic_vd {x : Int32} {l : Nat} (hl : l ≤ 5) (h : zic x l = true) : zVd x := by
  unfold zic at h
  split at h
  · rename_i h0
    obtain ⟨k, hk, rfl⟩ := zJ_of (x := x) (fun z => Int32.lt_irrefl (Int32.lt_trans h0 z))
    rw [zJ_c hk] at h
    have kp : 0 < k := Nat.pos_of_ne_zero (fun z => by subst z; exact absurd h0 (by decide))
    have kq : 0 < k % 10 := by
      rw [zicF, if_neg (by omega)] at h
      split at h
      · cases h
      · omega
    have k1 : k < 1000 := by
      refine Nat.lt_of_not_le fun z => ?_
      rw [zicF, if_neg (by omega)] at h
      split at h
      · cases h
      · rename_i q
        have e : (-1 : Int32) + zJ (k % 10 + 1) = zJ (k % 10) := by
          rw [← zJ_add, ← Int32.add_assoc, Int32.add_comm (-1) (zJ (k % 10)), Int32.add_assoc]
          exact Int32.add_zero _
        rw [e] at h
        obtain ⟨g1, h⟩ := zicF_st (by omega) h
        obtain ⟨g2, h⟩ := zicF_st (by omega) h
        obtain ⟨g3, h⟩ := zicF_st (by omega) h
        rw [zicF_gt l 6 _ _ (by omega) (by omega)] at h
        cases h
    have h1 : ∀ a : Fin 1000, 0 < a.val % 10 → rrv (rrv (zJ a.val)) = zJ a.val := by decide +kernel
    exact ⟨Or.inr ⟨k, k1, rfl⟩, h1 ⟨k, k1⟩ kq⟩
  · have h0 := of_decide_eq_true h
    subst h0
    exact ⟨Or.inr ⟨0, by omega, rfl⟩, by decide⟩
theorem zVd_rv {x : Int32} (h : zVd x) : zVd (rrv x) := by
  obtain ⟨rfl | ⟨n, hn, rfl⟩, h2⟩ := h
  · exact zVd_m
  · have h1 : ∀ a : Fin 1000, (rrv (zJ a.val)).toNatClampNeg < 1000 ∧ rrv (zJ a.val) = zJ (rrv (zJ a.val)).toNatClampNeg := by decide +kernel
    exact ⟨Or.inr ⟨_, h1 ⟨n, hn⟩⟩, congrArg rrv h2⟩
theorem zSA_vd {n : Nat} (h : n < 32) : zVd (zSA n) := by
  have h1 : ∀ a : Fin 32, ((zSA a.val).toNatClampNeg < 1000 ∧ zSA a.val = zJ (zSA a.val).toNatClampNeg) ∧ rrv (rrv (zSA a.val)) = zSA a.val := by decide +kernel
  exact ⟨Or.inr ⟨_, (h1 ⟨n, h⟩).1⟩, (h1 ⟨n, h⟩).2⟩
theorem zSA_rn {n : Nat} (h : n < 32) : zrn (zSA n) = rrn (zSA n) := by
  have h1 : ∀ a : Fin 32, zrn (zSA a.val) = rrn (zSA a.val) := by decide +kernel
  exact h1 ⟨n, h⟩
theorem zrv_F (f k : Nat) : ∀ acc, zrvF f k acc = rrvF f k acc := by
  induction f generalizing k with
  | zero => intro acc; rfl
  | succ f ih =>
    intro acc
    rw [zrvF, rrvF]
    split
    · rfl
    · rw [ih, Int32.mul_comm]
theorem zrv_rrv (x : Int32) : zrv x = rrv x := by
  unfold zrv rrv
  by_cases h : 0 < x
  · rw [if_pos h, if_neg (fun z => Int32.lt_irrefl (Int32.lt_trans h z)), zrv_F]
  · rw [if_neg h]
    by_cases h1 : x < 0
    · rw [if_pos h1]
    · have h2 : x = 0 := Int32.le_antisymm (Int32.not_lt.mp h) (Int32.not_lt.mp h1)
      rw [h2]
      decide
/-- both sides' clues, and what fits them -/
def zxK (w hh : Nat) (cl fs clr : List Int32) : Prop := cl.length = 10 ∧ fs.length = 10 ∧ clr.length = w + hh ∧ ∀ i, i < w + hh → cl.getD i 0 = clr.getD i 0 ∧ zLn w hh fs clr i ∧ zVd (clr.getD i 0)
section KL
variable {w hh : Nat} {cl fs clr : List Int32}
theorem zxK.ln (K : zxK w hh cl fs clr) : ∀ i, i < w + hh → zLn w hh fs clr i := fun i hi => (K.2.2.2 i hi).2.1
theorem zxK.set (K : zxK w hh cl fs clr) (hw : w + hh ≤ 10) {i : Nat} {x : Int32} (hi : i < w + hh) (hx : zVd x) : zxK w hh (cl.set i x) (fs.set i (zfg x (yln w hh i))) (clr.set i x) := by
  obtain ⟨l1, l2, l3, K⟩ := K
  refine ⟨by rw [List.length_set]; exact l1, by rw [List.length_set]; exact l2, by rw [List.length_set]; exact l3, fun j hj => ?_⟩
  unfold zLn
  by_cases e : i = j
  · subst e
    rw [zgetD_eq (by omega), zgetD_eq (by omega), zgetD_eq (by omega)]
    exact ⟨rfl, rfl, hx⟩
  · rw [zgetD_ne e, zgetD_ne e, zgetD_ne e]
    exact K j hj
theorem zdp_rdk {cs x0 : List Int32} (R : zLr w hh cs x0) {i : Nat} (hi : i < w + hh) (k : Nat) (hk : k ≤ yln w hh i) : zdp w hh cs i k = rdk w hh x0 i k := by
  induction k with
  | zero => rfl
  | succ k ih =>
    rw [zdp, rdk, R _ (ycl_b hi (show k < yln w hh i by omega)), ih (by omega)]
    split
    · rfl
    · refine (zbit_ext fun p _ => ?_)
      rw [zbit_or, zbit_0, Bool.or_false]
theorem zxdp_lt {cs : List Int32} {i : Nat} (k : Nat) (hk : k ≤ 5) : ∃ n, n < 2 ^ k ∧ zdp w hh cs i k = zJ n := by
  have key : ∀ k, k ≤ 5 → ∀ p, zbit (zdp w hh cs i k) p = true → p < k := by
    intro k
    induction k with
    | zero => intro _ p h; rw [zdp, zbit_0] at h; cases h
    | succ k ih =>
      intro hk p h
      rw [zdp] at h
      split at h
      · rw [zbit_or, Bool.or_eq_true] at h
        rcases h with h | h
        · have := ih (by omega) p h; omega
        · have hp := zbit_lt h
          rw [zbit_sh1 (by omega) hp, decide_eq_true_iff] at h
          omega
      · have := ih (by omega) p h; omega
  refine ⟨(zdp w hh cs i k).toBitVec.toNat, ?_, zT_J⟩
  refine Nat.lt_pow_two_of_testBit _ fun p hp => ?_
  cases hb : (zdp w hh cs i k).toBitVec.toNat.testBit p with
  | false => rfl
  | true =>
    have := key k hk p hb
    omega
/-- read off -/
theorem zts_rrd (hd : 2 ≤ w ∧ w ≤ 5 ∧ 2 ≤ hh ∧ hh ≤ 5) {cs x0 : List Int32} (R : zLr w hh cs x0) (K : zxK w hh cl fs clr) (k : Nat) (hk : k ≤ w + hh) : (zts w hh cs cl fs k).2.2 = (rrd w hh x0 clr k).2 ∧ zxK w hh (zts w hh cs cl fs k).1 (zts w hh cs cl fs k).2.1 (rrd w hh x0 clr k).1 := by
  induction k with
  | zero => exact ⟨rfl, K⟩
  | succ k ih =>
    obtain ⟨i1, i2⟩ := ih (by omega)
    have hl := yln_b k hd
    obtain ⟨n, hn, en⟩ := zxdp_lt (w := w) (hh := hh) (cs := cs) (i := k) (yln w hh k) hl.2
    have h32 := zpow5 hl.2
    rw [zts, rrd, ← zdp_rdk R (show k < w + hh by omega) _ (Nat.le_refl _), en, rsw_SA hl hn, zJ_c (by omega)]
    refine ⟨?_, i2.set (by omega) (by omega) (zSA_vd (by omega))⟩
    show _ + zrn (zSA n) = _ + rrn _
    rw [i1, zgetD_eq (by rw [i2.2.2.1]; omega), zSA_rn (by omega)]
end KL
