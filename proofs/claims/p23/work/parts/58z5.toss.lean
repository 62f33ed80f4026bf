/-! ===== both sides' toss: how far from the middle ===== -/
section TS
theorem zvd1 : FP.Core.val64 FP.dconst1 = .fin false (2 ^ 52) (-52) := by decide +kernel
theorem zi2d {n A : Nat} (hn : n < 2147483648) (hA : A = 1074) : ∃ c q, FP.Core.val64 (FP.i2d (zJ n)) = .fin false c q ∧ -(A : Int) ≤ q ∧ q ≤ 971 ∧ c * 2 ^ (q + A).toNat = n * 2 ^ A := by
  have hw := FP.Core.i2d_int (zJ n)
  rw [zJ_i hn] at hw
  have hs : FP.Core.sgn (FP.Core.val64 (FP.i2d (zJ n))) = false := by
    show FP.Core.sgn (FP.Core.val64 (FP.Core.i2d (zJ n))) = false
    rw [FP.Core.val64_i2d, zJ_i hn]
    show FP.Core.sgn (FP.Core.roundRatio FP.Core.b64 (decide ((n : Int) < 0)) _ 1 _) = false
    rw [FP.Core.sgn_roundRatio]
    exact decide_eq_false (by omega)
  obtain ⟨s, c, q, e⟩ := FP.Core.i2d_fin (zJ n)
  have e' : FP.Core.val64 (FP.i2d (zJ n)) = .fin s c q := e
  have hf := FP.Core.val64_fits (FP.i2d (zJ n))
  rw [e'] at hf hs
  have hw : FP.Core.Whole (n : Int) (FP.Core.val64 (FP.i2d (zJ n))) := hw
  rw [e'] at hw
  have hs : s = false := hs
  subst hs
  have hw : ((c * 2 ^ q.toNat : Nat) : Int) = (n : Int) * ((2 ^ (-q).toNat : Nat) : Int) := hw
  have hw2 : c * 2 ^ q.toNat = n * 2 ^ (-q).toNat := by
    rw [← Int.natCast_mul] at hw
    exact Int.ofNat.inj hw
  have hq : FP.Core.b64.qmin ≤ q := hf.2.1
  have hq2 : q ≤ FP.Core.b64.qmax := hf.2.2.1
  rw [FP.Core.qmin_b64] at hq
  have hq3 : FP.Core.b64.qmax = 971 := by decide
  refine ⟨c, q, e', by omega, by omega, ?_⟩
  rcases Int.le_total 0 q with h0 | h0
  · have e1 : (q + A).toNat = q.toNat + A := by omega
    have e2 : (-q).toNat = 0 := by omega
    rw [e2, Nat.pow_zero, Nat.mul_one] at hw2
    rw [e1, Nat.pow_add, ← Nat.mul_assoc, hw2]
  · have e1 : q.toNat = 0 := by omega
    have e2 : A = (-q).toNat + (q + A).toNat := by omega
    rw [e1, Nat.pow_zero, Nat.mul_one] at hw2
    rw [hw2, Nat.mul_assoc, ← Nat.pow_add, ← e2]
theorem zv1 {A : Nat} (hA : A = 1074) : FP.Core.zmag FP.Core.b64 (FP.Core.val64 FP.dconst1) = 2 ^ A ∧ FP.Core.zval FP.Core.b64 (FP.Core.val64 FP.dconst1) = ((2 ^ A : Nat) : Int) := by
  have h : FP.Core.zmag FP.Core.b64 (FP.Core.val64 FP.dconst1) = 2 ^ A := by
    rw [zvd1]
    show 2 ^ 52 * 2 ^ (-52 - FP.Core.b64.qmin).toNat = 2 ^ A
    rw [FP.Core.qmin_b64, show (-52 - -1074 : Int).toNat = 1022 from rfl, ← Nat.pow_add, hA]
  refine ⟨h, ?_⟩
  unfold FP.Core.zval
  rw [h, zvd1]
  rfl
theorem zvh {A : Nat} (hA : A = 1074) : FP.Core.val64 4602678819172646912 = .fin false (2 ^ 52) (-53) := by decide +kernel
/-- a chance is at most one -/
theorem zch1 {n d A : Nat} (hA : A = 1074) (h0 : 0 < n) (hd : d ≤ n) (hn : n < 2147483648) (hne : zJ n ≠ 0) : ∃ c q, FP.Core.val64 (FP.ddiv (FP.i2d (zJ d)) (FP.i2d (zJ n))) = .fin false c q ∧ -(A : Int) ≤ q ∧ c * 2 ^ (q + A).toNat ≤ 2 ^ A := by
  obtain ⟨c, q, e1, q1, q2, w1⟩ := zi2d (n := d) (A := A) (by omega) hA
  obtain ⟨d', r, e2, r1, r2, w2⟩ := zi2d (n := n) (A := A) hn hA
  have hd' : ¬ d' = 0 := fun z => by
    rw [z, Nat.zero_mul] at w2
    have := Nat.mul_pos h0 (Nat.two_pow_pos A)
    omega
  have ev : FP.Core.val64 (FP.ddiv (FP.i2d (zJ d)) (FP.i2d (zJ n))) = FP.Core.roundRatio FP.Core.b64 false c d' (q - r) := by
    show FP.Core.val64 (FP.Core.ddiv (FP.i2d (zJ d)) (FP.i2d (zJ n))) = _
    rw [FP.Core.val64_ddiv, e1, e2]
    show (if d' = 0 then _ else FP.Core.roundRatio FP.Core.b64 (false != false) c d' (q - r)) = _
    rw [if_neg hd']
    rfl
  obtain ⟨s, c2, q3, e3⟩ := FP.Core.fin_of_lt (yM_ddiv (yM_i2d (zJ d)) hne (by omega)) (by omega)
  have hs := FP.Core.sgn_roundRatio FP.Core.b64 false c d' (q - r)
  have hf := FP.Core.val64_fits (FP.ddiv (FP.i2d (zJ d)) (FP.i2d (zJ n)))
  rw [← ev, e3] at hs
  rw [e3] at hf
  have hs : s = false := hs
  subst hs
  have hq : FP.Core.b64.qmin ≤ q3 := hf.2.1
  rw [FP.Core.qmin_b64] at hq
  refine ⟨c2, q3, e3, by omega, ?_⟩
  obtain ⟨E, hE⟩ : ∃ E : Nat, 4000 ≤ E := ⟨5000, by decide⟩
  have key := FP.Core.zmag_roundRatio_le FP.Core.good_b64 (s := false) (A := c) (B := d') (e := q - r) (e0 := -(E : Int)) (V := FP.Core.val64 FP.dconst1) (by omega) (FP.Core.val64_fits _) (by rw [zvd1]; exact fun z => by cases z) (by rw [FP.Core.qmin_b64]; omega) (by omega) (by
    rw [(zv1 hA).1, FP.Core.qmin_b64]
    show c * 2 ^ (q - r - -(E : Int)).toNat ≤ _
    refine Nat.le_of_mul_le_mul_right (c := 2 ^ (r + A).toNat) ?_ (Nat.two_pow_pos _)
    have x1 : (q - r - -(E : Int)).toNat + (r + A).toNat = (q + A).toNat + E := by omega
    have x2 : (-1074 - -(E : Int)).toNat + A = E := by omega
    calc c * 2 ^ (q - r - -(E : Int)).toNat * 2 ^ (r + A).toNat = c * 2 ^ (q + A).toNat * 2 ^ E := by rw [Nat.mul_assoc, ← Nat.pow_add, x1, Nat.pow_add, Nat.mul_assoc]
      _ = d * 2 ^ A * 2 ^ E := by rw [w1]
      _ ≤ n * 2 ^ A * 2 ^ E := Nat.mul_le_mul_right _ (Nat.mul_le_mul_right _ hd)
      _ = d' * 2 ^ (r + A).toNat * 2 ^ E := by rw [w2]
      _ = 2 ^ A * 2 ^ (-1074 - -(E : Int)).toNat * d' * 2 ^ (r + A).toNat := by
        rw [← Nat.pow_add, Nat.add_comm A, x2, Nat.mul_comm (2 ^ E) d', Nat.mul_assoc, Nat.mul_assoc, Nat.mul_comm (2 ^ E)])
  rw [← ev, e3, (zv1 hA).1] at key
  have key : c2 * 2 ^ (q3 - FP.Core.b64.qmin).toNat ≤ 2 ^ A := key
  rw [FP.Core.qmin_b64] at key
  rw [show (q3 + A).toNat = (q3 - -1074).toNat by omega]
  exact key
theorem zsgn (v : Int) (k : Nat) : FP.Core.signed (FP.Core.sumSign false true v) (v.natAbs * k) = v * (k : Int) := by
  unfold FP.Core.sumSign FP.Core.signed
  by_cases h : v = 0
  · subst h
    simp
  · rw [if_neg h]
    by_cases h2 : v < 0
    · rw [if_pos (decide_eq_true h2), Int.natCast_mul]
      have : (v.natAbs : Int) = -v := by omega
      rw [this, Int.neg_mul, Int.neg_neg]
    · rw [if_neg (by rw [decide_eq_false h2]; decide), Int.natCast_mul]
      have : (v.natAbs : Int) = v := by omega
      rw [this]
/-- less a half it is less than one, either way -/
theorem zfar1 {x : UInt64} {A : Nat} (hA : A = 1074) {c : Nat} {q : Int} (e : FP.Core.val64 x = .fin false c q) (hq : -(A : Int) ≤ q) (hb : c * 2 ^ (q + A).toNat ≤ 2 ^ A) : FP.Core.zval FP.Core.b64 (FP.Core.val64 (FP.dsub x 4602678819172646912)) ≤ ((2 ^ (A - 1) : Nat) : Int) ∧ -((2 ^ (A - 1) : Nat) : Int) ≤ FP.Core.zval FP.Core.b64 (FP.Core.val64 (FP.dsub x 4602678819172646912)) := by
  have eh := zvh hA
  have zh : FP.Core.zval FP.Core.b64 (FP.Core.val64 4602678819172646912) = ((2 ^ (A - 1) : Nat) : Int) := by
    rw [eh]
    show (((2 ^ 52 * 2 ^ (-53 - FP.Core.b64.qmin).toNat : Nat)) : Int) = _
    rw [FP.Core.qmin_b64, show (-53 - -1074 : Int).toNat = 1021 from rfl, ← Nat.pow_add, hA]
  have ev : FP.Core.val64 (FP.dsub x 4602678819172646912) = FP.Core.round FP.Core.b64 (FP.Core.exactSum (.fin false c q) (.fin true (2 ^ 52) (-53))) := by
    show FP.Core.val64 (FP.Core.dsub x 4602678819172646912) = _
    rw [FP.Core.val64_dsub, e, eh]
    rfl
  rw [ev]
  obtain ⟨E, hE⟩ : ∃ E : Nat, 4000 ≤ E := ⟨5000, by decide⟩
  have hm1 : min q (-53) ≤ q := Int.min_le_left _ _
  have hm2 : min q (-53) ≤ -53 := Int.min_le_right _ _
  have hm3 : -(A : Int) ≤ min q (-53) := by omega
  show FP.Core.zval FP.Core.b64 (FP.Core.round FP.Core.b64 (.fin (FP.Core.sumSign false true (FP.Core.sumUnits false c q true (2 ^ 52) (-53) (min q (-53)))) (FP.Core.sumUnits false c q true (2 ^ 52) (-53) (min q (-53))).natAbs (min q (-53)))) ≤ _ ∧ _ ≤ FP.Core.zval FP.Core.b64 (FP.Core.round FP.Core.b64 (.fin (FP.Core.sumSign false true (FP.Core.sumUnits false c q true (2 ^ 52) (-53) (min q (-53)))) (FP.Core.sumUnits false c q true (2 ^ 52) (-53) (min q (-53))).natAbs (min q (-53))))
  generalize min q (-53) = e0 at hm1 hm2 hm3 ⊢
  have hv : FP.Core.sumUnits false c q true (2 ^ 52) (-53) e0 = ((c * 2 ^ (q - e0).toNat : Nat) : Int) - ((2 ^ 52 * 2 ^ (-53 - e0).toNat : Nat) : Int) := by
    show ((c * 2 ^ (q - e0).toNat : Nat) : Int) + -((2 ^ 52 * 2 ^ (-53 - e0).toNat : Nat) : Int) = _
    exact (Int.sub_eq_add_neg).symm
  obtain ⟨Z, hZ⟩ : ∃ Z, Z = c * 2 ^ (q + A).toNat := ⟨_, rfl⟩
  obtain ⟨H, hH⟩ : ∃ H, H = 2 ^ (A - 1) := ⟨_, rfl⟩
  obtain ⟨K, hK⟩ : ∃ K, K = 2 ^ (E - A) := ⟨_, rfl⟩
  have h1 : c * 2 ^ (q - e0).toNat * 2 ^ (e0 - -(E : Int)).toNat = Z * K := by
    rw [hZ, hK, Nat.mul_assoc, ← Nat.pow_add, Nat.mul_assoc, ← Nat.pow_add]
    congr 2
    omega
  have h2 : 2 ^ 52 * 2 ^ (-53 - e0).toNat * 2 ^ (e0 - -(E : Int)).toNat = H * K := by
    rw [hH, hK, ← Nat.pow_add, ← Nat.pow_add, ← Nat.pow_add]
    congr 1
    omega
  have hs : FP.Core.signed (FP.Core.sumSign false true (FP.Core.sumUnits false c q true (2 ^ 52) (-53) e0)) (FP.Core.inUnits (FP.Core.sumUnits false c q true (2 ^ 52) (-53) e0).natAbs e0 (-(E : Int))) = ((Z * K : Nat) : Int) - ((H * K : Nat) : Int) := by
    show FP.Core.signed _ ((FP.Core.sumUnits false c q true (2 ^ 52) (-53) e0).natAbs * 2 ^ (e0 - -(E : Int)).toNat) = _
    rw [zsgn, hv, Int.sub_mul, ← Int.natCast_mul, ← Int.natCast_mul, h1, h2]
  have hA2 : 2 ^ A = H + H := by
    rw [hH, ← Nat.two_mul, ← Nat.pow_succ']
    congr 1
    omega
  rw [← hZ, hA2] at hb
  have hZK : Z * K ≤ H * K + H * K := by rw [← Nat.add_mul]; exact Nat.mul_le_mul_right K hb
  have hE2 : (FP.Core.b64.qmin - -(E : Int)).toNat = E - A := by rw [FP.Core.qmin_b64]; omega
  have hV := FP.Core.val64_fits 4602678819172646912
  have hVn : FP.Core.val64 4602678819172646912 ≠ .nan := by rw [eh]; exact fun z => by cases z
  rw [← hH]
  rw [← hH] at zh
  constructor
  · have := FP.Core.zval_round_le FP.Core.good_b64 (s := FP.Core.sumSign false true (FP.Core.sumUnits false c q true (2 ^ 52) (-53) e0)) (c := (FP.Core.sumUnits false c q true (2 ^ 52) (-53) e0).natAbs) (q := e0) (e0 := -(E : Int)) hV hVn (by rw [FP.Core.qmin_b64]; omega) (by omega) (by
      rw [hs, zh, hE2, ← hK, ← Int.natCast_mul]
      omega)
    rw [zh] at this
    exact this
  · have := FP.Core.zval_round_ge FP.Core.good_b64 (s := FP.Core.sumSign false true (FP.Core.sumUnits false c q true (2 ^ 52) (-53) e0)) (c := (FP.Core.sumUnits false c q true (2 ^ 52) (-53) e0).natAbs) (q := e0) (e0 := -(E : Int)) (V := FP.Core.negate (FP.Core.val64 4602678819172646912)) (FP.Core.negate_fits hV) (FP.Core.negate_ne_nan hVn) (by rw [FP.Core.qmin_b64]; omega) (by omega) (by
      rw [hs, FP.Core.zval_negate, zh, hE2, ← hK, Int.neg_mul, ← Int.natCast_mul]
      omega)
    rw [FP.Core.zval_negate, zh] at this
    exact this
theorem zxorS {o : UInt64} (h : 2 ^ 63 ≤ o.toNat) : o ^^^ 0x8000000000000000 = o &&& 0x7fffffffffffffff := by
  have hlt := o.toNat_lt
  refine UInt64.toNat.inj ?_
  rw [FP.Core.mask_toNat, UInt64.toNat_xor, show (0x8000000000000000 : UInt64).toNat = 2 ^ 63 from rfl]
  refine Nat.eq_of_testBit_eq fun i => ?_
  rw [Nat.testBit_xor, Nat.testBit_two_pow, Nat.testBit_mod_two_pow]
  rcases Nat.lt_trichotomy i 63 with z | z | z
  · rw [decide_eq_true z, decide_eq_false (by omega), Bool.true_and, Bool.xor_false]
  · subst z
    have : o.toNat.testBit 63 = true := by
      rw [Nat.testBit_eq_decide_div_mod_eq]
      refine decide_eq_true ?_
      omega
    rw [this]
    decide
  · have : o.toNat.testBit i = false := Nat.testBit_lt_two_pow (Nat.lt_of_lt_of_le hlt (Nat.pow_le_pow_right (by decide) (by omega)))
    rw [this, decide_eq_false (by omega), decide_eq_false (by omega)]
    rfl
/-- a value's distance from the middle, reckoned either way -/
theorem zfarK {o : UInt64} (h : FP.Core.val64 o ≠ .nan) : FP.Core.dkey (yfar o) = FP.Core.dkey (o &&& 0x7fffffffffffffff) ∧ FP.Core.val64 (yfar o) ≠ .nan ∧ FP.Core.val64 (o &&& 0x7fffffffffffffff) ≠ .nan := by
  have h0 : FP.Core.val64 0 ≠ .nan := by decide +kernel
  have k0 : FP.Core.dkey 0 = 0 := by decide +kernel
  have e0 : FP.dcmp o FP.dconst0 = FP.Core.dcmp o 0 := rfl
  have hlt := o.toNat_lt
  have hkd : FP.Core.dkey o = if 2 ^ 63 ≤ o.toNat then ((2 ^ 63 : Nat) : Int) - (o.toNat : Int) else (o.toNat : Int) := rfl
  unfold yfar
  rw [e0]
  cases hc : FP.Core.dcmp o 0 with
  | none =>
    rcases (FP.Core.dcmp_none o 0).mp hc with z | z
    · exact absurd z h
    · exact absurd z h0
  | some r =>
    cases r with
    | lt =>
      have h1 := (FP.Core.dcmp_lt_key h h0).mp hc
      rw [k0, hkd] at h1
      have h2 : 2 ^ 63 ≤ o.toNat := by
        rcases Nat.lt_or_ge o.toNat (2 ^ 63) with z | z
        · rw [if_neg (by omega)] at h1
          omega
        · exact z
      rw [if_neg (by decide)]
      show FP.Core.dkey (o ^^^ 0x8000000000000000) = _ ∧ FP.Core.val64 (o ^^^ 0x8000000000000000) ≠ _ ∧ _
      rw [zxorS h2]
      have h3 : FP.Core.val64 (o &&& 0x7fffffffffffffff) ≠ .nan := by
        rw [FP.Core.abs_neg hc, FP.Core.val64_dneg]
        exact FP.Core.negate_ne_nan h
      exact ⟨rfl, h3, h3⟩
    | gt =>
      rw [if_pos (by decide), FP.Core.abs_pos hc]
      exact ⟨rfl, h, h⟩
    | eq =>
      have h1 := (FP.Core.dcmp_eq_key h h0).mp hc
      have h1' := h1
      rw [k0, hkd] at h1
      have h2 : (o &&& 0x7fffffffffffffff) = 0 := by
        refine UInt64.toNat.inj ?_
        rw [FP.Core.mask_toNat]
        show o.toNat % 2 ^ 63 = 0
        rcases Nat.lt_or_ge o.toNat (2 ^ 63) with z | z
        · rw [if_neg (by omega)] at h1
          omega
        · rw [if_pos z] at h1
          omega
      rw [if_pos (by decide), h2, h1']
      exact ⟨rfl, h, h0⟩
/-- less than one -/
theorem zfarL {x : UInt64} {c : Nat} {q : Int} {A : Nat} (hA : A = 1074) (e : FP.Core.val64 x = .fin false c q) (hq : -(A : Int) ≤ q) (hb : c * 2 ^ (q + A).toNat ≤ 2 ^ A) (hn : FP.Core.val64 (FP.dsub x 4602678819172646912) ≠ .nan) : FP.dcmp (yfar (FP.dsub x 4602678819172646912)) FP.dconst1 = some .lt := by
  obtain ⟨u1, u2⟩ := zfar1 hA e hq hb
  obtain ⟨-, h1, -⟩ := zfarK hn
  have hA2 : 2 ^ A = 2 ^ (A - 1) + 2 ^ (A - 1) := by
    rw [← Nat.two_mul, ← Nat.pow_succ']
    congr 1
    omega
  have hpos := Nat.two_pow_pos (A - 1)
  have h2 := (zv1 hA).2
  have hn1 : FP.Core.val64 FP.dconst1 ≠ .nan := by rw [zvd1]; exact fun z => by cases z
  show FP.Core.order (FP.Core.val64 (yfar (FP.dsub x 4602678819172646912))) (FP.Core.val64 FP.dconst1) = some .lt
  rw [FP.Core.order_zval FP.Core.good_b64 (FP.Core.val64_fits _) (FP.Core.val64_fits _) h1 hn1, h2, hA2]
  obtain ⟨o, ho⟩ : ∃ o, o = FP.dsub x 4602678819172646912 := ⟨_, rfl⟩
  rw [← ho] at u1 u2 h1 hn ⊢
  obtain ⟨H, hH⟩ : ∃ H, H = 2 ^ (A - 1) := ⟨_, rfl⟩
  rw [← hH] at u1 u2 hpos ⊢
  have hz : FP.Core.zval FP.Core.b64 (FP.Core.val64 (yfar o)) ≤ (H : Int) := by
    have e0 : FP.dcmp o FP.dconst0 = FP.Core.dcmp o 0 := rfl
    have h0 : FP.Core.val64 0 ≠ .nan := by decide +kernel
    have k0 : FP.Core.dkey 0 = 0 := by decide +kernel
    unfold yfar
    split
    · exact u1
    · rename_i hneg
      have hc : FP.Core.dcmp o 0 = some .lt := by
        rw [e0] at hneg
        cases hc : FP.Core.dcmp o 0 with
        | none =>
          rcases (FP.Core.dcmp_none o 0).mp hc with z | z
          · exact absurd z hn
          · exact absurd z h0
        | some r =>
          rw [hc] at hneg
          cases r with
          | lt => rfl
          | gt => exact absurd (by decide) hneg
          | eq => exact absurd (by decide) hneg
      have h3 := (FP.Core.dcmp_lt_key hn h0).mp hc
      have hkd : FP.Core.dkey o = if 2 ^ 63 ≤ o.toNat then ((2 ^ 63 : Nat) : Int) - (o.toNat : Int) else (o.toNat : Int) := rfl
      rw [k0, hkd] at h3
      have h4 : 2 ^ 63 ≤ o.toNat := by
        rcases Nat.lt_or_ge o.toNat (2 ^ 63) with z | z
        · rw [if_neg (by omega)] at h3
          omega
        · exact z
      show FP.Core.zval FP.Core.b64 (FP.Core.val64 (o ^^^ 0x8000000000000000)) ≤ _
      rw [zxorS h4, FP.Core.abs_neg hc, FP.Core.val64_dneg, FP.Core.zval_negate]
      omega
  have hlt : FP.Core.zval FP.Core.b64 (FP.Core.val64 (yfar o)) < ((H + H : Nat) : Int) := by omega
  have hcmp : compare (FP.Core.zval FP.Core.b64 (FP.Core.val64 (yfar o))) ((H + H : Nat) : Int) = Ordering.lt := by
    simp only [compare, compareOfLessAndEq]
    rw [if_pos hlt]
  rw [hcmp]
theorem zcmpK {a b a' b' : UInt64} (ha : FP.Core.val64 a ≠ .nan) (hb : FP.Core.val64 b ≠ .nan) (ha' : FP.Core.val64 a' ≠ .nan) (hb' : FP.Core.val64 b' ≠ .nan) (e1 : FP.Core.dkey a = FP.Core.dkey a') (e2 : FP.Core.dkey b = FP.Core.dkey b') : FP.dcmp a b = FP.dcmp a' b' := by
  show FP.Core.dcmp a b = FP.Core.dcmp a' b'
  rw [FP.Core.dcmp_key ha hb, FP.Core.dcmp_key ha' hb', e1, e2]
end TS
section TT
variable {w hh : Nat} {cs x0 ps l : List Int32}
/-- a chance less a half -/
theorem rch_ok {c : Nat} (hl : l.length ≤ 500) (h0 : ¬ l.length = 0) (hd : ∃ d, d ≤ l.length ∧ rdn l (zJ c) l.length = zJ d) : FP.Core.val64 (FP.dsub (rch l (zJ c)) 4602678819172646912) ≠ .nan ∧ FP.dcmp (yfar (FP.dsub (rch l (zJ c)) 4602678819172646912)) FP.dconst1 = some .lt := by
  obtain ⟨d, hd, e⟩ := hd
  have hne : zJ l.length ≠ 0 := fun z => h0 ((zJ_eq (b := 0) (by omega) (by omega)).mp z)
  have hr : rch l (zJ c) = FP.ddiv (FP.i2d (zJ d)) (FP.i2d (zJ l.length)) := by rw [rch, if_neg h0, e]
  have hM : yM64 1057 (rch l (zJ c)) := by rw [hr]; exact yM_ddiv (yM_i2d _) hne (by omega)
  have hn : FP.Core.val64 (FP.dsub (rch l (zJ c)) 4602678819172646912) ≠ .nan := by
    obtain ⟨s, c2, q, e2⟩ := FP.Core.fin_of_lt (yM_dsub (b := 4602678819172646912) hM (by unfold yM64; decide) (by omega)) (by omega)
    rw [e2]
    exact fun z => by cases z
  obtain ⟨c2, q, e3, hq, hb⟩ := zch1 (A := 1074) rfl (show 0 < l.length by omega) hd (by omega) hne
  rw [← hr] at e3
  exact ⟨hn, zfarL rfl e3 hq hb hn⟩
theorem rdn_le (x : Nat) (hx : x < 32) (k : Nat) (hk : k ≤ 500) : ∃ d, d ≤ k ∧ rdn l (zJ x) k = zJ d := by
  induction k with
  | zero => exact ⟨0, Nat.le_refl _, rfl⟩
  | succ k ih =>
    obtain ⟨d, h1, h2⟩ := ih (by omega)
    rw [rdn, h2]
    rcases zand1 (l.getD k 0 >>> (zJ x &&& 31)) with z | z
    · exact ⟨d, by omega, by rw [z, zJ_add]; rfl⟩
    · exact ⟨d + 1, by omega, by rw [z, zJ_add]⟩
/-- what an album that is asked keeps -/
def zxA (w hh : Nat) (l : List Int32) (A : yAS) : Prop := yAI A ∧ (A.2.2.2.1 = w ∧ A.2.2.2.2.1 = hh) ∧ A.1.2.2.2.2.length = 25 ∧ A.2.2.2.2.2.2 = l.length ∧ A.1.1.take l.length = l
theorem zxA.cn (hd : 2 ≤ w ∧ w ≤ 5 ∧ 2 ≤ hh ∧ hh ≤ 5) {A : yAS} (H : zxA w hh l A) : zxA w hh l (yCn A) := by
  obtain ⟨I, hw, hl, hn, hp⟩ := H
  have I2 := I.cn hl (by rw [hw.1, hw.2]; exact ⟨hd.2.1, hd.2.2.2⟩)
  refine ⟨I2, ?_⟩
  unfold yCn
  split
  · exact ⟨hw, hl, hn, hp⟩
  · exact ⟨hw, (ycd_len _ _ _ _ _).trans hl, hn, hp⟩
theorem yts_rts (hd : 2 ≤ w ∧ w ≤ 5 ∧ 2 ≤ hh ∧ hh ≤ 5) (R : zLr w hh cs x0) {A : yAS} (H : zxA w hh l A) (hl : l.length ≤ 500) (h0 : ¬ l.length = 0) (k : Nat) (hk : k ≤ w * hh) : zxA w hh l (yts cs A k).2.2 ∧ (yts cs A k).1 = (rts l x0 k).1 ∧ ((yts cs A k).1 = -1 → (yts cs A k).2.1 = FP.dconst1) ∧ (¬ (yts cs A k).1 = -1 → FP.Core.dkey (yts cs A k).2.1 = FP.Core.dkey (rts l x0 k).2 ∧ FP.Core.val64 (yts cs A k).2.1 ≠ .nan ∧ FP.Core.val64 (rts l x0 k).2 ≠ .nan) := by
  have h25 := (zwh_b hd).2
  induction k with
  | zero => exact ⟨H, rfl, fun _ => rfl, fun z => absurd rfl z⟩
  | succ k ih =>
    obtain ⟨i1, i2, i3, i4⟩ := ih (by omega)
    rw [yts, rts, R k (by omega)]
    by_cases q : x0.getD k 0 = 0
    · rw [if_pos q]
      have ec : ych (yts cs A k).2.2 k = rch l (zJ k) := ych_rch hd i1.1 i1.2.1 i1.2.2.1 i1.2.2.2.1 i1.2.2.2.2 (show k < w * hh by omega)
      obtain ⟨n1, n2⟩ := rch_ok hl h0 (rdn_le (l := l) k (by omega) l.length hl)
      obtain ⟨f1, f2, f3⟩ := zfarK n1
      have hk1 : ¬ zJ k = -1 := fun z => by
        have := zJ_nn (a := k) (by omega)
        rw [z] at this
        exact this (by decide)
      have i1c := i1.cn hd
      rw [ec]
      generalize yts cs A k = S at i1 i2 i3 i4 i1c ⊢
      generalize rts l x0 k = T at i2 i4 ⊢
      by_cases hb : S.1 = -1
      · have e3 := i3 hb
        rw [e3, n2, if_neg (by decide), if_pos ⟨q, Or.inl (i2 ▸ hb)⟩]
        exact ⟨i1c, rfl, fun z => absurd z hk1, fun _ => ⟨f1, f2, f3⟩⟩
      · obtain ⟨g1, g2, g3⟩ := i4 hb
        have hc : FP.dcmp (yfar (FP.dsub (rch l (zJ k)) 4602678819172646912)) S.2.1 = FP.dcmp (rfr l k) T.2 := zcmpK f2 g2 f3 g3 f1 g1
        rw [hc]
        have hne : FP.dcmp (rfr l k) T.2 ≠ none := fun z => by
          rcases (FP.Core.dcmp_none _ _).mp z with z | z
          · exact f3 z
          · exact g3 z
        cases ho : FP.dcmp (rfr l k) T.2 with
        | none => exact absurd ho hne
        | some r =>
          have hT : ¬ T.1 = -1 := fun z => hb (i2.trans z)
          cases r with
          | lt =>
            rw [if_neg (by decide), if_pos ⟨q, Or.inr (by decide)⟩]
            exact ⟨i1c, rfl, fun z => absurd z hk1, fun _ => ⟨f1, f2, f3⟩⟩
          | gt =>
            rw [if_pos (by decide), if_neg (fun z => z.2.elim hT (by decide))]
            exact ⟨i1c, i2, fun z => absurd z hb, fun _ => ⟨g1, g2, g3⟩⟩
          | eq =>
            rw [if_pos (by decide), if_neg (fun z => z.2.elim hT (by decide))]
            exact ⟨i1c, i2, fun z => absurd z hb, fun _ => ⟨g1, g2, g3⟩⟩
    · rw [if_neg q, if_neg (fun z => q z.1)]
      exact ⟨i1, i2, i3, i4⟩
end TT
