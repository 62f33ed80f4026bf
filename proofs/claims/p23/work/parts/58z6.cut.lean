/-! ===== products cut to whole numbers ===== -/
theorem zsum_le {f : FP.Core.Fmt} (hf : FP.Core.Good f) {x y : FP.Core.Datum} {n a b r : Nat} (hn : FP.Core.decode f n = FP.Core.round f (FP.Core.exactSum x y)) (hx : ∃ s c q, x = .fin s c q) (hy : ∃ s c q, y = .fin s c q) (fx : FP.Core.fits f x) (fy : FP.Core.fits f y) (zx : FP.Core.zmag f x ≤ FP.Core.unitsOf f a) (zy : FP.Core.zmag f y ≤ FP.Core.unitsOf f b) (h : FP.Core.unitsOf f a + FP.Core.unitsOf f b ≤ FP.Core.unitsOf f r) : FP.Core.mag f n ≤ r := by
  obtain ⟨s, c, q, rfl⟩ := hx
  obtain ⟨t, d, u, rfl⟩ := hy
  obtain ⟨sg, v, e, p1, p2, p3⟩ := FP.Core.sum_units fx fy
  rw [p1] at hn
  have h1 := congrArg Int.natAbs p3
  rw [FP.Core.natAbs_signed] at h1
  have h2 := Int.natAbs_add_le (FP.Core.zval f (.fin s c q)) (FP.Core.zval f (.fin t d u))
  have h3 : (FP.Core.zval f (.fin s c q)).natAbs = FP.Core.zmag f (.fin s c q) := by unfold FP.Core.zval; exact FP.Core.natAbs_signed _ _
  have h4 : (FP.Core.zval f (.fin t d u)).natAbs = FP.Core.zmag f (.fin t d u) := by unfold FP.Core.zval; exact FP.Core.natAbs_signed _ _
  refine FP.Core.mag_le (s := sg) (A := v) (B := 1) (e := e) hf hn (by decide) (e0 := f.qmin) (by omega) p2 ?_
  rw [Int.sub_self, Int.toNat_zero, Nat.pow_zero, Nat.mul_one, Nat.mul_one]
  omega
theorem zadd64 {a b : UInt64} {p q r : Nat} (ha : a.toNat % 2 ^ 63 ≤ p) (hb : b.toNat % 2 ^ 63 ≤ q) (hp : p < 9218868437227405312) (hq : q < 9218868437227405312) (h : FP.Core.unitsOf FP.Core.b64 p + FP.Core.unitsOf FP.Core.b64 q ≤ FP.Core.unitsOf FP.Core.b64 r) : (FP.dadd a b).toNat % 2 ^ 63 ≤ r := by
  have fa := FP.Core.fin_of_lt (a := a) (K := 2047) (by omega) (by decide)
  have fb := FP.Core.fin_of_lt (a := b) (K := 2047) (by omega) (by decide)
  have za := FP.Core.zmag_bits (a := a) (by obtain ⟨_, _, _, h⟩ := fa; rw [h]; exact FP.Core.Datum.noConfusion)
  have zb := FP.Core.zmag_bits (a := b) (by obtain ⟨_, _, _, h⟩ := fb; rw [h]; exact FP.Core.Datum.noConfusion)
  have := zsum_le FP.Core.good_b64 (n := (FP.dadd a b).toNat) (FP.Core.val64_dadd a b) fa fb (FP.Core.val64_fits a) (FP.Core.val64_fits b) (by rw [za]; exact FP.Core.unitsOf_le_iff.mpr ha) (by rw [zb]; exact FP.Core.unitsOf_le_iff.mpr hb) h
  rwa [FP.Core.mag_toNat64] at this
theorem zadd32 {a b : UInt32} {p q r : Nat} (ha : a.toNat % 2 ^ 31 ≤ p) (hb : b.toNat % 2 ^ 31 ≤ q) (hp : p < 2139095040) (hq : q < 2139095040) (h : FP.Core.unitsOf FP.Core.b32 p + FP.Core.unitsOf FP.Core.b32 q ≤ FP.Core.unitsOf FP.Core.b32 r) : (FP.fadd a b).toNat % 2 ^ 31 ≤ r := by
  have fa := FP.Core.fin_of_lt32 (a := a) (K := 255) (by omega) (by decide)
  have fb := FP.Core.fin_of_lt32 (a := b) (K := 255) (by omega) (by decide)
  have za := FP.Core.zmag_toNat32 (a := a) (by obtain ⟨_, _, _, h⟩ := fa; rw [h]; exact FP.Core.Datum.noConfusion)
  have zb := FP.Core.zmag_toNat32 (a := b) (by obtain ⟨_, _, _, h⟩ := fb; rw [h]; exact FP.Core.Datum.noConfusion)
  have := zsum_le FP.Core.good_b32 (n := (FP.fadd a b).toNat) (FP.Core.val32_fadd a b) fa fb (FP.Core.val32_fits a) (FP.Core.val32_fits b) (by rw [za]; exact FP.Core.unitsOf_le_iff.mpr ha) (by rw [zb]; exact FP.Core.unitsOf_le_iff.mpr hb) h
  rwa [FP.Core.mag_toNat32] at this
/-- the bits of 128.0 so many times, of 8192f so many times -/
def zxpd (k : Nat) : Nat := if k = 0 then 0 else (1030 + Nat.log2 k) * 2 ^ 52 + (k - 2 ^ Nat.log2 k) * 2 ^ (52 - Nat.log2 k)
def zxpf (k : Nat) : Nat := if k = 0 then 0 else (140 + Nat.log2 k) * 2 ^ 23 + (k - 2 ^ Nat.log2 k) * 2 ^ (23 - Nat.log2 k)
theorem zxpd_s {k : Nat} (hk : k < 10) : zxpd k < 9218868437227405312 ∧ FP.Core.unitsOf FP.Core.b64 (zxpd k) + FP.Core.unitsOf FP.Core.b64 (zxpd 1) ≤ FP.Core.unitsOf FP.Core.b64 (zxpd (k + 1)) := by
  have h : ∀ i : Fin 10, zxpd i.val < 9218868437227405312 ∧ FP.Core.unitsOf FP.Core.b64 (zxpd i.val) + FP.Core.unitsOf FP.Core.b64 (zxpd 1) ≤ FP.Core.unitsOf FP.Core.b64 (zxpd (i.val + 1)) := by decide +kernel
  exact h ⟨k, hk⟩
theorem zxpf_s {k : Nat} (hk : k < 25) : (zxpf k < 2139095040 ∧ zxpf k ≤ zxpf (k + 1)) ∧ FP.Core.unitsOf FP.Core.b32 (zxpf k) + FP.Core.unitsOf FP.Core.b32 (zxpf 1) ≤ FP.Core.unitsOf FP.Core.b32 (zxpf (k + 1)) := by
  have h : ∀ i : Fin 25, (zxpf i.val < 2139095040 ∧ zxpf i.val ≤ zxpf (i.val + 1)) ∧ FP.Core.unitsOf FP.Core.b32 (zxpf i.val) + FP.Core.unitsOf FP.Core.b32 (zxpf 1) ≤ FP.Core.unitsOf FP.Core.b32 (zxpf (i.val + 1)) := by decide +kernel
  exact h ⟨k, hk⟩
theorem zi2d_le {n j : Nat} (h : n ≤ 2 ^ j) (hj : j ≤ 20) (hn : n < 2147483648) : yM64 (1024 + j) (FP.i2d (zJ n)) := by
  have := FP.Core.fromInt_mag (FP.Core.toNat_i2d (zJ n)) (j := j) (K := 1023 + j) (by rw [zJ_i hn]; exact h) (by omega) (by omega)
  have : (FP.i2d (zJ n)).toNat % 2 ^ 63 ≤ (1023 + j) * 2 ^ 52 := this
  unfold yM64
  omega
theorem zi2f_le {n j : Nat} (h : n ≤ 2 ^ j) (hj : j ≤ 20) (hn : n < 2147483648) : yM32 (128 + j) (FP.i2f (zJ n)) := by
  have := FP.Core.fromInt_mag32 (FP.Core.toNat_i2f (zJ n)) (j := j) (K := 127 + j) (by rw [zJ_i hn]; exact h) (by omega) (by omega)
  have : (FP.i2f (zJ n)).toNat % 2 ^ 31 ≤ (127 + j) * 2 ^ 23 := this
  unfold yM32
  omega
section CUT
variable {w hh : Nat} {x0 cl l : List Int32}
theorem rls_le (hd : 2 ≤ w ∧ w ≤ 5 ∧ 2 ≤ hh ∧ hh ≤ 5) (k : Nat) (hk : k ≤ 10) : (rls w hh x0 cl k).toNat % 2 ^ 63 ≤ zxpd k := by
  induction k with
  | zero =>
    show FP.dconst0.toNat % 2 ^ 63 ≤ zxpd 0
    decide
  | succ k ih =>
    have i1 := ih (by omega)
    have h1 := rcw_le x0 cl k hd
    have h2 : yM64 1029 (FP.i2d (zJ (rcw w hh x0 cl k))) := zi2d_le (j := 5) h1 (by decide) (by omega)
    have h3 := yM_ddiv h2 (zJ_p2 (Nat.le_trans (rui_le w hh x0 k (yln w hh k)) (yln_b k hd).2)) (by omega)
    have h4 : zxpd 1 = 1030 * 2 ^ 52 := by decide
    obtain ⟨h5, h6⟩ := zxpd_s (k := k) (by omega)
    rw [rls]
    refine zadd64 i1 (q := zxpd 1) ?_ h5 (by rw [h4]; decide) h6
    unfold yM64 at h3
    omega
theorem rlo_cut (hd : 2 ≤ w ∧ w ≤ 5 ∧ 2 ≤ hh ∧ hh ≤ 5) : yM64 1054 (FP.dmul 4634204016564240384 (rlo w hh x0 cl)) := by
  have h1 := rls_le (x0 := x0) (cl := cl) hd (w + hh) (by omega)
  have h2 : ∀ i : Fin 11, zxpd i.val < 1034 * 2 ^ 52 := by decide +kernel
  have h3 : yM64 1034 (rls w hh x0 cl (w + hh)) := Nat.lt_of_le_of_lt h1 (h2 ⟨w + hh, by omega⟩)
  have h4 := yM_ddiv h3 (v := zJ (w + hh)) (fun e => by have := (zJ_eq (b := 0) (by omega) (by omega)).mp e; omega) (by omega)
  exact (yM_dmul (K := 1030) (show yM64 1030 4634204016564240384 by unfold yM64; decide) h4 (by decide) (by decide)).mono (by decide)
theorem rfg_le (hl : l.length ≤ 500) (k : Nat) (hk : k ≤ 25) : (rfg l x0 k).toNat % 2 ^ 31 ≤ zxpf k := by
  induction k with
  | zero =>
    show FP.fconst0.toNat % 2 ^ 31 ≤ zxpf 0
    decide
  | succ k ih =>
    have i1 := ih (by omega)
    obtain ⟨⟨h5, h7⟩, h6⟩ := zxpf_s (k := k) (by omega)
    rw [rfg]
    split
    · rename_i q
      obtain ⟨m, hm, em⟩ := rdn_le (l := l) k (by omega) l.length hl
      have h2 : yM32 137 (rsh3 l k |> fun _ => FP.i2f (rdn l (zJ k) l.length)) := by
        show yM32 137 (FP.i2f (rdn l (zJ k) l.length))
        rw [em]
        exact zi2f_le (j := 9) (by omega) (by decide) (by omega)
      have h3 : yM32 138 (rsh3 l k) := yM_fdiv h2 (v := zJ l.length) (fun e => q.2 ((zJ_eq (b := 0) (by omega) (by omega)).mp e)) (by omega)
      have h1 : yM32 138 FP.fconst1 := by unfold yM32; decide
      have h8 := yM_min (h3.mono (K' := 140) (by decide)) (yM_fsub h1 h3 (by decide))
      have h4 : zxpf 1 = 140 * 2 ^ 23 := by decide
      refine zadd32 i1 (q := zxpf 1) ?_ h5 (by rw [h4]; decide) h6
      unfold yM32 at h8
      omega
    · exact Nat.le_trans i1 h7
theorem zpw3 {a b c d e : Nat} (h : a + b = c + d + e) : 2 ^ a * 2 ^ b = 2 ^ c * 2 ^ d * 2 ^ e := by rw [← Nat.pow_add, ← Nat.pow_add, ← Nat.pow_add, h]
theorem zf2d_M {x : UInt32} {K : Nat} (h : yM32 K x) (hK : K ≤ 255) (h1 : 1 ≤ K) : (FP.Core.f2d x).toNat % 2 ^ 63 ≤ (K + 896) * 2 ^ 52 := by
  obtain ⟨s, c, q, e, hc⟩ := FP.Core.mag_bits32 h hK
  have hv := FP.Core.val64_f2d x
  rw [e] at hv
  have hfit := FP.Core.val32_fits x
  rw [e] at hfit
  have hq := hfit.2.1
  have g1 : FP.Core.b32.qmin = -149 := FP.Core.qmin_b32
  have g2 : FP.Core.b64.qmin = -1074 := FP.Core.qmin_b64
  rw [g1] at hq hc
  have := FP.Core.mag_le FP.Core.good_b64 (n := (FP.Core.f2d x).toNat) (m := (K + 896) * 2 ^ 52) (s := s) (A := c) (B := 1) (e := q) (e0 := -1074) hv (by decide) (by rw [g2]; decide) (by omega) (by
    rw [g2, Int.sub_self, Int.toNat_zero, Nat.pow_zero, Nat.mul_one, Nat.mul_one, ← FP.Core.tails_b64, FP.Core.unitsOf_start (by omega), FP.Core.tails_b64]
    show c * 2 ^ (q - -1074).toNat ≤ _
    rw [show (q - -1074).toNat = (q - -149).toNat + 925 by omega, Nat.pow_add, ← Nat.mul_assoc, zpw3 (a := 52) (b := K + 896 - 1) (c := 23) (d := K - 1) (e := 925) (by omega)]
    exact Nat.mul_le_mul_right _ (Nat.le_of_lt hc))
  rwa [FP.Core.mag_toNat64] at this
theorem rfg_cut (hl : l.length ≤ 500) {n : Nat} (hn : n ≤ 25) : yM64 1054 (FP.dmul 4634204016564240384 (FP.f2d (rfg l x0 n))) := by
  have h1 := rfg_le (x0 := x0) hl n hn
  have h2 : ∀ i : Fin 26, zxpf i.val < 145 * 2 ^ 23 := by decide +kernel
  have h3 : yM32 145 (rfg l x0 n) := Nat.lt_of_le_of_lt h1 (h2 ⟨n, by omega⟩)
  have h4 := zf2d_M h3 (by decide) (by decide)
  have h5 : FP.f2d (rfg l x0 n) = FP.Core.f2d (rfg l x0 n) := by
    unfold FP.f2d
    have h6 : FP.Core.fIsNaN (rfg l x0 n) = false := by
      obtain ⟨s, c, q, e⟩ := FP.Core.fin_of_lt32 h3 (by decide)
      rw [FP.Core.notNaN_iff32, e]
      exact fun z => by cases z
    rw [h6]
    rfl
  have h7 : yM64 1042 (FP.f2d (rfg l x0 n)) := by
    rw [h5]
    unfold yM64
    omega
  exact (yM_dmul (K := 1030) (show yM64 1030 4634204016564240384 by unfold yM64; decide) h7 (by decide) (by decide)).mono (by decide)
end CUT
/-- cut to a long or to an int: the same, where it is small -/
theorem zcut {x : UInt64} (h : yM64 1054 x) : FP.d2l x = (FP.d2i x).toInt64 := by
  obtain ⟨s, c, q, e, hc⟩ := FP.Core.mag_bits h (by decide)
  have hn : FP.Core.val64 x ≠ .nan := by rw [e]; exact FP.Core.Datum.noConfusion
  have h1 := FP.Core.d2l_val hn
  have h2 := FP.Core.d2i_val hn
  have h3 : FP.Core.zmag FP.Core.b64 (FP.Core.val64 x) / FP.Core.one64 < 2 ^ 31 := by
    rw [e]
    refine (Nat.div_lt_iff_lt_mul FP.Core.one64_pos).mpr (Nat.lt_of_lt_of_le hc ?_)
    unfold FP.Core.one64
    decide +kernel
  generalize FP.Core.zmag FP.Core.b64 (FP.Core.val64 x) / FP.Core.one64 = m at h1 h2 h3
  refine Int64.toInt.inj ?_
  rw [Int32.toInt_toInt64]
  show (FP.Core.d2l x).toInt = (FP.Core.d2i x).toInt
  rw [h1, h2]
  generalize FP.Core.sgn (FP.Core.val64 x) = s0
  cases s0
  · show max _ (min _ (m : Int)) = max _ (min _ (m : Int))
    omega
  · show max _ (min _ (-(m : Int))) = max _ (min _ (-(m : Int)))
    omega
