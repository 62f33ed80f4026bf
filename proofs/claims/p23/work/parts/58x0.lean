/-! ===== counts of bits ===== -/
def zpp : Nat → Nat → Nat
  | 0, _ => 0
  | k + 1, n => n % 2 + zpp k (n / 2)
def zp4 (d : Nat) : Nat := d % 2 + d / 2 % 2 + d / 4 % 2 + d / 8 % 2
def zpn : Nat → Nat → Nat
  | 0, _ => 0
  | k + 1, n => zp4 (n % 16) + 16 * zpn k (n / 16)
def zps : Nat → Nat → Nat
  | 0, _ => 0
  | k + 1, n => (n % 4 - n % 4 / 2) + 4 * zps k (n / 4)
theorem zp4_le (d : Nat) : zp4 d ≤ 4 := by unfold zp4; omega
theorem zand_cat {s a b q m : Nat} (ha : a < 2 ^ s) (hb : b < 2 ^ s) : (a + 2 ^ s * q) &&& (b + 2 ^ s * m) = (a &&& b) + 2 ^ s * (q &&& m) := by
  have hc : a &&& b < 2 ^ s := Nat.lt_of_le_of_lt Nat.and_le_left ha
  refine Nat.eq_of_testBit_eq fun i => ?_
  rw [Nat.testBit_and, Nat.add_comm a, Nat.add_comm b, Nat.add_comm (a &&& b), Nat.testBit_two_pow_mul_add _ ha, Nat.testBit_two_pow_mul_add _ hb, Nat.testBit_two_pow_mul_add _ hc]
  split
  · rw [Nat.testBit_and]
  · rw [Nat.testBit_and]
def zm1 : Nat → Nat
  | 0 => 0
  | k + 1 => 1 + 4 * zm1 k
def zm2 : Nat → Nat
  | 0 => 0
  | k + 1 => 3 + 16 * zm2 k
theorem zps_ok (k n : Nat) (h : n < 4 ^ k) : (n / 2) &&& zm1 k ≤ n ∧ n - ((n / 2) &&& zm1 k) = zps k n := by
  induction k generalizing n with
  | zero =>
    have : n = 0 := by omega
    subst this
    exact ⟨Nat.le_refl _, rfl⟩
  | succ k ih =>
    obtain ⟨i1, i2⟩ := ih (n / 4) (by rw [Nat.pow_succ] at h; omega)
    have e : (n / 2) &&& zm1 (k + 1) = (n % 4 / 2) + 4 * ((n / 4 / 2) &&& zm1 k) := by
      have e1 : n / 2 = (n % 4 / 2 + 2 * (n / 4 % 2)) + 2 ^ 2 * (n / 4 / 2) := by omega
      have e2 : zm1 (k + 1) = 1 + 2 ^ 2 * zm1 k := rfl
      rw [e1, e2, zand_cat (by omega) (by omega)]
      have e3 : ∀ a : Fin 4, a.val &&& 1 = a.val % 2 := by decide
      rw [e3 ⟨n % 4 / 2 + 2 * (n / 4 % 2), by omega⟩]
      show (n % 4 / 2 + 2 * (n / 4 % 2)) % 2 + _ = _
      omega
    rw [e, zps]
    omega
theorem zpn_ok (k n : Nat) : (zps (2 * k) n &&& zm2 k) + ((zps (2 * k) n / 4) &&& zm2 k) = zpn k n := by
  induction k generalizing n with
  | zero =>
    rw [show zm2 0 = 0 from rfl, Nat.and_zero, Nat.and_zero]
    rfl
  | succ k ih =>
    have i2 := ih (n / 16)
    have e4 : n / 4 / 4 = n / 16 := by omega
    have e0 : zps (2 * (k + 1)) n = ((n % 4 - n % 4 / 2) + 4 * (n / 4 % 4 - n / 4 % 4 / 2)) + 2 ^ 4 * zps (2 * k) (n / 16) := by
      show (n % 4 - n % 4 / 2) + 4 * ((n / 4 % 4 - n / 4 % 4 / 2) + 4 * zps (2 * k) (n / 4 / 4)) = _
      rw [e4]
      omega
    have e1 : zps (2 * (k + 1)) n / 4 = ((n / 4 % 4 - n / 4 % 4 / 2) + 4 * (zps (2 * k) (n / 16) % 4)) + 2 ^ 4 * (zps (2 * k) (n / 16) / 4) := by
      rw [e0]
      omega
    have e2 : zm2 (k + 1) = 3 + 2 ^ 4 * zm2 k := rfl
    have e3 : ∀ a : Fin 16, a.val &&& 3 = a.val % 4 := by decide
    rw [e1, e0, e2, zand_cat (by omega) (by omega), zand_cat (by omega) (by omega)]
    have f1 := e3 ⟨(n % 4 - n % 4 / 2) + 4 * (n / 4 % 4 - n / 4 % 4 / 2), by omega⟩
    have f2 := e3 ⟨(n / 4 % 4 - n / 4 % 4 / 2) + 4 * (zps (2 * k) (n / 16) % 4), by omega⟩
    have e5 : ∀ a : Fin 16, (a.val % 4 - a.val % 4 / 2) + (a.val / 4 % 4 - a.val / 4 % 4 / 2) = zp4 a.val := by decide
    have e6 := e5 ⟨n % 16, by omega⟩
    have e7 : n % 16 % 4 = n % 4 := by omega
    have e8 : n % 16 / 4 % 4 = n / 4 % 4 := by omega
    simp only [e7, e8] at e6
    simp only [] at f1 f2
    rw [f1, f2, zpn, ← i2, ← e6]
    have l1 : n % 4 - n % 4 / 2 < 4 := by omega
    have l2 : n / 4 % 4 - n / 4 % 4 / 2 < 4 := by omega
    generalize n % 4 - n % 4 / 2 = d0 at l1 ⊢
    generalize n / 4 % 4 - n / 4 % 4 / 2 = d1 at l2 ⊢
    generalize (zps (2 * k) (n / 16) &&& zm2 k) = U
    generalize (zps (2 * k) (n / 16) / 4 &&& zm2 k) = V
    generalize zps (2 * k) (n / 16) % 4 = q
    rw [show (d0 + 4 * d1) % 4 = d0 by omega, show (d1 + 4 * q) % 4 = d1 by omega]
    omega
theorem zpp_4 (k n : Nat) : zpp (k + 4) n = zp4 (n % 16) + zpp k (n / 16) := by
  show n % 2 + (n / 2 % 2 + (n / 2 / 2 % 2 + (n / 2 / 2 / 2 % 2 + zpp k (n / 2 / 2 / 2 / 2)))) = _
  rw [show n / 2 / 2 / 2 / 2 = n / 16 by omega]
  unfold zp4
  omega
theorem zpp_top (k n : Nat) : zpp (k + 1) n = zpp k n + n / 2 ^ k % 2 := by
  induction k generalizing n with
  | zero =>
    show n % 2 + 0 = 0 + n / 2 ^ 0 % 2
    rw [Nat.pow_zero, Nat.div_one]
    omega
  | succ k ih =>
    rw [zpp, ih (n / 2), zpp, Nat.div_div_eq_div_mul, Nat.pow_succ, Nat.mul_comm 2]
    omega
