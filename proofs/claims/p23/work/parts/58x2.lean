/-! ===== bytes ===== -/
theorem zswar {p0 p1 p2 p3 p4 p5 p6 p7 B : Nat} (h0 : p0 ≤ 4) (h1 : p1 ≤ 4) (h2 : p2 ≤ 4) (h3 : p3 ≤ 4) (h4 : p4 ≤ 4) (h5 : p5 ≤ 4) (h6 : p6 ≤ 4) (h7 : p7 ≤ 4) (hB : B = p0 + 16 * (p1 + 16 * (p2 + 16 * (p3 + 16 * (p4 + 16 * (p5 + 16 * (p6 + 16 * p7))))))) : B + B / 16 < 4294967296 ∧ (B + B / 16) &&& 252645135 = (p0 + p1) + 256 * ((p2 + p3) + 256 * ((p4 + p5) + 256 * (p6 + p7))) := by
  have e : B + B / 16 = ((p0 + p1) + 16 * (p1 + p2)) + 2 ^ 8 * (((p2 + p3) + 16 * (p3 + p4)) + 2 ^ 8 * (((p4 + p5) + 16 * (p5 + p6)) + 2 ^ 8 * ((p6 + p7) + 16 * p7))) := by omega
  refine ⟨by omega, ?_⟩
  have m : ∀ a b, a < 16 → b < 16 → (a + 16 * b) &&& 15 = a := fun a b ha hb => by
    rw [show 15 = 2 ^ 4 - 1 from rfl, Nat.and_two_pow_sub_one_eq_mod]
    omega
  rw [e, show 252645135 = 15 + 2 ^ 8 * (15 + 2 ^ 8 * (15 + 2 ^ 8 * 15)) from rfl, zand_cat (by omega) (by omega), zand_cat (by omega) (by omega), zand_cat (by omega) (by omega), m _ _ (by omega) (by omega), m _ _ (by omega) (by omega), m _ _ (by omega) (by omega), m _ _ (by omega) (by omega)]
theorem zpp_32 (n : Nat) : ∃ p0 p1 p2 p3 p4 p5 p6 p7, (p0 ≤ 4 ∧ p1 ≤ 4 ∧ p2 ≤ 4 ∧ p3 ≤ 4) ∧ (p4 ≤ 4 ∧ p5 ≤ 4 ∧ p6 ≤ 4 ∧ p7 ≤ 4) ∧ zpn 8 n = p0 + 16 * (p1 + 16 * (p2 + 16 * (p3 + 16 * (p4 + 16 * (p5 + 16 * (p6 + 16 * p7)))))) ∧ zpp 32 n = p0 + p1 + p2 + p3 + p4 + p5 + p6 + p7 := by
  refine ⟨zp4 (n % 16), zp4 (n / 16 % 16), zp4 (n / 16 / 16 % 16), zp4 (n / 16 / 16 / 16 % 16), zp4 (n / 16 / 16 / 16 / 16 % 16), zp4 (n / 16 / 16 / 16 / 16 / 16 % 16), zp4 (n / 16 / 16 / 16 / 16 / 16 / 16 % 16), zp4 (n / 16 / 16 / 16 / 16 / 16 / 16 / 16 % 16), ⟨zp4_le _, zp4_le _, zp4_le _, zp4_le _⟩, ⟨zp4_le _, zp4_le _, zp4_le _, zp4_le _⟩, ?_, ?_⟩
  · rw [zpn, zpn, zpn, zpn, zpn, zpn, zpn, zpn, zpn, Nat.mul_zero, Nat.add_zero]
  · have h28 : zpp 32 n = _ := zpp_4 28 n
    have h24 : zpp 28 (n / 16) = _ := zpp_4 24 (n / 16)
    have h20 : zpp 24 (n / 16 / 16) = _ := zpp_4 20 (n / 16 / 16)
    have h16 : zpp 20 (n / 16 / 16 / 16) = _ := zpp_4 16 (n / 16 / 16 / 16)
    have h12 : zpp 16 (n / 16 / 16 / 16 / 16) = _ := zpp_4 12 (n / 16 / 16 / 16 / 16)
    have h8 : zpp 12 (n / 16 / 16 / 16 / 16 / 16) = _ := zpp_4 8 (n / 16 / 16 / 16 / 16 / 16)
    have h4 : zpp 8 (n / 16 / 16 / 16 / 16 / 16 / 16) = _ := zpp_4 4 (n / 16 / 16 / 16 / 16 / 16 / 16)
    have h0 : zpp 4 (n / 16 / 16 / 16 / 16 / 16 / 16 / 16) = _ := zpp_4 0 (n / 16 / 16 / 16 / 16 / 16 / 16 / 16)
    rw [h28, h24, h20, h16, h12, h8, h4, h0]
    simp only [zpp, Nat.add_zero, Nat.add_assoc]
