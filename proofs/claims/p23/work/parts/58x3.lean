/-! ===== all bits ===== -/
theorem zmA : (1431655765 : Int32).toBitVec.toNat = zm1 16 := by decide
theorem zmB : (858993459 : Int32).toBitVec.toNat = zm2 8 := by decide
theorem zmE : zm2 8 = 858993459 := by decide
theorem zmC : (252645135 : Int32).toBitVec.toNat = 252645135 := by decide
theorem zmD : (zJ 63).toBitVec.toNat = 2 ^ 6 - 1 := by decide
theorem zw2 : 2 ^ 2 = 4 := by decide
theorem zw4 : 2 ^ 4 = 16 := by decide
theorem zw8 : 2 ^ 8 = 256 := by decide
theorem zw16 : 2 ^ 16 = 65536 := by decide
theorem zw32 : 4 ^ 16 = 4294967296 := by decide
theorem zswar2 {u0 u1 u2 u3 C : Nat} (h0 : u0 ≤ 8) (h1 : u1 ≤ 8) (h2 : u2 ≤ 8) (h3 : u3 ≤ 8) (hC : C = u0 + 256 * (u1 + 256 * (u2 + 256 * u3))) : C + C / 256 < 4294967296 ∧ C + C / 256 + (C + C / 256) / 65536 < 4294967296 ∧ (C + C / 256 + (C + C / 256) / 65536) % 64 = u0 + u1 + u2 + u3 := by
  have e1 : C / 256 = u1 + 256 * (u2 + 256 * u3) := by omega
  have e2 : C + C / 256 = (u0 + u1 + 256 * (u1 + u2)) + 65536 * (u2 + u3 + 256 * u3) := by rw [e1]; omega
  have e3 : (C + C / 256) / 65536 = u2 + u3 + 256 * u3 := by rw [e2]; clear hC e1 e2; omega
  rw [e3, e2]
  clear hC e1 e2 e3
  refine ⟨by omega, by omega, ?_⟩
  rw [show u0 + u1 + 256 * (u1 + u2) + 65536 * (u2 + u3 + 256 * u3) + (u2 + u3 + 256 * u3) = (u0 + u1 + u2 + u3) + 64 * (4 * (u1 + u2) + 1024 * (u2 + u3 + 256 * u3) + 4 * u3) by omega, Nat.add_mul_mod_self_left]
  exact Nat.mod_eq_of_lt (by omega)
