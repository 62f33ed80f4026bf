/-! ===== words as numbers ===== -/
theorem zT_and (a b : Int32) : (a &&& b).toBitVec.toNat = a.toBitVec.toNat &&& b.toBitVec.toNat := by
  rw [Int32.toBitVec_and, BitVec.toNat_and]
theorem zT_add {a b : Int32} (h : a.toBitVec.toNat + b.toBitVec.toNat < 4294967296) : (a + b).toBitVec.toNat = a.toBitVec.toNat + b.toBitVec.toNat := by
  rw [Int32.toBitVec_add, BitVec.toNat_add]
  exact Nat.mod_eq_of_lt h
theorem zT_sub {a b : Int32} (h : b.toBitVec.toNat ≤ a.toBitVec.toNat) : (a - b).toBitVec.toNat = a.toBitVec.toNat - b.toBitVec.toNat := by
  rw [Int32.toBitVec_sub, BitVec.toNat_sub]
  have h1 := a.toBitVec.isLt
  have h2 := b.toBitVec.isLt
  omega
theorem zT_ush (a : Int32) {k : Nat} (hk : k < 32) : (zush a (zJ k)).toBitVec.toNat = a.toBitVec.toNat / 2 ^ k := by
  have h1 : (zJ k).toUInt32 &&& Int32.toUInt32 31 = UInt32.ofNat k := by
    have : ∀ b : Fin 32, (zJ b.val).toUInt32 &&& Int32.toUInt32 31 = UInt32.ofNat b.val := by decide
    exact this ⟨k, hk⟩
  unfold zush
  rw [h1]
  show (a.toBitVec >>> ((UInt32.ofNat k).toBitVec % 32)).toNat = _
  have h2 : (UInt32.ofNat k).toBitVec % 32 = BitVec.ofNat 32 k := by
    have : ∀ b : Fin 32, (UInt32.ofNat b.val).toBitVec % 32 = BitVec.ofNat 32 b.val := by decide
    exact this ⟨k, hk⟩
  rw [h2, BitVec.ushiftRight_eq', BitVec.toNat_ushiftRight, Nat.shiftRight_eq_div_pow, BitVec.toNat_ofNat, Nat.mod_eq_of_lt (show k < 2 ^ 32 by omega)]
theorem zT_J {x : Int32} : x = zJ x.toBitVec.toNat := by
  apply Int32.toBitVec.inj
  show x.toBitVec = BitVec.ofNat 32 x.toBitVec.toNat
  rw [BitVec.ofNat_toNat, BitVec.setWidth_eq]
