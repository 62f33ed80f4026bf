/-! ===== all bits, counted ===== -/
theorem zbc_un {x a b c e f : Int32} (ha : x - (zush x (zJ 1) &&& 1431655765) = a) (hb : (a &&& 858993459) + (zush a (zJ 2) &&& 858993459) = b) (hc : b + zush b (zJ 4) &&& 252645135 = c) (he : c + zush c (zJ 8) = e) (hf : e + zush e (zJ 16) = f) : zbc x = f &&& zJ 63 := by
  subst ha hb hc he hf
  rfl
/-- the number of bits, reckoned side by side -/
theorem zbc_pp (x : Int32) : zbc x = zJ (zpp 32 x.toBitVec.toNat) := by
  have hx := x.toBitVec.isLt
  obtain ⟨p0, p1, p2, p3, p4, p5, p6, p7, ⟨h0, h1, h2, h3⟩, ⟨h4, h5, h6, h7⟩, eB, eP⟩ := zpp_32 x.toBitVec.toNat
  obtain ⟨a, ha⟩ : ∃ a, a = x - (zush x (zJ 1) &&& 1431655765) := ⟨_, rfl⟩
  obtain ⟨b, hb⟩ : ∃ b, b = (a &&& 858993459) + (zush a (zJ 2) &&& 858993459) := ⟨_, rfl⟩
  obtain ⟨c, hc⟩ : ∃ c, c = b + zush b (zJ 4) &&& 252645135 := ⟨_, rfl⟩
  obtain ⟨e, he⟩ : ∃ e, e = c + zush c (zJ 8) := ⟨_, rfl⟩
  obtain ⟨f, hf⟩ : ∃ f, f = e + zush e (zJ 16) := ⟨_, rfl⟩
  have hz : zbc x = f &&& zJ 63 := zbc_un ha.symm hb.symm hc.symm he.symm hf.symm
  have a1 : a.toBitVec.toNat = zps 16 x.toBitVec.toNat := by
    have hm : (zush x (zJ 1) &&& 1431655765).toBitVec.toNat = (x.toBitVec.toNat / 2) &&& zm1 16 := by
      rw [zT_and, zT_ush x (by decide), zmA, Nat.pow_one]
    obtain ⟨z1, z2⟩ := zps_ok 16 x.toBitVec.toNat (by rw [zw32]; exact hx)
    rw [ha, zT_sub (a := x) (b := zush x (zJ 1) &&& 1431655765) (by rw [hm]; exact z1), hm]
    exact z2
  have b1 : b.toBitVec.toNat = zpn 8 x.toBitVec.toNat := by
    have hm : (a &&& 858993459).toBitVec.toNat = zps 16 x.toBitVec.toNat &&& zm2 8 := by
      rw [zT_and, a1, zmB]
    have hm2 : (zush a (zJ 2) &&& 858993459).toBitVec.toNat = (zps 16 x.toBitVec.toNat / 4) &&& zm2 8 := by
      rw [zT_and, zT_ush a (by decide), a1, zmB, zw2]
    have l1 : zps 16 x.toBitVec.toNat &&& zm2 8 ≤ zm2 8 := Nat.and_le_right
    have l2 : (zps 16 x.toBitVec.toNat / 4) &&& zm2 8 ≤ zm2 8 := Nat.and_le_right
    have l3 := zmE
    rw [hb, zT_add (a := a &&& 858993459) (b := zush a (zJ 2) &&& 858993459) (by rw [hm, hm2]; clear eB eP hx; omega), hm, hm2]
    exact zpn_ok 8 x.toBitVec.toNat
  obtain ⟨s1, s2⟩ := zswar h0 h1 h2 h3 h4 h5 h6 h7 (b1.trans eB)
  have c1 : c.toBitVec.toNat = (p0 + p1) + 256 * ((p2 + p3) + 256 * ((p4 + p5) + 256 * (p6 + p7))) := by
    have hu : (zush b (zJ 4)).toBitVec.toNat = b.toBitVec.toNat / 16 := by rw [zT_ush b (by decide), zw4]
    rw [hc, zT_and, zT_add (a := b) (b := zush b (zJ 4)) (by rw [hu]; exact s1), hu, zmC]
    exact s2
  obtain ⟨t1, t2, t3⟩ := zswar2 (u0 := p0 + p1) (u1 := p2 + p3) (u2 := p4 + p5) (u3 := p6 + p7) (Nat.add_le_add h0 h1) (Nat.add_le_add h2 h3) (Nat.add_le_add h4 h5) (Nat.add_le_add h6 h7) c1
  have hu : (zush c (zJ 8)).toBitVec.toNat = c.toBitVec.toNat / 256 := by rw [zT_ush c (by decide), zw8]
  have e1 : e.toBitVec.toNat = c.toBitVec.toNat + c.toBitVec.toNat / 256 := by
    rw [he, zT_add (a := c) (b := zush c (zJ 8)) (by rw [hu]; exact t1), hu]
  have hv : (zush e (zJ 16)).toBitVec.toNat = e.toBitVec.toNat / 65536 := by rw [zT_ush e (by decide), zw16]
  have f1 : f.toBitVec.toNat = e.toBitVec.toNat + e.toBitVec.toNat / 65536 := by
    rw [hf, zT_add (a := e) (b := zush e (zJ 16)) (by rw [hv, e1]; exact t2), hv]
  have g1 : (f &&& zJ 63).toBitVec.toNat = (c.toBitVec.toNat + c.toBitVec.toNat / 256 + (c.toBitVec.toNat + c.toBitVec.toNat / 256) / 65536) % 64 := by
    rw [zT_and, zmD, Nat.and_two_pow_sub_one_eq_mod, f1, e1]
  have g2 : (f &&& zJ 63).toBitVec.toNat = zpp 32 x.toBitVec.toNat := by
    rw [g1, t3, eP]
    simp only [Nat.add_assoc]
  rw [hz, ← g2]
  exact zT_J
