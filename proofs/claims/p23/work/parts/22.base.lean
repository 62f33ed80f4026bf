/-! ===== numbers as ints, blocks of cells, frames ===== -/
def zJ (n : Nat) : Int32 := Int32.ofNat n
theorem zJ_add (a b : Nat) : zJ a + zJ b = zJ (a + b) := (Int32.ofNat_add a b).symm
theorem zJ_mul (a b : Nat) : zJ a * zJ b = zJ (a * b) := (Int32.ofNat_mul a b).symm
theorem zJ_sub {a b : Nat} (h : b ≤ a) : zJ a - zJ b = zJ (a - b) := (Int32.ofNat_sub a b h).symm
theorem zJ_lt {a b : Nat} (ha : a < 2147483648) (hb : b < 2147483648) : zJ a < zJ b ↔ a < b := Int32.ofNat_lt_iff_lt ha hb
theorem zJ_le {a b : Nat} (ha : a < 2147483648) (hb : b < 2147483648) : zJ a ≤ zJ b ↔ a ≤ b := Int32.ofNat_le_iff_le ha hb
theorem zJ_c {a : Nat} (ha : a < 2147483648) : (zJ a).toNatClampNeg = a := Int32.toNatClampNeg_ofNat_of_lt ha
theorem zJ_i {a : Nat} (ha : a < 2147483648) : (zJ a).toInt = a := Int32.toInt_ofNat_of_lt ha
theorem zJ_eq {a b : Nat} (ha : a < 2147483648) (hb : b < 2147483648) : zJ a = zJ b ↔ a = b :=
  ⟨fun h => by rw [← zJ_c ha, h, zJ_c hb], fun h => by rw [h]⟩
theorem zJ_nn {a : Nat} (ha : a < 2147483648) : ¬ zJ a < 0 := fun h => by
  have h1 : zJ a < zJ 0 := h
  rw [zJ_lt ha (by omega)] at h1
  omega
theorem zJ_of {x : Int32} (h : ¬ x < 0) : ∃ n, n < 2147483648 ∧ x = zJ n :=
  ⟨x.toNatClampNeg, Int32.toNatClampNeg_lt x, (Int32.ofNat_toNatClampNeg x (by rw [← Int32.not_lt]; exact h)).symm⟩
theorem zJ_div {a b : Nat} (ha : a < 2147483648) (hb : b < 2147483648) : zJ a / zJ b = zJ (a / b) := (Int32.ofNat_div ha hb).symm
theorem zJ_rem {a b : Nat} (ha : a < 2147483648) (hb : b < 2147483648) : zJ a - zJ a / zJ b * zJ b = zJ (a % b) := by
  rw [zJ_div ha hb, zJ_mul, zJ_sub (Nat.div_mul_le_self a b)]
  congr 1
  have h := Nat.div_add_mod a b
  rw [Nat.mul_comm] at h
  omega
def zB (b : Bool) : Int32 := if b then 1 else 0
theorem zB_01 (b : Bool) : zB b = 0 ∨ zB b = 1 := by cases b <;> simp [zB]
theorem zB_ne (b : Bool) : zB b = 0 ↔ b = false := by cases b <;> simp [zB]
/-! ### rules over numbers -/
section ZN
variable {E : zEnv} {d j pc pc' : Nat} {L L' : zLc} {st r : List Value} {h : zPH} {Q : zOut → zPH → Prop} {x : zAux}
theorem zr_iaddN {a b : Nat} (hi : zat j pc (.iadd) pc' x) (K : zwp E d j (pc', L, .int (zJ (a + b)) :: st, h) Q) : zwp E d j (pc, L, .int (zJ b) :: .int (zJ a) :: st, h) Q := zr_iadd hi (by rw [zJ_add]; exact K)
theorem zr_imulN {a b : Nat} (hi : zat j pc (.imul) pc' x) (K : zwp E d j (pc', L, .int (zJ (a * b)) :: st, h) Q) : zwp E d j (pc, L, .int (zJ b) :: .int (zJ a) :: st, h) Q := zr_imul hi (by rw [zJ_mul]; exact K)
theorem zr_isubN {a b : Nat} (hi : zat j pc (.isub) pc' x) (hb : b ≤ a) (K : zwp E d j (pc', L, .int (zJ (a - b)) :: st, h) Q) : zwp E d j (pc, L, .int (zJ b) :: .int (zJ a) :: st, h) Q := zr_isub hi (by rw [zJ_sub hb]; exact K)
theorem zr_idivN {a b : Nat} (hi : zat j pc (.idiv) pc' x) (ha : a < 2147483648) (hb : b < 2147483648) (h0 : b ≠ 0) (K : zwp E d j (pc', L, .int (zJ (a / b)) :: st, h) Q) : zwp E d j (pc, L, .int (zJ b) :: .int (zJ a) :: st, h) Q :=
  zr_idiv hi (fun e => h0 ((zJ_eq hb (by omega)).mp e)) (by rw [zJ_div ha hb]; exact K)
theorem zr_iremN {a b : Nat} (hi : zat j pc (.irem) pc' x) (ha : a < 2147483648) (hb : b < 2147483648) (h0 : b ≠ 0) (K : zwp E d j (pc', L, .int (zJ (a % b)) :: st, h) Q) : zwp E d j (pc, L, .int (zJ b) :: .int (zJ a) :: st, h) Q :=
  zr_irem hi (fun e => h0 ((zJ_eq hb (by omega)).mp e)) (by rw [zJ_rem ha hb]; exact K)
theorem zr_iincN {k : Nat} {q : Int} {y z : Nat} (hi : zat j pc (.iinc k q) pc' x) (hl : L[k]? = some (some (.int (zJ y)))) (hq : Int32.ofInt q = zJ z) (hk : Nat.blt k L.length = true) (hL : zput L k (some (.int (zJ (y + z)))) = L') (K : zwp E d j (pc', L', st, h) Q) : zwp E d j (pc, L, st, h) Q :=
  zr_iinc hi hl hq hk (by rw [zJ_add]; exact hL) K
theorem zr_icmp_eqN {a b : Nat} {off : Int} {t : Nat} (hi : zat j pc (.if_icmp .eq off) pc' x) (ht : ztg pc off = t) (ha : a < 2147483648) (hb : b < 2147483648) (K1 : a = b → zwp E d j (t, L, st, h) Q) (K2 : ¬ a = b → zwp E d j (pc', L, st, h) Q) : zwp E d j (pc, L, .int (zJ b) :: .int (zJ a) :: st, h) Q :=
  zr_icmp_eq hi ht (fun q => K1 ((zJ_eq ha hb).mp q)) (fun q => K2 (fun e => q ((zJ_eq ha hb).mpr e)))
theorem zr_icmp_neN {a b : Nat} {off : Int} {t : Nat} (hi : zat j pc (.if_icmp .ne off) pc' x) (ht : ztg pc off = t) (ha : a < 2147483648) (hb : b < 2147483648) (K1 : a ≠ b → zwp E d j (t, L, st, h) Q) (K2 : a = b → zwp E d j (pc', L, st, h) Q) : zwp E d j (pc, L, .int (zJ b) :: .int (zJ a) :: st, h) Q :=
  zr_icmp_ne hi ht (fun q => K1 (fun e => q ((zJ_eq ha hb).mpr e))) (fun q => K2 ((zJ_eq ha hb).mp q))
theorem zr_icmp_ltN {a b : Nat} {off : Int} {t : Nat} (hi : zat j pc (.if_icmp .lt off) pc' x) (ht : ztg pc off = t) (ha : a < 2147483648) (hb : b < 2147483648) (K1 : a < b → zwp E d j (t, L, st, h) Q) (K2 : b ≤ a → zwp E d j (pc', L, st, h) Q) : zwp E d j (pc, L, .int (zJ b) :: .int (zJ a) :: st, h) Q :=
  zr_icmp_lt hi ht (fun q => K1 ((zJ_lt ha hb).mp q)) (fun q => K2 (Nat.le_of_not_lt fun e => q ((zJ_lt ha hb).mpr e)))
theorem zr_icmp_geN {a b : Nat} {off : Int} {t : Nat} (hi : zat j pc (.if_icmp .ge off) pc' x) (ht : ztg pc off = t) (ha : a < 2147483648) (hb : b < 2147483648) (K1 : b ≤ a → zwp E d j (t, L, st, h) Q) (K2 : a < b → zwp E d j (pc', L, st, h) Q) : zwp E d j (pc, L, .int (zJ b) :: .int (zJ a) :: st, h) Q :=
  zr_icmp_ge hi ht (fun q => K1 ((zJ_le hb ha).mp q)) (fun q => K2 (Nat.lt_of_not_le fun e => q ((zJ_le hb ha).mpr e)))
theorem zr_icmp_gtN {a b : Nat} {off : Int} {t : Nat} (hi : zat j pc (.if_icmp .gt off) pc' x) (ht : ztg pc off = t) (ha : a < 2147483648) (hb : b < 2147483648) (K1 : b < a → zwp E d j (t, L, st, h) Q) (K2 : a ≤ b → zwp E d j (pc', L, st, h) Q) : zwp E d j (pc, L, .int (zJ b) :: .int (zJ a) :: st, h) Q :=
  zr_icmp_gt hi ht (fun q => K1 ((zJ_lt hb ha).mp q)) (fun q => K2 (Nat.le_of_not_lt fun e => q ((zJ_lt hb ha).mpr e)))
theorem zr_icmp_leN {a b : Nat} {off : Int} {t : Nat} (hi : zat j pc (.if_icmp .le off) pc' x) (ht : ztg pc off = t) (ha : a < 2147483648) (hb : b < 2147483648) (K1 : a ≤ b → zwp E d j (t, L, st, h) Q) (K2 : b < a → zwp E d j (pc', L, st, h) Q) : zwp E d j (pc, L, .int (zJ b) :: .int (zJ a) :: st, h) Q :=
  zr_icmp_le hi ht (fun q => K1 ((zJ_le ha hb).mp q)) (fun q => K2 (Nat.lt_of_not_le fun e => q ((zJ_le ha hb).mpr e)))
theorem zr_if_ltN {a : Nat} {off : Int} {t : Nat} (hi : zat j pc (.ifCond .lt off) pc' x) (ht : ztg pc off = t) (ha : a < 2147483648) (K2 : zwp E d j (pc', L, st, h) Q) : zwp E d j (pc, L, .int (zJ a) :: st, h) Q :=
  zr_if_lt hi ht (fun q => absurd q (zJ_nn ha)) (fun _ => K2)
theorem zr_if_geN {a : Nat} {off : Int} {t : Nat} (hi : zat j pc (.ifCond .ge off) pc' x) (ht : ztg pc off = t) (ha : a < 2147483648) (K1 : zwp E d j (t, L, st, h) Q) : zwp E d j (pc, L, .int (zJ a) :: st, h) Q :=
  zr_if_ge hi ht (fun _ => K1) (fun q => absurd ((zJ_le (a := 0) (by omega) ha).mpr (Nat.zero_le _)) q)
theorem zr_if_eqN {a : Nat} {off : Int} {t : Nat} (hi : zat j pc (.ifCond .eq off) pc' x) (ht : ztg pc off = t) (ha : a < 2147483648) (K1 : a = 0 → zwp E d j (t, L, st, h) Q) (K2 : ¬ a = 0 → zwp E d j (pc', L, st, h) Q) : zwp E d j (pc, L, .int (zJ a) :: st, h) Q :=
  zr_if_eq hi ht (fun q => K1 ((zJ_eq ha (by omega)).mp q)) (fun q => K2 (fun e => q ((zJ_eq ha (b := 0) (by omega)).mpr e)))
theorem zr_if_neN {a : Nat} {off : Int} {t : Nat} (hi : zat j pc (.ifCond .ne off) pc' x) (ht : ztg pc off = t) (ha : a < 2147483648) (K1 : ¬ a = 0 → zwp E d j (t, L, st, h) Q) (K2 : a = 0 → zwp E d j (pc', L, st, h) Q) : zwp E d j (pc, L, .int (zJ a) :: st, h) Q :=
  zr_if_ne hi ht (fun q => K1 (fun e => q ((zJ_eq ha (b := 0) (by omega)).mpr e))) (fun q => K2 ((zJ_eq ha (by omega)).mp q))
theorem zr_if_gtN {a : Nat} {off : Int} {t : Nat} (hi : zat j pc (.ifCond .gt off) pc' x) (ht : ztg pc off = t) (ha : a < 2147483648) (K1 : 0 < a → zwp E d j (t, L, st, h) Q) (K2 : a = 0 → zwp E d j (pc', L, st, h) Q) : zwp E d j (pc, L, .int (zJ a) :: st, h) Q :=
  zr_if_gt hi ht (fun q => K1 ((zJ_lt (a := 0) (by omega) ha).mp q)) (fun q => K2 (Nat.eq_zero_of_not_pos fun e => q ((zJ_lt (a := 0) (by omega) ha).mpr e)))
theorem zr_if_leN {a : Nat} {off : Int} {t : Nat} (hi : zat j pc (.ifCond .le off) pc' x) (ht : ztg pc off = t) (ha : a < 2147483648) (K1 : a = 0 → zwp E d j (t, L, st, h) Q) (K2 : 0 < a → zwp E d j (pc', L, st, h) Q) : zwp E d j (pc, L, .int (zJ a) :: st, h) Q :=
  zr_if_le hi ht (fun q => K1 (Nat.le_zero.mp ((zJ_le (b := 0) ha (by omega)).mp q))) (fun q => K2 (Nat.pos_of_ne_zero fun e => q ((zJ_le (b := 0) ha (by omega)).mpr (Nat.le_of_eq e))))
theorem zr_if_eqB {b : Bool} {off : Int} {t : Nat} (hi : zat j pc (.ifCond .eq off) pc' x) (ht : ztg pc off = t) (K1 : b = false → zwp E d j (t, L, st, h) Q) (K2 : b = true → zwp E d j (pc', L, st, h) Q) : zwp E d j (pc, L, .int (zB b) :: st, h) Q :=
  zr_if_eq hi ht (fun q => K1 ((zB_ne b).mp q)) (fun q => K2 (by cases b with | true => rfl | false => exact absurd rfl q))
theorem zr_if_neB {b : Bool} {off : Int} {t : Nat} (hi : zat j pc (.ifCond .ne off) pc' x) (ht : ztg pc off = t) (K1 : b = true → zwp E d j (t, L, st, h) Q) (K2 : b = false → zwp E d j (pc', L, st, h) Q) : zwp E d j (pc, L, .int (zB b) :: st, h) Q :=
  zr_if_ne hi ht (fun q => K1 (by cases b with | true => rfl | false => exact absurd rfl q)) (fun q => K2 ((zB_ne b).mp q))
theorem zr_ialoadN {a t : Nat} {l : List Int32} {i : Nat} (hi : zat j pc .iaload pc' x) (hc : h.1 a = some (t, zis l)) (ht : (Nat.beq t 64 || Nat.beq t 96) = true) (hj : i < 2147483648) (hb : i < l.length) (K : zwp E d j (pc', L, .int (l.getD i 0) :: st, h) Q) : zwp E d j (pc, L, .int (zJ i) :: .ref a :: st, h) Q :=
  zr_iaload hi hc ht ⟨zJ_nn hj, by rw [zJ_c hj]; exact hb⟩ (by rw [zJ_c hj]; exact K)
theorem zr_baloadN {a : Nat} {l : List Int32} {i : Nat} (hi : zat j pc .baload pc' x) (hc : h.1 a = some (65, zis l)) (hj : i < 2147483648) (hb : i < l.length) (K : zwp E d j (pc', L, .int (l.getD i 0) :: st, h) Q) : zwp E d j (pc, L, .int (zJ i) :: .ref a :: st, h) Q :=
  zr_baload hi hc ⟨zJ_nn hj, by rw [zJ_c hj]; exact hb⟩ (by rw [zJ_c hj]; exact K)
theorem zr_aaloadN {a t : Nat} {vs : List Value} {w : Value} {i : Nat} (hi : zat j pc .aaload pc' x) (hc : h.1 a = some (t, vs)) (ht : (Nat.ble 66 t && Nat.ble t 69) = true) (hj : i < 2147483648) (hb : vs[i]? = some w) (K : zwp E d j (pc', L, w :: st, h) Q) : zwp E d j (pc, L, .int (zJ i) :: .ref a :: st, h) Q :=
  zr_aaload hi hc ht ⟨zJ_nn hj, by rw [zJ_c hj]; exact hb⟩ K
theorem zr_iastoreN {a : Nat} {l : List Int32} {i : Nat} {v : Int32} (hi : zat j pc .iastore pc' x) (hc : h.1 a = some (64, zis l)) (hj : i < 2147483648) (hb : i < l.length) (K : zwp E d j (pc', L, st, zset h a (64, zis (l.set i v))) Q) : zwp E d j (pc, L, .int v :: .int (zJ i) :: .ref a :: st, h) Q :=
  zr_iastore hi hc ⟨zJ_nn hj, by rw [zJ_c hj]; exact hb⟩ (by rw [zJ_c hj]) K
theorem zr_aastoreN {a b t tb : Nat} {vs ws : List Value} {w : Value} {i : Nat} (hi : zat j pc .aastore pc' x) (hc : h.1 a = some (t, vs)) (hcb : h.1 b = some (tb, ws)) (ht : zasg t tb = true) (hj : i < 2147483648) (hb : vs[i]? = some w) (K : zwp E d j (pc', L, st, zset h a (t, vs.set i (.ref b))) Q) : zwp E d j (pc, L, .ref b :: .int (zJ i) :: .ref a :: st, h) Q :=
  zr_aastore hi hc hcb ht ⟨zJ_nn hj, by rw [zJ_c hj]; exact hb⟩ (by rw [zJ_c hj]) K
theorem zr_aastoreNN {a t : Nat} {vs : List Value} {w : Value} {i : Nat} (hi : zat j pc .aastore pc' x) (hc : h.1 a = some (t, vs)) (ht : (Nat.beq t 68 || Nat.beq t 69) = true) (hj : i < 2147483648) (hb : vs[i]? = some w) (K : zwp E d j (pc', L, st, zset h a (t, vs.set i .null)) Q) : zwp E d j (pc, L, .null :: .int (zJ i) :: .ref a :: st, h) Q :=
  zr_aastore_N hi hc ht ⟨zJ_nn hj, by rw [zJ_c hj]; exact hb⟩ (by rw [zJ_c hj]) K
theorem zr_newarrayN {at' : ArrayType} {t n a1 a2 : Nat} {a3 : Value} {y : Nat} (hi : zat j pc (.newarray at') pc' (t, n, a1, a2, a3)) (hl : y ≤ 1000000) (ht : Nat.blt t 66 = true) (K : zwp E d j (pc', L, .ref h.2.1 :: st, zalloc h (t, zis (List.replicate y 0)) y) Q) : zwp E d j (pc, L, .int (zJ y) :: st, h) Q :=
  zr_newarray hi (zJ_nn (by omega)) (by rw [zJ_c (by omega)]; exact hl) ht (by rw [zJ_c (by omega)]; exact K)
theorem zr_anewarrayN {k t n a1 a2 : Nat} {a3 : Value} {y : Nat} (hi : zat j pc (.anewarray k) pc' (t, n, a1, a2, a3)) (hl : y ≤ 1000000) (K : zwp E d j (pc', L, .ref h.2.1 :: st, zalloc h (t, List.replicate y .null) y) Q) : zwp E d j (pc, L, .int (zJ y) :: st, h) Q :=
  zr_anewarray hi (zJ_nn (by omega)) (by rw [zJ_c (by omega)]; exact hl) (by rw [zJ_c (by omega)]; exact K)
theorem zr_mul2N {k dd n a1 a2 : Nat} {a3 : Value} {y z : Nat} (hi : zat j pc (.multianewarray k dd) pc' (2, n, a1, a2, a3)) (ly : y ≤ 1000) (lz : z ≤ 1000) (K : zwp E d j (pc', L, .ref h.2.1 :: st, zalloc2 h z y) Q) : zwp E d j (pc, L, .int (zJ y) :: .int (zJ z) :: st, h) Q :=
  zr_mul2 hi (zJ_nn (by omega)) (zJ_nn (by omega)) (by rw [zJ_c (by omega)]; exact ly) (by rw [zJ_c (by omega)]; exact lz) (by rw [zJ_c (by omega), zJ_c (by omega)]; exact K)
theorem zr_mul3N {k dd n a1 a2 : Nat} {a3 : Value} {q y z : Nat} (hi : zat j pc (.multianewarray k dd) pc' (3, n, a1, a2, a3)) (lq : q ≤ 1000) (ly : y ≤ 1000) (lz : z ≤ 1000) (K : zwp E d j (pc', L, .ref h.2.1 :: st, zalloc3 h z y q) Q) : zwp E d j (pc, L, .int (zJ q) :: .int (zJ y) :: .int (zJ z) :: st, h) Q :=
  zr_mul3 hi (zJ_nn (by omega)) (zJ_nn (by omega)) (zJ_nn (by omega)) (by rw [zJ_c (by omega)]; exact lq) (by rw [zJ_c (by omega)]; exact ly) (by rw [zJ_c (by omega)]; exact lz) (by rw [zJ_c (by omega), zJ_c (by omega), zJ_c (by omega)]; exact K)
theorem zr_copyN {k nn t a3 a b : Nat} {a4 : Value} {f g : List Int32} {sp dp q : Nat} (hi : zat j pc (.invokestatic k) pc' (21, nn, t, a3, a4)) (ha : h.1 a = some (64, zis f)) (hb : h.1 b = some (64, zis g)) (hs : sp < 2147483648 ∧ dp < 2147483648 ∧ q < 2147483648) (h1 : sp + q ≤ f.length) (h2 : dp + q ≤ g.length) (hw : Nat.ble (zwt st) 8 = true)
    (K : zwp E d j (pc', L, st, zset h b (64, zis (zcpi f g sp dp q))) Q) : zwp E d j (pc, L, .int (zJ q) :: .int (zJ dp) :: .ref b :: .int (zJ sp) :: .ref a :: st, h) Q :=
  zr_copy hi ha hb (zJ_nn hs.2.2) (zJ_nn hs.2.1) (zJ_nn hs.1) (by rw [zJ_c hs.1, zJ_c hs.2.2]; exact h1) (by rw [zJ_c hs.2.1, zJ_c hs.2.2]; exact h2) hw (by rw [zJ_c hs.1, zJ_c hs.2.1, zJ_c hs.2.2]; exact K)
theorem zr_zreturnB {b : Bool} (hi : zat j pc .ireturn pc' x) (hr : zrt j = some .boolean) (K : Q (.inl (some (.int (zB b)))) h) : zwp E d j (pc, L, [.int (zB b)], h) Q := zr_zreturn hi hr (zB_01 b) K
theorem zbk_v {v : Value} (K : zwp E d j (pc', L, v :: r, h) Q) : zbk E d j pc pc' L r Q (.inl (some v)) h := K
theorem zbk_0 (K : zwp E d j (pc', L, r, h) Q) : zbk E d j pc pc' L r Q (.inl none) h := K
end ZN
/-! ### blocks and frames -/
def yBk (h : zPH) (b : Nat) (ws : List zCel) : Prop := b + ws.length ≤ h.2.1 ∧ ∀ k c, ws[k]? = some c → h.1 (b + k) = some c
theorem yBk.at {h : zPH} {b : Nat} {ws : List zCel} (G : yBk h b ws) (k : Nat) {c : zCel} (hk : ws[k]? = some c) : h.1 (b + k) = some c := G.2 k c hk
theorem yBk.at0 {h : zPH} {b : Nat} {ws : List zCel} (G : yBk h b ws) {c : zCel} (hk : ws[0]? = some c) : h.1 b = some c := G.2 0 c hk
/-- since h nothing old has changed but P's; so many cells and slots are new -/
def yFr (P : Nat → Prop) (h h' : zPH) (m s : Nat) : Prop := (∀ a, a < h.2.1 → (¬ P a ∨ ∃ t vs, h.1 a = some (t, vs) ∧ 96 ≤ t) → h'.1 a = h.1 a) ∧ h.2.1 ≤ h'.2.1 ∧ h'.2.1 ≤ h.2.1 + m ∧ h.2.2 ≤ h'.2.2 ∧ h'.2.2 ≤ h.2.2 + s
def yIv (b n : Nat) (a : Nat) : Prop := b ≤ a ∧ a < b + n
theorem yFr.refl (P : Nat → Prop) (h : zPH) : yFr P h h 0 0 := ⟨fun _ _ _ => rfl, Nat.le_refl _, Nat.le_refl _, Nat.le_refl _, Nat.le_refl _⟩
theorem yFr.trans {P : Nat → Prop} {h h1 h2 : zPH} {m s m' s' : Nat} (F : yFr P h h1 m s) (F' : yFr P h1 h2 m' s') : yFr P h h2 (m + m') (s + s') := by
  obtain ⟨a1, a2, a3, a4, a5⟩ := F
  obtain ⟨b1, b2, b3, b4, b5⟩ := F'
  refine ⟨fun a ha hp => ?_, by omega, by omega, by omega, by omega⟩
  have e := a1 a ha hp
  rw [← e]
  refine b1 a (by omega) ?_
  rw [e]
  exact hp
theorem yFr.mono {P P' : Nat → Prop} {h h' : zPH} {m s m' s' : Nat} (F : yFr P h h' m s) (hP : ∀ a, a < h.2.1 → P a → P' a) (hm : m ≤ m') (hs : s ≤ s') : yFr P' h h' m' s' := by
  obtain ⟨a1, a2, a3, a4, a5⟩ := F
  refine ⟨fun a ha hp => a1 a ha (hp.imp (fun q p => q (hP a ha p)) id), by omega, by omega, by omega, by omega⟩
theorem yFr.set {P : Nat → Prop} {h : zPH} {a t : Nat} {vs : List Value} {c : zCel} (ha : h.1 a = some (t, vs)) (ht : t < 96) (hp : P a) : yFr P h (zset h a c) 0 0 := by
  refine ⟨fun b _ hb => zset_ne ?_ rfl, Nat.le_refl _, Nat.le_refl _, Nat.le_refl _, Nat.le_refl _⟩
  rintro rfl
  rcases hb with hb | ⟨t', vs', h1, h2⟩
  · exact hb hp
  · rw [ha] at h1
    cases h1
    omega
theorem yFr.alloc (P : Nat → Prop) (h : zPH) (c : zCel) (n : Nat) : yFr P h (zalloc h c n) 1 n :=
  ⟨fun b hb _ => zalloc_ne (Nat.ne_of_lt hb) rfl, Nat.le_succ _, Nat.le_refl _, Nat.le_add_right _ _, Nat.le_refl _⟩
theorem yFr.ex (P : Nat → Prop) (h : zPH) : yFr P h (zex h) 1 6 := ⟨fun _ _ _ => rfl, Nat.le_succ _, Nat.le_refl _, Nat.le_add_right _ _, Nat.le_refl _⟩
theorem yFr.bk {P : Nat → Prop} {h h' : zPH} {m s b : Nat} {ws : List zCel} (F : yFr P h h' m s) (G : yBk h b ws) (hd : ∀ a, b ≤ a → a < b + ws.length → ¬ P a) : yBk h' b ws := by
  refine ⟨Nat.le_trans G.1 F.2.1, fun k c hk => ?_⟩
  have hl : k < ws.length := by
    rcases Nat.lt_or_ge k ws.length with q | q
    · exact q
    · rw [List.getElem?_eq_none q] at hk; cases hk
  have h0 := G.1
  rw [F.1 (b + k) (by omega) (Or.inl (hd _ (by omega) (by omega)))]
  exact G.2 k c hk
theorem yFr.big {P : Nat → Prop} {h h' : zPH} {m s a t : Nat} {vs : List Value} (F : yFr P h h' m s) (hl : a < h.2.1) (ha : h.1 a = some (t, vs)) (ht : 96 ≤ t) : h'.1 a = some (t, vs) := by
  rw [F.1 a hl (Or.inr ⟨t, vs, ha, ht⟩)]
  exact ha
theorem yBk.set {h : zPH} {b k : Nat} {ws : List zCel} {c : zCel} (G : yBk h b ws) : yBk (zset h (b + k) c) b (ws.set k c) := by
  refine ⟨by rw [List.length_set]; exact G.1, fun i e he => ?_⟩
  by_cases hi : i = k
  · subst hi
    have hl : i < ws.length := by
      rcases Nat.lt_or_ge i ws.length with q | q
      · exact q
      · rw [List.getElem?_eq_none (by rw [List.length_set]; exact q)] at he; cases he
    rw [List.getElem?_set_self hl] at he
    cases he
    exact zset_at
  · rw [List.getElem?_set_ne (fun q => hi q.symm)] at he
    exact zset_ne (by omega) (G.2 i e he)
theorem yBk.set0 {h : zPH} {b : Nat} {ws : List zCel} {c : zCel} (G : yBk h b ws) : yBk (zset h b c) b (ws.set 0 c) := yBk.set (k := 0) G
theorem yBk.sub {h : zPH} {b : Nat} {ws : List zCel} (G : yBk h b ws) (k : Nat) (vs : List zCel) (hv : (ws.drop k).take vs.length = vs) (hk : k + vs.length ≤ ws.length) : yBk h (b + k) vs := by
  have h0 := G.1
  refine ⟨by omega, fun i c hi => ?_⟩
  rw [Nat.add_assoc]
  refine G.2 (k + i) c ?_
  rw [← hv] at hi
  rw [List.getElem?_take] at hi
  split at hi
  · rw [List.getElem?_drop] at hi
    exact hi
  · cases hi
theorem yBk.put {P : Nat → Prop} {h h' : zPH} {b k m s : Nat} {ws vs ws' : List zCel} (G : yBk h b ws) (F : yFr P h h' m s) (hd : ∀ a, b ≤ a → a < b + ws.length → P a → b + k ≤ a ∧ a < b + k + vs.length) (V : yBk h' (b + k) vs) (hw : ws' = ws.take k ++ (vs ++ ws.drop (k + vs.length))) (hk : k + vs.length ≤ ws.length) : yBk h' b ws' := by
  have h0 := G.1
  have h1 := F.2.1
  subst hw
  refine ⟨by simp only [List.length_append, List.length_take, List.length_drop]; omega, fun i c hi => ?_⟩
  by_cases h2 : i < k
  · rw [List.getElem?_append_left (by rw [List.length_take]; omega), List.getElem?_take, if_pos h2] at hi
    have hl : i < ws.length := by omega
    rw [F.1 (b + i) (by omega) (Or.inl (fun q => by have := hd _ (by omega) (by omega) q; omega))]
    exact G.2 i c hi
  · rw [List.getElem?_append_right (by rw [List.length_take]; omega), List.length_take, Nat.min_eq_left (by omega)] at hi
    by_cases h3 : i < k + vs.length
    · rw [List.getElem?_append_left (by omega)] at hi
      have := V.2 (i - k) c hi
      rw [show b + k + (i - k) = b + i by omega] at this
      exact this
    · rw [List.getElem?_append_right (by omega), List.getElem?_drop, show k + vs.length + (i - k - vs.length) = i by omega] at hi
      have hl : i < ws.length := by
        rcases Nat.lt_or_ge i ws.length with q | q
        · exact q
        · rw [List.getElem?_eq_none q] at hi; cases hi
      rw [F.1 (b + i) (by omega) (Or.inl (fun q => by have := hd _ (by omega) (by omega) q; omega))]
      exact G.2 i c hi
/-- the statics -/
def ySs (E : zEnv) (h : zPH) : Prop := (∃ a, E.1 0 = .ref a ∧ a < h.2.1 ∧ h.1 a = some (96, zis zSH)) ∧ (∃ a, E.1 1 = .ref a ∧ a < h.2.1 ∧ h.1 a = some (96, zis zDK)) ∧ E.1 2 = .int 1 ∧ (∃ a, E.1 3 = .ref a ∧ a < h.2.1 ∧ h.1 a = some (101, []))
theorem yFr.ss {E : zEnv} {P : Nat → Prop} {h h' : zPH} {m s : Nat} (F : yFr P h h' m s) (S : ySs E h) : ySs E h' := by
  obtain ⟨⟨a, a1, a2, a3⟩, ⟨b, b1, b2, b3⟩, c, ⟨e, e1, e2, e3⟩⟩ := S
  have h1 := F.2.1
  exact ⟨⟨a, a1, Nat.lt_of_lt_of_le a2 h1, F.big a2 a3 (by omega)⟩, ⟨b, b1, Nat.lt_of_lt_of_le b2 h1, F.big b2 b3 (by omega)⟩, c, ⟨e, e1, Nat.lt_of_lt_of_le e2 h1, F.big e2 e3 (by omega)⟩⟩
