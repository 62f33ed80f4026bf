/-! ===== the grid: what its cells hold, what its methods answer ===== -/
def gC (g w hh : Nat) (cs cl fs : List Int32) : List zCel := [(1, [.ref (g + 1), .ref (g + 2), .ref (g + 3), .int (zJ w), .int (zJ hh)]), (64, zis cs), (64, zis cl), (64, zis fs)]
def yG (h : zPH) (g w hh : Nat) (cs cl fs : List Int32) : Prop := yBk h g (gC g w hh cs cl fs) ∧ (2 ≤ w ∧ w ≤ 5 ∧ 2 ≤ hh ∧ hh ≤ 5) ∧ cs.length = 100 ∧ cl.length = 10 ∧ fs.length = 10
theorem zlenJ {l : List Int32} {n : Nat} (h : l.length = n) : Int32.ofNat (zis l).length = zJ n := by rw [zis_len, h]; rfl
section ZW
variable {E : zEnv} {d j pc : Nat} {L : zLc} {st : List Value} {h : zPH} {Q : zOut → zPH → Prop}
theorem zw_bk {b k t : Nat} {ws : List zCel} {vs : List Value} {c : zCel} (G : yBk h b ws) (hk : ws[k]? = some (t, vs)) (ht : t < 96) (K : ∀ h1, yFr (yIv b ws.length) h h1 0 0 → yBk h1 b (ws.set k c) → zwp E d j (pc, L, st, h1) Q) : zwp E d j (pc, L, st, zset h (b + k) c) Q := by
  refine K _ (yFr.set (G.2 k _ hk) ht ?_) G.set
  have hl : k < ws.length := by
    rcases Nat.lt_or_ge k ws.length with q | q
    · exact q
    · rw [List.getElem?_eq_none q] at hk; cases hk
  exact ⟨by omega, by omega⟩
theorem yG.wcs {g w hh : Nat} {cs cl fs cs' : List Int32} (G : yG h g w hh cs cl fs) (hl : cs'.length = 100) (K : ∀ h1, yFr (yIv g 4) h h1 0 0 → yG h1 g w hh cs' cl fs → zwp E d j (pc, L, st, h1) Q) : zwp E d j (pc, L, st, zset h (g + 1) (64, zis cs')) Q :=
  zw_bk G.1 (k := 1) rfl (by omega) fun h1 F G1 => K h1 F ⟨G1, G.2.1, hl, G.2.2.2.1, G.2.2.2.2⟩
theorem yG.wcl {g w hh : Nat} {cs cl fs cl' : List Int32} (G : yG h g w hh cs cl fs) (hl : cl'.length = 10) (K : ∀ h1, yFr (yIv g 4) h h1 0 0 → yG h1 g w hh cs cl' fs → zwp E d j (pc, L, st, h1) Q) : zwp E d j (pc, L, st, zset h (g + 2) (64, zis cl')) Q :=
  zw_bk G.1 (k := 2) rfl (by omega) fun h1 F G1 => K h1 F ⟨G1, G.2.1, G.2.2.1, hl, G.2.2.2.2⟩
theorem yG.wfs {g w hh : Nat} {cs cl fs fs' : List Int32} (G : yG h g w hh cs cl fs) (hl : fs'.length = 10) (K : ∀ h1, yFr (yIv g 4) h h1 0 0 → yG h1 g w hh cs cl fs' → zwp E d j (pc, L, st, h1) Q) : zwp E d j (pc, L, st, zset h (g + 3) (64, zis fs')) Q :=
  zw_bk G.1 (k := 3) rfl (by omega) fun h1 F G1 => K h1 F ⟨G1, G.2.1, G.2.2.1, G.2.2.2.1, hl⟩
theorem yG.wob {g w hh w' hh' : Nat} {cs cl fs : List Int32} (G : yG h g w hh cs cl fs) (hl : 2 ≤ w' ∧ w' ≤ 5 ∧ 2 ≤ hh' ∧ hh' ≤ 5) (K : ∀ h1, yFr (yIv g 4) h h1 0 0 → yG h1 g w' hh' cs cl fs → zwp E d j (pc, L, st, h1) Q) : zwp E d j (pc, L, st, zset h g (1, [.ref (g + 1), .ref (g + 2), .ref (g + 3), .int (zJ w'), .int (zJ hh')])) Q :=
  zw_bk G.1 (k := 0) rfl (by omega) fun h1 F G1 => K h1 F ⟨G1, hl, G.2.2⟩
end ZW
theorem yG.fr {P : Nat → Prop} {h h' : zPH} {m s g w hh : Nat} {cs cl fs : List Int32} (G : yG h g w hh cs cl fs) (F : yFr P h h' m s) (hd : ∀ a, g ≤ a → a < g + 4 → ¬ P a) : yG h' g w hh cs cl fs := ⟨F.bk G.1 hd, G.2⟩
/-- a loop that counts up -/
theorem zloop {P : Nat → Prop} {n : Nat} (hs : ∀ k, k ≤ n → (k < n → P (k + 1)) → P k) : P 0 := by
  have : ∀ k, k ≤ n → P k := by
    intro k hk
    induction h : n - k generalizing k with
    | zero => exact hs k hk (fun q => by omega)
    | succ m ih => exact hs k hk (fun q => ih (k + 1) (by omega) (by omega))
  exact this 0 (Nat.zero_le _)
/-- a loop whose measure falls -/
theorem zfall {P : Nat → Prop} (hs : ∀ k, (∀ i, i < k → P i) → P k) (k : Nat) : P k := by
  induction k using Nat.strongRecOn with
  | ind k ih => exact hs k ih
def yln (w hh i : Nat) : Nat := if i < hh then w else hh
theorem yln_b {w hh : Nat} (i : Nat) (h : 2 ≤ w ∧ w ≤ 5 ∧ 2 ≤ hh ∧ hh ≤ 5) : 2 ≤ yln w hh i ∧ yln w hh i ≤ 5 := by
  unfold yln
  split <;> omega
def ycl (w hh i p : Nat) : Nat := if i < hh then i * w + p else p * w + i - hh
theorem ycl_b {w hh i p : Nat} (hi : i < w + hh) (hp : p < yln w hh i) : ycl w hh i p < w * hh := by
  unfold ycl
  unfold yln at hp
  split
  · rename_i q
    rw [if_pos q] at hp
    calc i * w + p < i * w + w := by omega
      _ = (i + 1) * w := by rw [Nat.add_mul, Nat.one_mul]
      _ ≤ hh * w := Nat.mul_le_mul_right w q
      _ = w * hh := Nat.mul_comm _ _
  · rename_i q
    rw [if_neg q] at hp
    have h1 : p * w + w ≤ w * hh := by
      rw [← Nat.succ_mul, Nat.mul_comm w hh]
      exact Nat.mul_le_mul_right w hp
    omega
theorem zwh_b {w hh : Nat} (h : 2 ≤ w ∧ w ≤ 5 ∧ 2 ≤ hh ∧ hh ≤ 5) : 4 ≤ w * hh ∧ w * hh ≤ 25 :=
  ⟨Nat.mul_le_mul h.1 h.2.2.1, Nat.mul_le_mul h.2.1 h.2.2.2⟩
abbrev zst (cs : List Int32) (c : Nat) : Int32 := cs.getD (c * 4) 0
def zpt (cs : List Int32) (c : Nat) (s r o e : Int32) : List Int32 := (((cs.set (c * 4) s).set (c * 4 + 1) r).set (c * 4 + 2) o).set (c * 4 + 3) e
theorem zpt_len (cs : List Int32) (c : Nat) (s r o e : Int32) : (zpt cs c s r o e).length = cs.length := by simp [zpt]
abbrev zDA (p : Nat) : Int32 := zDK.getD p 0
abbrev zSA (p : Nat) : Int32 := zSH.getD p 0
abbrev zush (a b : Int32) : Int32 := (a.toUInt32 >>> (b.toUInt32 &&& Int32.toUInt32 31)).toInt32
abbrev zshl (a b : Int32) : Int32 := a <<< (b &&& 31)
theorem zJ_shl (a b : Nat) (hb : b < 32) : zJ a <<< (zJ b &&& 31) = zJ (a * 2 ^ b) := by
  have h1 : zJ b &&& 31 = zJ b := by
    have : ∀ b : Fin 32, zJ b.val &&& 31 = zJ b.val := by decide
    exact this ⟨b, hb⟩
  rw [h1]
  have h2 : (zJ b).toBitVec.smod 32 = BitVec.ofNat 32 b := by
    have : ∀ b : Fin 32, (zJ b.val).toBitVec.smod 32 = BitVec.ofNat 32 b.val := by decide
    exact this ⟨b, hb⟩
  apply Int32.toBitVec.inj
  show (zJ a).toBitVec <<< ((zJ b).toBitVec.smod 32) = _
  rw [h2]
  show (BitVec.ofNat 32 a) <<< (BitVec.ofNat 32 b) = BitVec.ofNat 32 (a * 2 ^ b)
  apply BitVec.eq_of_toNat_eq
  simp only [BitVec.toNat_shiftLeft, BitVec.shiftLeft_eq', BitVec.toNat_ofNat, Nat.shiftLeft_eq]
  rw [Nat.mod_eq_of_lt (show b < 2 ^ 32 by omega)]
  rw [Nat.mod_mul_mod]
theorem zr_ishlN {E : zEnv} {d j pc pc' : Nat} {L : zLc} {st : List Value} {h : zPH} {Q : zOut → zPH → Prop} {x : zAux} {a b : Nat} (hi : zat j pc (.ishl) pc' x) (hb : b < 32) (K : zwp E d j (pc', L, .int (zJ (a * 2 ^ b)) :: st, h) Q) : zwp E d j (pc, L, .int (zJ b) :: .int (zJ a) :: st, h) Q := zr_ishl hi (by rw [zJ_shl a b hb]; exact K)
/-- a bit of a set -/
def zbit (x : Int32) (n : Nat) : Bool := x.toBitVec.getLsbD n
theorem zbit_iff (x : Int32) {n : Nat} (hn : n < 32) : (zush x (zJ n) &&& zJ 1 = zJ 1) ↔ zbit x n = true := by
  have h1 : (zJ n).toUInt32 &&& Int32.toUInt32 31 = UInt32.ofNat n := by
    have : ∀ b : Fin 32, (zJ b.val).toUInt32 &&& Int32.toUInt32 31 = UInt32.ofNat b.val := by decide
    exact this ⟨n, hn⟩
  unfold zush zbit
  rw [h1]
  rw [← Int32.toBitVec_inj]
  show x.toBitVec >>> ((UInt32.ofNat n).toBitVec % 32) &&& 1#32 = 1#32 ↔ _
  have h2 : (UInt32.ofNat n).toBitVec % 32 = BitVec.ofNat 32 n := by
    have : ∀ b : Fin 32, (UInt32.ofNat b.val).toBitVec % 32 = BitVec.ofNat 32 b.val := by decide
    exact this ⟨n, hn⟩
  rw [h2]
  have h3 : (x.toBitVec >>> (BitVec.ofNat 32 n) &&& 1#32) = if x.toBitVec.getLsbD n then 1#32 else 0#32 := by
    apply BitVec.eq_of_getLsbD_eq
    intro i hi
    rw [BitVec.getLsbD_and, BitVec.ushiftRight_eq', BitVec.getLsbD_ushiftRight, BitVec.toNat_ofNat, Nat.mod_eq_of_lt (show n < 2 ^ 32 by omega)]
    by_cases h0 : i = 0
    · subst h0
      cases hx : x.toBitVec.getLsbD n <;> simp [hx]
    · have : (1#32).getLsbD i = false := by
        rw [BitVec.getLsbD_one]
        simp [h0]
      rw [this]
      cases x.toBitVec.getLsbD n <;> simp [this]
  rw [h3]
  cases x.toBitVec.getLsbD n <;> simp
