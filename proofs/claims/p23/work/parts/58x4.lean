/-! ===== ways counted ===== -/
theorem zpp_ct {f : Nat → Bool} {g : Nat → Nat} {x : Int32} (h0 : g 0 = 0) (hs : ∀ k, g (k + 1) = if f k = true then g k + 1 else g k) (k : Nat) (hf : ∀ j, j < k → zbit x j = f j) : zpp k x.toBitVec.toNat = g k := by
  induction k with
  | zero => exact h0.symm
  | succ k ih =>
    have hb : x.toBitVec.toNat / 2 ^ k % 2 = if f k = true then 1 else 0 := by
      rw [← hf k (by omega)]
      show _ = if x.toBitVec.toNat.testBit k = true then 1 else 0
      rw [Nat.testBit_eq_decide_div_mod_eq]
      have := Nat.mod_two_eq_zero_or_one (x.toBitVec.toNat / 2 ^ k)
      rcases this with z | z <;> rw [z] <;> decide
    rw [zpp_top, ih (fun j hj => hf j (by omega)), hb, hs]
    split <;> rfl
theorem zpp_up (x : Int32) (k : Nat) (hk : k ≤ 32) (h : ∀ j, k ≤ j → zbit x j = false) : zpp 32 x.toBitVec.toNat = zpp k x.toBitVec.toNat := by
  have : ∀ m, zpp (k + m) x.toBitVec.toNat = zpp k x.toBitVec.toNat := by
    intro m
    induction m with
    | zero => rfl
    | succ m ih =>
      have hb : x.toBitVec.toNat / 2 ^ (k + m) % 2 = 0 := by
        have h1 : x.toBitVec.toNat.testBit (k + m) = false := h (k + m) (by omega)
        rw [Nat.testBit_eq_decide_div_mod_eq, decide_eq_false_iff_not] at h1
        omega
      rw [← Nat.add_assoc, zpp_top, ih, hb]
      rfl
  have h2 := this (32 - k)
  rw [show k + (32 - k) = 32 by omega] at h2
  exact h2
/-- how many ways a line has -/
theorem zbc_ws {w hh : Nat} {cs fs x0 cl : List Int32} {i : Nat} (R : zLr w hh cs x0) (hd : 2 ≤ w ∧ w ≤ 5 ∧ 2 ≤ hh ∧ hh ≤ 5) (hi : i < w + hh) (hf : zLn w hh fs cl i) : zbc (zws w hh cs fs i) = zJ (rcw w hh x0 cl i) := by
  have hp := zpow5 (yln_b i hd).2
  have h1 : ∀ j, 2 ^ yln w hh i ≤ j → zbit (zws w hh cs fs i) j = false := fun j hj => by
    cases h2 : zbit (zws w hh cs fs i) j with
    | false => rfl
    | true =>
      have := ((zws_iff R hd hi hf j).mp h2).1
      omega
  have h2 : ∀ j, j < 2 ^ yln w hh i → zbit (zws w hh cs fs i) j = riw w hh x0 cl i j := fun j hj => by
    have h := zws_iff R hd hi hf j
    cases h1 : riw w hh x0 cl i j with
    | true => exact h.mpr ⟨hj, h1⟩
    | false =>
      cases h2 : zbit (zws w hh cs fs i) j with
      | false => rfl
      | true => rw [(h.mp h2).2] at h1; cases h1
  rw [zbc_pp, zpp_up _ _ hp h1, zpp_ct (f := riw w hh x0 cl i) (g := rct w hh x0 cl i) rfl (fun k => rfl) _ h2]
  rfl
