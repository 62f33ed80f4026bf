/-! ===== the reference: a board's cells ===== -/
/-- the core of a board: its row, rows (what cells are, reasons, rounds, depths), clues -/
def rB (h : zPH) (b r c g w hh : Nat) (x0 x1 x2 x3 cl : List Int32) (mi sp : Int32) : Prop :=
  yBk h b [(9, [.int (zJ w), .int (zJ hh), .ref r, .ref c, .ref g, .int mi, .int sp])] ∧ yBk h r [(66, [.ref (r + 1), .ref (r + 2), .ref (r + 3), .ref (r + 4)]), (64, zis x0), (64, zis x1), (64, zis x2), (64, zis x3)] ∧ yBk h c [(64, zis cl)] ∧
  (2 ≤ w ∧ w ≤ 5 ∧ 2 ≤ hh ∧ hh ≤ 5) ∧ (x0.length = w * hh ∧ x1.length = w * hh ∧ x2.length = w * hh ∧ x3.length = w * hh ∧ cl.length = w + hh) ∧ ((b + 1 ≤ r ∨ r + 5 ≤ b) ∧ (b + 1 ≤ c ∨ c + 1 ≤ b) ∧ (r + 5 ≤ c ∨ c + 1 ≤ r))
section RB
variable {h : zPH} {b r c g w hh : Nat} {x0 x1 x2 x3 cl : List Int32} {mi sp : Int32}
theorem rB.rw (P : rB h b r c g w hh x0 x1 x2 x3 cl mi sp) : yBk h r [(66, [.ref (r + 1), .ref (r + 2), .ref (r + 3), .ref (r + 4)]), (64, zis x0), (64, zis x1), (64, zis x2), (64, zis x3)] := P.2.1
theorem rB.ca (P : rB h b r c g w hh x0 x1 x2 x3 cl mi sp) : yBk h c [(64, zis cl)] := P.2.2.1
/-- a board's own places -/
def rP (b r c x : Nat) : Prop := yIv b 1 x ∨ yIv r 5 x ∨ yIv c 1 x
theorem rB.fr {A : Nat → Prop} {h' : zPH} {m s : Nat} (P : rB h b r c g w hh x0 x1 x2 x3 cl mi sp) (F : yFr A h h' m s) (hd : ∀ x, rP b r c x → ¬ A x) : rB h' b r c g w hh x0 x1 x2 x3 cl mi sp :=
  ⟨F.bk P.1 (fun x z1 z2 => hd x (Or.inl ⟨z1, z2⟩)), F.bk P.2.1 (fun x z1 z2 => hd x (Or.inr (Or.inl ⟨z1, z2⟩))), F.bk P.2.2.1 (fun x z1 z2 => hd x (Or.inr (Or.inr ⟨z1, z2⟩))), P.2.2.2⟩
theorem rB.lt (P : rB h b r c g w hh x0 x1 x2 x3 cl mi sp) : b < h.2.1 ∧ r + 5 ≤ h.2.1 ∧ c < h.2.1 := ⟨P.1.1, P.2.1.1, P.2.2.1.1⟩
end RB
theorem zbits_iff (x : Int32) {n : Nat} (hn : n < 32) : (x >>> (zJ n &&& 31) &&& zJ 1 = zJ 1) ↔ zbit x n = true := by
  have h1 : (zJ n &&& 31).toBitVec.smod 32 = BitVec.ofNat 32 n := by
    have : ∀ b : Fin 32, (zJ b.val &&& 31).toBitVec.smod 32 = BitVec.ofNat 32 b.val := by decide
    exact this ⟨n, hn⟩
  unfold zbit
  rw [← Int32.toBitVec_inj]
  show BitVec.sshiftRight' x.toBitVec ((zJ n &&& 31).toBitVec.smod 32) &&& 1#32 = 1#32 ↔ _
  rw [h1]
  have h3 : (BitVec.sshiftRight' x.toBitVec (BitVec.ofNat 32 n) &&& 1#32) = if x.toBitVec.getLsbD n then 1#32 else 0#32 := by
    apply BitVec.eq_of_getLsbD_eq
    intro i hi
    rw [BitVec.getLsbD_and]
    by_cases h0 : i = 0
    · subst h0
      have : (BitVec.sshiftRight' x.toBitVec (BitVec.ofNat 32 n)).getLsbD 0 = x.toBitVec.getLsbD n := by
        show (BitVec.sshiftRight x.toBitVec (BitVec.ofNat 32 n).toNat).getLsbD 0 = _
        rw [BitVec.getLsbD_sshiftRight, BitVec.toNat_ofNat, Nat.mod_eq_of_lt (show n < 2 ^ 32 by omega)]
        simp [hn]
      rw [this]
      cases hx : x.toBitVec.getLsbD n <;> simp
    · have : (1#32).getLsbD i = false := by
        rw [BitVec.getLsbD_one]
        simp [h0]
      rw [this]
      cases x.toBitVec.getLsbD n <;> simp [this]
  rw [h3]
  cases x.toBitVec.getLsbD n <;> simp
/-- all below n -/
def rall (f : Nat → Bool) : Nat → Bool
  | 0 => true
  | k + 1 => rall f k && f k
theorem rall_no {f : Nat → Bool} {n k : Nat} (hk : k < n) (hf : f k = false) : rall f n = false := by
  induction n with
  | zero => omega
  | succ n ih =>
    rw [rall]
    by_cases q : k = n
    · rw [← q, hf, Bool.and_false]
    · rw [ih (by omega), Bool.false_and]
theorem rall_iff (f : Nat → Bool) (n : Nat) : rall f n = true ↔ ∀ i, i < n → f i = true := by
  induction n with
  | zero => simp [rall]
  | succ n ih =>
    rw [rall, Bool.and_eq_true, ih]
    constructor
    · rintro ⟨h1, h2⟩ i hi
      rcases Nat.lt_or_ge i n with q | q
      · exact h1 i q
      · rw [show i = n by omega]; exact h2
    · exact fun h1 => ⟨fun i hi => h1 i (by omega), h1 n (by omega)⟩
