/-! ===== both sides' fog; doubles alike ===== -/
theorem yv32 {K : Nat} {x : UInt32} (h : yM32 K x) (hK : K ≤ 255) : FP.Core.val32 x ≠ .nan := by
  obtain ⟨s, c, q, e⟩ := FP.Core.fin_of_lt32 h hK
  rw [e]
  exact fun z => by cases z
theorem zdcc {v : UInt64} (h : FP.Core.DFin v) (k : CmpOp) : Op.cmpValue (FP.dcmp v v) k = 0 := by
  obtain ⟨s, c, q, e⟩ := h
  have h1 : FP.Core.dcmp v v = some .eq := FP.Core.dcmp_self (by rw [e]; exact fun z => by cases z)
  show Op.cmpValue (FP.Core.dcmp v v) k = 0
  rw [h1]
  rfl
theorem zpick {s r : UInt32} (hs : FP.Core.val32 s ≠ .nan) (hr : FP.Core.val32 r ≠ .nan) (he : FP.fcmp s r = some .eq → r = s) : Native.java_lang_Math.nans.pick32 false s r = ysm .g s r := by
  unfold Native.java_lang_Math.nans.pick32 ysm
  cases hc : FP.fcmp s r with
  | none =>
    rcases (FP.Core.fcmp_none s r).mp hc with z | z
    · exact absurd z hs
    · exact absurd z hr
  | some o =>
    cases o with
    | lt => rfl
    | gt => rfl
    | eq =>
      have e := he hc
      subst e
      show (if ((r >>> 31 == 1) == false) = true then r else r) = if 0 < Op.cmpValue (some Ordering.eq) CmpOp.g then r else r
      rw [ite_self, ite_self]
theorem zfz {s : UInt32} (hz : FP.Core.FZero s) : ¬ FP.fcmp s (FP.fsub FP.fconst1 s) = some .eq := by
  have h1 := (FP.Core.zero_bits232 s).mp hz
  have h2 := s.toNat_lt
  have h3 : s = 0 ∨ s = 2147483648 := by
    rcases (show s.toNat = 0 ∨ s.toNat = 2147483648 by omega) with z | z
    · exact Or.inl (UInt32.toNat_inj.mp z)
    · exact Or.inr (UInt32.toNat_inj.mp z)
  rcases h3 with rfl | rfl
  · decide +kernel
  · decide +kernel
theorem zsh_eq {s : UInt32} (h : FP.fcmp s (FP.fsub FP.fconst1 s) = some .eq) : FP.fsub FP.fconst1 s = s := by
  by_cases hz : FP.Core.FZero s
  · exact absurd h (zfz hz)
  · refine FP.Core.eq_bits32 hz ?_
    rw [FP.Core.fcmp_swap s (FP.fsub FP.fconst1 s)]
    show Option.map Ordering.swap (FP.fcmp s (FP.fsub FP.fconst1 s)) = some .eq
    rw [h]
    rfl
section FG
variable {w hh : Nat} {cs x0 ps l : List Int32}
theorem rfg_0 (h : l.length = 0) (k : Nat) : rfg l x0 k = FP.fconst0 := by
  induction k with
  | zero => rfl
  | succ k ih => rw [rfg, if_neg (fun z => z.2 h)]; exact ih
theorem yfg_rfg (hd : 2 ≤ w ∧ w ≤ 5 ∧ 2 ≤ hh ∧ hh ≤ 5) (R : zLr w hh cs x0) (h : ps.take l.length = l) (h5 : l.length ≤ 500) (h0 : ¬ l.length = 0) {ic : Bool} {dc : List Int32} (hl : dc.length = 25) (hi : ic = true → ∀ c, c < w * hh → dc.getD c 0 = ydk ps c l.length) (k : Nat) (hk : k ≤ w * hh) : (yfg .g cs ps l.length (w * hh) ic dc k).1 = rfg l x0 k := by
  have h25 := (zwh_b hd).2
  induction k with
  | zero => rfl
  | succ k ih =>
    rw [yfg, rfg, R k (by omega)]
    by_cases q : x0.getD k 0 = 0
    · rw [if_pos q, if_pos ⟨q, h0⟩]
      have ec := ycd_at (ic := (yfg .g cs ps l.length (w * hh) ic dc k).2.1) (ps := ps) (n := l.length) ((yfg_len .g cs ps l.length (w * hh) ic dc k).trans hl) h25 (yfg_at (k := .g) (cs := cs) hl h25 hi k) k (by omega)
      rw [ec, ydk_rdn h (show k < 32 by omega) _ (Nat.le_refl _), ih (by omega)]
      have hne : zJ l.length ≠ 0 := fun e => h0 ((zJ_eq (b := 0) (by omega) (by omega)).mp e)
      have hs := yM_fdiv (yM_i2f (rdn l (zJ k) l.length)) hne (by omega)
      have hr := yM_fsub (a := FP.fconst1) (K := 161) (by unfold yM32; decide) hs (by omega)
      show FP.fadd (rfg l x0 k) (ysm .g (rsh3 l k) (FP.fsub FP.fconst1 (rsh3 l k))) = FP.fadd (rfg l x0 k) (Native.java_lang_Math.nans.pick32 false (rsh3 l k) (FP.fsub FP.fconst1 (rsh3 l k)))
      exact congrArg (FP.fadd (rfg l x0 k)) (zpick (s := rsh3 l k) (yv32 hs (by omega)) (yv32 hr (by omega)) zsh_eq).symm
    · rw [if_neg q, if_neg (fun z => q z.1)]
      exact ih (by omega)
theorem yfo_rfg (hd : 2 ≤ w ∧ w ≤ 5 ∧ 2 ≤ hh ∧ hh ≤ 5) (R : zLr w hh cs x0) {A : yAS} (I : yAI A) (hw : A.2.2.2.1 = w ∧ A.2.2.2.2.1 = hh) (hl : A.1.2.2.2.2.length = 25) (h5 : l.length ≤ 500) (hn : A.2.2.2.2.2.2 = l.length) (hp : A.1.1.take l.length = l) : (yfo .g cs A (w * hh)).1 = rfg l x0 (w * hh) := by
  unfold yfo
  rw [hn, hw.1, hw.2]
  split
  · rename_i q
    exact (rfg_0 q _).symm
  · rename_i q
    rcases I with I | ⟨_, _, _, _, _, -, -, -, -, -, -, I⟩
    · omega
    · rw [hw.1, hw.2, hn] at I
      exact yfg_rfg hd R hp h5 q hl I _ (Nat.le_refl _)
end FG
