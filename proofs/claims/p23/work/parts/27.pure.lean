/-! ===== the album: what its methods come to, as functions ===== -/
abbrev yAS : Type := (List Int32 × List Int32 × List Int32 × List Int32 × List Int32) × (Nat × Nat × List Int32 × List Int32 × List Int32) × (Bool × Nat × Nat × Nat × Nat)
def yAt (h : zPH) (a : Nat) (α : yAS) : Prop := yA h a α.1.1 α.1.2.1 α.1.2.2.1 α.1.2.2.2.1 α.1.2.2.2.2 α.2.1.1 α.2.1.2.1 α.2.1.2.2.1 α.2.1.2.2.2.1 α.2.1.2.2.2.2 α.2.2.1 α.2.2.2.1 α.2.2.2.2.1 α.2.2.2.2.2.1 α.2.2.2.2.2.2
/-- is anything else asked for; the lines' ways noted down, and whether one is another -/
def ybz (aw ah am w hh m : Nat) : Bool := !(decide (aw = w) && decide (ah = hh) && decide (am = m))
def ycw (w hh : Nat) (cs fs lw : List Int32) (b : Bool) : Nat → List Int32 × Bool
  | 0 => (lw, b)
  | k + 1 => if (ycw w hh cs fs lw b k).1.getD k 0 = zws w hh cs fs k then ycw w hh cs fs lw b k else ((ycw w hh cs fs lw b k).1.set k (zws w hh cs fs k), true)
theorem ycw_len (w hh : Nat) (cs fs lw : List Int32) (b : Bool) (k : Nat) : (ycw w hh cs fs lw b k).1.length = lw.length := by
  induction k with
  | zero => rfl
  | succ k ih =>
    rw [ycw]
    split
    · exact ih
    · rw [List.length_set]; exact ih
/-- the ways of row r that agree once l rows are laid, by k columns -/
def yag (rw cw : List Int32) (l r : Nat) : Nat → Int32
  | 0 => rw.getD r 0
  | k + 1 => if cw.getD (l * 5 + k) 0 &&& (zDA r ^^^ (-1)) = 0 then (if cw.getD (l * 5 + k) 0 &&& zDA r = 0 then yag rw cw l r k &&& (zDA k ^^^ (-1)) else yag rw cw l r k) &&& zDA k else if cw.getD (l * 5 + k) 0 &&& zDA r = 0 then yag rw cw l r k &&& (zDA k ^^^ (-1)) else yag rw cw l r k
/-- has each of k rows from l on a way -/
def ycg (aw : Nat) (rw cw : List Int32) (l : Nat) : Nat → Bool
  | 0 => true
  | k + 1 => ycg aw rw cw l k && !decide (yag rw cw l (l + k) aw = 0)
theorem ycg_f {aw : Nat} {rw cw : List Int32} {l k : Nat} (h : ycg aw rw cw l k = false) (n : Nat) (hn : k ≤ n) : ycg aw rw cw l n = false := by
  induction hn with
  | refl => exact h
  | step _ ih => rw [ycg, ih]; rfl
def ynr (x : Int32) (r : Nat) (cw : List Int32) : Nat → List Int32
  | 0 => cw
  | k + 1 => (ynr x r cw k).set ((r + 1) * 5 + k) ((ynr x r cw k).getD (r * 5 + k) 0 &&& (if zbit x k = true then zDA r else (zDA r ^^^ (-1))))
theorem ynr_len (x : Int32) (r : Nat) (cw : List Int32) (k : Nat) : (ynr x r cw k).length = cw.length := by
  induction k with
  | zero => rfl
  | succ k ih => rw [ynr, List.length_set]; exact ih
/-- pictures, columns' ways, how many -/
abbrev yLs : Type := List Int32 × List Int32 × Nat
def yadd (x : Int32) (s : yLs) : yLs := if 500 ≤ s.2.2 then s else (s.1.set s.2.2 x, s.2.1, s.2.2 + 1)
def yLp (f : Nat → yLs → yLs) : Nat → yLs → yLs
  | 0, s => s
  | k + 1, s => f k (yLp f k s)
def yst (aw ah am : Nat) (rw : List Int32) (rec : Int32 → yLs → yLs) (r : Nat) (x ways : Int32) (k : Nat) (s : yLs) : yLs :=
  if am ≤ s.2.2 then s else if zbit ways k = true then (if ycg aw rw (ynr (zJ k) r s.2.1 aw) (r + 1) (ah - (r + 1)) = true then rec (x ||| (zJ k <<< (zJ (r * aw) &&& 31))) (s.1, ynr (zJ k) r s.2.1 aw, s.2.2) else (s.1, ynr (zJ k) r s.2.1 aw, s.2.2)) else s
def yLy (aw ah am : Nat) (rw : List Int32) : Nat → Nat → Int32 → yLs → yLs
  | 0, _, x, s => yadd x s
  | m + 1, r, x, s => if ah ≤ r then yadd x s else yLp (yst aw ah am rw (yLy aw ah am rw m (r + 1)) r x (yag rw s.2.1 r r aw)) (2 ^ aw) s
theorem yLp_stop {aw ah am : Nat} {rw : List Int32} {rec : Int32 → yLs → yLs} {r : Nat} {x ways : Int32} {s : yLs} {k : Nat} (h : am ≤ (yLp (yst aw ah am rw rec r x ways) k s).2.2) (n : Nat) (hn : k ≤ n) : yLp (yst aw ah am rw rec r x ways) n s = yLp (yst aw ah am rw rec r x ways) k s := by
  induction hn with
  | refl => rfl
  | step _ ih => rw [yLp, ih, yst, if_pos h]
/-- rows, or columns, of ways put down -/
def yLw (w hh : Nat) (cs fs : List Int32) (off : Nat) (l : List Int32) : Nat → List Int32
  | 0 => l
  | k + 1 => (yLw w hh cs fs off l k).set k (zws w hh cs fs (off + k))
theorem yLw_len (w hh : Nat) (cs fs : List Int32) (off : Nat) (l : List Int32) (k : Nat) : (yLw w hh cs fs off l k).length = l.length := by
  induction k with
  | zero => rfl
  | succ k ih => rw [yLw, List.length_set]; exact ih
def yLr (w hh m : Nat) (ps rw cw : List Int32) : yLs := if ycg w rw cw 0 hh = true then yLy w hh m rw 5 0 (zJ 0) (ps, cw, 0) else (ps, cw, 0)
/-- looked at -/
def yLk (w hh m : Nat) (cs cl fs : List Int32) (α : yAS) : yAS :=
  if (ycw w hh cs fs α.1.2.1 (ybz α.2.2.2.1 α.2.2.2.2.1 α.2.2.2.2.2.1 w hh m) (w + hh)).2 = true then
    (((yLr w hh m α.1.1 (yLw w hh (zsS w hh fs (zJ 0) cs).1 fs 0 α.1.2.2.1 hh) (yLw w hh (zsS w hh fs (zJ 0) cs).1 fs hh α.1.2.2.2.1 w)).1, (ycw w hh cs fs α.1.2.1 (ybz α.2.2.2.1 α.2.2.2.2.1 α.2.2.2.2.2.1 w hh m) (w + hh)).1, yLw w hh (zsS w hh fs (zJ 0) cs).1 fs 0 α.1.2.2.1 hh, (yLr w hh m α.1.1 (yLw w hh (zsS w hh fs (zJ 0) cs).1 fs 0 α.1.2.2.1 hh) (yLw w hh (zsS w hh fs (zJ 0) cs).1 fs hh α.1.2.2.2.1 w)).2.1, α.1.2.2.2.2),
     (w, hh, (zsS w hh fs (zJ 0) cs).1, cl, fs), (false, w, hh, m, (yLr w hh m α.1.1 (yLw w hh (zsS w hh fs (zJ 0) cs).1 fs 0 α.1.2.2.1 hh) (yLw w hh (zsS w hh fs (zJ 0) cs).1 fs hh α.1.2.2.2.1 w)).2.2))
  else ((α.1.1, (ycw w hh cs fs α.1.2.1 (ybz α.2.2.2.1 α.2.2.2.2.1 α.2.2.2.2.2.1 w hh m) (w + hh)).1, α.1.2.2), α.2.1, (α.2.2.1, w, hh, m, α.2.2.2.2.2.2))
theorem yLk_same {w hh m : Nat} {cs cl fs ps lw rw cw dc : List Int32} {S : Nat × Nat × List Int32 × List Int32 × List Int32} {ic : Bool} {aw ah am n : Nat} (h : (ycw w hh cs fs lw (ybz aw ah am w hh m) (w + hh)).2 = false) : yLk w hh m cs cl fs ((ps, lw, rw, cw, dc), S, (ic, aw, ah, am, n)) = ((ps, (ycw w hh cs fs lw (ybz aw ah am w hh m) (w + hh)).1, rw, cw, dc), S, (ic, w, hh, m, n)) := by
  show (if (ycw w hh cs fs lw (ybz aw ah am w hh m) (w + hh)).2 = true then _ else _) = _
  rw [if_neg (by rw [h]; decide)]
theorem yLk_new {w hh m : Nat} {cs cl fs ps lw rw cw dc : List Int32} {S : Nat × Nat × List Int32 × List Int32 × List Int32} {ic : Bool} {aw ah am n : Nat} (h : (ycw w hh cs fs lw (ybz aw ah am w hh m) (w + hh)).2 = true) : yLk w hh m cs cl fs ((ps, lw, rw, cw, dc), S, (ic, aw, ah, am, n)) =
    (((yLr w hh m ps (yLw w hh (zsS w hh fs (zJ 0) cs).1 fs 0 rw hh) (yLw w hh (zsS w hh fs (zJ 0) cs).1 fs hh cw w)).1, (ycw w hh cs fs lw (ybz aw ah am w hh m) (w + hh)).1, yLw w hh (zsS w hh fs (zJ 0) cs).1 fs 0 rw hh, (yLr w hh m ps (yLw w hh (zsS w hh fs (zJ 0) cs).1 fs 0 rw hh) (yLw w hh (zsS w hh fs (zJ 0) cs).1 fs hh cw w)).2.1, dc),
     (w, hh, (zsS w hh fs (zJ 0) cs).1, cl, fs), (false, w, hh, m, (yLr w hh m ps (yLw w hh (zsS w hh fs (zJ 0) cs).1 fs 0 rw hh) (yLw w hh (zsS w hh fs (zJ 0) cs).1 fs hh cw w)).2.2)) := by
  show (if (ycw w hh cs fs lw (ybz aw ah am w hh m) (w + hh)).2 = true then _ else _) = _
  rw [if_pos h]
/-- in how many of the first n a cell is dark -/
def ydk (ps : List Int32) (c : Nat) : Nat → Int32
  | 0 => zJ 0
  | n + 1 => ydk ps c n + (zush (ps.getD n 0) (zJ c) &&& zJ 1)
def ydc (ps : List Int32) (n : Nat) (dc : List Int32) : Nat → List Int32
  | 0 => dc
  | k + 1 => (ydc ps n dc k).set k (ydk ps k n)
theorem ydc_len (ps : List Int32) (n : Nat) (dc : List Int32) (k : Nat) : (ydc ps n dc k).length = dc.length := by
  induction k with
  | zero => rfl
  | succ k ih => rw [ydc, List.length_set]; exact ih
/-- the counts, once they are counted -/
def ycd (ic : Bool) (ps : List Int32) (n : Nat) (dc : List Int32) (cells : Nat) : List Int32 := if ic = true then dc else ydc ps n dc cells
theorem ycd_len (ic : Bool) (ps : List Int32) (n : Nat) (dc : List Int32) (cells : Nat) : (ycd ic ps n dc cells).length = dc.length := by
  rw [ycd]
  split
  · rfl
  · exact ydc_len _ _ _ _
def yCd (α : yAS) : yAS := ((α.1.1, α.1.2.1, α.1.2.2.1, α.1.2.2.2.1, ycd α.2.2.1 α.1.1 α.2.2.2.2.2.2 α.1.2.2.2.2 (α.2.2.2.1 * α.2.2.2.2.1)), α.2.1, (true, α.2.2.2))
def yCn (α : yAS) : yAS := if α.2.2.2.2.2.2 = 0 then α else yCd α
/-- how likely -/
def ych (α : yAS) (c : Nat) : UInt64 := if α.2.2.2.2.2.2 = 0 then FP.dconst0 else FP.ddiv (FP.i2d ((yCd α).1.2.2.2.2.getD c 0)) (FP.i2d (zJ α.2.2.2.2.2.2))
/-- FOG, by k cells -/
def yfs (n : Nat) (v : Int32) : UInt32 := FP.fdiv (FP.i2f v) (FP.i2f (zJ n))
def ysm (k : CmpOp) (s r : UInt32) : UInt32 := if 0 < Op.cmpValue (FP.fcmp s r) k then r else s
def yfg (k : CmpOp) (cs ps : List Int32) (n cells : Nat) (ic : Bool) (dc : List Int32) : Nat → UInt32 × Bool × List Int32
  | 0 => (FP.fconst0, ic, dc)
  | c + 1 => if zst cs c = 0 then (FP.fadd (yfg k cs ps n cells ic dc c).1 (ysm k (yfs n ((ycd (yfg k cs ps n cells ic dc c).2.1 ps n (yfg k cs ps n cells ic dc c).2.2 cells).getD c 0)) (FP.fsub FP.fconst1 (yfs n ((ycd (yfg k cs ps n cells ic dc c).2.1 ps n (yfg k cs ps n cells ic dc c).2.2 cells).getD c 0)))), true, ycd (yfg k cs ps n cells ic dc c).2.1 ps n (yfg k cs ps n cells ic dc c).2.2 cells) else yfg k cs ps n cells ic dc c
theorem yfg_len (k : CmpOp) (cs ps : List Int32) (n cells : Nat) (ic : Bool) (dc : List Int32) (c : Nat) : (yfg k cs ps n cells ic dc c).2.2.length = dc.length := by
  induction c with
  | zero => rfl
  | succ c ih =>
    rw [yfg]
    split
    · exact (ycd_len _ _ _ _ _).trans ih
    · exact ih
def yfo (k : CmpOp) (cs : List Int32) (α : yAS) (m : Nat) : UInt32 × Bool × List Int32 := if α.2.2.2.2.2.2 = 0 then (FP.fconst0, α.2.2.1, α.1.2.2.2.2) else yfg k cs α.1.1 α.2.2.2.2.2.2 (α.2.2.2.1 * α.2.2.2.2.1) α.2.2.1 α.1.2.2.2.2 m
def yFo (k : CmpOp) (cs : List Int32) (α : yAS) (m : Nat) : yAS := ((α.1.1, α.1.2.1, α.1.2.2.1, α.1.2.2.2.1, (yfo k cs α m).2.2), α.2.1, ((yfo k cs α m).2.1, α.2.2.2))
/-- what differs from the first picture in all that are like it in x -/
def ytf (ps : List Int32) (x : Int32) : Nat → Int32
  | 0 => -1
  | i + 1 => if (ps.getD (i + 1) 0 ^^^ ps.getD 0 0) &&& x = 0 then ytf ps x i &&& (ps.getD (i + 1) 0 ^^^ ps.getD 0 0) else ytf ps x i
def ytn (ps : List Int32) (n : Nat) (x : Int32) : Bool := !decide (ytf ps x (n - 1) = 0)
def yfw (ps : List Int32) (n : Nat) : Nat → Bool
  | 0 => false
  | k + 1 => yfw ps n k || ytn ps n (ysh1 k)
def ynd (ps : List Int32) (n cells : Nat) : Int32 := if n ≤ 1 then (if n = 0 then -1 else zJ 0) else if ytn ps n (zJ 0) = true then zJ 1 else if yfw ps n cells = true then zJ 2 else -1
/-- in all, in any -/
def yal (ps : List Int32) : Nat → Int32 × Int32
  | 0 => (-1, zJ 0)
  | n + 1 => ((yal ps n).1 &&& ps.getD n 0, (yal ps n).2 ||| ps.getD n 0)
def yas (ps : List Int32) (n : Nat) : Int32 := if n = 0 then zJ 0 else (yal ps n).1 ||| ((yal ps n).2 ^^^ (-1))
def ypn (ps : List Int32) (n k : Nat) : Int32 := if k < n then ps.getD k 0 else -1
/-- an album is right: what it holds is what it last looked for -/
def yAI (α : yAS) : Prop := α.2.2.2.1 = 0 ∨ ∃ (ps0 rw0 cw0 cs fs : List Int32), ps0.length = 500 ∧ rw0.length = 5 ∧ cw0.length = 30 ∧ (∀ i, i < α.2.2.2.1 + α.2.2.2.2.1 → α.1.2.1.getD i 0 = zws α.2.2.2.1 α.2.2.2.2.1 cs fs i) ∧
  α.1.1 = (yLr α.2.2.2.1 α.2.2.2.2.1 α.2.2.2.2.2.1 ps0 (yLw α.2.2.2.1 α.2.2.2.2.1 (zsS α.2.2.2.1 α.2.2.2.2.1 fs (zJ 0) cs).1 fs 0 rw0 α.2.2.2.2.1) (yLw α.2.2.2.1 α.2.2.2.2.1 (zsS α.2.2.2.1 α.2.2.2.2.1 fs (zJ 0) cs).1 fs α.2.2.2.2.1 cw0 α.2.2.2.1)).1 ∧
  α.2.2.2.2.2.2 = (yLr α.2.2.2.1 α.2.2.2.2.1 α.2.2.2.2.2.1 ps0 (yLw α.2.2.2.1 α.2.2.2.2.1 (zsS α.2.2.2.1 α.2.2.2.2.1 fs (zJ 0) cs).1 fs 0 rw0 α.2.2.2.2.1) (yLw α.2.2.2.1 α.2.2.2.2.1 (zsS α.2.2.2.1 α.2.2.2.2.1 fs (zJ 0) cs).1 fs α.2.2.2.2.1 cw0 α.2.2.2.1)).2.2 ∧
  (α.2.2.1 = true → ∀ c, c < α.2.2.2.1 * α.2.2.2.2.1 → α.1.2.2.2.2.getD c 0 = ydk α.1.1 c α.2.2.2.2.2.2)
theorem ycw_at {w hh : Nat} {cs fs lw : List Int32} {b : Bool} {k : Nat} (hl : k ≤ lw.length) (i : Nat) (hi : i < k) : (ycw w hh cs fs lw b k).1.getD i 0 = zws w hh cs fs i := by
  induction k with
  | zero => omega
  | succ k ih =>
    rw [ycw]
    by_cases e : i = k
    · subst e
      split
      · assumption
      · rw [List.getD_eq_getElem?_getD, List.getElem?_set_self (by rw [ycw_len]; omega)]; rfl
    · split
      · exact ih (by omega) (by omega)
      · rw [List.getD_eq_getElem?_getD, List.getElem?_set_ne (by omega), ← List.getD_eq_getElem?_getD]
        exact ih (by omega) (by omega)
theorem ycw_f {w hh : Nat} {cs fs lw : List Int32} {b : Bool} {k : Nat} (h : (ycw w hh cs fs lw b k).2 = false) : (ycw w hh cs fs lw b k).1 = lw ∧ b = false := by
  induction k with
  | zero => exact ⟨rfl, h⟩
  | succ k ih =>
    rw [ycw] at h ⊢
    split at h
    · rename_i q
      rw [if_pos q]
      exact ih h
    · cases h
theorem ybz_f {aw ah am w hh m : Nat} (h : ybz aw ah am w hh m = false) : aw = w ∧ ah = hh ∧ am = m := by
  unfold ybz at h
  simp only [Bool.not_eq_false', Bool.and_eq_true, decide_eq_true_eq] at h
  exact ⟨h.1.1, h.1.2, h.2⟩
theorem yAI.look {α : yAS} {w hh m : Nat} {cs cl fs : List Int32} (I : yAI α) (hl : α.1.1.length = 500 ∧ α.1.2.1.length = 10 ∧ α.1.2.2.1.length = 5 ∧ α.1.2.2.2.1.length = 30) (hw : w + hh ≤ 10) : yAI (yLk w hh m cs cl fs α) := by
  rw [yLk]
  split
  · refine Or.inr ⟨α.1.1, α.1.2.2.1, α.1.2.2.2.1, cs, fs, hl.1, hl.2.2.1, hl.2.2.2, fun i hi => ?_, rfl, rfl, fun q => Bool.noConfusion q⟩
    exact ycw_at (by omega) i hi
  · rename_i q
    have h1 := ycw_f (Bool.eq_false_iff.mpr q)
    obtain ⟨e1, e2, e3⟩ := ybz_f h1.2
    rw [h1.1, ← e1, ← e2, ← e3]
    exact I
theorem ydc_at {ps : List Int32} {n : Nat} {dc : List Int32} (hl : dc.length = 25) : ∀ k, k ≤ 25 → ∀ c, c < k → (ydc ps n dc k).getD c 0 = ydk ps c n := by
  intro k
  induction k with
  | zero => intro _ c hc; omega
  | succ k ih =>
    intro hk c hc
    rw [ydc]
    by_cases e : c = k
    · subst e
      rw [List.getD_eq_getElem?_getD, List.getElem?_set_self (by rw [ydc_len]; omega)]; rfl
    · rw [List.getD_eq_getElem?_getD, List.getElem?_set_ne (by omega), ← List.getD_eq_getElem?_getD]
      exact ih (by omega) c (by omega)
/-- what the counts are, whenever they are asked for -/
theorem ycd_at {ic : Bool} {ps : List Int32} {n : Nat} {dc : List Int32} {cells : Nat} (hl : dc.length = 25) (hk : cells ≤ 25) (h : ic = true → ∀ c, c < cells → dc.getD c 0 = ydk ps c n) (c : Nat) (hc : c < cells) : (ycd ic ps n dc cells).getD c 0 = ydk ps c n := by
  rw [ycd]
  split
  · rename_i q; exact h q c hc
  · exact ydc_at hl _ hk c hc
theorem yfg_at {k : CmpOp} {cs ps : List Int32} {n cells : Nat} {ic : Bool} {dc : List Int32} (hl : dc.length = 25) (hk : cells ≤ 25) (h : ic = true → ∀ c, c < cells → dc.getD c 0 = ydk ps c n) (m : Nat) : (yfg k cs ps n cells ic dc m).2.1 = true → ∀ c, c < cells → (yfg k cs ps n cells ic dc m).2.2.getD c 0 = ydk ps c n := by
  induction m with
  | zero => exact h
  | succ m ih =>
    rw [yfg]
    split
    · intro _ c hc
      exact ycd_at ((yfg_len k cs ps n cells ic dc m).trans hl) hk ih c hc
    · exact ih
theorem yAI.put {α : yAS} {ic : Bool} {dc : List Int32} (I : yAI α) (h : (α.2.2.1 = true → ∀ c, c < α.2.2.2.1 * α.2.2.2.2.1 → α.1.2.2.2.2.getD c 0 = ydk α.1.1 c α.2.2.2.2.2.2) → ic = true → ∀ c, c < α.2.2.2.1 * α.2.2.2.2.1 → dc.getD c 0 = ydk α.1.1 c α.2.2.2.2.2.2) : yAI ((α.1.1, α.1.2.1, α.1.2.2.1, α.1.2.2.2.1, dc), α.2.1, (ic, α.2.2.2)) := by
  rcases I with I | ⟨ps0, rw0, cw0, cs, fs, h1, h2, h3, h4, h5, h6, h7⟩
  · exact Or.inl I
  · exact Or.inr ⟨ps0, rw0, cw0, cs, fs, h1, h2, h3, h4, h5, h6, h h7⟩
theorem yAI.cd {α : yAS} (I : yAI α) (hl : α.1.2.2.2.2.length = 25) (hw : α.2.2.2.1 ≤ 5 ∧ α.2.2.2.2.1 ≤ 5) : yAI (yCd α) :=
  I.put (fun h _ c hc => ycd_at hl (Nat.mul_le_mul hw.1 hw.2) h c hc)
theorem yAI.cn {α : yAS} (I : yAI α) (hl : α.1.2.2.2.2.length = 25) (hw : α.2.2.2.1 ≤ 5 ∧ α.2.2.2.2.1 ≤ 5) : yAI (yCn α) := by
  rw [yCn]
  split
  · exact I
  · exact I.cd hl hw
theorem yAI.fo {α : yAS} (I : yAI α) (k : CmpOp) (cs : List Int32) (hl : α.1.2.2.2.2.length = 25) (hw : α.2.2.2.1 ≤ 5 ∧ α.2.2.2.2.1 ≤ 5) (m : Nat) : yAI (yFo k cs α m) := by
  refine I.put ?_
  rw [yfo]
  split
  · exact fun h => h
  · exact fun h => yfg_at hl (Nat.mul_le_mul hw.1 hw.2) h m
