/-! ===== the model: what its calls come to ===== -/
def mAt (B : List rBS) (k w hh : Nat) (X : rX4) (cl : List Int32) (mi sp : Int32) (KS : List rKS) : Prop := ∃ b r g e, B[k]? = some (b, r, g, e, (w, hh), X, cl, (mi, sp), KS)
def mU (B : List rBS) (k w hh : Nat) (X : rX4) (cl : List Int32) (mi sp : Int32) (KS : List rKS) (B1 : List rBS) : Prop := ∃ b r g e, B1 = B.set k (b, r, g, e, (w, hh), X, cl, (mi, sp), KS)
def mdk (q : Bool) : Int32 := if q = true then zJ 1 else zJ 2
def mlt (q : Bool) : Int32 := if q = true then zJ 2 else zJ 1
/-- a row painted -/
def rpt (w hh ro : Nat) (z : Int32) (ng : Nat) (X : rX4) : Nat → rX4
  | 0 => X
  | u + 1 => rbe (rpt w hh ro z ng X u) (ycl w hh ro u) (mdk (zbit z u)) (-1) (zJ 0) ng
/-- a line's dark places; all lines read off -/
def rdk (w hh : Nat) (x0 : List Int32) (i : Nat) : Nat → Int32
  | 0 => zJ 0
  | u + 1 => rdk w hh x0 i u ||| (if x0.getD (ycl w hh i u) 0 = zJ 1 then ysh1 u else zJ 0)
def rrd (w hh : Nat) (x0 cl : List Int32) : Nat → List Int32 × Int32
  | 0 => (cl, zJ 0)
  | i + 1 => ((rrd w hh x0 cl i).1.set i (rsw (rdk w hh x0 i (yln w hh i)) (yln w hh i)), (rrd w hh x0 cl i).2 + rrn (((rrd w hh x0 cl i).1.set i (rsw (rdk w hh x0 i (yln w hh i)) (yln w hh i))).getD i 0))
def rrow (X : rX4) (t : Nat) : List Int32 := if t = 0 then X.1 else if t = 1 then X.2.1 else if t = 2 then X.2.2.1 else X.2.2.2
def mClr (w hh : Nat) : rX4 := (List.replicate (w * hh) 0, rn1 (w * hh) (w * hh), List.replicate (w * hh) 0, List.replicate (w * hh) 0)
abbrev mF (B : List rBS) (e : Nat) (n0 : Int32) (B1 : List rBS) : Prop := n0 = zJ e ∧ B1 = B
/-- no such board, or nothing of it at y below n -/
def mNo (B : List rBS) (x y : Int32) (n : Nat → Nat → Nat) : Prop := ∀ k w hh X cl mi sp KS, mAt B k w hh X cl mi sp KS → x = zJ k → ¬ zin y (n w hh)
def nCell (w hh : Nat) : Nat := w * hh
def nLine (w hh : Nat) : Nat := w + hh
def nRow (_ hh : Nat) : Nat := hh
def ms150 (B : List rBS) (x y n0 v : Int32) (B1 : List rBS) : Prop :=
  (mF B 1 n0 B1 ∧ ¬ ((zJ 2 ≤ x ∧ x ≤ zJ 5) ∧ (zJ 2 ≤ y ∧ y ≤ zJ 5))) ∨ (mF B 2 n0 B1 ∧ ((zJ 2 ≤ x ∧ x ≤ zJ 5) ∧ (zJ 2 ≤ y ∧ y ≤ zJ 5)) ∧ B.length = 3) ∨
  (n0 = zJ 0 ∧ v = zJ B.length ∧ ∃ w hh b r g e, 2 ≤ w ∧ w ≤ 5 ∧ 2 ≤ hh ∧ hh ≤ 5 ∧ x = zJ w ∧ y = zJ hh ∧ B.length ≠ 3 ∧ B1 = B ++ [(b, r, g, e, (w, hh), mClr w hh, rnc (w + hh) (w + hh), (0, 0), [])])
def ms161 (B : List rBS) (x y z n0 v : Int32) (B1 : List rBS) : Prop :=
  (mF B 1 n0 B1 ∧ mNo B x y nLine) ∨ (mF B 2 n0 B1 ∧ ∃ k w hh X cl mi sp KS, mAt B k w hh X cl mi sp KS ∧ x = zJ k ∧ ∃ i, i < w + hh ∧ y = zJ i ∧ rcb z (yln w hh i) = false) ∨
  (n0 = zJ 0 ∧ ∃ k w hh X cl mi sp KS, mAt B k w hh X cl mi sp KS ∧ x = zJ k ∧ ∃ i, i < w + hh ∧ y = zJ i ∧ rcb z (yln w hh i) = true ∧ v = zJ (rcw w hh X.1 (cl.set i z) i) ∧ mU B k w hh X (cl.set i z) mi sp KS B1)
def ms177 (B : List rBS) (x y n0 v : Int32) (B1 : List rBS) : Prop :=
  (mF B 1 n0 B1 ∧ mNo B x y nLine) ∨ (n0 = zJ 0 ∧ ∃ k w hh X cl mi sp KS, mAt B k w hh X cl mi sp KS ∧ x = zJ k ∧ ∃ i, i < w + hh ∧ y = zJ i ∧ v = cl.getD i 0 ∧ mU B k w hh X (cl.set i (-1)) mi sp KS B1)
def ms178 (B : List rBS) (x y : Int32) (q : Bool) (n0 v : Int32) (B1 : List rBS) : Prop :=
  (mF B 1 n0 B1 ∧ mNo B x y nCell) ∨ (mF B 2 n0 B1 ∧ ∃ k w hh X cl mi sp KS, mAt B k w hh X cl mi sp KS ∧ x = zJ k ∧ ∃ c, c < w * hh ∧ y = zJ c ∧ ¬ X.1.getD c 0 = 0) ∨
  (n0 = zJ 0 ∧ ∃ k w hh X cl mi sp KS, mAt B k w hh X cl mi sp KS ∧ x = zJ k ∧ ∃ c, c < w * hh ∧ y = zJ c ∧ X.1.getD c 0 = 0 ∧ ∃ l, rPx w hh (X.1.set c (mdk q)) cl l ∧
    ((0 < l.length ∧ v = zB true ∧ mU B k w hh (rbe X c (mdk q) (-1) (zJ 0) KS.length) cl mi sp KS B1) ∨ (l.length = 0 ∧ v = zB false ∧ mU B k w hh (rbe (rbe X c (mdk q) (-1) (zJ 0) KS.length) c (zJ 0) (-1) (zJ 0) KS.length) cl (mi + zJ 1) sp KS B1)))
def ms186 (B : List rBS) (x n0 v : Int32) (B1 : List rBS) : Prop :=
  (mF B 1 n0 B1 ∧ ¬ zin x B.length) ∨ (n0 = zJ 0 ∧ ∃ k w hh X cl mi sp KS, mAt B k w hh X cl mi sp KS ∧ x = zJ k ∧ v = (rsS w hh cl KS.length X).2 ∧ mU B k w hh (rsS w hh cl KS.length X).1 cl mi (sp + zJ 1) KS B1)
def ms190 (B : List rBS) (x y : Int32) (q : Bool) (n0 v : Int32) (B1 : List rBS) : Prop :=
  (mF B 1 n0 B1 ∧ mNo B x y nCell) ∨ (mF B 2 n0 B1 ∧ ∃ k w hh X cl mi sp KS, mAt B k w hh X cl mi sp KS ∧ x = zJ k ∧ ∃ c, c < w * hh ∧ y = zJ c ∧ (¬ X.1.getD c 0 = 0 ∨ KS.length = 6)) ∨
  (n0 = zJ 0 ∧ ∃ k w hh X cl mi sp KS, mAt B k w hh X cl mi sp KS ∧ x = zJ k ∧ ∃ c, c < w * hh ∧ y = zJ c ∧ X.1.getD c 0 = 0 ∧ ¬ KS.length = 6 ∧ ∃ a, v = zJ (KS ++ [((a, X, c, q) : rKS)]).length ∧ mU B k w hh (rbe X c (mdk q) (-1) (zJ 0) (KS ++ [((a, X, c, q) : rKS)]).length) cl mi sp (KS ++ [(a, X, c, q)]) B1)
def ms193 (B : List rBS) (x : Int32) (q : Bool) (n0 v : Int32) (B1 : List rBS) : Prop :=
  (mF B 1 n0 B1 ∧ ¬ zin x B.length) ∨ (mF B 2 n0 B1 ∧ ∃ k w hh X cl mi sp KS, mAt B k w hh X cl mi sp KS ∧ x = zJ k ∧ KS.length = 0) ∨
  (n0 = zJ 0 ∧ ∃ k w hh X cl mi sp KS, mAt B k w hh X cl mi sp KS ∧ x = zJ k ∧ ∃ K0 κ, KS = K0 ++ [κ] ∧ v = zJ κ.2.2.1 ∧ mU B k w hh (if q = true then rbe κ.2.1 κ.2.2.1 (mlt κ.2.2.2) (-2) (zJ 0) K0.length else κ.2.1) cl mi sp K0 B1)
def ms196 (B : List rBS) (x y n0 v : Int32) (B1 : List rBS) : Prop :=
  (mF B 1 n0 B1 ∧ ¬ zin x B.length) ∨ (mF B 2 n0 B1 ∧ zin x B.length ∧ ¬ zin y 3) ∨ (mF B 3 n0 B1 ∧ zin y 3 ∧ ∃ k w hh X cl mi sp KS, mAt B k w hh X cl mi sp KS ∧ x = zJ k ∧ ¬ KS.length = 0) ∨
  (n0 = zJ 0 ∧ ∃ k w hh X cl mi sp KS, mAt B k w hh X cl mi sp KS ∧ x = zJ k ∧ ∃ t, t < 3 ∧ y = zJ t ∧ KS.length = 0 ∧ v = zJ (ynw w hh t) ∧ mU B k (ynw w hh t) (ynh w hh t) (rTk t w hh X X (w * hh)) (rTl t w hh cl cl (w + hh)) mi sp KS B1)
def ms201 (B : List rBS) (x y z n0 v : Int32) (B1 : List rBS) : Prop :=
  (mF B 1 n0 B1 ∧ mNo B x y nRow) ∨ (mF B 2 n0 B1 ∧ ∃ k w hh X cl mi sp KS, mAt B k w hh X cl mi sp KS ∧ x = zJ k ∧ zin y hh ∧ ¬ zin z (2 ^ w)) ∨
  (mF B 3 n0 B1 ∧ ∃ k w hh X cl mi sp KS, mAt B k w hh X cl mi sp KS ∧ x = zJ k ∧ zin y hh ∧ zin z (2 ^ w) ∧ ¬ KS.length = 0) ∨
  (n0 = zJ 0 ∧ ∃ k w hh X cl mi sp KS, mAt B k w hh X cl mi sp KS ∧ x = zJ k ∧ ∃ ro, ro < hh ∧ y = zJ ro ∧ zin z (2 ^ w) ∧ KS.length = 0 ∧ v = zJ (rcc (rpt w hh ro z KS.length X w).1 (zJ 1) (w * hh)) ∧ mU B k w hh (rpt w hh ro z KS.length X w) cl mi sp KS B1)
def ms203 (B : List rBS) (x n0 v : Int32) (B1 : List rBS) : Prop :=
  (mF B 1 n0 B1 ∧ ¬ zin x B.length) ∨ (mF B 2 n0 B1 ∧ ∃ k w hh X cl mi sp KS, mAt B k w hh X cl mi sp KS ∧ x = zJ k ∧ (¬ KS.length = 0 ∨ ¬ rcc X.1 (zJ 0) (w * hh) = 0)) ∨
  (n0 = zJ 0 ∧ ∃ k w hh X cl mi sp KS, mAt B k w hh X cl mi sp KS ∧ x = zJ k ∧ KS.length = 0 ∧ rcc X.1 (zJ 0) (w * hh) = 0 ∧ v = (rrd w hh X.1 cl (w + hh)).2 ∧ mU B k w hh (mClr w hh) (rrd w hh X.1 cl (w + hh)).1 mi sp KS B1)
def ms204 (B : List rBS) (x n0 v : Int32) (B1 : List rBS) : Prop :=
  (mF B 1 n0 B1 ∧ ¬ zin x B.length) ∨ (n0 = zJ 0 ∧ ∃ k w hh X cl mi sp KS, mAt B k w hh X cl mi sp KS ∧ x = zJ k ∧ v = zJ (w * hh) - zJ (rcc X.1 (zJ 0) (w * hh)) ∧ mU B k w hh (mClr w hh) cl mi sp [] B1)
def ms206 (B : List rBS) (x y z n0 v : Int32) (B1 : List rBS) : Prop :=
  B1 = B ∧ ((n0 = zJ 1 ∧ mNo B x y nCell) ∨ (n0 = zJ 2 ∧ ¬ mNo B x y nCell ∧ ¬ zin z 4) ∨ (n0 = zJ 0 ∧ ∃ k w hh X cl mi sp KS, mAt B k w hh X cl mi sp KS ∧ x = zJ k ∧ ∃ c, c < w * hh ∧ y = zJ c ∧ ∃ t, t < 4 ∧ z = zJ t ∧ v = (rrow X t).getD c 0))
def ms207 (B : List rBS) (x y z n0 v : Int32) (B1 : List rBS) : Prop :=
  B1 = B ∧ ((n0 = zJ 1 ∧ mNo B x y nLine) ∨ (n0 = zJ 2 ∧ ¬ mNo B x y nLine ∧ ¬ zin z 6) ∨ (n0 = zJ 0 ∧ ∃ k w hh X cl mi sp KS, mAt B k w hh X cl mi sp KS ∧ x = zJ k ∧ ∃ i, i < w + hh ∧ y = zJ i ∧ ∃ t, t < 6 ∧ z = zJ t ∧ v = rln w hh X.1 cl i t))
def ms209 (B : List rBS) (x y z n0 v : Int32) (B1 : List rBS) : Prop :=
  B1 = B ∧ ((n0 = zJ 1 ∧ mNo B x y nLine) ∨ (n0 = zJ 2 ∧ ¬ mNo B x y nLine ∧ z < 0) ∨ (n0 = zJ 0 ∧ ∃ k w hh X cl mi sp KS, mAt B k w hh X cl mi sp KS ∧ x = zJ k ∧ ∃ i, i < w + hh ∧ y = zJ i ∧ ¬ z < 0 ∧ v = rwF w hh X.1 cl i (2 ^ yln w hh i) 0 z))
def ms211 (B : List rBS) (x y n0 v : Int32) (B1 : List rBS) : Prop :=
  B1 = B ∧ ((n0 = zJ 1 ∧ ¬ zin x B.length) ∨ (n0 = zJ 2 ∧ zin x B.length ∧ ¬ zin y 11) ∨ (n0 = zJ 0 ∧ ∃ k w hh X cl mi sp KS, mAt B k w hh X cl mi sp KS ∧ x = zJ k ∧ ∃ t, t < 11 ∧ y = zJ t ∧ ∃ l, rPx w hh X.1 cl l ∧ v = rob w hh X.1 cl KS.length mi sp l t))
def ms216 (B : List rBS) (x y n0 v : Int32) (B1 : List rBS) : Prop :=
  B1 = B ∧ ((n0 = zJ 1 ∧ ¬ zin x B.length) ∨ (n0 = zJ 2 ∧ zin x B.length ∧ ¬ zin y 500) ∨ (n0 = zJ 0 ∧ ∃ k w hh X cl mi sp KS, mAt B k w hh X cl mi sp KS ∧ x = zJ k ∧ ∃ t, t < 500 ∧ y = zJ t ∧ ∃ l, rPx w hh X.1 cl l ∧ v = if t < l.length then l.getD t 0 else -1))
def ms217 (B : List rBS) (x y n0 : Int32) (v : UInt64) (B1 : List rBS) : Prop :=
  B1 = B ∧ ((n0 = zJ 1 ∧ mNo B x y nCell) ∨ (n0 = zJ 0 ∧ ∃ k w hh X cl mi sp KS, mAt B k w hh X cl mi sp KS ∧ x = zJ k ∧ ∃ c, c < w * hh ∧ y = zJ c ∧ ∃ l, rPx w hh X.1 cl l ∧ v = rch l (zJ c)))
def ms220 (B : List rBS) (x y n0 : Int32) (v : UInt64) (B1 : List rBS) : Prop :=
  B1 = B ∧ ((n0 = zJ 1 ∧ ¬ zin x B.length) ∨ (n0 = zJ 2 ∧ zin x B.length ∧ ¬ zin y 2) ∨ (n0 = zJ 0 ∧ ∃ k w hh X cl mi sp KS, mAt B k w hh X cl mi sp KS ∧ x = zJ k ∧ ∃ t, t < 2 ∧ y = zJ t ∧ ((t = 0 ∧ v = rlo w hh X.1 cl) ∨ (¬ t = 0 ∧ ∃ l, rPx w hh X.1 cl l ∧ v = FP.f2d (rfg l X.1 (w * hh))))))
def ms225 (B : List rBS) (x n0 v : Int32) (B1 : List rBS) : Prop :=
  B1 = B ∧ ((n0 = zJ 1 ∧ ¬ zin x B.length) ∨ (n0 = zJ 0 ∧ ∃ k w hh X cl mi sp KS, mAt B k w hh X cl mi sp KS ∧ x = zJ k ∧ v = (rhn w hh X.1 cl (w + hh)).1))
/-- sums over all boards -/
def rmu (B : List rBS) : Nat → Int32 × Int32 × Int32
  | 0 => (zJ 0, zJ 0, zJ 0)
  | k + 1 => match B[k]? with
    | some β => ((rmu B k).1 + β.2.2.2.2.2.2.2.1.1, (rmu B k).2.1 + zJ (rcc β.2.2.2.2.2.1.1 (zJ 0) (β.2.2.2.2.1.1 * β.2.2.2.2.1.2)), (rmu B k).2.2 + zJ β.2.2.2.2.2.2.2.2.length)
    | none => rmu B k
theorem rmu_s {B : List rBS} {k b r g e w hh : Nat} {X : rX4} {cl : List Int32} {mi sp : Int32} {KS : List rKS} (h : B[k]? = some (b, r, g, e, (w, hh), X, cl, (mi, sp), KS)) : rmu B (k + 1) = ((rmu B k).1 + mi, (rmu B k).2.1 + zJ (rcc X.1 (zJ 0) (w * hh)), (rmu B k).2.2 + zJ KS.length) := by rw [rmu, h]
def rmn (B : List rBS) (n2 : Int32) (t : Nat) : Int32 := [zJ B.length, n2, (rmu B B.length).1, (rmu B B.length).2.1, (rmu B B.length).2.2].getD t 0
theorem r5 {ly : List Int32} (h : ly.length = 5) (a0 a1 a2 a3 a4 : Int32) : ((((ly.set 0 a0).set 1 a1).set 2 a2).set 3 a3).set 4 a4 = [a0, a1, a2, a3, a4] := by
  match ly, h with
  | [_, _, _, _, _], _ => rfl
def ms223 (B : List rBS) (n2 x n0 v : Int32) (B1 : List rBS) : Prop :=
  B1 = B ∧ ((n0 = zJ 1 ∧ ¬ zin x 5) ∨ (n0 = zJ 0 ∧ ∃ t, t < 5 ∧ x = zJ t ∧ v = rmn B n2 t))
def rwd (w hh : Nat) (X : rX4) (cl : List Int32) (c : Nat) (q : Bool) (t : Nat) : Int32 := if t = 0 then (rsS w hh cl 0 (rbe X c (mdk q) (-1) (zJ 0) 0)).2 else if 0 < rbk w hh (rsS w hh cl 0 (rbe X c (mdk q) (-1) (zJ 0) 0)).1.1 cl (w + hh) then zJ 1 else zJ 0
def ms229 (B : List rBS) (x y z : Int32) (q : Bool) (n0 v : Int32) (B1 : List rBS) : Prop :=
  B1 = B ∧ ((n0 = zJ 1 ∧ mNo B x y nCell) ∨ (n0 = zJ 2 ∧ ¬ mNo B x y nCell ∧ ¬ zin z 3) ∨ (n0 = zJ 3 ∧ zin z 3 ∧ ∃ k w hh X cl mi sp KS, mAt B k w hh X cl mi sp KS ∧ x = zJ k ∧ ∃ c, c < w * hh ∧ y = zJ c ∧ ¬ X.1.getD c 0 = 0) ∨
    (n0 = zJ 0 ∧ ∃ k w hh X cl mi sp KS, mAt B k w hh X cl mi sp KS ∧ x = zJ k ∧ ∃ c, c < w * hh ∧ y = zJ c ∧ ∃ t, t < 3 ∧ z = zJ t ∧ X.1.getD c 0 = 0 ∧ ((t = 2 ∧ ∃ l, rPx w hh (X.1.set c (mdk q)) cl l ∧ v = zJ l.length) ∨ (¬ t = 2 ∧ v = rwd w hh X cl c q t))))
def ms230 (B : List rBS) (x n0 v : Int32) (B1 : List rBS) : Prop :=
  B1 = B ∧ ((n0 = zJ 1 ∧ ¬ zin x B.length) ∨ (n0 = zJ 0 ∧ ∃ k w hh X cl mi sp KS, mAt B k w hh X cl mi sp KS ∧ x = zJ k ∧ ∃ l, rPx w hh X.1 cl l ∧ v = rne w hh l))
def ms227 (B : List rBS) (x n0 v : Int32) (B1 : List rBS) : Prop :=
  B1 = B ∧ ((n0 = zJ 1 ∧ ¬ zin x B.length) ∨ (n0 = zJ 0 ∧ ∃ k w hh X cl mi sp KS, mAt B k w hh X cl mi sp KS ∧ x = zJ k ∧ ∃ l, rPx w hh X.1 cl l ∧ v = (if l.length = 0 then -1 else (rts l X.1 (w * hh)).1)))
/-- turned in so many ways: clues; alike -/
def rat (w hh : Nat) (cl : List Int32) (t : Nat) : List Int32 := if t % 2 = 1 then rTl 1 w hh cl cl (w + hh) else cl
def rau (w hh : Nat) (cl : List Int32) (t : Nat) : List Int32 := if t / 2 % 2 = 1 then rTl 0 w hh (rat w hh cl t) (rat w hh cl t) (w + hh) else rat w hh cl t
def rak (w hh : Nat) (cl : List Int32) (w2 hh2 : Nat) (cl2 : List Int32) (t : Nat) : Bool := if t ≤ 3 then rae w hh (rau w hh cl t) w2 hh2 cl2 else rae hh w (rTl 2 w hh (rau w hh cl t) (rau w hh cl t) (w + hh)) w2 hh2 cl2
section RAK
variable {w hh w2 hh2 t : Nat} {cl cl2 : List Int32}
theorem rat_y (h : t % 2 = 1) : rat w hh cl t = rTl 1 w hh cl cl (w + hh) := if_pos h
theorem rat_n (h : ¬ t % 2 = 1) : rat w hh cl t = cl := if_neg h
theorem rau_y (h : t / 2 % 2 = 1) : rau w hh cl t = rTl 0 w hh (rat w hh cl t) (rat w hh cl t) (w + hh) := if_pos h
theorem rau_n (h : ¬ t / 2 % 2 = 1) : rau w hh cl t = rat w hh cl t := if_neg h
theorem rak_n (h : t ≤ 3) : rak w hh cl w2 hh2 cl2 t = rae w hh (rau w hh cl t) w2 hh2 cl2 := if_pos h
theorem rak_y (h : ¬ t ≤ 3) : rak w hh cl w2 hh2 cl2 t = rae hh w (rTl 2 w hh (rau w hh cl t) (rau w hh cl t) (w + hh)) w2 hh2 cl2 := if_neg h
theorem rak_0 : rak w hh cl w hh cl 0 = true := by
  rw [rak_n (t := 0) (Nat.zero_le _), rau_n (t := 0) (by decide), rat_n (t := 0) (by decide)]
  exact rae_self _ _ _
end RAK
def ral (B : List rBS) (k k2 : Nat) : Int32 := match B[k]?, B[k2]? with
  | some β, some γ => zfst (fun t => rak β.2.2.2.2.1.1 β.2.2.2.2.1.2 β.2.2.2.2.2.2.1 γ.2.2.2.2.1.1 γ.2.2.2.2.1.2 γ.2.2.2.2.2.2.1 t) 8 0
  | _, _ => 0
theorem ral_e {B : List rBS} {k1 k2 b1 r1 g1 e1 w1 hh1 b2 r2 g2 e2 w2 hh2 : Nat} {X1 X2 : rX4} {cl1 cl2 : List Int32} {mi1 sp1 mi2 sp2 : Int32} {KS1 KS2 : List rKS} (h1 : B[k1]? = some (b1, r1, g1, e1, (w1, hh1), X1, cl1, (mi1, sp1), KS1)) (h2 : B[k2]? = some (b2, r2, g2, e2, (w2, hh2), X2, cl2, (mi2, sp2), KS2)) : ral B k1 k2 = zfst (fun t => rak w1 hh1 cl1 w2 hh2 cl2 t) 8 0 := by
  unfold ral
  rw [h1, h2]
theorem ral_0 {B : List rBS} {k1 b1 r1 g1 e1 w1 hh1 : Nat} {X1 : rX4} {cl1 : List Int32} {mi1 sp1 : Int32} {KS1 : List rKS} (h1 : B[k1]? = some (b1, r1, g1, e1, (w1, hh1), X1, cl1, (mi1, sp1), KS1)) : ral B k1 k1 = zJ 0 := by
  rw [ral_e h1 h1]
  exact zfst_y (t := 0) (f := fun t => rak w1 hh1 cl1 w1 hh1 cl1 t) rak_0 (by omega)
def ms233 (B : List rBS) (x y n0 v : Int32) (B1 : List rBS) : Prop :=
  B1 = B ∧ ((n0 = zJ 1 ∧ ¬ (zin x B.length ∧ zin y B.length)) ∨ (n0 = zJ 0 ∧ ∃ k k2, k < B.length ∧ x = zJ k ∧ k2 < B.length ∧ y = zJ k2 ∧ v = ral B k k2))
/-- what the digest says of a board; the digest -/
def rdV (w hh : Nat) (X : rX4) (cl : List Int32) (ng : Nat) (mi sp : Int32) (l : List Int32) (al : Int32) : zDV :=
  (fun t => (rob w hh X.1 cl ng mi sp l t).toInt64, fun c t => ((rrow X t).getD c 0).toInt64, fun i t => (rln w hh X.1 cl i t).toInt64, fun i => (rwF w hh X.1 cl i (2 ^ yln w hh i) 0 (zJ 0)).toInt64,
    fun j => [((if 0 < l.length then l.getD 0 0 else -1) : Int32).toInt64, (FP.d2i (FP.dmul 4634204016564240384 (rlo w hh X.1 cl))).toInt64, (FP.d2i (FP.dmul 4634204016564240384 (FP.f2d (rfg l X.1 (w * hh))))).toInt64, (rhn w hh X.1 cl (w + hh)).1.toInt64,
      ((if l.length = 0 then -1 else (rts l X.1 (w * hh)).1) : Int32).toInt64, (rne w hh l).toInt64, al.toInt64].getD j 0)
def rdH (B : List rBS) (d5 : Int64) : Nat → Int64 → Prop
  | 0, z => z = d5
  | i + 1, z => ∃ z0 l b r g e w hh X cl mi sp KS, rdH B d5 i z0 ∧ B[i]? = some (b, r, g, e, (w, hh), X, cl, (mi, sp), KS) ∧ rPx w hh X.1 cl l ∧ z = zdB (rdV w hh X cl KS.length mi sp l (ral B i 0)) (w * hh) (w + hh) z0
def rmF (B : List rBS) (n2 : Int32) (t : Nat) : Int64 := (rmn B n2 t).toInt64
def ms236 (B : List rBS) (n2 n0 : Int32) (v : Int64) (B1 : List rBS) : Prop := B1 = B ∧ n0 = zJ 0 ∧ rdH B (zdg (rmF B n2) 58319 5) B.length v
theorem mNo_t {B : List rBS} {x y : Int32} {n : Nat → Nat → Nat} {k w hh : Nat} {X : rX4} {cl : List Int32} {mi sp : Int32} {KS : List rKS} (h : mAt B k w hh X cl mi sp KS) (hx : x = zJ k) (hy : zin y (n w hh)) : ¬ mNo B x y n := fun z => z k w hh X cl mi sp KS h hx hy
theorem rlt_of {B : List rBS} {k : Nat} {β : rBS} (hk : B[k]? = some β) : k < B.length := by
  rcases Nat.lt_or_ge k B.length with z | z
  · exact z
  · rw [List.getElem?_eq_none z] at hk; cases hk
theorem rset_self {B : List rBS} {k : Nat} {β : rBS} (hk : B[k]? = some β) : B.set k β = B := by
  apply List.ext_getElem?
  intro i
  by_cases q : k = i
  · subst q
    rw [List.getElem?_set_self (rlt_of hk), hk]
  · rw [List.getElem?_set_ne q]
theorem rk_eq {B : List rBS} {k k' : Nat} {β β' : rBS} (h1 : B[k]? = some β) (h2 : B[k']? = some β') (e : zJ k = zJ k') (hl : B.length ≤ 3) : β = β' := by
  have l1 := rlt_of h1
  have l2 := rlt_of h2
  have := (zJ_eq (by omega) (by omega)).mp e
  subst this
  rw [h1] at h2
  exact Option.some.inj h2
