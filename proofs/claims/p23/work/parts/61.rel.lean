/-! ===== both sides, call by call ===== -/
theorem zJ_in {i j : Nat} {y : Int32} (hi : i < 1000000) (hj : j < 1000000) (e1 : y = zJ i) (e2 : y = zJ j) : i = j := (zJ_eq (by omega) (by omega)).mp (e1.symm.trans e2)
theorem zr25 {x : Int32} : (zJ 2 ≤ x ∧ x ≤ zJ 5) ↔ ∃ w, 2 ≤ w ∧ w ≤ 5 ∧ x = zJ w := by
  constructor
  · rintro ⟨h1, h2⟩
    obtain ⟨w, h3, h4, rfl⟩ := yrange (Int32.not_lt.mpr h1) (Int32.not_lt.mpr h2)
    exact ⟨w, h3, h4, rfl⟩
  · rintro ⟨w, h3, h4, rfl⟩
    exact ⟨(zJ_le (by omega) (by omega)).mpr h3, (zJ_le (by omega) (by omega)).mpr h4⟩
/-- what the class finds, the reference doesn't miss -/
theorem zRel.nno {L : List yBS} {B : List rBS} (R : zRel L B) {x y : Int32} {n : Nat → Nat → Nat} {k b w hh gu : Nat} {cs cl fs kp gd : List Int32} {α : yAS} {mi sp : Int32} (h : L[k]? = some (b, (w, hh, cs, cl, fs), α, kp, gd, gu, mi, sp)) (ex : x = zJ k) (hy : zin y (n w hh)) : ¬ mNo B x y n := by
  obtain ⟨w', hh', X, clr, mi', sp', KS, hm, rfl, rfl, -⟩ := R.has h
  exact mNo_t hm ex hy
theorem zRel.zinB {L : List yBS} {B : List rBS} (R : zRel L B) {x : Int32} {k : Nat} {β : yBS} (h : L[k]? = some β) (ex : x = zJ k) : zin x B.length := ⟨k, by rw [← R.1]; exact R.lt h, ex⟩
theorem zwh_s {w hh : Nat} (hd : 2 ≤ w ∧ w ≤ 5 ∧ 2 ≤ hh ∧ hh ≤ 5) : w * hh ≤ 25 ∧ w + hh ≤ 10 := ⟨(zwh_b hd).2, by omega⟩
theorem zCX.undo {w hh : Nat} {cs : List Int32} {X : rX4} {c ng : Nat} {s : Int32} (C : zCX w hh cs X) (U : zxU0 (w * hh) X) (hc : c < w * hh) (h0 : X.1.getD c 0 = 0) : zCX w hh cs (rbe (rbe X c s (-1) (zJ 0) ng) c (zJ 0) (-1) (zJ 0) ng) ∧ zxU0 (w * hh) (rbe (rbe X c s (-1) (zJ 0) ng) c (zJ 0) (-1) (zJ 0) ng) ∧ zKp (w * hh) X.1 (rbe (rbe X c s (-1) (zJ 0) ng) c (zJ 0) (-1) (zJ 0) ng).1 := by
  obtain ⟨u1, u2, u3⟩ := U c hc h0
  have e : ∀ (l : List Int32) (v u : Int32), c < l.length → l.getD c 0 = u → ∀ i, ((l.set c v).set c u).getD i 0 = l.getD i 0 := fun l v u hl hu i => by
    rw [List.set_set]
    by_cases q : c = i
    · subst q
      rw [zgetD_eq hl, hu]
    · rw [zgetD_ne q]
  obtain ⟨l0, l1, l2, l3⟩ := C.2.2.1
  have e0 := e X.1 s (zJ 0) (by omega) h0
  have e1 := e X.2.1 (-1) (-1) (by omega) u1
  have e2 := e X.2.2.1 (zJ 0) (zJ 0) (by omega) u2
  have e3 := e X.2.2.2 (if s = 0 then zJ 0 else zJ ng) (zJ 0) (by omega) u3
  refine ⟨⟨fun i hi => ?_, C.2.1, C.2.2.1.be.be, fun i hi => ?_⟩, fun i hi h => ?_, fun i _ _ => e0 i⟩
  · show zst cs i = ((X.1.set c s).set c (zJ 0)).getD i 0 ∧ cs.getD (i * 4 + 1) 0 = ((X.2.1.set c (-1)).set c (-1)).getD i 0 ∧ cs.getD (i * 4 + 2) 0 = ((X.2.2.1.set c (zJ 0)).set c (zJ 0)).getD i 0 ∧ cs.getD (i * 4 + 3) 0 = ((X.2.2.2.set c (if s = 0 then zJ 0 else zJ ng)).set c (zJ 0)).getD i 0
    rw [e0, e1, e2, e3]
    exact C.1 i hi
  · show ((X.1.set c s).set c (zJ 0)).getD i 0 = zJ 0 ∨ ((X.1.set c s).set c (zJ 0)).getD i 0 = zJ 1 ∨ ((X.1.set c s).set c (zJ 0)).getD i 0 = zJ 2
    rw [e0]
    exact C.2.2.2 i hi
  · have h : ((X.1.set c s).set c (zJ 0)).getD i 0 = 0 := h
    rw [e0] at h
    show ((X.2.1.set c (-1)).set c (-1)).getD i 0 = -1 ∧ ((X.2.2.1.set c (zJ 0)).set c (zJ 0)).getD i 0 = zJ 0 ∧ ((X.2.2.2.set c (if s = 0 then zJ 0 else zJ ng)).set c (zJ 0)).getD i 0 = zJ 0
    rw [e1, e2, e3]
    exact U i hi h
theorem rTl_len' (t w hh : Nat) (ol cl : List Int32) (k : Nat) : (rTl t w hh ol cl k).length = cl.length := rTl_len t w hh ol cl k
theorem ztn_inj {w hh i j t : Nat} (ht : t < 3) (hd : 2 ≤ w ∧ w ≤ 5 ∧ 2 ≤ hh ∧ hh ≤ 5) (hi : i < w + hh) (hj : j < w + hh) (e : ztn w hh i t = ztn w hh j t) : i = j := by
  unfold ztn at e
  rcases (show t = 0 ∨ t = 1 ∨ t = 2 by omega) with rfl | rfl | rfl <;> (repeat' split at e) <;> omega
theorem rTl_at {w hh t : Nat} {cl : List Int32} (ht : t < 3) (hd : 2 ≤ w ∧ w ≤ 5 ∧ 2 ≤ hh ∧ hh ≤ 5) (hl : cl.length = w + hh) (k : Nat) (hk : k ≤ w + hh) : ∀ i, i < k → (rTl t w hh cl cl k).getD (ztn w hh i t) 0 = if zrw hh i t = true then rrv (cl.getD i 0) else cl.getD i 0 := by
  induction k with
  | zero => intro i hi; omega
  | succ k ih =>
    intro i hi
    rw [rTl]
    have hz := ztn_lt (t := t) hd (show k < w + hh by omega)
    by_cases q : k = i
    · subst q
      rw [zgetD_eq (by rw [rTl_len, hl]; exact hz)]
    · have q2 : ¬ ztn w hh k t = ztn w hh i t := fun e => q (ztn_inj ht hd (by omega) (by omega) e)
      rw [zgetD_ne q2]
      exact ih (by omega) i (by omega)
theorem rat_len {w hh t : Nat} {cl : List Int32} : (rat w hh cl t).length = cl.length := by
  unfold rat
  split
  · exact rTl_len _ _ _ _ _ _
  · rfl
theorem rau_len {w hh t : Nat} {cl : List Int32} : (rau w hh cl t).length = cl.length := by
  unfold rau
  split
  · rw [rTl_len, rat_len]
  · exact rat_len
def zi1 (w hh t i : Nat) : Nat := if t % 2 = 1 then ztn w hh i 1 else i
def zi2 (w hh t i : Nat) : Nat := if t / 2 % 2 = 1 then ztn w hh (zi1 w hh t i) 0 else zi1 w hh t i
theorem zi1_lt {w hh t i : Nat} (hd : 2 ≤ w ∧ w ≤ 5 ∧ 2 ≤ hh ∧ hh ≤ 5) (hi : i < w + hh) : zi1 w hh t i < w + hh := by
  unfold zi1
  split
  · exact ztn_lt hd hi
  · exact hi
theorem zi2_lt {w hh t i : Nat} (hd : 2 ≤ w ∧ w ≤ 5 ∧ 2 ≤ hh ∧ hh ≤ 5) (hi : i < w + hh) : zi2 w hh t i < w + hh := by
  unfold zi2
  split
  · exact ztn_lt hd (zi1_lt hd hi)
  · exact zi1_lt hd hi
theorem zi1_on {w hh t j : Nat} (hj : j < w + hh) : ∃ i, i < w + hh ∧ zi1 w hh t i = j := by
  unfold zi1
  split
  · exact ztn_on (t := 1) (by omega) hj
  · exact ⟨j, hj, rfl⟩
theorem zi2_on {w hh t j : Nat} (hj : j < w + hh) : ∃ i, i < w + hh ∧ zi2 w hh t i = j := by
  unfold zi2
  split
  · obtain ⟨i1, h1, e1⟩ := ztn_on (t := 0) (by omega) hj
    obtain ⟨i, h2, e2⟩ := zi1_on (t := t) h1
    exact ⟨i, h2, by rw [e2]; exact e1⟩
  · exact zi1_on hj
theorem rat_at {w hh t i : Nat} {cl : List Int32} (hd : 2 ≤ w ∧ w ≤ 5 ∧ 2 ≤ hh ∧ hh ≤ 5) (hl : cl.length = w + hh) (hi : i < w + hh) : (rat w hh cl t).getD (zi1 w hh t i) 0 = if (if t % 2 = 1 then zrw hh i 1 else false) = true then rrv (cl.getD i 0) else cl.getD i 0 := by
  unfold rat zi1
  by_cases q : t % 2 = 1
  · rw [if_pos q, if_pos q, if_pos q]
    exact rTl_at (t := 1) (by omega) hd hl _ (Nat.le_refl _) i hi
  · rw [if_neg q, if_neg q, if_neg q, if_neg (by decide)]
theorem rau_at {w hh t i : Nat} {cl : List Int32} (hd : 2 ≤ w ∧ w ≤ 5 ∧ 2 ≤ hh ∧ hh ≤ 5) (hl : cl.length = w + hh) (hv : ∀ i, i < w + hh → rrv (rrv (cl.getD i 0)) = cl.getD i 0) (hi : i < w + hh) : (rau w hh cl t).getD (zi2 w hh t i) 0 = if zir hh t i = true then rrv (cl.getD i 0) else cl.getD i 0 := by
  have h1 := rat_at (t := t) hd hl hi
  unfold rau zi2 zir
  by_cases q : t / 2 % 2 = 1
  · rw [if_pos q, if_pos q, rTl_at (t := 0) (by omega) hd (by rw [rat_len]; exact hl) _ (Nat.le_refl _) _ (zi1_lt hd hi), if_pos (by rfl), h1, decide_eq_true q]
    generalize (if t % 2 = 1 then zrw hh i 1 else false) = y
    cases y
    · rfl
    · exact hv i hi
  · rw [if_neg q, if_neg q, h1, decide_eq_false q, Bool.xor_false]
theorem zit_e (w hh t i : Nat) : zit w hh t i = if 3 < t then ztn w hh (zi2 w hh t i) 2 else zi2 w hh t i := rfl
theorem zrall {f : Nat → Bool} {n : Nat} : rall f n = true ↔ ∀ i, i < n → f i = true := by
  induction n with
  | zero => exact ⟨fun _ i hi => absurd hi (Nat.not_lt_zero i), fun _ => rfl⟩
  | succ n ih =>
    rw [rall, Bool.and_eq_true, ih]
    refine ⟨fun h i hi => ?_, fun h => ⟨fun i hi => h i (by omega), h n (by omega)⟩⟩
    rcases Nat.lt_or_ge i n with z | z
    · exact h.1 i z
    · rw [show i = n by omega]; exact h.2
theorem zia_rak {w hh w2 hh2 t : Nat} {cl fs clr cl2 fs2 clr2 : List Int32} (hd : 2 ≤ w ∧ w ≤ 5 ∧ 2 ≤ hh ∧ hh ≤ 5) (hd2 : 2 ≤ w2 ∧ w2 ≤ 5 ∧ 2 ≤ hh2 ∧ hh2 ≤ 5) (K : zxK w hh cl fs clr) (K2 : zxK w2 hh2 cl2 fs2 clr2) : zia w hh cl w2 hh2 cl2 t = rak w hh clr w2 hh2 clr2 t := by
  have hv : ∀ i, i < w + hh → rrv (rrv (clr.getD i 0)) = clr.getD i 0 := fun i hi => (K.2.2.2 i hi).2.2.2
  have ee : ∀ i, i < w + hh → (if zir hh t i = true then zrv (cl.getD i 0) else cl.getD i 0) = if zir hh t i = true then rrv (clr.getD i 0) else clr.getD i 0 := fun i hi => by
    rw [zrv_rrv, (K.2.2.2 i hi).1]
  have eu := fun i (hi : i < w + hh) => rau_at (t := t) hd K.2.2.1 hv hi
  have lu : (rau w hh clr t).length = w + hh := by rw [rau_len]; exact K.2.2.1
  rw [Bool.eq_iff_iff]
  unfold zia
  rw [Bool.and_eq_true, Bool.and_eq_true, decide_eq_true_iff, decide_eq_true_iff, zfa_iff]
  by_cases q : t ≤ 3
  · have q' : ¬ 3 < t := by omega
    rw [rak_n q, if_neg q', if_neg q']
    unfold rae
    rw [Bool.and_eq_true, Bool.and_eq_true, decide_eq_true_iff, decide_eq_true_iff, zrall]
    constructor
    · rintro ⟨rfl, rfl, h⟩
      refine ⟨⟨rfl, rfl⟩, fun j hj => ?_⟩
      obtain ⟨i, hi, rfl⟩ := zi2_on (t := t) hj
      have h1 := of_decide_eq_true (h i hi)
      rw [zit_e, if_neg q', ee i hi, (K2.2.2.2 _ hj).1] at h1
      rw [eu i hi]
      exact decide_eq_true h1.symm
    · rintro ⟨⟨rfl, rfl⟩, h⟩
      refine ⟨rfl, rfl, fun i hi => ?_⟩
      have hj := zi2_lt (t := t) hd hi
      have h1 := of_decide_eq_true (h _ hj)
      rw [eu i hi] at h1
      rw [zit_e, if_neg q', ee i hi, (K2.2.2.2 _ hj).1]
      exact decide_eq_true h1.symm
  · have q' : 3 < t := by omega
    have ev := fun i (hi : i < w + hh) => rTl_at (t := 2) (by omega) hd lu _ (Nat.le_refl _) i hi
    have ez : ∀ i, ¬ zrw hh i 2 = true := fun i => by unfold zrw; simp
    rw [rak_y q, if_pos q', if_pos q']
    unfold rae
    rw [Bool.and_eq_true, Bool.and_eq_true, decide_eq_true_iff, decide_eq_true_iff, zrall]
    constructor
    · rintro ⟨e1, e2, h⟩
      obtain rfl := e1.symm
      obtain rfl := e2.symm
      refine ⟨⟨rfl, rfl⟩, fun j hj => ?_⟩
      obtain ⟨j2, hj2, rfl⟩ := ztn_on (w := w) (hh := hh) (t := 2) (by omega) (show j < w + hh by omega)
      obtain ⟨i, hi, rfl⟩ := zi2_on (t := t) hj2
      have h1 := of_decide_eq_true (h i hi)
      rw [zit_e, if_pos q', ee i hi, (K2.2.2.2 _ hj).1] at h1
      rw [ev _ hj2, if_neg (ez _), eu i hi]
      exact decide_eq_true h1.symm
    · rintro ⟨⟨rfl, rfl⟩, h⟩
      refine ⟨rfl, rfl, fun i hi => ?_⟩
      have hj2 := zi2_lt (t := t) hd hi
      have hj := ztn_lt (t := 2) hd hj2
      have hj3 : ztn w hh (zi2 w hh t i) 2 < hh + w := by omega
      have h1 := of_decide_eq_true (h _ hj3)
      rw [ev _ hj2, if_neg (ez _), eu i hi] at h1
      rw [zit_e, if_pos q', ee i hi, (K2.2.2.2 _ hj3).1]
      exact decide_eq_true h1.symm
theorem zfst_ext {f g : Nat → Bool} (h : ∀ t, f t = g t) : ∀ m k, zfst f m k = zfst g m k := by
  intro m
  induction m with
  | zero => intro k; rfl
  | succ m ih => intro k; rw [zfst, zfst, h, ih]
theorem zaK_ral {L : List yBS} {B : List rBS} (R : zRel L B) {x y v : Int32} (H : zaK L x y v) : ∃ k k2, k < B.length ∧ x = zJ k ∧ k2 < B.length ∧ y = zJ k2 ∧ v = ral B k k2 := by
  obtain ⟨k, k2, β, β2, h1, ex, h2, ey, ev⟩ := H
  obtain ⟨w, hh, X, clr, mi, sp, KS, ⟨b, r, g, e, m1⟩, Z1⟩ := R.has h1
  obtain ⟨w2, hh2, X2, clr2, mi2, sp2, KS2, ⟨b2, r2, g2, e2, m2⟩, Z2⟩ := R.has h2
  obtain ⟨z1, z2, hd, -, -, K, -⟩ := Z1
  obtain ⟨y1, y2, hd2, -, -, K2, -⟩ := Z2
  subst z1 z2 y1 y2
  refine ⟨k, k2, rlt_of m1, ex, rlt_of m2, ey, ?_⟩
  rw [ral_e m1 m2, ev]
  exact zfst_ext (fun t => zia_rak hd hd2 K K2) _ _
theorem mlt_12 (q : Bool) : mlt q = zJ 0 ∨ mlt q = zJ 1 ∨ mlt q = zJ 2 := by cases q <;> decide
theorem mlt_0 (q : Bool) : ¬ mlt q = 0 := by cases q <;> decide
theorem zrel_ref {L : List yBS} {B B1 : List rBS} (R : zRel L B) (h : B1 = B) : zRel L B1 := by subst h; exact R
theorem zrelC68 {nb : Nat} {L L1 LN : List yBS} {B B1 : List rBS} {rf : Int32} {αt : yAS} {h : zPH} {a : Nat} {τ : yGS} {x : Int32} {y : Int32} {kc : Nat} {vv : Int32} {n0 : Int32} {v : Int32} (C : yC h a L rf τ αt) (R : zRel L B) (H : cs68 nb L rf αt x y kc vv LN) (e : yEqA LN L1) (ms : ms150 B x y n0 v B1) : zRel L1 B1 ∧ n0 = zJ kc ∧ (kc = 0 → vv = v) := by
  rcases H with ⟨w, hh, w2, w5, h2, h5, ex, ey, hL, rfl, rfl, rfl⟩ | ⟨hn, rfl, rfl⟩ | ⟨hy, hL, rfl, rfl⟩
  · rcases ms with ⟨⟨-, -⟩, hq⟩ | ⟨⟨-, -⟩, -, hB⟩ | ⟨rfl, rfl, w', hh', b, r, g, e', p1, p2, p3, p4, ex', ey', hB, rfl⟩
    · exact absurd ⟨zr25.mpr ⟨w, w2, w5, ex⟩, zr25.mpr ⟨hh, h2, h5, ey⟩⟩ hq
    · have := R.1
      omega
    · obtain rfl := zJ_in (by omega) (by omega) ex ex'
      obtain rfl := zJ_in (by omega) (by omega) ey ey'
      refine ⟨zrel_eqA (zRel.push R hL (?_ : zRb _ _)) e, rfl, fun _ => by rw [R.1]⟩
      have hd : 2 ≤ w ∧ w ≤ 5 ∧ 2 ≤ hh ∧ hh ≤ 5 := ⟨w2, w5, h2, h5⟩
      have z1 : zCX w hh yZ0 (mClr w hh) := zCX_clr (zwh_s hd).1 List.length_replicate
      have z2 : zxU0 (w * hh) (mClr w hh) := mClr_u0
      have z3 := zxK_new hd
      have z4 : (List.replicate 600 (0 : Int32)).length = 600 := List.length_replicate
      have z5 : (List.replicate 6 (0 : Int32)).length = 6 := List.length_replicate
      generalize yZ0 = cz at z1 ⊢
      generalize mClr w hh = M at z1 z2 ⊢
      generalize (yTi w hh (w + hh)).1 = T1 at z3 ⊢
      generalize (yTi w hh (w + hh)).2 = T2 at z3 ⊢
      generalize rnc (w + hh) (w + hh) = T3 at z3 ⊢
      generalize List.replicate 600 (0 : Int32) = T4 at z4 ⊢
      generalize List.replicate 6 (0 : Int32) = T5 at z5 ⊢
      exact ⟨rfl, rfl, hd, z1, z2, z3, zxS.none z4 z5, rfl, rfl⟩
  · rcases ms with ⟨⟨rfl, rfl⟩, hq⟩ | ⟨⟨-, -⟩, hq, -⟩ | ⟨-, -, w', hh', b, r, g, e', p1, p2, p3, p4, p5, p6, -⟩
    · exact ⟨zrel_eqA R e, rfl, fun z => absurd z (by decide)⟩
    · obtain ⟨w, w2, w5, ex⟩ := zr25.mp hq.1
      obtain ⟨hh, h2, h5, ey⟩ := zr25.mp hq.2
      exact absurd ⟨w, hh, w2, w5, h2, h5, ex, ey⟩ hn
    · exact absurd ⟨w', hh', p1, p2, p3, p4, p5, p6⟩ hn
  · rcases ms with ⟨⟨-, -⟩, hq⟩ | ⟨⟨rfl, rfl⟩, hq, -⟩ | ⟨-, -, w', hh', b, r, g, e', p1, p2, p3, p4, p5, p6, hB, -⟩
    · obtain ⟨w, hh, w2, w5, h2, h5, ex, ey⟩ := hy
      exact absurd ⟨zr25.mpr ⟨w, w2, w5, ex⟩, zr25.mpr ⟨hh, h2, h5, ey⟩⟩ hq
    · exact ⟨zrel_eqA R e, rfl, fun z => absurd z (by decide)⟩
    · have l1 := R.1
      have l2 := R.2.1
      omega
theorem zrel68 {nb : Nat} {L L1 LN : List yBS} {B B1 : List rBS} {rf : Int32} {αt : yAS} {h : zPH} {a : Nat} {τ : yGS} {x : Int32} {y : Int32} {kc : Nat} {vv : Int32} {n0 : Int32} {v : Int32} (C : yC h a L rf τ αt) (R : zRel L B) (H : cs68 nb L rf αt x y kc vv LN) (e : yEqA LN L1) (ms : ms150 B x y n0 v B1) : zRel L1 B1 := (zrelC68 C R H e ms).1
theorem zrelC71 {nb : Nat} {L L1 LN : List yBS} {B B1 : List rBS} {rf : Int32} {αt : yAS} {h : zPH} {a : Nat} {τ : yGS} {x : Int32} {y : Int32} {z : Int32} {kc : Nat} {vv : Int32} {n0 : Int32} {v : Int32} (C : yC h a L rf τ αt) (R : zRel L B) (H : cs71 nb L rf αt x y z kc vv LN) (e : yEqA LN L1) (ms : ms161 B x y z n0 v B1) : zRel L1 B1 ∧ n0 = zJ kc ∧ (kc = 0 → vv = v) := by
  rcases H with ⟨k, b, w, hh, cs, cl, fs, α, kp, gd, gu, mi, sp, hk, ex, i, hi, ey, hz, rfl, rfl, rfl⟩ | ⟨hn, rfl, rfl⟩ | ⟨k, b, w, hh, cs, cl, fs, α, kp, gd, gu, mi, sp, hk, ex, hy, rfl, rfl⟩ | ⟨k, b, w, hh, cs, cl, fs, α, kp, gd, gu, mi, sp, hk, ex, i, hi, ey, hz, rfl, rfl⟩
  · rcases ms with ⟨⟨rfl, rfl⟩, hno⟩ | ⟨⟨rfl, rfl⟩, k', w', hh', X, clr, mi', sp', KS, hm, em, i', hi', ey', hz'⟩ | ⟨rfl, k', w', hh', X, clr, mi', sp', KS, hm, em, i', hi', ey', hz', rfl, b', r', g', e', rfl⟩
    · exact absurd hno (R.nno hk ex ⟨i, hi, ey⟩)
    · obtain ⟨rfl, rfl, rfl, hd, C0, U, K, S, rfl, rfl⟩ := R.at hk ex hm em
      obtain rfl := zJ_in (by omega) (by omega) ey ey'
      rw [zic_rcb, hz'] at hz
      cases hz
    · obtain ⟨rfl, rfl, rfl, hd, C0, U, K, S, rfl, rfl⟩ := R.at hk ex hm em
      obtain rfl := zJ_in (by omega) (by omega) ey ey'
      have K1 := K.set (zwh_s hd).2 hi (zic_vd (yln_b _ hd).2 hz)
      refine ⟨zrel_eqA (zRel.set R (?_ : zRb _ _)) e, rfl, fun _ => zbc_ws C0.1.lr hd hi (K1.ln _ hi)⟩
      exact ⟨rfl, rfl, hd, C0, U, K1, S, rfl, rfl⟩
  · rcases ms with ⟨⟨rfl, rfl⟩, hno⟩ | ⟨⟨rfl, rfl⟩, k', w', hh', X, clr, mi', sp', KS, hm, em, i', hi', ey', hz'⟩ | ⟨rfl, k', w', hh', X, clr, mi', sp', KS, hm, em, i', hi', ey', hz', rfl, b', r', g', e', rfl⟩
    · exact ⟨zrel_eqA R e, rfl, fun z => absurd z (by decide)⟩
    · exact absurd (R.isz hm em) hn
    · exact absurd (R.isz hm em) hn
  · rcases ms with ⟨⟨rfl, rfl⟩, hno⟩ | ⟨⟨rfl, rfl⟩, k', w', hh', X, clr, mi', sp', KS, hm, em, i', hi', ey', hz'⟩ | ⟨rfl, k', w', hh', X, clr, mi', sp', KS, hm, em, i', hi', ey', hz', rfl, b', r', g', e', rfl⟩
    · exact ⟨zrel_eqA R e, rfl, fun z => absurd z (by decide)⟩
    · obtain ⟨rfl, rfl, rfl, hd, C0, U, K, S, rfl, rfl⟩ := R.at hk ex hm em
      exact absurd ⟨_, hi', ey'⟩ hy
    · obtain ⟨rfl, rfl, rfl, hd, C0, U, K, S, rfl, rfl⟩ := R.at hk ex hm em
      exact absurd ⟨_, hi', ey'⟩ hy
  · rcases ms with ⟨⟨rfl, rfl⟩, hno⟩ | ⟨⟨rfl, rfl⟩, k', w', hh', X, clr, mi', sp', KS, hm, em, i', hi', ey', hz'⟩ | ⟨rfl, k', w', hh', X, clr, mi', sp', KS, hm, em, i', hi', ey', hz', rfl, b', r', g', e', rfl⟩
    · exact absurd hno (R.nno hk ex ⟨i, hi, ey⟩)
    · exact ⟨zrel_eqA R e, rfl, fun z => absurd z (by decide)⟩
    · obtain ⟨rfl, rfl, rfl, hd, C0, U, K, S, rfl, rfl⟩ := R.at hk ex hm em
      obtain rfl := zJ_in (by omega) (by omega) ey ey'
      rw [zic_rcb, hz'] at hz
      cases hz
theorem zrel71 {nb : Nat} {L L1 LN : List yBS} {B B1 : List rBS} {rf : Int32} {αt : yAS} {h : zPH} {a : Nat} {τ : yGS} {x : Int32} {y : Int32} {z : Int32} {kc : Nat} {vv : Int32} {n0 : Int32} {v : Int32} (C : yC h a L rf τ αt) (R : zRel L B) (H : cs71 nb L rf αt x y z kc vv LN) (e : yEqA LN L1) (ms : ms161 B x y z n0 v B1) : zRel L1 B1 := (zrelC71 C R H e ms).1
theorem zrelC74 {nb : Nat} {L L1 LN : List yBS} {B B1 : List rBS} {rf : Int32} {αt : yAS} {h : zPH} {a : Nat} {τ : yGS} {x : Int32} {y : Int32} {kc : Nat} {vv : Int32} {n0 : Int32} {v : Int32} (C : yC h a L rf τ αt) (R : zRel L B) (H : cs74 nb L rf αt x y kc vv LN) (e : yEqA LN L1) (ms : ms177 B x y n0 v B1) : zRel L1 B1 ∧ n0 = zJ kc ∧ (kc = 0 → vv = v) := by
  rcases H with ⟨k, b, w, hh, cs, cl, fs, α, kp, gd, gu, mi, sp, hk, ex, i, hi, ey, rfl, rfl, rfl⟩ | ⟨hn, rfl, rfl⟩ | ⟨k, b, w, hh, cs, cl, fs, α, kp, gd, gu, mi, sp, hk, ex, hy, rfl, rfl⟩
  · rcases ms with ⟨⟨rfl, rfl⟩, hno⟩ | ⟨rfl, k', w', hh', X, clr, mi', sp', KS, hm, em, i', hi', ey', rfl, b', r', g', e', rfl⟩
    · exact absurd hno (R.nno hk ex ⟨i, hi, ey⟩)
    · obtain ⟨rfl, rfl, rfl, hd, C0, U, K, S, rfl, rfl⟩ := R.at hk ex hm em
      obtain rfl := zJ_in (by omega) (by omega) ey ey'
      refine ⟨zrel_eqA (zRel.set R (?_ : zRb _ _)) e, rfl, fun _ => (K.2.2.2 _ hi).1⟩
      exact ⟨rfl, rfl, hd, C0, U, K.set (zwh_s hd).2 hi zVd_m, S, rfl, rfl⟩
  · rcases ms with ⟨⟨rfl, rfl⟩, hno⟩ | ⟨rfl, k', w', hh', X, clr, mi', sp', KS, hm, em, i', hi', ey', rfl, b', r', g', e', rfl⟩
    · exact ⟨zrel_eqA R e, rfl, fun z => absurd z (by decide)⟩
    · exact absurd (R.isz hm em) hn
  · rcases ms with ⟨⟨rfl, rfl⟩, hno⟩ | ⟨rfl, k', w', hh', X, clr, mi', sp', KS, hm, em, i', hi', ey', rfl, b', r', g', e', rfl⟩
    · exact ⟨zrel_eqA R e, rfl, fun z => absurd z (by decide)⟩
    · obtain ⟨rfl, rfl, rfl, hd, C0, U, K, S, rfl, rfl⟩ := R.at hk ex hm em
      exact absurd ⟨_, hi', ey'⟩ hy
theorem zrel74 {nb : Nat} {L L1 LN : List yBS} {B B1 : List rBS} {rf : Int32} {αt : yAS} {h : zPH} {a : Nat} {τ : yGS} {x : Int32} {y : Int32} {kc : Nat} {vv : Int32} {n0 : Int32} {v : Int32} (C : yC h a L rf τ αt) (R : zRel L B) (H : cs74 nb L rf αt x y kc vv LN) (e : yEqA LN L1) (ms : ms177 B x y n0 v B1) : zRel L1 B1 := (zrelC74 C R H e ms).1
theorem zrelC76 {nb : Nat} {L L1 LN : List yBS} {B B1 : List rBS} {rf : Int32} {αt : yAS} {h : zPH} {a : Nat} {τ : yGS} {x : Int32} {y : Int32} {q : Bool} {kc : Nat} {vv : Int32} {n0 : Int32} {v : Int32} (C : yC h a L rf τ αt) (R : zRel L B) (H : cs76 nb L rf αt x y q kc vv LN) (e : yEqA LN L1) (ms : ms178 B x y q n0 v B1) : zRel L1 B1 ∧ n0 = zJ kc ∧ (kc = 0 → vv = v) := by
  rcases H with ⟨k, b, w, hh, cs, cl, fs, α, kp, gd, gu, mi, sp, hk, ex, c, hc, ey, hu, hn0, rfl, rfl, rfl⟩ | ⟨k, b, w, hh, cs, cl, fs, α, kp, gd, gu, mi, sp, hk, ex, c, hc, ey, hu, hn0, rfl, rfl, rfl⟩ | ⟨hn, rfl, rfl⟩ | ⟨k, b, w, hh, cs, cl, fs, α, kp, gd, gu, mi, sp, hk, ex, hy, rfl, rfl⟩ | ⟨k, b, w, hh, cs, cl, fs, α, kp, gd, gu, mi, sp, hk, ex, c, hc, ey, hu, rfl, rfl⟩
  · rcases ms with ⟨⟨rfl, rfl⟩, hno⟩ | ⟨⟨rfl, rfl⟩, k', w', hh', X, clr, mi', sp', KS, hm, em, c', hc', ey', hu'⟩ | ⟨rfl, k', w', hh', X, clr, mi', sp', KS, hm, em, c', hc', ey', hu', l, P, ⟨hl, rfl, b', r', g', e', rfl⟩ | ⟨hl, rfl, b', r', g', e', rfl⟩⟩
    · exact absurd hno (R.nno hk ex ⟨c, hc, ey⟩)
    · obtain ⟨rfl, rfl, rfl, hd, C0, U, K, S, rfl, rfl⟩ := R.at hk ex hm em
      obtain rfl := zJ_in (by have := (zwh_s hd).1; omega) (by have := (zwh_s hd).1; omega) ey ey'
      rw [C0.1.lr c hc] at hu
      exact absurd hu hu'
    · obtain ⟨rfl, rfl, rfl, hd, C0, U, K, S, rfl, rfl⟩ := R.at hk ex hm em
      obtain rfl := zJ_in (by have := (zwh_s hd).1; omega) (by have := (zwh_s hd).1; omega) ey ey'
      refine ⟨zrel_eqA (zRel.set R (?_ : zRb _ _)) e, rfl, fun _ => rfl⟩
      exact ⟨rfl, rfl, hd, C0.be (zwh_s hd).1 hc (mdk_12 q) (by rw [if_neg (mdk_0 q), S.1]), U.be C0.2.2.1 (fun z => absurd z (mdk_0 q)), K, S.keep (zKp.set hu'), rfl, rfl⟩
    · obtain ⟨rfl, rfl, rfl, hd, C0, U, K, S, rfl, rfl⟩ := R.at hk ex hm em
      obtain rfl := zJ_in (by have := (zwh_s hd).1; omega) (by have := (zwh_s hd).1; omega) ey ey'
      have Cm := C0.be (x := mdk q) (y := -1) (z := zJ 0) (ng := 0) (e := zJ 0) (zwh_s hd).1 hc (mdk_12 q) (by split <;> rfl)
      have en := yLk_n (m := 1) Cm.1.lr hd K.ln (by decide) (by decide) C.ait C.1.ta.2.1.1 C.1.ta.2.1.2.1 C.1.ta.2.1.2.2.1 C.1.ta.2.1.2.2.2.1 cl P
      have en : (yLk w' hh' 1 (zpt cs c (if q = true then zJ 1 else zJ 2) (-1) (zJ 0) (zJ 0)) cl fs αt).2.2.2.2.2.2 = min 1 l.length := en
      exact absurd (by omega) hn0
  · rcases ms with ⟨⟨rfl, rfl⟩, hno⟩ | ⟨⟨rfl, rfl⟩, k', w', hh', X, clr, mi', sp', KS, hm, em, c', hc', ey', hu'⟩ | ⟨rfl, k', w', hh', X, clr, mi', sp', KS, hm, em, c', hc', ey', hu', l, P, ⟨hl, rfl, b', r', g', e', rfl⟩ | ⟨hl, rfl, b', r', g', e', rfl⟩⟩
    · exact absurd hno (R.nno hk ex ⟨c, hc, ey⟩)
    · obtain ⟨rfl, rfl, rfl, hd, C0, U, K, S, rfl, rfl⟩ := R.at hk ex hm em
      obtain rfl := zJ_in (by have := (zwh_s hd).1; omega) (by have := (zwh_s hd).1; omega) ey ey'
      rw [C0.1.lr c hc] at hu
      exact absurd hu hu'
    · obtain ⟨rfl, rfl, rfl, hd, C0, U, K, S, rfl, rfl⟩ := R.at hk ex hm em
      obtain rfl := zJ_in (by have := (zwh_s hd).1; omega) (by have := (zwh_s hd).1; omega) ey ey'
      have Cm := C0.be (x := mdk q) (y := -1) (z := zJ 0) (ng := 0) (e := zJ 0) (zwh_s hd).1 hc (mdk_12 q) (by split <;> rfl)
      have en := yLk_n (m := 1) Cm.1.lr hd K.ln (by decide) (by decide) C.ait C.1.ta.2.1.1 C.1.ta.2.1.2.1 C.1.ta.2.1.2.2.1 C.1.ta.2.1.2.2.2.1 cl P
      have en : (yLk w' hh' 1 (zpt cs c (if q = true then zJ 1 else zJ 2) (-1) (zJ 0) (zJ 0)) cl fs αt).2.2.2.2.2.2 = min 1 l.length := en
      omega
    · obtain ⟨rfl, rfl, rfl, hd, C0, U, K, S, rfl, rfl⟩ := R.at hk ex hm em
      obtain rfl := zJ_in (by have := (zwh_s hd).1; omega) (by have := (zwh_s hd).1; omega) ey ey'
      obtain ⟨C1, U1, K1⟩ := C0.undo (s := mdk q) (ng := KS.length) U hc hu'
      refine ⟨zrel_eqA (zRel.set R (?_ : zRb _ _)) e, rfl, fun _ => rfl⟩
      exact ⟨rfl, rfl, hd, C1, U1, K, S.keep K1, rfl, rfl⟩
  · rcases ms with ⟨⟨rfl, rfl⟩, hno⟩ | ⟨⟨rfl, rfl⟩, k', w', hh', X, clr, mi', sp', KS, hm, em, c', hc', ey', hu'⟩ | ⟨rfl, k', w', hh', X, clr, mi', sp', KS, hm, em, c', hc', ey', hu', l, P, ⟨hl, rfl, b', r', g', e', rfl⟩ | ⟨hl, rfl, b', r', g', e', rfl⟩⟩
    · exact ⟨zrel_eqA R e, rfl, fun z => absurd z (by decide)⟩
    · exact absurd (R.isz hm em) hn
    · exact absurd (R.isz hm em) hn
    · exact absurd (R.isz hm em) hn
  · rcases ms with ⟨⟨rfl, rfl⟩, hno⟩ | ⟨⟨rfl, rfl⟩, k', w', hh', X, clr, mi', sp', KS, hm, em, c', hc', ey', hu'⟩ | ⟨rfl, k', w', hh', X, clr, mi', sp', KS, hm, em, c', hc', ey', hu', l, P, ⟨hl, rfl, b', r', g', e', rfl⟩ | ⟨hl, rfl, b', r', g', e', rfl⟩⟩
    · exact ⟨zrel_eqA R e, rfl, fun z => absurd z (by decide)⟩
    · obtain ⟨rfl, rfl, rfl, hd, C0, U, K, S, rfl, rfl⟩ := R.at hk ex hm em
      exact absurd ⟨_, hc', ey'⟩ hy
    · obtain ⟨rfl, rfl, rfl, hd, C0, U, K, S, rfl, rfl⟩ := R.at hk ex hm em
      exact absurd ⟨_, hc', ey'⟩ hy
    · obtain ⟨rfl, rfl, rfl, hd, C0, U, K, S, rfl, rfl⟩ := R.at hk ex hm em
      exact absurd ⟨_, hc', ey'⟩ hy
  · rcases ms with ⟨⟨rfl, rfl⟩, hno⟩ | ⟨⟨rfl, rfl⟩, k', w', hh', X, clr, mi', sp', KS, hm, em, c', hc', ey', hu'⟩ | ⟨rfl, k', w', hh', X, clr, mi', sp', KS, hm, em, c', hc', ey', hu', l, P, ⟨hl, rfl, b', r', g', e', rfl⟩ | ⟨hl, rfl, b', r', g', e', rfl⟩⟩
    · exact absurd hno (R.nno hk ex ⟨c, hc, ey⟩)
    · exact ⟨zrel_eqA R e, rfl, fun z => absurd z (by decide)⟩
    · obtain ⟨rfl, rfl, rfl, hd, C0, U, K, S, rfl, rfl⟩ := R.at hk ex hm em
      obtain rfl := zJ_in (by have := (zwh_s hd).1; omega) (by have := (zwh_s hd).1; omega) ey ey'
      rw [C0.1.lr c hc] at hu
      exact absurd hu' hu
    · obtain ⟨rfl, rfl, rfl, hd, C0, U, K, S, rfl, rfl⟩ := R.at hk ex hm em
      obtain rfl := zJ_in (by have := (zwh_s hd).1; omega) (by have := (zwh_s hd).1; omega) ey ey'
      rw [C0.1.lr c hc] at hu
      exact absurd hu' hu
theorem zrel76 {nb : Nat} {L L1 LN : List yBS} {B B1 : List rBS} {rf : Int32} {αt : yAS} {h : zPH} {a : Nat} {τ : yGS} {x : Int32} {y : Int32} {q : Bool} {kc : Nat} {vv : Int32} {n0 : Int32} {v : Int32} (C : yC h a L rf τ αt) (R : zRel L B) (H : cs76 nb L rf αt x y q kc vv LN) (e : yEqA LN L1) (ms : ms178 B x y q n0 v B1) : zRel L1 B1 := (zrelC76 C R H e ms).1
theorem zrelC81 {nb : Nat} {L L1 LN : List yBS} {B B1 : List rBS} {rf : Int32} {αt : yAS} {h : zPH} {a : Nat} {τ : yGS} {x : Int32} {kc : Nat} {vv : Int32} {n0 : Int32} {v : Int32} (C : yC h a L rf τ αt) (R : zRel L B) (H : cs81 nb L rf αt x kc vv LN) (e : yEqA LN L1) (ms : ms186 B x n0 v B1) : zRel L1 B1 ∧ n0 = zJ kc ∧ (kc = 0 → vv = v) := by
  rcases H with ⟨k, b, w, hh, cs, cl, fs, α, kp, gd, gu, mi, sp, hk, ex, rfl, rfl, rfl⟩ | ⟨hn, rfl, rfl⟩
  · rcases ms with ⟨⟨rfl, rfl⟩, hno⟩ | ⟨rfl, k', w', hh', X, clr, mi', sp', KS, hm, em, rfl, b', r', g', e', rfl⟩
    · exact absurd (R.zinB hk ex) hno
    · obtain ⟨rfl, rfl, rfl, hd, C0, U, K, S, rfl, rfl⟩ := R.at hk ex hm em
      have hs := zsS_rsS (ng := KS.length) hd K.ln C0
      refine ⟨zrel_eqA (zRel.set R (?_ : zRb _ _)) e, rfl, fun _ => by rw [S.1]; exact hs.2⟩
      rw [S.1]
      exact ⟨rfl, rfl, hd, hs.1, rsS_u0 U C0.2.2.1, K, by rw [← S.1]; exact S.keep (rsS_kp hd), rfl, rfl⟩
  · rcases ms with ⟨⟨rfl, rfl⟩, hno⟩ | ⟨rfl, k', w', hh', X, clr, mi', sp', KS, hm, em, rfl, b', r', g', e', rfl⟩
    · exact ⟨zrel_eqA R e, rfl, fun z => absurd z (by decide)⟩
    · exact absurd (R.isz hm em) hn
theorem zrel81 {nb : Nat} {L L1 LN : List yBS} {B B1 : List rBS} {rf : Int32} {αt : yAS} {h : zPH} {a : Nat} {τ : yGS} {x : Int32} {kc : Nat} {vv : Int32} {n0 : Int32} {v : Int32} (C : yC h a L rf τ αt) (R : zRel L B) (H : cs81 nb L rf αt x kc vv LN) (e : yEqA LN L1) (ms : ms186 B x n0 v B1) : zRel L1 B1 := (zrelC81 C R H e ms).1
theorem zrelC83 {nb : Nat} {L L1 LN : List yBS} {B B1 : List rBS} {rf : Int32} {αt : yAS} {h : zPH} {a : Nat} {τ : yGS} {x : Int32} {y : Int32} {q : Bool} {kc : Nat} {vv : Int32} {n0 : Int32} {v : Int32} (C : yC h a L rf τ αt) (R : zRel L B) (H : cs83 nb L rf αt x y q kc vv LN) (e : yEqA LN L1) (ms : ms190 B x y q n0 v B1) : zRel L1 B1 ∧ n0 = zJ kc ∧ (kc = 0 → vv = v) := by
  rcases H with ⟨k, b, w, hh, cs, cl, fs, α, kp, gd, gu, mi, sp, hk, ex, c, hc, ey, hu, hg, rfl, rfl, rfl⟩ | ⟨hn, rfl, rfl⟩ | ⟨k, b, w, hh, cs, cl, fs, α, kp, gd, gu, mi, sp, hk, ex, hy, rfl, rfl⟩ | ⟨k, b, w, hh, cs, cl, fs, α, kp, gd, gu, mi, sp, hk, ex, c, hc, ey, hu, rfl, rfl⟩ | ⟨k, b, w, hh, cs, cl, fs, α, kp, gd, gu, mi, sp, hk, ex, hy, hg, rfl, rfl⟩
  · rcases ms with ⟨⟨rfl, rfl⟩, hno⟩ | ⟨⟨rfl, rfl⟩, k', w', hh', X, clr, mi', sp', KS, hm, em, c', hc', ey', hu'⟩ | ⟨rfl, k', w', hh', X, clr, mi', sp', KS, hm, em, c', hc', ey', hu', h6, a', rfl, b', r', g', e', rfl⟩
    · exact absurd hno (R.nno hk ex ⟨c, hc, ey⟩)
    · obtain ⟨rfl, rfl, rfl, hd, C0, U, K, S, rfl, rfl⟩ := R.at hk ex hm em
      obtain rfl := zJ_in (by have := (zwh_s hd).1; omega) (by have := (zwh_s hd).1; omega) ey ey'
      have hs := S.1
      rw [C0.1.lr c hc] at hu
      rcases hu' with z | z
      · exact absurd hu z
      · omega
    · obtain ⟨rfl, rfl, rfl, hd, C0, U, K, S, rfl, rfl⟩ := R.at hk ex hm em
      obtain rfl := zJ_in (by have := (zwh_s hd).1; omega) (by have := (zwh_s hd).1; omega) ey ey'
      have hl : (KS ++ [((a', X, c, q) : rKS)]).length = gu + 1 := by rw [List.length_append, S.1]; rfl
      rw [hl]
      refine ⟨zrel_eqA (zRel.set R (?_ : zRb _ _)) e, rfl, fun _ => rfl⟩
      exact ⟨rfl, rfl, hd, C0.be (zwh_s hd).1 hc (mdk_12 q) (by rw [if_neg (mdk_0 q)]), U.be C0.2.2.1 (fun z => absurd z (mdk_0 q)), K, S.push rfl hg C0 U hc hu' a' q, rfl, rfl⟩
  · rcases ms with ⟨⟨rfl, rfl⟩, hno⟩ | ⟨⟨rfl, rfl⟩, k', w', hh', X, clr, mi', sp', KS, hm, em, c', hc', ey', hu'⟩ | ⟨rfl, k', w', hh', X, clr, mi', sp', KS, hm, em, c', hc', ey', hu', h6, a', rfl, b', r', g', e', rfl⟩
    · exact ⟨zrel_eqA R e, rfl, fun z => absurd z (by decide)⟩
    · exact absurd (R.isz hm em) hn
    · exact absurd (R.isz hm em) hn
  · rcases ms with ⟨⟨rfl, rfl⟩, hno⟩ | ⟨⟨rfl, rfl⟩, k', w', hh', X, clr, mi', sp', KS, hm, em, c', hc', ey', hu'⟩ | ⟨rfl, k', w', hh', X, clr, mi', sp', KS, hm, em, c', hc', ey', hu', h6, a', rfl, b', r', g', e', rfl⟩
    · exact ⟨zrel_eqA R e, rfl, fun z => absurd z (by decide)⟩
    · obtain ⟨rfl, rfl, rfl, hd, C0, U, K, S, rfl, rfl⟩ := R.at hk ex hm em
      exact absurd ⟨_, hc', ey'⟩ hy
    · obtain ⟨rfl, rfl, rfl, hd, C0, U, K, S, rfl, rfl⟩ := R.at hk ex hm em
      exact absurd ⟨_, hc', ey'⟩ hy
  · rcases ms with ⟨⟨rfl, rfl⟩, hno⟩ | ⟨⟨rfl, rfl⟩, k', w', hh', X, clr, mi', sp', KS, hm, em, c', hc', ey', hu'⟩ | ⟨rfl, k', w', hh', X, clr, mi', sp', KS, hm, em, c', hc', ey', hu', h6, a', rfl, b', r', g', e', rfl⟩
    · exact absurd hno (R.nno hk ex ⟨c, hc, ey⟩)
    · exact ⟨zrel_eqA R e, rfl, fun z => absurd z (by decide)⟩
    · obtain ⟨rfl, rfl, rfl, hd, C0, U, K, S, rfl, rfl⟩ := R.at hk ex hm em
      obtain rfl := zJ_in (by have := (zwh_s hd).1; omega) (by have := (zwh_s hd).1; omega) ey ey'
      rw [C0.1.lr c hc] at hu
      exact absurd hu' hu
  · rcases ms with ⟨⟨rfl, rfl⟩, hno⟩ | ⟨⟨rfl, rfl⟩, k', w', hh', X, clr, mi', sp', KS, hm, em, c', hc', ey', hu'⟩ | ⟨rfl, k', w', hh', X, clr, mi', sp', KS, hm, em, c', hc', ey', hu', h6, a', rfl, b', r', g', e', rfl⟩
    · exact absurd hno (R.nno hk ex hy)
    · exact ⟨zrel_eqA R e, rfl, fun z => absurd z (by decide)⟩
    · obtain ⟨rfl, rfl, rfl, hd, C0, U, K, S, rfl, rfl⟩ := R.at hk ex hm em
      have := S.1
      omega
theorem zrel83 {nb : Nat} {L L1 LN : List yBS} {B B1 : List rBS} {rf : Int32} {αt : yAS} {h : zPH} {a : Nat} {τ : yGS} {x : Int32} {y : Int32} {q : Bool} {kc : Nat} {vv : Int32} {n0 : Int32} {v : Int32} (C : yC h a L rf τ αt) (R : zRel L B) (H : cs83 nb L rf αt x y q kc vv LN) (e : yEqA LN L1) (ms : ms190 B x y q n0 v B1) : zRel L1 B1 := (zrelC83 C R H e ms).1
theorem zrelC86 {nb : Nat} {L L1 LN : List yBS} {B B1 : List rBS} {rf : Int32} {αt : yAS} {h : zPH} {a : Nat} {τ : yGS} {x : Int32} {q : Bool} {kc : Nat} {vv : Int32} {n0 : Int32} {v : Int32} (C : yC h a L rf τ αt) (R : zRel L B) (H : cs86 nb L rf αt x q kc vv LN) (e : yEqA LN L1) (ms : ms193 B x q n0 v B1) : zRel L1 B1 ∧ n0 = zJ kc ∧ (kc = 0 → vv = v) := by
  rcases H with ⟨k, b, w, hh, cs, cl, fs, α, kp, gd, gu, mi, sp, hk, ex, c, hc, ec, hg, rfl, rfl, rfl⟩ | ⟨hn, rfl, rfl⟩ | ⟨k, b, w, hh, cs, cl, fs, α, kp, gd, gu, mi, sp, hk, ex, hg, rfl, rfl⟩
  · rcases ms with ⟨⟨rfl, rfl⟩, hno⟩ | ⟨⟨rfl, rfl⟩, k', w', hh', X, clr, mi', sp', KS, hm, em, hk0⟩ | ⟨rfl, k', w', hh', X, clr, mi', sp', KS, hm, em, K0, κ, hKS, rfl, b', r', g', e', rfl⟩
    · exact absurd (R.zinB hk ex) hno
    · obtain ⟨rfl, rfl, rfl, hd, C0, U, K, S, rfl, rfl⟩ := R.at hk ex hm em
      have := S.1
      omega
    · obtain ⟨rfl, rfl, rfl, hd, C0, U, K, S, rfl, rfl⟩ := R.at hk ex hm em
      obtain ⟨s1, s2, s3, s4, s5, s6, s7, s8⟩ := S.pop hKS
      have hb := zsg_back (cs := cs) (kp := kp) (g := gu - 1) C0.2.1
      have ecc : c = κ.2.2.1 := zJ_in (by omega) (by have := (zwh_s hd).1; omega) ec s2
      subst ecc
      have hs : zst cs κ.2.2.1 = mdk κ.2.2.2 := (C0.1.lr _ s3).trans s7
      have h3 : zJ 3 - mdk κ.2.2.2 = mlt κ.2.2.2 := by cases κ.2.2.2 <;> decide
      have hg2 : gu - 1 = K0.length := by omega
      refine ⟨zrel_eqA (zRel.set R (?_ : zRb _ _)) e, rfl, fun _ => rfl⟩
      rw [hb, hs, h3]
      cases q with
      | true =>
        rw [if_pos rfl, if_pos rfl, ← hg2]
        have Cm : zCX w' hh' (zpt (zsg kp (gu - 1)) κ.2.2.1 (mlt κ.2.2.2) (-2) (zJ 0) (zJ (gu - 1))) (rbe κ.2.1 κ.2.2.1 (mlt κ.2.2.2) (-2) (zJ 0) (gu - 1)) := zCX.be s4 (zwh_s hd).1 s3 (mlt_12 _) (by rw [if_neg (mlt_0 _)])
        exact ⟨rfl, rfl, hd, Cm, s5.be s4.2.2.1 (fun z => absurd z (mlt_0 _)), K, s8.keep (zKp.set s6), rfl, rfl⟩
      | false =>
        rw [if_neg (by decide), if_neg (by decide)]
        exact ⟨rfl, rfl, hd, s4, s5, K, s8, rfl, rfl⟩
  · rcases ms with ⟨⟨rfl, rfl⟩, hno⟩ | ⟨⟨rfl, rfl⟩, k', w', hh', X, clr, mi', sp', KS, hm, em, hk0⟩ | ⟨rfl, k', w', hh', X, clr, mi', sp', KS, hm, em, K0, κ, hKS, rfl, b', r', g', e', rfl⟩
    · exact ⟨zrel_eqA R e, rfl, fun z => absurd z (by decide)⟩
    · exact absurd (R.isz hm em) hn
    · exact absurd (R.isz hm em) hn
  · rcases ms with ⟨⟨rfl, rfl⟩, hno⟩ | ⟨⟨rfl, rfl⟩, k', w', hh', X, clr, mi', sp', KS, hm, em, hk0⟩ | ⟨rfl, k', w', hh', X, clr, mi', sp', KS, hm, em, K0, κ, hKS, rfl, b', r', g', e', rfl⟩
    · exact absurd (R.zinB hk ex) hno
    · exact ⟨zrel_eqA R e, rfl, fun z => absurd z (by decide)⟩
    · obtain ⟨rfl, rfl, rfl, hd, C0, U, K, S, rfl, rfl⟩ := R.at hk ex hm em
      have := (S.pop hKS).1
      omega
theorem zrel86 {nb : Nat} {L L1 LN : List yBS} {B B1 : List rBS} {rf : Int32} {αt : yAS} {h : zPH} {a : Nat} {τ : yGS} {x : Int32} {q : Bool} {kc : Nat} {vv : Int32} {n0 : Int32} {v : Int32} (C : yC h a L rf τ αt) (R : zRel L B) (H : cs86 nb L rf αt x q kc vv LN) (e : yEqA LN L1) (ms : ms193 B x q n0 v B1) : zRel L1 B1 := (zrelC86 C R H e ms).1
theorem zrelC90 {nb : Nat} {L L1 LN : List yBS} {B B1 : List rBS} {rf : Int32} {αt : yAS} {h : zPH} {a : Nat} {τ : yGS} {x : Int32} {y : Int32} {kc : Nat} {vv : Int32} {n0 : Int32} {v : Int32} (C : yC h a L rf τ αt) (R : zRel L B) (H : cs90 nb L rf αt x y kc vv LN) (e : yEqA LN L1) (ms : ms196 B x y n0 v B1) : zRel L1 B1 ∧ n0 = zJ kc ∧ (kc = 0 → vv = v) := by
  rcases H with ⟨k, b, w, hh, cs, cl, fs, α, kp, gd, gu, mi, sp, hk, ex, t, ht, ey, hg, rfl, rfl, rfl⟩ | ⟨hn, rfl, rfl⟩ | ⟨k, b, w, hh, cs, cl, fs, α, kp, gd, gu, mi, sp, hk, ex, hy, rfl, rfl⟩ | ⟨k, b, w, hh, cs, cl, fs, α, kp, gd, gu, mi, sp, hk, ex, hy, hg, rfl, rfl⟩
  · rcases ms with ⟨⟨rfl, rfl⟩, hno⟩ | ⟨⟨rfl, rfl⟩, hx, hno⟩ | ⟨⟨rfl, rfl⟩, hy', k', w', hh', X, clr, mi', sp', KS, hm, em, hk0⟩ | ⟨rfl, k', w', hh', X, clr, mi', sp', KS, hm, em, t', ht', ey', hk0, rfl, b', r', g', e', rfl⟩
    · exact absurd (R.zinB hk ex) hno
    · exact absurd ⟨t, by omega, ey⟩ hno
    · obtain ⟨rfl, rfl, rfl, hd, C0, U, K, S, rfl, rfl⟩ := R.at hk ex hm em
      have := S.1
      omega
    · obtain ⟨rfl, rfl, rfl, hd, C0, U, K, S, rfl, rfl⟩ := R.at hk ex hm em
      obtain rfl := zJ_in (by omega) (by omega) ey ey'
      obtain ⟨hd2, e2, e3⟩ := ynw_h (t := t) hd
      have hs := S.1
      obtain rfl : KS = [] := List.eq_nil_of_length_eq_zero hk0
      obtain rfl : gu = 0 := hg
      obtain ⟨u1, u2⟩ := rTk_u0 hd U C0.2.2.1 t (w' * hh') (Nat.le_refl _)
      refine ⟨zrel_eqA (zRel.set R (?_ : zRb _ _)) e, rfl, fun _ => rfl⟩
      exact ⟨rfl, rfl, hd2, zturn_c hd C0 ht', by rw [e2]; exact u1, zturn_k hd K ht', zxS.none S.2.1.1 S.2.1.2.1, rfl, rfl⟩
  · rcases ms with ⟨⟨rfl, rfl⟩, hno⟩ | ⟨⟨rfl, rfl⟩, hx, hno⟩ | ⟨⟨rfl, rfl⟩, hy', k', w', hh', X, clr, mi', sp', KS, hm, em, hk0⟩ | ⟨rfl, k', w', hh', X, clr, mi', sp', KS, hm, em, t', ht', ey', hk0, rfl, b', r', g', e', rfl⟩
    · exact ⟨zrel_eqA R e, rfl, fun z => absurd z (by decide)⟩
    · exact absurd (by rw [R.1]; exact hx) hn
    · exact absurd (R.isz hm em) hn
    · exact absurd (R.isz hm em) hn
  · rcases ms with ⟨⟨rfl, rfl⟩, hno⟩ | ⟨⟨rfl, rfl⟩, hx, hno⟩ | ⟨⟨rfl, rfl⟩, hy', k', w', hh', X, clr, mi', sp', KS, hm, em, hk0⟩ | ⟨rfl, k', w', hh', X, clr, mi', sp', KS, hm, em, t', ht', ey', hk0, rfl, b', r', g', e', rfl⟩
    · exact absurd (R.zinB hk ex) hno
    · exact ⟨zrel_eqA R e, rfl, fun z => absurd z (by decide)⟩
    · exact absurd hy' hy
    · exact absurd ⟨t', ht', ey'⟩ hy
  · rcases ms with ⟨⟨rfl, rfl⟩, hno⟩ | ⟨⟨rfl, rfl⟩, hx, hno⟩ | ⟨⟨rfl, rfl⟩, hy', k', w', hh', X, clr, mi', sp', KS, hm, em, hk0⟩ | ⟨rfl, k', w', hh', X, clr, mi', sp', KS, hm, em, t', ht', ey', hk0, rfl, b', r', g', e', rfl⟩
    · exact absurd (R.zinB hk ex) hno
    · exact absurd hy hno
    · exact ⟨zrel_eqA R e, rfl, fun z => absurd z (by decide)⟩
    · obtain ⟨rfl, rfl, rfl, hd, C0, U, K, S, rfl, rfl⟩ := R.at hk ex hm em
      have := S.1
      omega
theorem zrel90 {nb : Nat} {L L1 LN : List yBS} {B B1 : List rBS} {rf : Int32} {αt : yAS} {h : zPH} {a : Nat} {τ : yGS} {x : Int32} {y : Int32} {kc : Nat} {vv : Int32} {n0 : Int32} {v : Int32} (C : yC h a L rf τ αt) (R : zRel L B) (H : cs90 nb L rf αt x y kc vv LN) (e : yEqA LN L1) (ms : ms196 B x y n0 v B1) : zRel L1 B1 := (zrelC90 C R H e ms).1
theorem zrelC95 {nb : Nat} {L L1 LN : List yBS} {B B1 : List rBS} {rf : Int32} {αt : yAS} {h : zPH} {a : Nat} {τ : yGS} {x : Int32} {y : Int32} {z : Int32} {kc : Nat} {vv : Int32} {n0 : Int32} {v : Int32} (C : yC h a L rf τ αt) (R : zRel L B) (H : cs95 nb L rf αt x y z kc vv LN) (e : yEqA LN L1) (ms : ms201 B x y z n0 v B1) : zRel L1 B1 ∧ n0 = zJ kc ∧ (kc = 0 → vv = v) := by
  rcases H with ⟨k, b, w, hh, cs, cl, fs, α, kp, gd, gu, mi, sp, hk, ex, r, hr, ey, n, hn, ez, hg, rfl, rfl, rfl⟩ | ⟨hn, rfl, rfl⟩ | ⟨k, b, w, hh, cs, cl, fs, α, kp, gd, gu, mi, sp, hk, ex, hy, rfl, rfl⟩ | ⟨k, b, w, hh, cs, cl, fs, α, kp, gd, gu, mi, sp, hk, ex, hy, hz, rfl, rfl⟩ | ⟨k, b, w, hh, cs, cl, fs, α, kp, gd, gu, mi, sp, hk, ex, hy, hz, hg, rfl, rfl⟩
  · rcases ms with ⟨⟨rfl, rfl⟩, hno⟩ | ⟨⟨rfl, rfl⟩, k', w', hh', X, clr, mi', sp', KS, hm, em, hy', hz'⟩ | ⟨⟨rfl, rfl⟩, k', w', hh', X, clr, mi', sp', KS, hm, em, hy', hz', hk0⟩ | ⟨rfl, k', w', hh', X, clr, mi', sp', KS, hm, em, ro, hr', ey', hz', hk0, rfl, b', r', g', e', rfl⟩
    · exact absurd hno (R.nno hk ex ⟨r, hr, ey⟩)
    · obtain ⟨rfl, rfl, rfl, hd, C0, U, K, S, rfl, rfl⟩ := R.at hk ex hm em
      exact absurd ⟨n, hn, ez⟩ hz'
    · obtain ⟨rfl, rfl, rfl, hd, C0, U, K, S, rfl, rfl⟩ := R.at hk ex hm em
      have := S.1
      omega
    · obtain ⟨rfl, rfl, rfl, hd, C0, U, K, S, rfl, rfl⟩ := R.at hk ex hm em
      obtain rfl := zJ_in (by omega) (by omega) ey ey'
      obtain rfl : KS = [] := List.eq_nil_of_length_eq_zero hk0
      obtain rfl : gu = 0 := hg
      subst ez
      have Cp := zpr_rpt hd C0 hr (zJ n) w' (Nat.le_refl _)
      refine ⟨zrel_eqA (zRel.set R (?_ : zRb _ _)) e, rfl, fun _ => congrArg zJ (zct_rcc Cp.1.lr _ _ (Nat.le_refl _))⟩
      exact ⟨rfl, rfl, hd, Cp, (rpt_u0 U C0.2.2.1 _ _ _).1, K, zxS.none S.2.1.1 S.2.1.2.1, rfl, rfl⟩
  · rcases ms with ⟨⟨rfl, rfl⟩, hno⟩ | ⟨⟨rfl, rfl⟩, k', w', hh', X, clr, mi', sp', KS, hm, em, hy', hz'⟩ | ⟨⟨rfl, rfl⟩, k', w', hh', X, clr, mi', sp', KS, hm, em, hy', hz', hk0⟩ | ⟨rfl, k', w', hh', X, clr, mi', sp', KS, hm, em, ro, hr', ey', hz', hk0, rfl, b', r', g', e', rfl⟩
    · exact ⟨zrel_eqA R e, rfl, fun z => absurd z (by decide)⟩
    · exact absurd (R.isz hm em) hn
    · exact absurd (R.isz hm em) hn
    · exact absurd (R.isz hm em) hn
  · rcases ms with ⟨⟨rfl, rfl⟩, hno⟩ | ⟨⟨rfl, rfl⟩, k', w', hh', X, clr, mi', sp', KS, hm, em, hy', hz'⟩ | ⟨⟨rfl, rfl⟩, k', w', hh', X, clr, mi', sp', KS, hm, em, hy', hz', hk0⟩ | ⟨rfl, k', w', hh', X, clr, mi', sp', KS, hm, em, ro, hr', ey', hz', hk0, rfl, b', r', g', e', rfl⟩
    · exact ⟨zrel_eqA R e, rfl, fun z => absurd z (by decide)⟩
    · obtain ⟨rfl, rfl, rfl, hd, C0, U, K, S, rfl, rfl⟩ := R.at hk ex hm em
      exact absurd hy' hy
    · obtain ⟨rfl, rfl, rfl, hd, C0, U, K, S, rfl, rfl⟩ := R.at hk ex hm em
      exact absurd hy' hy
    · obtain ⟨rfl, rfl, rfl, hd, C0, U, K, S, rfl, rfl⟩ := R.at hk ex hm em
      exact absurd ⟨_, hr', ey'⟩ hy
  · rcases ms with ⟨⟨rfl, rfl⟩, hno⟩ | ⟨⟨rfl, rfl⟩, k', w', hh', X, clr, mi', sp', KS, hm, em, hy', hz'⟩ | ⟨⟨rfl, rfl⟩, k', w', hh', X, clr, mi', sp', KS, hm, em, hy', hz', hk0⟩ | ⟨rfl, k', w', hh', X, clr, mi', sp', KS, hm, em, ro, hr', ey', hz', hk0, rfl, b', r', g', e', rfl⟩
    · exact absurd hno (R.nno hk ex hy)
    · exact ⟨zrel_eqA R e, rfl, fun z => absurd z (by decide)⟩
    · obtain ⟨rfl, rfl, rfl, hd, C0, U, K, S, rfl, rfl⟩ := R.at hk ex hm em
      exact absurd hz' hz
    · obtain ⟨rfl, rfl, rfl, hd, C0, U, K, S, rfl, rfl⟩ := R.at hk ex hm em
      exact absurd hz' hz
  · rcases ms with ⟨⟨rfl, rfl⟩, hno⟩ | ⟨⟨rfl, rfl⟩, k', w', hh', X, clr, mi', sp', KS, hm, em, hy', hz'⟩ | ⟨⟨rfl, rfl⟩, k', w', hh', X, clr, mi', sp', KS, hm, em, hy', hz', hk0⟩ | ⟨rfl, k', w', hh', X, clr, mi', sp', KS, hm, em, ro, hr', ey', hz', hk0, rfl, b', r', g', e', rfl⟩
    · exact absurd hno (R.nno hk ex hy)
    · obtain ⟨rfl, rfl, rfl, hd, C0, U, K, S, rfl, rfl⟩ := R.at hk ex hm em
      exact absurd hz hz'
    · exact ⟨zrel_eqA R e, rfl, fun z => absurd z (by decide)⟩
    · obtain ⟨rfl, rfl, rfl, hd, C0, U, K, S, rfl, rfl⟩ := R.at hk ex hm em
      have := S.1
      omega
theorem zrel95 {nb : Nat} {L L1 LN : List yBS} {B B1 : List rBS} {rf : Int32} {αt : yAS} {h : zPH} {a : Nat} {τ : yGS} {x : Int32} {y : Int32} {z : Int32} {kc : Nat} {vv : Int32} {n0 : Int32} {v : Int32} (C : yC h a L rf τ αt) (R : zRel L B) (H : cs95 nb L rf αt x y z kc vv LN) (e : yEqA LN L1) (ms : ms201 B x y z n0 v B1) : zRel L1 B1 := (zrelC95 C R H e ms).1
theorem zrelC98 {nb : Nat} {L L1 LN : List yBS} {B B1 : List rBS} {rf : Int32} {αt : yAS} {h : zPH} {a : Nat} {τ : yGS} {x : Int32} {kc : Nat} {vv : Int32} {n0 : Int32} {v : Int32} (C : yC h a L rf τ αt) (R : zRel L B) (H : cs98 nb L rf αt x kc vv LN) (e : yEqA LN L1) (ms : ms203 B x n0 v B1) : zRel L1 B1 ∧ n0 = zJ kc ∧ (kc = 0 → vv = v) := by
  rcases H with ⟨k, b, w, hh, cs, cl, fs, α, kp, gd, gu, mi, sp, hk, ex, hg, hc, rfl, rfl, rfl⟩ | ⟨hn, rfl, rfl⟩ | ⟨k, b, w, hh, cs, cl, fs, α, kp, gd, gu, mi, sp, hk, ex, hg, rfl, rfl⟩ | ⟨k, b, w, hh, cs, cl, fs, α, kp, gd, gu, mi, sp, hk, ex, hc, rfl, rfl⟩
  · rcases ms with ⟨⟨rfl, rfl⟩, hno⟩ | ⟨⟨rfl, rfl⟩, k', w', hh', X, clr, mi', sp', KS, hm, em, hq'⟩ | ⟨rfl, k', w', hh', X, clr, mi', sp', KS, hm, em, hk0, hc0, rfl, b', r', g', e', rfl⟩
    · exact absurd (R.zinB hk ex) hno
    · obtain ⟨rfl, rfl, rfl, hd, C0, U, K, S, rfl, rfl⟩ := R.at hk ex hm em
      have := S.1
      rw [zct_rcc C0.1.lr _ _ (Nat.le_refl _)] at hc
      omega
    · obtain ⟨rfl, rfl, rfl, hd, C0, U, K, S, rfl, rfl⟩ := R.at hk ex hm em
      obtain rfl : KS = [] := List.eq_nil_of_length_eq_zero hk0
      obtain rfl : gu = 0 := hg
      obtain ⟨t1, t2⟩ := zts_rrd hd C0.1.lr K (w' + hh') (Nat.le_refl _)
      refine ⟨zrel_eqA (zRel.set R (?_ : zRb _ _)) e, rfl, fun _ => t1⟩
      have z1 := zCX_clr (zwh_s hd).1 C0.2.1
      have z2 : zxU0 (w' * hh') (mClr w' hh') := mClr_u0
      generalize zclr cs 25 = cz at z1 ⊢
      generalize mClr w' hh' = M at z1 z2 ⊢
      exact ⟨rfl, rfl, hd, z1, z2, t2, zxS.none S.2.1.1 S.2.1.2.1, rfl, rfl⟩
  · rcases ms with ⟨⟨rfl, rfl⟩, hno⟩ | ⟨⟨rfl, rfl⟩, k', w', hh', X, clr, mi', sp', KS, hm, em, hq'⟩ | ⟨rfl, k', w', hh', X, clr, mi', sp', KS, hm, em, hk0, hc0, rfl, b', r', g', e', rfl⟩
    · exact ⟨zrel_eqA R e, rfl, fun z => absurd z (by decide)⟩
    · exact absurd (R.isz hm em) hn
    · exact absurd (R.isz hm em) hn
  · rcases ms with ⟨⟨rfl, rfl⟩, hno⟩ | ⟨⟨rfl, rfl⟩, k', w', hh', X, clr, mi', sp', KS, hm, em, hq'⟩ | ⟨rfl, k', w', hh', X, clr, mi', sp', KS, hm, em, hk0, hc0, rfl, b', r', g', e', rfl⟩
    · exact absurd (R.zinB hk ex) hno
    · exact ⟨zrel_eqA R e, rfl, fun z => absurd z (by decide)⟩
    · obtain ⟨rfl, rfl, rfl, hd, C0, U, K, S, rfl, rfl⟩ := R.at hk ex hm em
      have := S.1
      omega
  · rcases ms with ⟨⟨rfl, rfl⟩, hno⟩ | ⟨⟨rfl, rfl⟩, k', w', hh', X, clr, mi', sp', KS, hm, em, hq'⟩ | ⟨rfl, k', w', hh', X, clr, mi', sp', KS, hm, em, hk0, hc0, rfl, b', r', g', e', rfl⟩
    · exact absurd (R.zinB hk ex) hno
    · exact ⟨zrel_eqA R e, rfl, fun z => absurd z (by decide)⟩
    · obtain ⟨rfl, rfl, rfl, hd, C0, U, K, S, rfl, rfl⟩ := R.at hk ex hm em
      rw [zct_rcc C0.1.lr _ _ (Nat.le_refl _)] at hc
      exact absurd hc0 hc
theorem zrel98 {nb : Nat} {L L1 LN : List yBS} {B B1 : List rBS} {rf : Int32} {αt : yAS} {h : zPH} {a : Nat} {τ : yGS} {x : Int32} {kc : Nat} {vv : Int32} {n0 : Int32} {v : Int32} (C : yC h a L rf τ αt) (R : zRel L B) (H : cs98 nb L rf αt x kc vv LN) (e : yEqA LN L1) (ms : ms203 B x n0 v B1) : zRel L1 B1 := (zrelC98 C R H e ms).1
theorem zrelC103 {nb : Nat} {L L1 LN : List yBS} {B B1 : List rBS} {rf : Int32} {αt : yAS} {h : zPH} {a : Nat} {τ : yGS} {x : Int32} {kc : Nat} {vv : Int32} {n0 : Int32} {v : Int32} (C : yC h a L rf τ αt) (R : zRel L B) (H : cs103 nb L rf αt x kc vv LN) (e : yEqA LN L1) (ms : ms204 B x n0 v B1) : zRel L1 B1 ∧ n0 = zJ kc ∧ (kc = 0 → vv = v) := by
  rcases H with ⟨k, b, w, hh, cs, cl, fs, α, kp, gd, gu, mi, sp, hk, ex, rfl, rfl, rfl⟩ | ⟨hn, rfl, rfl⟩
  · rcases ms with ⟨⟨rfl, rfl⟩, hno⟩ | ⟨rfl, k', w', hh', X, clr, mi', sp', KS, hm, em, rfl, b', r', g', e', rfl⟩
    · exact absurd (R.zinB hk ex) hno
    · obtain ⟨rfl, rfl, rfl, hd, C0, U, K, S, rfl, rfl⟩ := R.at hk ex hm em
      refine ⟨zrel_eqA (zRel.set R (?_ : zRb _ _)) e, rfl, fun _ => by rw [zct_rcc C0.1.lr _ _ (Nat.le_refl _), zJ_sub (rcc_le _ _ _)]⟩
      have z1 := zCX_clr (zwh_s hd).1 C0.2.1
      have z2 : zxU0 (w' * hh') (mClr w' hh') := mClr_u0
      generalize zclr cs 25 = cz at z1 ⊢
      generalize mClr w' hh' = M at z1 z2 ⊢
      exact ⟨rfl, rfl, hd, z1, z2, K, zxS.none S.2.1.1 S.2.1.2.1, rfl, rfl⟩
  · rcases ms with ⟨⟨rfl, rfl⟩, hno⟩ | ⟨rfl, k', w', hh', X, clr, mi', sp', KS, hm, em, rfl, b', r', g', e', rfl⟩
    · exact ⟨zrel_eqA R e, rfl, fun z => absurd z (by decide)⟩
    · exact absurd (R.isz hm em) hn
theorem zrel103 {nb : Nat} {L L1 LN : List yBS} {B B1 : List rBS} {rf : Int32} {αt : yAS} {h : zPH} {a : Nat} {τ : yGS} {x : Int32} {kc : Nat} {vv : Int32} {n0 : Int32} {v : Int32} (C : yC h a L rf τ αt) (R : zRel L B) (H : cs103 nb L rf αt x kc vv LN) (e : yEqA LN L1) (ms : ms204 B x n0 v B1) : zRel L1 B1 := (zrelC103 C R H e ms).1
theorem cs39_eq {nb : Nat} {L : List yBS} {rf : Int32} {αt : yAS} {x : Int32} {y : Int32} {z : Int32} {kc : Nat} {vv : Int32} {LN : List yBS} (H : cs39 nb L rf αt x y z kc vv LN) : LN = L := by
  rcases H with ⟨_, _, _, _, _, _, _, _, _, _, _, _, _, _, _, _, _, _, _, _, _, -, -, rfl⟩ | ⟨_, -, rfl⟩ | ⟨_, _, _, _, _, _, _, _, _, _, _, _, _, _, _, _, -, rfl⟩ | ⟨_, _, _, _, _, _, _, _, _, _, _, _, _, _, _, _, _, -, rfl⟩
  all_goals rfl
theorem zrel39 {nb : Nat} {L L1 LN : List yBS} {B B1 : List rBS} {rf : Int32} {αt : yAS} {h : zPH} {a : Nat} {τ : yGS} {x : Int32} {y : Int32} {z : Int32} {kc : Nat} {vv : Int32} {n0 : Int32} {v : Int32} (_ : yC h a L rf τ αt) (R : zRel L B) (H : cs39 nb L rf αt x y z kc vv LN) (e : yEqA LN L1) (ms : ms206 B x y z n0 v B1) : zRel L1 B1 := zrel_ref (zrel_eqA R (by rw [cs39_eq H] at e; exact e)) ms.1
theorem cs42_eq {nb : Nat} {L : List yBS} {rf : Int32} {αt : yAS} {x : Int32} {y : Int32} {z : Int32} {kc : Nat} {vv : Int32} {LN : List yBS} (H : cs42 nb L rf αt x y z kc vv LN) : LN = L := by
  rcases H with ⟨_, _, _, _, _, _, _, _, _, _, _, _, _, _, _, _, _, _, _, _, _, -, -, rfl⟩ | ⟨_, -, rfl⟩ | ⟨_, _, _, _, _, _, _, _, _, _, _, _, _, _, _, _, -, rfl⟩ | ⟨_, _, _, _, _, _, _, _, _, _, _, _, _, _, _, _, _, -, rfl⟩
  all_goals rfl
theorem zrel42 {nb : Nat} {L L1 LN : List yBS} {B B1 : List rBS} {rf : Int32} {αt : yAS} {h : zPH} {a : Nat} {τ : yGS} {x : Int32} {y : Int32} {z : Int32} {kc : Nat} {vv : Int32} {n0 : Int32} {v : Int32} (_ : yC h a L rf τ αt) (R : zRel L B) (H : cs42 nb L rf αt x y z kc vv LN) (e : yEqA LN L1) (ms : ms207 B x y z n0 v B1) : zRel L1 B1 := zrel_ref (zrel_eqA R (by rw [cs42_eq H] at e; exact e)) ms.1
theorem cs46_eq {nb : Nat} {L : List yBS} {rf : Int32} {αt : yAS} {x : Int32} {y : Int32} {z : Int32} {kc : Nat} {vv : Int32} {LN : List yBS} (H : cs46 nb L rf αt x y z kc vv LN) : LN = L := by
  rcases H with ⟨_, _, _, _, _, _, _, _, _, _, _, _, _, _, _, _, _, _, _, _, _, -, -, rfl⟩ | ⟨_, -, rfl⟩ | ⟨_, _, _, _, _, _, _, _, _, _, _, _, _, _, _, _, -, rfl⟩ | ⟨_, _, _, _, _, _, _, _, _, _, _, _, _, _, _, _, _, -, rfl⟩
  all_goals rfl
theorem zrel46 {nb : Nat} {L L1 LN : List yBS} {B B1 : List rBS} {rf : Int32} {αt : yAS} {h : zPH} {a : Nat} {τ : yGS} {x : Int32} {y : Int32} {z : Int32} {kc : Nat} {vv : Int32} {n0 : Int32} {v : Int32} (_ : yC h a L rf τ αt) (R : zRel L B) (H : cs46 nb L rf αt x y z kc vv LN) (e : yEqA LN L1) (ms : ms209 B x y z n0 v B1) : zRel L1 B1 := zrel_ref (zrel_eqA R (by rw [cs46_eq H] at e; exact e)) ms.1
theorem cs18_eq {nb : Nat} {L : List yBS} {rf : Int32} {αt : yAS} {x : Int32} {y : Int32} {kc : Nat} {vv : Int32} {LN : List yBS} (H : cs18 nb L rf αt x y kc vv LN) : LN = L := by
  rcases H with ⟨_, _, _, _, _, _, _, _, _, _, _, _, _, _, _, _, _, _, _, _, -, -, rfl⟩ | ⟨_, -, rfl⟩ | ⟨_, _, _, _, _, _, _, _, _, _, _, _, _, _, _, _, -, rfl⟩
  all_goals rfl
theorem zrel18 {nb : Nat} {L L1 LN : List yBS} {B B1 : List rBS} {rf : Int32} {αt : yAS} {h : zPH} {a : Nat} {τ : yGS} {x : Int32} {y : Int32} {kc : Nat} {vv : Int32} {n0 : Int32} {v : Int32} (_ : yC h a L rf τ αt) (R : zRel L B) (H : cs18 nb L rf αt x y kc vv LN) (e : yEqA LN L1) (ms : ms211 B x y n0 v B1) : zRel L1 B1 := zrel_ref (zrel_eqA R (by rw [cs18_eq H] at e; exact e)) ms.1
theorem cs109_eq {nb : Nat} {L : List yBS} {rf : Int32} {αt : yAS} {x : Int32} {kc : Nat} {vv : Nat} {LN : List yBS} (H : cs109 nb L rf αt x kc vv LN) : LN = L := by
  rcases H with ⟨_, _, _, _, _, _, _, _, _, _, _, _, _, _, _, _, -, -, rfl⟩ | ⟨_, -, rfl⟩
  all_goals rfl
theorem zrel109 {nb : Nat} {L L1 LN : List yBS} {B B1 : List rBS} {rf : Int32} {αt : yAS} {h : zPH} {a : Nat} {τ : yGS} {x : Int32} {kc : Nat} {vv : Nat} (_ : yC h a L rf τ αt) (R : zRel L B) (H : cs109 nb L rf αt x kc vv LN) (e : yEqA LN L1) (ms : B1 = B) : zRel L1 B1 := zrel_ref (zrel_eqA R (by rw [cs109_eq H] at e; exact e)) ms
theorem cs47_eq {nb : Nat} {L : List yBS} {rf : Int32} {αt : yAS} {x : Int32} {y : Int32} {kc : Nat} {vv : Int32} {LN : List yBS} (H : cs47 nb L rf αt x y kc vv LN) : LN = L := by
  rcases H with ⟨_, _, _, _, _, _, _, _, _, _, _, _, _, _, _, _, _, _, -, -, rfl⟩ | ⟨_, -, rfl⟩ | ⟨_, _, _, _, _, _, _, _, _, _, _, _, _, _, _, _, -, rfl⟩
  all_goals rfl
theorem zrel47 {nb : Nat} {L L1 LN : List yBS} {B B1 : List rBS} {rf : Int32} {αt : yAS} {h : zPH} {a : Nat} {τ : yGS} {x : Int32} {y : Int32} {kc : Nat} {vv : Int32} {n0 : Int32} {v : Int32} (_ : yC h a L rf τ αt) (R : zRel L B) (H : cs47 nb L rf αt x y kc vv LN) (e : yEqA LN L1) (ms : ms216 B x y n0 v B1) : zRel L1 B1 := zrel_ref (zrel_eqA R (by rw [cs47_eq H] at e; exact e)) ms.1
theorem cs137_eq {nb : Nat} {L : List yBS} {rf : Int32} {αt : yAS} {x : Int32} {y : Int32} {kc : Nat} {vv : UInt64} {LN : List yBS} (H : cs137 nb L rf αt x y kc vv LN) : LN = L := by
  rcases H with ⟨_, _, _, _, _, _, _, _, _, _, _, _, _, _, _, _, _, _, _, _, _, -, -, rfl⟩ | ⟨_, -, rfl⟩ | ⟨_, _, _, _, _, _, _, _, _, _, _, _, _, _, _, _, -, rfl⟩
  all_goals rfl
theorem zrel137 {nb : Nat} {L L1 LN : List yBS} {B B1 : List rBS} {rf : Int32} {αt : yAS} {h : zPH} {a : Nat} {τ : yGS} {x : Int32} {y : Int32} {kc : Nat} {vv : UInt64} {n0 : Int32} {v : UInt64} (_ : yC h a L rf τ αt) (R : zRel L B) (H : cs137 nb L rf αt x y kc vv LN) (e : yEqA LN L1) (ms : ms217 B x y n0 v B1) : zRel L1 B1 := zrel_ref (zrel_eqA R (by rw [cs137_eq H] at e; exact e)) ms.1
theorem cs49_eq {nb : Nat} {L : List yBS} {rf : Int32} {αt : yAS} {x : Int32} {y : Int32} {kc : Nat} {vv : UInt64} {LN : List yBS} (H : cs49 nb L rf αt x y kc vv LN) : LN = L := by
  rcases H with ⟨_, _, _, _, _, _, _, _, _, _, _, _, _, _, _, _, _, _, _, _, _, -, -, rfl⟩ | ⟨_, -, rfl⟩ | ⟨_, _, _, _, _, _, _, _, _, _, _, _, _, _, _, _, -, rfl⟩
  all_goals rfl
theorem zrel49 {nb : Nat} {L L1 LN : List yBS} {B B1 : List rBS} {rf : Int32} {αt : yAS} {h : zPH} {a : Nat} {τ : yGS} {x : Int32} {y : Int32} {kc : Nat} {vv : UInt64} {n0 : Int32} {v : UInt64} (_ : yC h a L rf τ αt) (R : zRel L B) (H : cs49 nb L rf αt x y kc vv LN) (e : yEqA LN L1) (ms : ms220 B x y n0 v B1) : zRel L1 B1 := zrel_ref (zrel_eqA R (by rw [cs49_eq H] at e; exact e)) ms.1
theorem cs11_eq {nb : Nat} {L : List yBS} {rf : Int32} {αt : yAS} {x : Int32} {kc : Nat} {vv : Int32} {LN : List yBS} (H : cs11 nb L rf αt x kc vv LN) : LN = L := by
  rcases H with ⟨_, _, _, -, -, rfl⟩ | ⟨_, -, rfl⟩
  all_goals rfl
theorem zrel11 {nb : Nat} {L L1 LN : List yBS} {B B1 : List rBS} {rf : Int32} {αt : yAS} {h : zPH} {a : Nat} {τ : yGS} {x : Int32} {kc : Nat} {vv : Int32} {n0 : Int32} {v : Int32} (_ : yC h a L rf τ αt) (R : zRel L B) (H : cs11 nb L rf αt x kc vv LN) (e : yEqA LN L1) (ms : ms223 B rf x n0 v B1) : zRel L1 B1 := zrel_ref (zrel_eqA R (by rw [cs11_eq H] at e; exact e)) ms.1
theorem cs55_eq {nb : Nat} {L : List yBS} {rf : Int32} {αt : yAS} {x : Int32} {kc : Nat} {vv : Int32} {LN : List yBS} (H : cs55 nb L rf αt x kc vv LN) : LN = L := by
  rcases H with ⟨_, _, _, _, _, _, _, _, _, _, _, _, _, _, _, -, -, rfl⟩ | ⟨_, -, rfl⟩
  all_goals rfl
theorem zrel55 {nb : Nat} {L L1 LN : List yBS} {B B1 : List rBS} {rf : Int32} {αt : yAS} {h : zPH} {a : Nat} {τ : yGS} {x : Int32} {kc : Nat} {vv : Int32} {n0 : Int32} {v : Int32} (_ : yC h a L rf τ αt) (R : zRel L B) (H : cs55 nb L rf αt x kc vv LN) (e : yEqA LN L1) (ms : ms225 B x n0 v B1) : zRel L1 B1 := zrel_ref (zrel_eqA R (by rw [cs55_eq H] at e; exact e)) ms.1
theorem cs56_eq {nb : Nat} {L : List yBS} {rf : Int32} {αt : yAS} {x : Int32} {kc : Nat} {vv : Int32} {LN : List yBS} (H : cs56 nb L rf αt x kc vv LN) : LN = L := by
  rcases H with ⟨_, _, _, _, _, _, _, _, _, _, _, _, _, _, _, _, _, -, -, rfl⟩ | ⟨_, -, rfl⟩
  all_goals rfl
theorem zrel56 {nb : Nat} {L L1 LN : List yBS} {B B1 : List rBS} {rf : Int32} {αt : yAS} {h : zPH} {a : Nat} {τ : yGS} {x : Int32} {kc : Nat} {vv : Int32} {n0 : Int32} {v : Int32} (_ : yC h a L rf τ αt) (R : zRel L B) (H : cs56 nb L rf αt x kc vv LN) (e : yEqA LN L1) (ms : ms227 B x n0 v B1) : zRel L1 B1 := zrel_ref (zrel_eqA R (by rw [cs56_eq H] at e; exact e)) ms.1
theorem cs143_eq {nb : Nat} {L : List yBS} {rf : Int32} {αt : yAS} {x : Int32} {y : Int32} {q : Bool} {z : Int32} {kc : Nat} {vv : Int32} {LN : List yBS} (H : cs143 nb L rf αt x y q z kc vv LN) : LN = L := by
  rcases H with ⟨_, _, _, _, _, _, _, _, _, _, _, _, _, _, _, _, _, _, _, _, _, _, _, _, -, -, rfl⟩ | ⟨_, -, rfl⟩ | ⟨_, _, _, _, _, _, _, _, _, _, _, _, _, _, _, _, -, rfl⟩ | ⟨_, _, _, _, _, _, _, _, _, _, _, _, _, _, _, _, _, -, rfl⟩ | ⟨_, _, _, _, _, _, _, _, _, _, _, _, _, _, _, _, _, _, _, _, -, rfl⟩
  all_goals rfl
theorem zrel143 {nb : Nat} {L L1 LN : List yBS} {B B1 : List rBS} {rf : Int32} {αt : yAS} {h : zPH} {a : Nat} {τ : yGS} {x : Int32} {y : Int32} {q : Bool} {z : Int32} {kc : Nat} {vv : Int32} {n0 : Int32} {v : Int32} (_ : yC h a L rf τ αt) (R : zRel L B) (H : cs143 nb L rf αt x y q z kc vv LN) (e : yEqA LN L1) (ms : ms229 B x y z q n0 v B1) : zRel L1 B1 := zrel_ref (zrel_eqA R (by rw [cs143_eq H] at e; exact e)) ms.1
theorem cs58_eq {nb : Nat} {L : List yBS} {rf : Int32} {αt : yAS} {x : Int32} {kc : Nat} {vv : Int32} {LN : List yBS} (H : cs58 nb L rf αt x kc vv LN) : LN = L := by
  rcases H with ⟨_, _, _, _, _, _, _, _, _, _, _, _, _, _, _, -, -, rfl⟩ | ⟨_, -, rfl⟩
  all_goals rfl
theorem zrel58 {nb : Nat} {L L1 LN : List yBS} {B B1 : List rBS} {rf : Int32} {αt : yAS} {h : zPH} {a : Nat} {τ : yGS} {x : Int32} {kc : Nat} {vv : Int32} {n0 : Int32} {v : Int32} (_ : yC h a L rf τ αt) (R : zRel L B) (H : cs58 nb L rf αt x kc vv LN) (e : yEqA LN L1) (ms : ms230 B x n0 v B1) : zRel L1 B1 := zrel_ref (zrel_eqA R (by rw [cs58_eq H] at e; exact e)) ms.1
theorem cs61_eq {nb : Nat} {L : List yBS} {rf : Int32} {αt : yAS} {x : Int32} {y : Int32} {kc : Nat} {vv : Int32} {LN : List yBS} (H : cs61 nb L rf αt x y kc vv LN) : LN = L := by
  rcases H with ⟨_, _, _, _, -, -, rfl⟩ | ⟨_, -, rfl⟩ | ⟨_, -, rfl⟩
  all_goals rfl
theorem zrel61 {nb : Nat} {L L1 LN : List yBS} {B B1 : List rBS} {rf : Int32} {αt : yAS} {h : zPH} {a : Nat} {τ : yGS} {x : Int32} {y : Int32} {kc : Nat} {vv : Int32} {n0 : Int32} {v : Int32} (_ : yC h a L rf τ αt) (R : zRel L B) (H : cs61 nb L rf αt x y kc vv LN) (e : yEqA LN L1) (ms : ms233 B x y n0 v B1) : zRel L1 B1 := zrel_ref (zrel_eqA R (by rw [cs61_eq H] at e; exact e)) ms.1
