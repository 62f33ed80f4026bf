/-! ===== both sides, what is asked ===== -/
theorem zRel.no1 {L : List yBS} {B : List rBS} (R : zRel L B) {x : Int32} (y : Int32) (n : Nat → Nat → Nat) (h : ¬ zin x L.length) : mNo B x y n := fun _ _ _ _ _ _ _ _ hm em => absurd (R.isz hm em) h
theorem zRel.no2 {L : List yBS} {B : List rBS} (R : zRel L B) {x y : Int32} {n : Nat → Nat → Nat} {k b w hh gu : Nat} {cs cl fs kp gd : List Int32} {α : yAS} {mi sp : Int32} (h : L[k]? = some (b, (w, hh, cs, cl, fs), α, kp, gd, gu, mi, sp)) (ex : x = zJ k) (hy : ¬ zin y (n w hh)) : mNo B x y n := by
  intro k' w' hh' X clr mi' sp' KS hm em hz
  obtain ⟨-, rfl, rfl, -⟩ := R.at h ex hm em
  exact hy hz
theorem zRc.row {n c t : Nat} {cs : List Int32} {X : rX4} (h : zRc n cs X) (hc : c < n) (ht : t < 4) : cs.getD (c * 4 + t) 0 = (rrow X t).getD c 0 := by
  obtain ⟨h0, h1, h2, h3⟩ := h c hc
  rcases (show t = 0 ∨ t = 1 ∨ t = 2 ∨ t = 3 by omega) with rfl | rfl | rfl | rfl
  · exact h0
  · exact h1
  · exact h2
  · exact h3
theorem zRel.many {L : List yBS} {B : List rBS} (R : zRel L B) (rf : Int32) {t : Nat} (ht : t < 5) : zmy L rf t = rmn B rf t := by
  have key : ∀ k, k ≤ L.length → zms L 2 k = (rmu B k).1 ∧ zms L 3 k = (rmu B k).2.1 ∧ zms L 4 k = (rmu B k).2.2 := by
    intro k
    induction k with
    | zero => intro _; exact ⟨rfl, rfl, rfl⟩
    | succ k ih =>
      intro hk
      obtain ⟨i1, i2, i3⟩ := ih (by omega)
      obtain ⟨⟨b, ⟨w, hh, cs, cl, fs⟩, α, kp, gd, gu, mi, sp⟩, hβ⟩ : ∃ β, L[k]? = some β := ⟨_, List.getElem?_eq_getElem (show k < L.length by omega)⟩
      obtain ⟨w', hh', X, clr, mi', sp', KS, ⟨b', r, g, e, hγ⟩, rfl, rfl, hd, C0, U, K, S, rfl, rfl⟩ := R.has hβ
      have h1 := rmu_s hγ
      have h2 : ∀ t, zms L t (k + 1) = zms L t k + zmv (b, (w', hh', cs, cl, fs), α, kp, gd, gu, mi', sp') t := fun t => by rw [zms, hβ]
      rw [h1, h2, h2, h2, i1, i2, i3]
      refine ⟨rfl, ?_, ?_⟩
      · show _ + zJ (zct cs (zJ 0) (w' * hh')) = _ + zJ (rcc X.1 (zJ 0) (w' * hh'))
        rw [zct_rcc C0.1.lr _ _ (Nat.le_refl _)]
      · show _ + zJ gu = _ + zJ KS.length
        rw [show gu = KS.length from S.1]
  obtain ⟨k1, k2, k3⟩ := key L.length (Nat.le_refl _)
  unfold zmy rmn
  rw [← R.1]
  rcases (show t = 0 ∨ t = 1 ∨ t = 2 ∨ t = 3 ∨ t = 4 by omega) with rfl | rfl | rfl | rfl | rfl
  · rfl
  · rfl
  · exact k1
  · exact k2
  · exact k3
theorem zrn_vd {x : Int32} (h : zVd x) : zrn x = if x = -1 then -1 else rrn x := by
  rcases h.1 with rfl | ⟨n, hn, rfl⟩
  · decide
  · have h1 : ¬ zJ n = -1 := fun z => by
      have := zJ_nn (a := n) (by omega)
      rw [z] at this
      exact this (by decide)
    rw [if_neg h1]
    by_cases h2 : 0 < zJ n
    · rw [zrn, if_pos h2, rrn, if_pos h2]
    · rw [zrn, if_neg h2, rrn, if_neg h2]
      exact Int32.le_antisymm (Int32.not_lt.mp h2) (Int32.not_lt.mp (zJ_nn (by omega)))
theorem zof_rln {w hh : Nat} {cs cl fs clr : List Int32} {X : rX4} (hd : 2 ≤ w ∧ w ≤ 5 ∧ 2 ≤ hh ∧ hh ≤ 5) (C : zCX w hh cs X) (K : zxK w hh cl fs clr) {i t : Nat} (hi : i < w + hh) (ht : t < 6) : zof w hh cs cl fs i t = rln w hh X.1 clr i t := by
  obtain ⟨k1, k2, k3⟩ := K.2.2.2 i hi
  have e1 := yfl_rfo C.1.lr hd hi k2 true
  have e2 := yfl_rfo C.1.lr hd hi k2 false
  rw [show mdk true = zJ 1 from rfl] at e1
  rw [show mdk false = zJ 2 from rfl] at e2
  unfold zof rln
  rcases (show t = 0 ∨ t = 1 ∨ t = 2 ∨ t = 3 ∨ t = 4 ∨ t = 5 by omega) with rfl | rfl | rfl | rfl | rfl | rfl
  · exact k1
  · show zrn _ = if clr.getD i 0 = -1 then -1 else _
    rw [k1]
    exact zrn_vd k3
  · exact zbc_ws C.1.lr hd hi k2
  · exact e1
  · exact e2
  · rfl
theorem zwF_none {v : Int32} {n : Nat} (f : Nat) : ∀ k m, (∀ j, k ≤ j → zbit v j = false) → zwF v n f k m = -1 := by
  induction f with
  | zero => intro k m _; rfl
  | succ f ih =>
    intro k m h
    rw [zwF, if_neg (by rw [h k (Nat.le_refl _)]; decide)]
    exact ih _ _ fun j hj => h j (by omega)
theorem zwF_rwF {w hh : Nat} {cs fs x0 cl : List Int32} {i : Nat} (R : zLr w hh cs x0) (hd : 2 ≤ w ∧ w ≤ 5 ∧ 2 ≤ hh ∧ hh ≤ 5) (hi : i < w + hh) (hf : zLn w hh fs cl i) {n : Nat} (hn : n < 2147483648) : zwF (zws w hh cs fs i) n 32 0 0 = rwF w hh x0 cl i (2 ^ yln w hh i) 0 (zJ n) := by
  have h5 := zpow5 (yln_b i hd).2
  have key : ∀ d k m, k + d = 2 ^ yln w hh i → m ≤ n → zwF (zws w hh cs fs i) n (32 - k) k m = rwF w hh x0 cl i d k (zJ (n - m)) := by
    intro d
    induction d with
    | zero =>
      intro k m hk _
      rw [rwF]
      refine zwF_none _ _ _ fun j hj => ?_
      cases hb : zbit (zws w hh cs fs i) j with
      | false => rfl
      | true =>
        have := ((zws_iff R hd hi hf j).mp hb).1
        omega
    | succ d ih =>
      intro k m hk hm
      have hz := zws_iff R hd hi hf k
      have e : 32 - k = (32 - (k + 1)) + 1 := by omega
      rw [e, zwF, rwF]
      by_cases q : zbit (zws w hh cs fs i) k = true
      · rw [if_pos q, if_pos (hz.mp q).2]
        by_cases q2 : m = n
        · rw [if_pos q2, if_pos (by rw [q2, Nat.sub_self]; rfl)]
        · rw [if_neg q2, if_neg (fun z => q2 (by have := (zJ_eq (a := n - m) (b := 0) (by omega) (by omega)).mp z; omega))]
          have e2 : zJ (n - m) + -1 = zJ (n - (m + 1)) := by
            have := zJ_sub (a := n - m) (b := 1) (by omega)
            rw [Int32.sub_eq_add_neg] at this
            rw [Nat.sub_sub] at this
            exact this
          rw [e2]
          exact ih (k + 1) (m + 1) (by omega) (by omega)
      · rw [if_neg q, if_neg (fun z => q (hz.mpr ⟨by omega, z⟩))]
        exact ih (k + 1) m (by omega) hm
  exact key _ 0 0 (Nat.zero_add _) (Nat.zero_le _)
theorem zrelB76 {B B1 : List rBS} {x y n0 v : Int32} {q : Bool} (ms : ms178 B x y q n0 v B1) : n0 = zJ 0 → v = zB true ∨ v = zB false := by
  intro h
  rcases ms with ⟨⟨rfl, -⟩, -⟩ | ⟨⟨rfl, -⟩, -⟩ | ⟨-, k', w', hh', X, clr, mi', sp', KS, -, -, c', -, -, -, l, -, ⟨-, rfl, -⟩ | ⟨-, rfl, -⟩⟩
  · exact absurd h (by decide)
  · exact absurd h (by decide)
  · exact Or.inl rfl
  · exact Or.inr rfl
theorem zbnz {v : Int32} (h : v = zB true ∨ v = zB false) (h0 : ¬ v = 0) : v = 1 := by
  rcases h with rfl | rfl
  · rfl
  · exact absurd rfl h0
theorem zrelC39 {nb : Nat} {L L1 LN : List yBS} {B B1 : List rBS} {rf : Int32} {αt : yAS} {h : zPH} {a : Nat} {τ : yGS} {x : Int32} {y : Int32} {z : Int32} {kc : Nat} {vv : Int32} {n0 : Int32} {v : Int32} (C : yC h a L rf τ αt) (R : zRel L B) (H : cs39 nb L rf αt x y z kc vv LN) (e : yEqA LN L1) (ms : ms206 B x y z n0 v B1) : zRel L1 B1 ∧ n0 = zJ kc ∧ (kc = 0 → vv = v) := by
  obtain ⟨rfl, ms⟩ := ms
  rcases H with ⟨k, b, w, hh, cs, cl, fs, α, kp, gd, gu, mi, sp, hk, ex, c, hc, ey, t, ht, ez, rfl, rfl, rfl⟩ | ⟨hn, rfl, rfl⟩ | ⟨k, b, w, hh, cs, cl, fs, α, kp, gd, gu, mi, sp, hk, ex, hy, rfl, rfl⟩ | ⟨k, b, w, hh, cs, cl, fs, α, kp, gd, gu, mi, sp, hk, ex, hy, hz, rfl, rfl⟩
  · rcases ms with ⟨rfl, hno⟩ | ⟨rfl, hno, hz'⟩ | ⟨rfl, k', w', hh', X, clr, mi', sp', KS, hm, em, c', hc', ey', t', ht', ez', rfl⟩
    · exact absurd hno (R.nno hk ex ⟨c, hc, ey⟩)
    · exact absurd ⟨t, ht, ez⟩ hz'
    · obtain ⟨rfl, rfl, rfl, hd, C0, U, K, S, rfl, rfl⟩ := R.at hk ex hm em
      obtain rfl := zJ_in (by have := (zwh_s hd).1; omega) (by have := (zwh_s hd).1; omega) ey ey'
      obtain rfl := zJ_in (by omega) (by omega) ez ez'
      refine ⟨zrel_eqA R e, rfl, fun _ => ?_⟩
      exact C0.1.row hc ht
  · rcases ms with ⟨rfl, hno⟩ | ⟨rfl, hno, hz'⟩ | ⟨rfl, k', w', hh', X, clr, mi', sp', KS, hm, em, c', hc', ey', t', ht', ez', rfl⟩
    · exact ⟨zrel_eqA R e, rfl, fun z => absurd z (by decide)⟩
    · exact absurd (R.no1 _ _ hn) hno
    · exact absurd (R.isz hm em) hn
  · rcases ms with ⟨rfl, hno⟩ | ⟨rfl, hno, hz'⟩ | ⟨rfl, k', w', hh', X, clr, mi', sp', KS, hm, em, c', hc', ey', t', ht', ez', rfl⟩
    · exact ⟨zrel_eqA R e, rfl, fun z => absurd z (by decide)⟩
    · exact absurd (R.no2 hk ex hy) hno
    · obtain ⟨rfl, rfl, rfl, hd, C0, U, K, S, rfl, rfl⟩ := R.at hk ex hm em
      exact absurd ⟨_, hc', ey'⟩ hy
  · rcases ms with ⟨rfl, hno⟩ | ⟨rfl, hno, hz'⟩ | ⟨rfl, k', w', hh', X, clr, mi', sp', KS, hm, em, c', hc', ey', t', ht', ez', rfl⟩
    · exact absurd hno (R.nno hk ex hy)
    · exact ⟨zrel_eqA R e, rfl, fun z => absurd z (by decide)⟩
    · exact absurd ⟨t', ht', ez'⟩ hz
theorem zrelC42 {nb : Nat} {L L1 LN : List yBS} {B B1 : List rBS} {rf : Int32} {αt : yAS} {h : zPH} {a : Nat} {τ : yGS} {x : Int32} {y : Int32} {z : Int32} {kc : Nat} {vv : Int32} {n0 : Int32} {v : Int32} (C : yC h a L rf τ αt) (R : zRel L B) (H : cs42 nb L rf αt x y z kc vv LN) (e : yEqA LN L1) (ms : ms207 B x y z n0 v B1) : zRel L1 B1 ∧ n0 = zJ kc ∧ (kc = 0 → vv = v) := by
  obtain ⟨rfl, ms⟩ := ms
  rcases H with ⟨k, b, w, hh, cs, cl, fs, α, kp, gd, gu, mi, sp, hk, ex, i, hi, ey, t, ht, ez, rfl, rfl, rfl⟩ | ⟨hn, rfl, rfl⟩ | ⟨k, b, w, hh, cs, cl, fs, α, kp, gd, gu, mi, sp, hk, ex, hy, rfl, rfl⟩ | ⟨k, b, w, hh, cs, cl, fs, α, kp, gd, gu, mi, sp, hk, ex, hy, hz, rfl, rfl⟩
  · rcases ms with ⟨rfl, hno⟩ | ⟨rfl, hno, hz'⟩ | ⟨rfl, k', w', hh', X, clr, mi', sp', KS, hm, em, i', hi', ey', t', ht', ez', rfl⟩
    · exact absurd hno (R.nno hk ex ⟨i, hi, ey⟩)
    · exact absurd ⟨t, ht, ez⟩ hz'
    · obtain ⟨rfl, rfl, rfl, hd, C0, U, K, S, rfl, rfl⟩ := R.at hk ex hm em
      obtain rfl := zJ_in (by omega) (by omega) ey ey'
      obtain rfl := zJ_in (by omega) (by omega) ez ez'
      refine ⟨zrel_eqA R e, rfl, fun _ => ?_⟩
      exact zof_rln hd C0 K hi ht
  · rcases ms with ⟨rfl, hno⟩ | ⟨rfl, hno, hz'⟩ | ⟨rfl, k', w', hh', X, clr, mi', sp', KS, hm, em, i', hi', ey', t', ht', ez', rfl⟩
    · exact ⟨zrel_eqA R e, rfl, fun z => absurd z (by decide)⟩
    · exact absurd (R.no1 _ _ hn) hno
    · exact absurd (R.isz hm em) hn
  · rcases ms with ⟨rfl, hno⟩ | ⟨rfl, hno, hz'⟩ | ⟨rfl, k', w', hh', X, clr, mi', sp', KS, hm, em, i', hi', ey', t', ht', ez', rfl⟩
    · exact ⟨zrel_eqA R e, rfl, fun z => absurd z (by decide)⟩
    · exact absurd (R.no2 hk ex hy) hno
    · obtain ⟨rfl, rfl, rfl, hd, C0, U, K, S, rfl, rfl⟩ := R.at hk ex hm em
      exact absurd ⟨_, hi', ey'⟩ hy
  · rcases ms with ⟨rfl, hno⟩ | ⟨rfl, hno, hz'⟩ | ⟨rfl, k', w', hh', X, clr, mi', sp', KS, hm, em, i', hi', ey', t', ht', ez', rfl⟩
    · exact absurd hno (R.nno hk ex hy)
    · exact ⟨zrel_eqA R e, rfl, fun z => absurd z (by decide)⟩
    · exact absurd ⟨t', ht', ez'⟩ hz
theorem zrelC46 {nb : Nat} {L L1 LN : List yBS} {B B1 : List rBS} {rf : Int32} {αt : yAS} {h : zPH} {a : Nat} {τ : yGS} {x : Int32} {y : Int32} {z : Int32} {kc : Nat} {vv : Int32} {n0 : Int32} {v : Int32} (C : yC h a L rf τ αt) (R : zRel L B) (H : cs46 nb L rf αt x y z kc vv LN) (e : yEqA LN L1) (ms : ms209 B x y z n0 v B1) : zRel L1 B1 ∧ n0 = zJ kc ∧ (kc = 0 → vv = v) := by
  obtain ⟨rfl, ms⟩ := ms
  rcases H with ⟨k, b, w, hh, cs, cl, fs, α, kp, gd, gu, mi, sp, hk, ex, i, hi, ey, n, hn, ez, rfl, rfl, rfl⟩ | ⟨hn, rfl, rfl⟩ | ⟨k, b, w, hh, cs, cl, fs, α, kp, gd, gu, mi, sp, hk, ex, hy, rfl, rfl⟩ | ⟨k, b, w, hh, cs, cl, fs, α, kp, gd, gu, mi, sp, hk, ex, hy, hz, rfl, rfl⟩
  · rcases ms with ⟨rfl, hno⟩ | ⟨rfl, hno, hz'⟩ | ⟨rfl, k', w', hh', X, clr, mi', sp', KS, hm, em, i', hi', ey', hz', rfl⟩
    · exact absurd hno (R.nno hk ex ⟨i, hi, ey⟩)
    · rw [ez] at hz'
      exact absurd hz' (zJ_nn hn)
    · obtain ⟨rfl, rfl, rfl, hd, C0, U, K, S, rfl, rfl⟩ := R.at hk ex hm em
      obtain rfl := zJ_in (by omega) (by omega) ey ey'
      subst ez
      refine ⟨zrel_eqA R e, rfl, fun _ => ?_⟩
      exact zwF_rwF C0.1.lr hd hi (K.ln _ hi) hn
  · rcases ms with ⟨rfl, hno⟩ | ⟨rfl, hno, hz'⟩ | ⟨rfl, k', w', hh', X, clr, mi', sp', KS, hm, em, i', hi', ey', hz', rfl⟩
    · exact ⟨zrel_eqA R e, rfl, fun z => absurd z (by decide)⟩
    · exact absurd (R.no1 _ _ hn) hno
    · exact absurd (R.isz hm em) hn
  · rcases ms with ⟨rfl, hno⟩ | ⟨rfl, hno, hz'⟩ | ⟨rfl, k', w', hh', X, clr, mi', sp', KS, hm, em, i', hi', ey', hz', rfl⟩
    · exact ⟨zrel_eqA R e, rfl, fun z => absurd z (by decide)⟩
    · exact absurd (R.no2 hk ex hy) hno
    · obtain ⟨rfl, rfl, rfl, hd, C0, U, K, S, rfl, rfl⟩ := R.at hk ex hm em
      exact absurd ⟨_, hi', ey'⟩ hy
  · rcases ms with ⟨rfl, hno⟩ | ⟨rfl, hno, hz'⟩ | ⟨rfl, k', w', hh', X, clr, mi', sp', KS, hm, em, i', hi', ey', hz', rfl⟩
    · exact absurd hno (R.nno hk ex hy)
    · exact ⟨zrel_eqA R e, rfl, fun z => absurd z (by decide)⟩
    · exact absurd hz hz'
theorem zrelC18 {nb : Nat} {L L1 LN : List yBS} {B B1 : List rBS} {rf : Int32} {αt : yAS} {h : zPH} {a : Nat} {τ : yGS} {x : Int32} {y : Int32} {kc : Nat} {vv : Int32} {n0 : Int32} {v : Int32} (C : yC h a L rf τ αt) (R : zRel L B) (H : cs18 nb L rf αt x y kc vv LN) (e : yEqA LN L1) (ms : ms211 B x y n0 v B1) : zRel L1 B1 ∧ n0 = zJ kc ∧ (kc = 0 → vv = v) := by
  obtain ⟨rfl, ms⟩ := ms
  rcases H with ⟨k, b, w, hh, cs, cl, fs, α, kp, gd, gu, mi, sp, hk, ex, t, ht, ey, v1, ev, rfl, rfl, rfl⟩ | ⟨hn, rfl, rfl⟩ | ⟨k, b, w, hh, cs, cl, fs, α, kp, gd, gu, mi, sp, hk, ex, hy, rfl, rfl⟩
  · rcases ms with ⟨rfl, hno⟩ | ⟨rfl, hxB, hz'⟩ | ⟨rfl, k', w', hh', X, clr, mi', sp', KS, hm, em, t', ht', ey', l, P, rfl⟩
    · exact absurd (R.zinB hk ex) hno
    · exact absurd ⟨t, ht, ey⟩ hz'
    · obtain ⟨rfl, rfl, rfl, hd, C0, U, K, S, rfl, rfl⟩ := R.at hk ex hm em
      obtain rfl := zJ_in (by omega) (by omega) ey ey'
      have hA := (C.bd hk).1.2.1.2.1
      obtain ⟨a1, a2, a3⟩ := yLk_500 hd C0.1.lr K.ln (C.ai hk) hA.1 hA.2.1 hA.2.2.1 hA.2.2.2.1 cl P
      refine ⟨zrel_eqA R e, rfl, fun _ => ?_⟩
      rw [ev, ← S.1]
      exact zob_rob hd C0 K a2 a3 rfl gu mi' sp' ht
  · rcases ms with ⟨rfl, hno⟩ | ⟨rfl, hxB, hz'⟩ | ⟨rfl, k', w', hh', X, clr, mi', sp', KS, hm, em, t', ht', ey', l, P, rfl⟩
    · exact ⟨zrel_eqA R e, rfl, fun z => absurd z (by decide)⟩
    · exact absurd (by rw [R.1]; exact hxB) hn
    · exact absurd (R.isz hm em) hn
  · rcases ms with ⟨rfl, hno⟩ | ⟨rfl, hxB, hz'⟩ | ⟨rfl, k', w', hh', X, clr, mi', sp', KS, hm, em, t', ht', ey', l, P, rfl⟩
    · exact absurd (R.zinB hk ex) hno
    · exact ⟨zrel_eqA R e, rfl, fun z => absurd z (by decide)⟩
    · exact absurd ⟨t', ht', ey'⟩ hy
theorem zrelC47 {nb : Nat} {L L1 LN : List yBS} {B B1 : List rBS} {rf : Int32} {αt : yAS} {h : zPH} {a : Nat} {τ : yGS} {x : Int32} {y : Int32} {kc : Nat} {vv : Int32} {n0 : Int32} {v : Int32} (C : yC h a L rf τ αt) (R : zRel L B) (H : cs47 nb L rf αt x y kc vv LN) (e : yEqA LN L1) (ms : ms216 B x y n0 v B1) : zRel L1 B1 ∧ n0 = zJ kc ∧ (kc = 0 → vv = v) := by
  obtain ⟨rfl, ms⟩ := ms
  rcases H with ⟨k, b, w, hh, cs, cl, fs, α, kp, gd, gu, mi, sp, hk, ex, t, ht, ey, rfl, rfl, rfl⟩ | ⟨hn, rfl, rfl⟩ | ⟨k, b, w, hh, cs, cl, fs, α, kp, gd, gu, mi, sp, hk, ex, hy, rfl, rfl⟩
  · rcases ms with ⟨rfl, hno⟩ | ⟨rfl, hxB, hz'⟩ | ⟨rfl, k', w', hh', X, clr, mi', sp', KS, hm, em, t', ht', ey', l, P, rfl⟩
    · exact absurd (R.zinB hk ex) hno
    · exact absurd ⟨t, ht, ey⟩ hz'
    · obtain ⟨rfl, rfl, rfl, hd, C0, U, K, S, rfl, rfl⟩ := R.at hk ex hm em
      obtain rfl := zJ_in (by omega) (by omega) ey ey'
      have hA := (C.bd hk).1.2.1.2.1
      obtain ⟨a1, a2, a3⟩ := yLk_500 hd C0.1.lr K.ln (C.ai hk) hA.1 hA.2.1 hA.2.2.1 hA.2.2.2.1 cl P
      refine ⟨zrel_eqA R e, rfl, fun _ => ?_⟩
      rw [a2]
      exact ypn_l a3 _
  · rcases ms with ⟨rfl, hno⟩ | ⟨rfl, hxB, hz'⟩ | ⟨rfl, k', w', hh', X, clr, mi', sp', KS, hm, em, t', ht', ey', l, P, rfl⟩
    · exact ⟨zrel_eqA R e, rfl, fun z => absurd z (by decide)⟩
    · exact absurd (by rw [R.1]; exact hxB) hn
    · exact absurd (R.isz hm em) hn
  · rcases ms with ⟨rfl, hno⟩ | ⟨rfl, hxB, hz'⟩ | ⟨rfl, k', w', hh', X, clr, mi', sp', KS, hm, em, t', ht', ey', l, P, rfl⟩
    · exact absurd (R.zinB hk ex) hno
    · exact ⟨zrel_eqA R e, rfl, fun z => absurd z (by decide)⟩
    · exact absurd ⟨t', ht', ey'⟩ hy
theorem zrelC137 {nb : Nat} {L L1 LN : List yBS} {B B1 : List rBS} {rf : Int32} {αt : yAS} {h : zPH} {a : Nat} {τ : yGS} {x : Int32} {y : Int32} {kc : Nat} {vv : UInt64} {n0 : Int32} {v : UInt64} (C : yC h a L rf τ αt) (R : zRel L B) (H : cs137 nb L rf αt x y kc vv LN) (e : yEqA LN L1) (ms : ms217 B x y n0 v B1) : zRel L1 B1 ∧ n0 = zJ kc ∧ (kc = 0 → vv = v) := by
  obtain ⟨rfl, ms⟩ := ms
  rcases H with ⟨k, b, w, hh, cs, cl, fs, α, kp, gd, gu, mi, sp, hk, ex, c, hc, ey, v1, hM, ev, rfl, rfl, rfl⟩ | ⟨hn, rfl, rfl⟩ | ⟨k, b, w, hh, cs, cl, fs, α, kp, gd, gu, mi, sp, hk, ex, hy, rfl, rfl⟩
  · rcases ms with ⟨rfl, hno⟩ | ⟨rfl, k', w', hh', X, clr, mi', sp', KS, hm, em, c', hc', ey', l, P, rfl⟩
    · exact absurd hno (R.nno hk ex ⟨c, hc, ey⟩)
    · obtain ⟨rfl, rfl, rfl, hd, C0, U, K, S, rfl, rfl⟩ := R.at hk ex hm em
      obtain rfl := zJ_in (by have := (zwh_s hd).1; omega) (by have := (zwh_s hd).1; omega) ey ey'
      have hA := (C.bd hk).1.2.1.2.1
      obtain ⟨a1, a2, a3⟩ := yLk_500 hd C0.1.lr K.ln (C.ai hk) hA.1 hA.2.1 hA.2.2.1 hA.2.2.2.1 cl P
      obtain ⟨b1, b2, b3⟩ := yLk_dim (w := w') (hh := hh') (cs := cs) (fs := fs) 500 cl α
      refine ⟨zrel_eqA R e, rfl, fun _ => ?_⟩
      rw [ev]
      exact ych_rch hd ((C.ai hk).look ⟨hA.1, hA.2.1, hA.2.2.1, hA.2.2.2.1⟩ (by omega)) ⟨b1, b2⟩ (by rw [b3]; exact hA.2.2.2.2) a2 a3 hc
  · rcases ms with ⟨rfl, hno⟩ | ⟨rfl, k', w', hh', X, clr, mi', sp', KS, hm, em, c', hc', ey', l, P, rfl⟩
    · exact ⟨zrel_eqA R e, rfl, fun z => absurd z (by decide)⟩
    · exact absurd (R.isz hm em) hn
  · rcases ms with ⟨rfl, hno⟩ | ⟨rfl, k', w', hh', X, clr, mi', sp', KS, hm, em, c', hc', ey', l, P, rfl⟩
    · exact ⟨zrel_eqA R e, rfl, fun z => absurd z (by decide)⟩
    · obtain ⟨rfl, rfl, rfl, hd, C0, U, K, S, rfl, rfl⟩ := R.at hk ex hm em
      exact absurd ⟨_, hc', ey'⟩ hy
theorem zrelC49 {nb : Nat} {L L1 LN : List yBS} {B B1 : List rBS} {rf : Int32} {αt : yAS} {h : zPH} {a : Nat} {τ : yGS} {x : Int32} {y : Int32} {kc : Nat} {vv : UInt64} {n0 : Int32} {v : UInt64} (C : yC h a L rf τ αt) (R : zRel L B) (H : cs49 nb L rf αt x y kc vv LN) (e : yEqA LN L1) (ms : ms220 B x y n0 v B1) : zRel L1 B1 ∧ n0 = zJ kc ∧ (kc = 0 → vv = v) := by
  obtain ⟨rfl, ms⟩ := ms
  rcases H with ⟨k, b, w, hh, cs, cl, fs, α, kp, gd, gu, mi, sp, hk, ex, t, ht, ey, v1, hM, ev, rfl, rfl, rfl⟩ | ⟨hn, rfl, rfl⟩ | ⟨k, b, w, hh, cs, cl, fs, α, kp, gd, gu, mi, sp, hk, ex, hy, rfl, rfl⟩
  · rcases ms with ⟨rfl, hno⟩ | ⟨rfl, hxB, hz'⟩ | ⟨rfl, k', w', hh', X, clr, mi', sp', KS, hm, em, t', ht', ey', ⟨h2, rfl⟩ | ⟨h2, l, P, rfl⟩⟩
    · exact absurd (R.zinB hk ex) hno
    · exact absurd ⟨t, ht, ey⟩ hz'
    · obtain ⟨rfl, rfl, rfl, hd, C0, U, K, S, rfl, rfl⟩ := R.at hk ex hm em
      obtain rfl := zJ_in (by omega) (by omega) ey ey'
      refine ⟨zrel_eqA R e, rfl, fun _ => ?_⟩
      rw [ev, if_pos h2]
      exact ylo_rlo hd C0.1.lr K.ln
    · obtain ⟨rfl, rfl, rfl, hd, C0, U, K, S, rfl, rfl⟩ := R.at hk ex hm em
      obtain rfl := zJ_in (by omega) (by omega) ey ey'
      have hA := (C.bd hk).1.2.1.2.1
      obtain ⟨a1, a2, a3⟩ := yLk_500 hd C0.1.lr K.ln (C.ai hk) hA.1 hA.2.1 hA.2.2.1 hA.2.2.2.1 cl P
      obtain ⟨b1, b2, b3⟩ := yLk_dim (w := w') (hh := hh') (cs := cs) (fs := fs) 500 cl α
      refine ⟨zrel_eqA R e, rfl, fun _ => ?_⟩
      rw [ev, if_neg h2]
      exact congrArg FP.f2d (yfo_rfg hd C0.1.lr ((C.ai hk).look ⟨hA.1, hA.2.1, hA.2.2.1, hA.2.2.2.1⟩ (by omega)) ⟨b1, b2⟩ (by rw [b3]; exact hA.2.2.2.2) (rPx_len hd P) a2 a3)
  · rcases ms with ⟨rfl, hno⟩ | ⟨rfl, hxB, hz'⟩ | ⟨rfl, k', w', hh', X, clr, mi', sp', KS, hm, em, t', ht', ey', ⟨h2, rfl⟩ | ⟨h2, l, P, rfl⟩⟩
    · exact ⟨zrel_eqA R e, rfl, fun z => absurd z (by decide)⟩
    · exact absurd (by rw [R.1]; exact hxB) hn
    · exact absurd (R.isz hm em) hn
    · exact absurd (R.isz hm em) hn
  · rcases ms with ⟨rfl, hno⟩ | ⟨rfl, hxB, hz'⟩ | ⟨rfl, k', w', hh', X, clr, mi', sp', KS, hm, em, t', ht', ey', ⟨h2, rfl⟩ | ⟨h2, l, P, rfl⟩⟩
    · exact absurd (R.zinB hk ex) hno
    · exact ⟨zrel_eqA R e, rfl, fun z => absurd z (by decide)⟩
    · exact absurd ⟨t', ht', ey'⟩ hy
    · exact absurd ⟨t', ht', ey'⟩ hy
theorem zrelC11 {nb : Nat} {L L1 LN : List yBS} {B B1 : List rBS} {rf : Int32} {αt : yAS} {h : zPH} {a : Nat} {τ : yGS} {x : Int32} {kc : Nat} {vv : Int32} {n0 : Int32} {v : Int32} (C : yC h a L rf τ αt) (R : zRel L B) (H : cs11 nb L rf αt x kc vv LN) (e : yEqA LN L1) (ms : ms223 B rf x n0 v B1) : zRel L1 B1 ∧ n0 = zJ kc ∧ (kc = 0 → vv = v) := by
  obtain ⟨rfl, ms⟩ := ms
  rcases H with ⟨t, ht, ex, rfl, rfl, rfl⟩ | ⟨hn, rfl, rfl⟩
  · rcases ms with ⟨rfl, hno⟩ | ⟨rfl, t', ht', ex', rfl⟩
    · exact absurd ⟨t, ht, ex⟩ hno
    · obtain rfl := zJ_in (by omega) (by omega) ex ex'
      exact ⟨zrel_eqA R e, rfl, fun _ => R.many rf ht⟩
  · rcases ms with ⟨rfl, hno⟩ | ⟨rfl, t', ht', ex', rfl⟩
    · exact ⟨zrel_eqA R e, rfl, fun z => absurd z (by decide)⟩
    · exact absurd ⟨t', ht', ex'⟩ hn
theorem zrelC55 {nb : Nat} {L L1 LN : List yBS} {B B1 : List rBS} {rf : Int32} {αt : yAS} {h : zPH} {a : Nat} {τ : yGS} {x : Int32} {kc : Nat} {vv : Int32} {n0 : Int32} {v : Int32} (C : yC h a L rf τ αt) (R : zRel L B) (H : cs55 nb L rf αt x kc vv LN) (e : yEqA LN L1) (ms : ms225 B x n0 v B1) : zRel L1 B1 ∧ n0 = zJ kc ∧ (kc = 0 → vv = v) := by
  obtain ⟨rfl, ms⟩ := ms
  rcases H with ⟨k, b, w, hh, cs, cl, fs, α, kp, gd, gu, mi, sp, hk, ex, rfl, rfl, rfl⟩ | ⟨hn, rfl, rfl⟩
  · rcases ms with ⟨rfl, hno⟩ | ⟨rfl, k', w', hh', X, clr, mi', sp', KS, hm, em, rfl⟩
    · exact absurd (R.zinB hk ex) hno
    · obtain ⟨rfl, rfl, rfl, hd, C0, U, K, S, rfl, rfl⟩ := R.at hk ex hm em
      refine ⟨zrel_eqA R e, rfl, fun _ => ?_⟩
      rw [zhn_rhn hd C0.1.lr K.ln _ (Nat.le_refl _)]
  · rcases ms with ⟨rfl, hno⟩ | ⟨rfl, k', w', hh', X, clr, mi', sp', KS, hm, em, rfl⟩
    · exact ⟨zrel_eqA R e, rfl, fun z => absurd z (by decide)⟩
    · exact absurd (R.isz hm em) hn
theorem zrelC56 {nb : Nat} {L L1 LN : List yBS} {B B1 : List rBS} {rf : Int32} {αt : yAS} {h : zPH} {a : Nat} {τ : yGS} {x : Int32} {kc : Nat} {vv : Int32} {n0 : Int32} {v : Int32} (C : yC h a L rf τ αt) (R : zRel L B) (H : cs56 nb L rf αt x kc vv LN) (e : yEqA LN L1) (ms : ms227 B x n0 v B1) : zRel L1 B1 ∧ n0 = zJ kc ∧ (kc = 0 → vv = v) := by
  obtain ⟨rfl, ms⟩ := ms
  rcases H with ⟨k, b, w, hh, cs, cl, fs, α, kp, gd, gu, mi, sp, hk, ex, v1, ev, rfl, rfl, rfl⟩ | ⟨hn, rfl, rfl⟩
  · rcases ms with ⟨rfl, hno⟩ | ⟨rfl, k', w', hh', X, clr, mi', sp', KS, hm, em, l, P, rfl⟩
    · exact absurd (R.zinB hk ex) hno
    · obtain ⟨rfl, rfl, rfl, hd, C0, U, K, S, rfl, rfl⟩ := R.at hk ex hm em
      have hA := (C.bd hk).1.2.1.2.1
      obtain ⟨a1, a2, a3⟩ := yLk_500 hd C0.1.lr K.ln (C.ai hk) hA.1 hA.2.1 hA.2.2.1 hA.2.2.2.1 cl P
      obtain ⟨b1, b2, b3⟩ := yLk_dim (w := w') (hh := hh') (cs := cs) (fs := fs) 500 cl α
      refine ⟨zrel_eqA R e, rfl, fun _ => ?_⟩
      rw [ev, a2]
      split
      · rfl
      · rename_i h0
        exact (yts_rts hd C0.1.lr ⟨(C.ai hk).look ⟨hA.1, hA.2.1, hA.2.2.1, hA.2.2.2.1⟩ (by omega), ⟨b1, b2⟩, by rw [b3]; exact hA.2.2.2.2, a2, a3⟩ (rPx_len hd P) h0 _ (Nat.le_refl _)).2.1
  · rcases ms with ⟨rfl, hno⟩ | ⟨rfl, k', w', hh', X, clr, mi', sp', KS, hm, em, l, P, rfl⟩
    · exact ⟨zrel_eqA R e, rfl, fun z => absurd z (by decide)⟩
    · exact absurd (R.isz hm em) hn
theorem zrelC143 {nb : Nat} {L L1 LN : List yBS} {B B1 : List rBS} {rf : Int32} {αt : yAS} {h : zPH} {a : Nat} {τ : yGS} {x : Int32} {y : Int32} {q : Bool} {z : Int32} {kc : Nat} {vv : Int32} {n0 : Int32} {v : Int32} (C : yC h a L rf τ αt) (R : zRel L B) (H : cs143 nb L rf αt x y q z kc vv LN) (e : yEqA LN L1) (ms : ms229 B x y z q n0 v B1) : zRel L1 B1 ∧ n0 = zJ kc ∧ (kc = 0 → vv = v) := by
  obtain ⟨rfl, ms⟩ := ms
  rcases H with ⟨k, b, w, hh, cs, cl, fs, α, kp, gd, gu, mi, sp, hk, ex, c, hc, ey, t, ht, ez, hu, v1, ev, rfl, rfl, rfl⟩ | ⟨hn, rfl, rfl⟩ | ⟨k, b, w, hh, cs, cl, fs, α, kp, gd, gu, mi, sp, hk, ex, hy, rfl, rfl⟩ | ⟨k, b, w, hh, cs, cl, fs, α, kp, gd, gu, mi, sp, hk, ex, hy, hz, rfl, rfl⟩ | ⟨k, b, w, hh, cs, cl, fs, α, kp, gd, gu, mi, sp, hk, ex, hz, c, hc, ey, hu, rfl, rfl⟩
  · rcases ms with ⟨rfl, hno⟩ | ⟨rfl, hno, hz'⟩ | ⟨rfl, hz', k', w', hh', X, clr, mi', sp', KS, hm, em, c', hc', ey', hu'⟩ | ⟨rfl, k', w', hh', X, clr, mi', sp', KS, hm, em, c', hc', ey', t', ht', ez', hu', ⟨h2, l, P, rfl⟩ | ⟨h2, rfl⟩⟩
    · exact absurd hno (R.nno hk ex ⟨c, hc, ey⟩)
    · exact absurd ⟨t, ht, ez⟩ hz'
    · obtain ⟨rfl, rfl, rfl, hd, C0, U, K, S, rfl, rfl⟩ := R.at hk ex hm em
      obtain rfl := zJ_in (by have := (zwh_s hd).1; omega) (by have := (zwh_s hd).1; omega) ey ey'
      rw [C0.1.lr c hc] at hu
      exact absurd hu hu'
    · obtain ⟨rfl, rfl, rfl, hd, C0, U, K, S, rfl, rfl⟩ := R.at hk ex hm em
      obtain rfl := zJ_in (by have := (zwh_s hd).1; omega) (by have := (zwh_s hd).1; omega) ey ey'
      obtain rfl := zJ_in (by omega) (by omega) ez ez'
      have Cm : zCX w' hh' (zpt cs c (if q = true then zJ 1 else zJ 2) (-1) (zJ 0) (zJ 0)) (rbe X c (mdk q) (-1) (zJ 0) 0) := C0.be (x := mdk q) (zwh_s hd).1 hc (mdk_12 q) (by split <;> rfl)
      refine ⟨zrel_eqA R e, rfl, fun _ => ?_⟩
      have en := yLk_n (m := 500) Cm.1.lr hd K.ln (by decide) (by decide) C.ait C.1.ta.2.1.1 C.1.ta.2.1.2.1 C.1.ta.2.1.2.2.1 C.1.ta.2.1.2.2.2.1 cl P
      rw [Nat.min_eq_right (rPx_len hd P)] at en
      rw [ev, if_pos h2, en]
    · obtain ⟨rfl, rfl, rfl, hd, C0, U, K, S, rfl, rfl⟩ := R.at hk ex hm em
      obtain rfl := zJ_in (by have := (zwh_s hd).1; omega) (by have := (zwh_s hd).1; omega) ey ey'
      obtain rfl := zJ_in (by omega) (by omega) ez ez'
      have Cm : zCX w' hh' (zpt cs c (if q = true then zJ 1 else zJ 2) (-1) (zJ 0) (zJ 0)) (rbe X c (mdk q) (-1) (zJ 0) 0) := C0.be (x := mdk q) (zwh_s hd).1 hc (mdk_12 q) (by split <;> rfl)
      refine ⟨zrel_eqA R e, rfl, fun _ => ?_⟩
      obtain ⟨s1, s2⟩ := zsS_rsS (ng := 0) hd K.ln Cm
      rw [ev, if_neg h2]
      unfold zwd rwd
      rw [s2, zbl_rbk hd s1.1.lr K.ln _ (Nat.le_refl _)]
      split
      · rfl
      · by_cases z : rbk w' hh' (rsS w' hh' clr 0 (rbe X c (mdk q) (-1) (zJ 0) 0)).1.1 clr (w' + hh') = 0
        · rw [if_pos z, if_neg (by omega)]
        · rw [if_neg z, if_pos (by omega)]
  · rcases ms with ⟨rfl, hno⟩ | ⟨rfl, hno, hz'⟩ | ⟨rfl, hz', k', w', hh', X, clr, mi', sp', KS, hm, em, c', hc', ey', hu'⟩ | ⟨rfl, k', w', hh', X, clr, mi', sp', KS, hm, em, c', hc', ey', t', ht', ez', hu', ⟨h2, l, P, rfl⟩ | ⟨h2, rfl⟩⟩
    · exact ⟨zrel_eqA R e, rfl, fun z => absurd z (by decide)⟩
    · exact absurd (R.no1 _ _ hn) hno
    · exact absurd (R.isz hm em) hn
    · exact absurd (R.isz hm em) hn
    · exact absurd (R.isz hm em) hn
  · rcases ms with ⟨rfl, hno⟩ | ⟨rfl, hno, hz'⟩ | ⟨rfl, hz', k', w', hh', X, clr, mi', sp', KS, hm, em, c', hc', ey', hu'⟩ | ⟨rfl, k', w', hh', X, clr, mi', sp', KS, hm, em, c', hc', ey', t', ht', ez', hu', ⟨h2, l, P, rfl⟩ | ⟨h2, rfl⟩⟩
    · exact ⟨zrel_eqA R e, rfl, fun z => absurd z (by decide)⟩
    · exact absurd (R.no2 hk ex hy) hno
    · obtain ⟨rfl, rfl, rfl, hd, C0, U, K, S, rfl, rfl⟩ := R.at hk ex hm em
      exact absurd ⟨_, hc', ey'⟩ hy
    · obtain ⟨rfl, rfl, rfl, hd, C0, U, K, S, rfl, rfl⟩ := R.at hk ex hm em
      exact absurd ⟨_, hc', ey'⟩ hy
    · obtain ⟨rfl, rfl, rfl, hd, C0, U, K, S, rfl, rfl⟩ := R.at hk ex hm em
      exact absurd ⟨_, hc', ey'⟩ hy
  · rcases ms with ⟨rfl, hno⟩ | ⟨rfl, hno, hz'⟩ | ⟨rfl, hz', k', w', hh', X, clr, mi', sp', KS, hm, em, c', hc', ey', hu'⟩ | ⟨rfl, k', w', hh', X, clr, mi', sp', KS, hm, em, c', hc', ey', t', ht', ez', hu', ⟨h2, l, P, rfl⟩ | ⟨h2, rfl⟩⟩
    · exact absurd hno (R.nno hk ex hy)
    · exact ⟨zrel_eqA R e, rfl, fun z => absurd z (by decide)⟩
    · exact absurd hz' hz
    · exact absurd ⟨t', ht', ez'⟩ hz
    · exact absurd ⟨t', ht', ez'⟩ hz
  · rcases ms with ⟨rfl, hno⟩ | ⟨rfl, hno, hz'⟩ | ⟨rfl, hz', k', w', hh', X, clr, mi', sp', KS, hm, em, c', hc', ey', hu'⟩ | ⟨rfl, k', w', hh', X, clr, mi', sp', KS, hm, em, c', hc', ey', t', ht', ez', hu', ⟨h2, l, P, rfl⟩ | ⟨h2, rfl⟩⟩
    · exact absurd hno (R.nno hk ex ⟨c, hc, ey⟩)
    · exact absurd hz hz'
    · exact ⟨zrel_eqA R e, rfl, fun z => absurd z (by decide)⟩
    · obtain ⟨rfl, rfl, rfl, hd, C0, U, K, S, rfl, rfl⟩ := R.at hk ex hm em
      obtain rfl := zJ_in (by have := (zwh_s hd).1; omega) (by have := (zwh_s hd).1; omega) ey ey'
      rw [C0.1.lr c hc] at hu
      exact absurd hu' hu
    · obtain ⟨rfl, rfl, rfl, hd, C0, U, K, S, rfl, rfl⟩ := R.at hk ex hm em
      obtain rfl := zJ_in (by have := (zwh_s hd).1; omega) (by have := (zwh_s hd).1; omega) ey ey'
      rw [C0.1.lr c hc] at hu
      exact absurd hu' hu
theorem zrelC58 {nb : Nat} {L L1 LN : List yBS} {B B1 : List rBS} {rf : Int32} {αt : yAS} {h : zPH} {a : Nat} {τ : yGS} {x : Int32} {kc : Nat} {vv : Int32} {n0 : Int32} {v : Int32} (C : yC h a L rf τ αt) (R : zRel L B) (H : cs58 nb L rf αt x kc vv LN) (e : yEqA LN L1) (ms : ms230 B x n0 v B1) : zRel L1 B1 ∧ n0 = zJ kc ∧ (kc = 0 → vv = v) := by
  obtain ⟨rfl, ms⟩ := ms
  rcases H with ⟨k, b, w, hh, cs, cl, fs, α, kp, gd, gu, mi, sp, hk, ex, rfl, rfl, rfl⟩ | ⟨hn, rfl, rfl⟩
  · rcases ms with ⟨rfl, hno⟩ | ⟨rfl, k', w', hh', X, clr, mi', sp', KS, hm, em, l, P, rfl⟩
    · exact absurd (R.zinB hk ex) hno
    · obtain ⟨rfl, rfl, rfl, hd, C0, U, K, S, rfl, rfl⟩ := R.at hk ex hm em
      have hA := (C.bd hk).1.2.1.2.1
      obtain ⟨a1, a2, a3⟩ := yLk_500 hd C0.1.lr K.ln (C.ai hk) hA.1 hA.2.1 hA.2.2.1 hA.2.2.2.1 cl P
      obtain ⟨b1, b2, b3⟩ := yLk_dim (w := w') (hh := hh') (cs := cs) (fs := fs) 500 cl α
      refine ⟨zrel_eqA R e, rfl, fun _ => ?_⟩
      rw [b1, b2, a2]
      exact ynd_rne hd a3 (fun j p hj hp => rPx_hi hd P hj hp)
  · rcases ms with ⟨rfl, hno⟩ | ⟨rfl, k', w', hh', X, clr, mi', sp', KS, hm, em, l, P, rfl⟩
    · exact ⟨zrel_eqA R e, rfl, fun z => absurd z (by decide)⟩
    · exact absurd (R.isz hm em) hn
theorem zrelC61 {nb : Nat} {L L1 LN : List yBS} {B B1 : List rBS} {rf : Int32} {αt : yAS} {h : zPH} {a : Nat} {τ : yGS} {x : Int32} {y : Int32} {kc : Nat} {vv : Int32} {n0 : Int32} {v : Int32} (C : yC h a L rf τ αt) (R : zRel L B) (H : cs61 nb L rf αt x y kc vv LN) (e : yEqA LN L1) (ms : ms233 B x y n0 v B1) : zRel L1 B1 ∧ n0 = zJ kc ∧ (kc = 0 → vv = v) := by
  obtain ⟨rfl, ms⟩ := ms
  rcases H with ⟨hx, hy, v1, hv, rfl, rfl, rfl⟩ | ⟨hn, rfl, rfl⟩ | ⟨hn, rfl, rfl⟩
  · obtain ⟨k, k2, hk, ex, hk2, ey, ev⟩ := zaK_ral R hv
    rcases ms with ⟨rfl, hno⟩ | ⟨rfl, k', k2', hk', ex', hk2', ey', rfl⟩
    · exact absurd ⟨⟨k, hk, ex⟩, ⟨k2, hk2, ey⟩⟩ hno
    · have l3 := R.1
      have l4 := R.2.1
      obtain rfl := zJ_in (by omega) (by omega) ex ex'
      obtain rfl := zJ_in (by omega) (by omega) ey ey'
      exact ⟨zrel_eqA R e, rfl, fun _ => ev⟩
  · rcases ms with ⟨rfl, hno⟩ | ⟨rfl, k', k2', hk', ex', hk2', ey', rfl⟩
    · exact ⟨zrel_eqA R e, rfl, fun z => absurd z (by decide)⟩
    · exact absurd ⟨k', by rw [R.1]; exact hk', ex'⟩ hn
  · rcases ms with ⟨rfl, hno⟩ | ⟨rfl, k', k2', hk', ex', hk2', ey', rfl⟩
    · exact ⟨zrel_eqA R e, rfl, fun z => absurd z (by decide)⟩
    · exact absurd ⟨k2', by rw [R.1]; exact hk2', ey'⟩ hn
