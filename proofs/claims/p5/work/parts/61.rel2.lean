/-! ===== both sides, what is asked ===== -/
theorem zRel.no1 {L : List yBS} {B : List rBS} (R : zRel L B) {x : Int32} (y : Int32) (n : Nat → Nat → Nat) (h : ¬ zin x L.length) : mNo B x y n := fun _ _ _ _ _ _ _ _ hm em => absurd (R.isz hm em) h
theorem zRel.no2 {L : List yBS} {B : List rBS} (R : zRel L B) {x y : Int32} {n : Nat → Nat → Nat} {k b w hh gu : Nat} {cs cl fs kp gd : List Int32} {α : yAS} {mi sp : Int32} (h : L[k]? = some (b, (w, hh, cs, cl, fs), α, kp, gd, gu, mi, sp)) (ex : x = zJ k) (hy : ¬ zin y (n w hh)) : mNo B x y n := by
  intro k' w' hh' X clr mi' sp' KS hm em hz
  obtain ⟨-, rfl, rfl, -⟩ := R.at h ex hm em
  exact hy hz
theorem zRc.row {n c t : Nat} {cs : List Int32} {X : rX4} (h : zRc n cs X) (hc : c < n) (ht : t < 4) : cs.getD (c * 4 + t) 0 = (rrow X t).getD c 0 := by
  obtain ⟨h0, h1, h2, h3⟩ := h c hc
  rcases (show t = 0 ∨ t = 1 ∨ t = 2 ∨ t = 3 by omega) with rfl | rfl | rfl | rfl
  · exact h0
  · exact h1
  · exact h2
  · exact h3
theorem zrn_vd {x : Int32} (h : zVd x) : zrn x = if x = -1 then -1 else rrn x := by
  rcases h with rfl | ⟨n, hn, rfl⟩
  · decide
  · have h1 : ¬ zJ n = -1 := fun z => by
      have := zJ_nn (a := n) (by omega)
      rw [z] at this
      exact this (by decide)
    rw [if_neg h1]
    by_cases h2 : 0 < zJ n
    · rw [zrn, if_pos h2, rrn, if_pos h2]
    · rw [zrn, if_neg h2, rrn, if_neg h2]
      exact Int32.le_antisymm (Int32.not_lt.mp h2) (Int32.not_lt.mp (zJ_nn (by omega)))
theorem zof_rln {w hh : Nat} {cs cl fs clr : List Int32} {X : rX4} (hd : 2 ≤ w ∧ w ≤ 5 ∧ 2 ≤ hh ∧ hh ≤ 5) (C : zCX w hh cs X) (K : zxK w hh cl fs clr) {i t : Nat} (hi : i < w + hh) (ht : t < 6) : zof w hh cs cl fs i t = rln w hh X.1 clr i t := by
  obtain ⟨k1, k2, k3⟩ := K.2.2.2 i hi
  have e1 := yfl_rfo C.1.lr hd hi k2 true
  have e2 := yfl_rfo C.1.lr hd hi k2 false
  rw [show mdk true = zJ 1 from rfl] at e1
  rw [show mdk false = zJ 2 from rfl] at e2
  unfold zof rln
  rcases (show t = 0 ∨ t = 1 ∨ t = 2 ∨ t = 3 ∨ t = 4 ∨ t = 5 by omega) with rfl | rfl | rfl | rfl | rfl | rfl
  · exact k1
  · show zrn _ = if clr.getD i 0 = -1 then -1 else _
    rw [k1]
    exact zrn_vd k3
  · exact zbc_ws C.1.lr hd hi k2
  · exact e1
  · exact e2
  · rfl
theorem zwF_none {v : Int32} {n : Nat} (f : Nat) : ∀ k m, (∀ j, k ≤ j → zbit v j = false) → zwF v n f k m = -1 := by
  induction f with
  | zero => intro k m _; rfl
  | succ f ih =>
    intro k m h
    rw [zwF, if_neg (by rw [h k (Nat.le_refl _)]; decide)]
    exact ih _ _ fun j hj => h j (by omega)
theorem zwF_rwF {w hh : Nat} {cs fs x0 cl : List Int32} {i : Nat} (R : zLr w hh cs x0) (hd : 2 ≤ w ∧ w ≤ 5 ∧ 2 ≤ hh ∧ hh ≤ 5) (hi : i < w + hh) (hf : zLn w hh fs cl i) {n : Nat} (hn : n < 2147483648) : zwF (zws w hh cs fs i) n 32 0 0 = rwF w hh x0 cl i (2 ^ yln w hh i) 0 (zJ n) := by
  have h5 := zpow5 (yln_b i hd).2
  have key : ∀ d k m, k + d = 2 ^ yln w hh i → m ≤ n → zwF (zws w hh cs fs i) n (32 - k) k m = rwF w hh x0 cl i d k (zJ (n - m)) := by
    intro d
    induction d with
    | zero =>
      intro k m hk _
      rw [rwF]
      refine zwF_none _ _ _ fun j hj => ?_
      cases hb : zbit (zws w hh cs fs i) j with
      | false => rfl
      | true =>
        have := ((zws_iff R hd hi hf j).mp hb).1
        omega
    | succ d ih =>
      intro k m hk hm
      have hz := zws_iff R hd hi hf k
      have e : 32 - k = (32 - (k + 1)) + 1 := by omega
      rw [e, zwF, rwF]
      by_cases q : zbit (zws w hh cs fs i) k = true
      · rw [if_pos q, if_pos (hz.mp q).2]
        by_cases q2 : m = n
        · rw [if_pos q2, if_pos (by rw [q2, Nat.sub_self]; rfl)]
        · rw [if_neg q2, if_neg (fun z => q2 (by have := (zJ_eq (a := n - m) (b := 0) (by omega) (by omega)).mp z; omega))]
          have e2 : zJ (n - m) + -1 = zJ (n - (m + 1)) := by
            have := zJ_sub (a := n - m) (b := 1) (by omega)
            rw [Int32.sub_eq_add_neg] at this
            rw [Nat.sub_sub] at this
            exact this
          rw [e2]
          exact ih (k + 1) (m + 1) (by omega) (by omega)
      · rw [if_neg q, if_neg (fun z => q (hz.mpr ⟨by omega, z⟩))]
        exact ih (k + 1) m (by omega) hm
  exact key _ 0 0 (Nat.zero_add _) (Nat.zero_le _)
theorem zrelB76 {B B1 : List rBS} {x y n0 v : Int32} {q : Bool} (ms : ms178 B x y q n0 v B1) : n0 = zJ 0 → v = zB true ∨ v = zB false := by
  intro h
  rcases ms with ⟨⟨rfl, -⟩, -⟩ | ⟨⟨rfl, -⟩, -⟩ | ⟨-, k', w', hh', X, clr, mi', sp', KS, -, -, c', -, -, -, l, -, ⟨-, rfl, -⟩ | ⟨-, rfl, -⟩⟩
  · exact absurd h (by decide)
  · exact absurd h (by decide)
  · exact Or.inl rfl
  · exact Or.inr rfl
theorem zbnz {v : Int32} (h : v = zB true ∨ v = zB false) (h0 : ¬ v = 0) : v = 1 := by
  rcases h with rfl | rfl
  · rfl
  · exact absurd rfl h0
theorem zrelC39 {nb : Nat} {L L1 LN : List yBS} {B B1 : List rBS} {rf : Int32} {αt : yAS} {h : zPH} {a : Nat} {τ : yGS} {x : Int32} {y : Int32} {z : Int32} {kc : Nat} {vv : Int32} {n0 v : Int32} (C : yC h a L rf τ αt) (R : zRel L B) (H : cs39 nb L rf αt x y z kc vv LN) (e : yEqA LN L1) (ms : ms206 B x y z n0 v B1) : zRel L1 B1 ∧ n0 = zJ kc ∧ (kc = 0 → vv = v) := by
  obtain ⟨rfl, ms⟩ := ms
  rcases H with ⟨k, b, w, hh, cs, cl, fs, α, kp, gd, gu, mi, sp, hk, ex, c, hc, ey, t, ht, ez, rfl, rfl, rfl⟩ | ⟨hn, rfl, rfl⟩ | ⟨k, b, w, hh, cs, cl, fs, α, kp, gd, gu, mi, sp, hk, ex, hy, rfl, rfl⟩ | ⟨k, b, w, hh, cs, cl, fs, α, kp, gd, gu, mi, sp, hk, ex, hy, hz, rfl, rfl⟩
  · rcases ms with ⟨rfl, hno⟩ | ⟨rfl, hno, hz'⟩ | ⟨rfl, k', w', hh', X, clr, mi', sp', KS, hm, em, c', hc', ey', t', ht', ez', rfl⟩
    · exact absurd hno (R.nno hk ex ⟨c, hc, ey⟩)
    · exact absurd ⟨t, ht, ez⟩ hz'
    · obtain ⟨rfl, rfl, rfl, hd, C0, U, K, S, rfl, rfl⟩ := R.at hk ex hm em
      obtain rfl := zJ_in (by have := (zwh_s hd).1; omega) (by have := (zwh_s hd).1; omega) ey ey'
      obtain rfl := zJ_in (by omega) (by omega) ez ez'
      refine ⟨zrel_eqA R e, rfl, fun _ => ?_⟩
      exact C0.1.row hc ht
  · rcases ms with ⟨rfl, hno⟩ | ⟨rfl, hno, hz'⟩ | ⟨rfl, k', w', hh', X, clr, mi', sp', KS, hm, em, c', hc', ey', t', ht', ez', rfl⟩
    · exact ⟨zrel_eqA R e, rfl, fun z => absurd z (by decide)⟩
    · exact absurd (R.no1 _ _ hn) hno
    · exact absurd (R.isz hm em) hn
  · rcases ms with ⟨rfl, hno⟩ | ⟨rfl, hno, hz'⟩ | ⟨rfl, k', w', hh', X, clr, mi', sp', KS, hm, em, c', hc', ey', t', ht', ez', rfl⟩
    · exact ⟨zrel_eqA R e, rfl, fun z => absurd z (by decide)⟩
    · exact absurd (R.no2 hk ex hy) hno
    · obtain ⟨rfl, rfl, rfl, hd, C0, U, K, S, rfl, rfl⟩ := R.at hk ex hm em
      exact absurd ⟨_, hc', ey'⟩ hy
  · rcases ms with ⟨rfl, hno⟩ | ⟨rfl, hno, hz'⟩ | ⟨rfl, k', w', hh', X, clr, mi', sp', KS, hm, em, c', hc', ey', t', ht', ez', rfl⟩
    · exact absurd hno (R.nno hk ex hy)
    · exact ⟨zrel_eqA R e, rfl, fun z => absurd z (by decide)⟩
    · exact absurd ⟨t', ht', ez'⟩ hz
theorem zrelC42 {nb : Nat} {L L1 LN : List yBS} {B B1 : List rBS} {rf : Int32} {αt : yAS} {h : zPH} {a : Nat} {τ : yGS} {x : Int32} {y : Int32} {z : Int32} {kc : Nat} {vv : Int32} {n0 v : Int32} (C : yC h a L rf τ αt) (R : zRel L B) (H : cs42 nb L rf αt x y z kc vv LN) (e : yEqA LN L1) (ms : ms207 B x y z n0 v B1) : zRel L1 B1 ∧ n0 = zJ kc ∧ (kc = 0 → vv = v) := by
  obtain ⟨rfl, ms⟩ := ms
  rcases H with ⟨k, b, w, hh, cs, cl, fs, α, kp, gd, gu, mi, sp, hk, ex, i, hi, ey, t, ht, ez, rfl, rfl, rfl⟩ | ⟨hn, rfl, rfl⟩ | ⟨k, b, w, hh, cs, cl, fs, α, kp, gd, gu, mi, sp, hk, ex, hy, rfl, rfl⟩ | ⟨k, b, w, hh, cs, cl, fs, α, kp, gd, gu, mi, sp, hk, ex, hy, hz, rfl, rfl⟩
  · rcases ms with ⟨rfl, hno⟩ | ⟨rfl, hno, hz'⟩ | ⟨rfl, k', w', hh', X, clr, mi', sp', KS, hm, em, i', hi', ey', t', ht', ez', rfl⟩
    · exact absurd hno (R.nno hk ex ⟨i, hi, ey⟩)
    · exact absurd ⟨t, ht, ez⟩ hz'
    · obtain ⟨rfl, rfl, rfl, hd, C0, U, K, S, rfl, rfl⟩ := R.at hk ex hm em
      obtain rfl := zJ_in (by omega) (by omega) ey ey'
      obtain rfl := zJ_in (by omega) (by omega) ez ez'
      refine ⟨zrel_eqA R e, rfl, fun _ => ?_⟩
      exact zof_rln hd C0 K hi ht
  · rcases ms with ⟨rfl, hno⟩ | ⟨rfl, hno, hz'⟩ | ⟨rfl, k', w', hh', X, clr, mi', sp', KS, hm, em, i', hi', ey', t', ht', ez', rfl⟩
    · exact ⟨zrel_eqA R e, rfl, fun z => absurd z (by decide)⟩
    · exact absurd (R.no1 _ _ hn) hno
    · exact absurd (R.isz hm em) hn
  · rcases ms with ⟨rfl, hno⟩ | ⟨rfl, hno, hz'⟩ | ⟨rfl, k', w', hh', X, clr, mi', sp', KS, hm, em, i', hi', ey', t', ht', ez', rfl⟩
    · exact ⟨zrel_eqA R e, rfl, fun z => absurd z (by decide)⟩
    · exact absurd (R.no2 hk ex hy) hno
    · obtain ⟨rfl, rfl, rfl, hd, C0, U, K, S, rfl, rfl⟩ := R.at hk ex hm em
      exact absurd ⟨_, hi', ey'⟩ hy
  · rcases ms with ⟨rfl, hno⟩ | ⟨rfl, hno, hz'⟩ | ⟨rfl, k', w', hh', X, clr, mi', sp', KS, hm, em, i', hi', ey', t', ht', ez', rfl⟩
    · exact absurd hno (R.nno hk ex hy)
    · exact ⟨zrel_eqA R e, rfl, fun z => absurd z (by decide)⟩
    · exact absurd ⟨t', ht', ez'⟩ hz
theorem zrelC46 {nb : Nat} {L L1 LN : List yBS} {B B1 : List rBS} {rf : Int32} {αt : yAS} {h : zPH} {a : Nat} {τ : yGS} {x : Int32} {y : Int32} {z : Int32} {kc : Nat} {vv : Int32} {n0 v : Int32} (C : yC h a L rf τ αt) (R : zRel L B) (H : cs46 nb L rf αt x y z kc vv LN) (e : yEqA LN L1) (ms : ms209 B x y z n0 v B1) : zRel L1 B1 ∧ n0 = zJ kc ∧ (kc = 0 → vv = v) := by
  obtain ⟨rfl, ms⟩ := ms
  rcases H with ⟨k, b, w, hh, cs, cl, fs, α, kp, gd, gu, mi, sp, hk, ex, i, hi, ey, n, hn, ez, rfl, rfl, rfl⟩ | ⟨hn, rfl, rfl⟩ | ⟨k, b, w, hh, cs, cl, fs, α, kp, gd, gu, mi, sp, hk, ex, hy, rfl, rfl⟩ | ⟨k, b, w, hh, cs, cl, fs, α, kp, gd, gu, mi, sp, hk, ex, hy, hz, rfl, rfl⟩
  · rcases ms with ⟨rfl, hno⟩ | ⟨rfl, hno, hz'⟩ | ⟨rfl, k', w', hh', X, clr, mi', sp', KS, hm, em, i', hi', ey', hz', rfl⟩
    · exact absurd hno (R.nno hk ex ⟨i, hi, ey⟩)
    · rw [ez] at hz'
      exact absurd hz' (zJ_nn hn)
    · obtain ⟨rfl, rfl, rfl, hd, C0, U, K, S, rfl, rfl⟩ := R.at hk ex hm em
      obtain rfl := zJ_in (by omega) (by omega) ey ey'
      subst ez
      refine ⟨zrel_eqA R e, rfl, fun _ => ?_⟩
      exact zwF_rwF C0.1.lr hd hi (K.ln _ hi) hn
  · rcases ms with ⟨rfl, hno⟩ | ⟨rfl, hno, hz'⟩ | ⟨rfl, k', w', hh', X, clr, mi', sp', KS, hm, em, i', hi', ey', hz', rfl⟩
    · exact ⟨zrel_eqA R e, rfl, fun z => absurd z (by decide)⟩
    · exact absurd (R.no1 _ _ hn) hno
    · exact absurd (R.isz hm em) hn
  · rcases ms with ⟨rfl, hno⟩ | ⟨rfl, hno, hz'⟩ | ⟨rfl, k', w', hh', X, clr, mi', sp', KS, hm, em, i', hi', ey', hz', rfl⟩
    · exact ⟨zrel_eqA R e, rfl, fun z => absurd z (by decide)⟩
    · exact absurd (R.no2 hk ex hy) hno
    · obtain ⟨rfl, rfl, rfl, hd, C0, U, K, S, rfl, rfl⟩ := R.at hk ex hm em
      exact absurd ⟨_, hi', ey'⟩ hy
  · rcases ms with ⟨rfl, hno⟩ | ⟨rfl, hno, hz'⟩ | ⟨rfl, k', w', hh', X, clr, mi', sp', KS, hm, em, i', hi', ey', hz', rfl⟩
    · exact absurd hno (R.nno hk ex hy)
    · exact ⟨zrel_eqA R e, rfl, fun z => absurd z (by decide)⟩
    · exact absurd hz hz'
