/-! ===== p2: as many boards on both sides ===== -/
def zRel (L : List yBS) (B : List rBS) : Prop := L.length = B.length ∧ L.length ≤ 3
theorem zRel0 : zRel [] [] := ⟨rfl, by decide⟩
theorem zrel_eqA {L L1 : List yBS} {B : List rBS} (R : zRel L B) (e : yEqA L L1) : zRel L1 B := ⟨e.len.trans R.1, by rw [e.len]; exact R.2⟩
theorem zrel_ref {L : List yBS} {B B1 : List rBS} (R : zRel L B) (h : B1.length = B.length) : zRel L B1 := ⟨Eq.trans R.1 h.symm, R.2⟩
theorem zr25 {x : Int32} : (zJ 2 ≤ x ∧ x ≤ zJ 5) ↔ ∃ w, 2 ≤ w ∧ w ≤ 5 ∧ x = zJ w := by
  constructor
  · rintro ⟨h1, h2⟩
    obtain ⟨w, h3, h4, rfl⟩ := yrange (Int32.not_lt.mpr h1) (Int32.not_lt.mpr h2)
    exact ⟨w, h3, h4, rfl⟩
  · rintro ⟨w, h3, h4, rfl⟩
    exact ⟨(zJ_le (by omega) (by omega)).mpr h3, (zJ_le (by omega) (by omega)).mpr h4⟩
theorem zrelC68 {nb : Nat} {L L1 LN : List yBS} {B B1 : List rBS} {rf x y n0 v vv : Int32} {kc : Nat} (R : zRel L B) (H : cs68 nb L rf x y kc vv LN) (e : yEqA LN L1) (ms : ms150 B x y n0 v B1) : zRel L1 B1 ∧ n0 = zJ kc ∧ (kc = 0 → vv = v) := by
  unfold zRel at R ⊢
  obtain ⟨R, R3⟩ := R
  have hl := e.len
  rcases H with ⟨w, hh, w2, w5, h2, h5, ex, ey, hL, rfl, rfl, rfl⟩ | ⟨hn, rfl, rfl⟩ | ⟨hy, hL, rfl, rfl⟩
  · rcases ms with ⟨-, -, hq⟩ | ⟨-, -, -, hB⟩ | ⟨rfl, rfl, w', hh', b, r, g, e', -, -, -, -, -, -, hB, rfl⟩
    · exact absurd ⟨zr25.mpr ⟨w, w2, w5, ex⟩, zr25.mpr ⟨hh, h2, h5, ey⟩⟩ hq
    · omega
    · refine ⟨⟨?_, ?_⟩, rfl, fun _ => by rw [R]⟩
      · rw [hl, List.length_append, List.length_append, R]
        rfl
      · rw [hl, List.length_append]
        exact hL
  · rcases ms with ⟨rfl, rfl, hq⟩ | ⟨-, -, hq, -⟩ | ⟨-, -, w', hh', b, r, g, e', p1, p2, p3, p4, p5, p6, -⟩
    · exact ⟨⟨hl.trans R, by rw [hl]; exact R3⟩, rfl, fun z => absurd z (by decide)⟩
    · obtain ⟨w, w2, w5, ex⟩ := zr25.mp hq.1
      obtain ⟨hh, h2, h5, ey⟩ := zr25.mp hq.2
      exact absurd ⟨w, hh, w2, w5, h2, h5, ex, ey⟩ hn
    · exact absurd ⟨w', hh', p1, p2, p3, p4, p5, p6⟩ hn
  · rcases ms with ⟨-, -, hq⟩ | ⟨rfl, rfl, hq, -⟩ | ⟨-, -, w', hh', b, r, g, e', p1, p2, p3, p4, p5, p6, hB, -⟩
    · obtain ⟨w, hh, w2, w5, h2, h5, ex, ey⟩ := hy
      exact absurd ⟨zr25.mpr ⟨w, w2, w5, ex⟩, zr25.mpr ⟨hh, h2, h5, ey⟩⟩ hq
    · exact ⟨⟨hl.trans R, by rw [hl]; exact R3⟩, rfl, fun z => absurd z (by decide)⟩
    · omega
theorem zrel71 {nb : Nat} {L L1 LN : List yBS} {B B1 : List rBS} {rf : Int32} {x : Int32} {y : Int32} {z : Int32} {kc : Nat} {vv : Int32} (R : zRel L B) (H : cs71 nb L rf x y z kc vv LN) (e : yEqA LN L1) (ms : B1.length = B.length) : zRel L1 B1 := ⟨(e.len.trans (cs71_len H)).trans (Eq.trans R.1 ms.symm), by rw [e.len, cs71_len H]; exact R.2⟩
theorem zrel74 {nb : Nat} {L L1 LN : List yBS} {B B1 : List rBS} {rf : Int32} {x : Int32} {y : Int32} {kc : Nat} {vv : Int32} (R : zRel L B) (H : cs74 nb L rf x y kc vv LN) (e : yEqA LN L1) (ms : B1.length = B.length) : zRel L1 B1 := ⟨(e.len.trans (cs74_len H)).trans (Eq.trans R.1 ms.symm), by rw [e.len, cs74_len H]; exact R.2⟩
theorem zrel76 {nb : Nat} {L L1 LN : List yBS} {B B1 : List rBS} {rf : Int32} {x : Int32} {y : Int32} {q : Bool} {kc : Nat} {vv : Int32} (R : zRel L B) (H : cs76 nb L rf x y q kc vv LN) (e : yEqA LN L1) (ms : B1.length = B.length) : zRel L1 B1 := ⟨(e.len.trans (cs76_len H)).trans (Eq.trans R.1 ms.symm), by rw [e.len, cs76_len H]; exact R.2⟩
theorem zrel81 {nb : Nat} {L L1 LN : List yBS} {B B1 : List rBS} {rf : Int32} {x : Int32} {kc : Nat} {vv : Int32} (R : zRel L B) (H : cs81 nb L rf x kc vv LN) (e : yEqA LN L1) (ms : B1.length = B.length) : zRel L1 B1 := ⟨(e.len.trans (cs81_len H)).trans (Eq.trans R.1 ms.symm), by rw [e.len, cs81_len H]; exact R.2⟩
theorem zrel83 {nb : Nat} {L L1 LN : List yBS} {B B1 : List rBS} {rf : Int32} {x : Int32} {y : Int32} {q : Bool} {kc : Nat} {vv : Int32} (R : zRel L B) (H : cs83 nb L rf x y q kc vv LN) (e : yEqA LN L1) (ms : B1.length = B.length) : zRel L1 B1 := ⟨(e.len.trans (cs83_len H)).trans (Eq.trans R.1 ms.symm), by rw [e.len, cs83_len H]; exact R.2⟩
theorem zrel86 {nb : Nat} {L L1 LN : List yBS} {B B1 : List rBS} {rf : Int32} {x : Int32} {q : Bool} {kc : Nat} {vv : Int32} (R : zRel L B) (H : cs86 nb L rf x q kc vv LN) (e : yEqA LN L1) (ms : B1.length = B.length) : zRel L1 B1 := ⟨(e.len.trans (cs86_len H)).trans (Eq.trans R.1 ms.symm), by rw [e.len, cs86_len H]; exact R.2⟩
theorem zrel90 {nb : Nat} {L L1 LN : List yBS} {B B1 : List rBS} {rf : Int32} {x : Int32} {y : Int32} {kc : Nat} {vv : Int32} (R : zRel L B) (H : cs90 nb L rf x y kc vv LN) (e : yEqA LN L1) (ms : B1.length = B.length) : zRel L1 B1 := ⟨(e.len.trans (cs90_len H)).trans (Eq.trans R.1 ms.symm), by rw [e.len, cs90_len H]; exact R.2⟩
theorem zrel95 {nb : Nat} {L L1 LN : List yBS} {B B1 : List rBS} {rf : Int32} {x : Int32} {y : Int32} {z : Int32} {kc : Nat} {vv : Int32} (R : zRel L B) (H : cs95 nb L rf x y z kc vv LN) (e : yEqA LN L1) (ms : B1.length = B.length) : zRel L1 B1 := ⟨(e.len.trans (cs95_len H)).trans (Eq.trans R.1 ms.symm), by rw [e.len, cs95_len H]; exact R.2⟩
theorem zrel98 {nb : Nat} {L L1 LN : List yBS} {B B1 : List rBS} {rf : Int32} {x : Int32} {kc : Nat} {vv : Int32} (R : zRel L B) (H : cs98 nb L rf x kc vv LN) (e : yEqA LN L1) (ms : B1.length = B.length) : zRel L1 B1 := ⟨(e.len.trans (cs98_len H)).trans (Eq.trans R.1 ms.symm), by rw [e.len, cs98_len H]; exact R.2⟩
theorem zrel103 {nb : Nat} {L L1 LN : List yBS} {B B1 : List rBS} {rf : Int32} {x : Int32} {kc : Nat} {vv : Int32} (R : zRel L B) (H : cs103 nb L rf x kc vv LN) (e : yEqA LN L1) (ms : B1.length = B.length) : zRel L1 B1 := ⟨(e.len.trans (cs103_len H)).trans (Eq.trans R.1 ms.symm), by rw [e.len, cs103_len H]; exact R.2⟩
theorem zrel39 {nb : Nat} {L L1 LN : List yBS} {B B1 : List rBS} {rf : Int32} {x : Int32} {y : Int32} {z : Int32} {kc : Nat} {vv : Int32} (R : zRel L B) (H : cs39 nb L rf x y z kc vv LN) (e : yEqA LN L1) (ms : B1.length = B.length) : zRel L1 B1 := ⟨(e.len.trans (cs39_len H)).trans (Eq.trans R.1 ms.symm), by rw [e.len, cs39_len H]; exact R.2⟩
theorem zrel42 {nb : Nat} {L L1 LN : List yBS} {B B1 : List rBS} {rf : Int32} {x : Int32} {y : Int32} {z : Int32} {kc : Nat} {vv : Int32} (R : zRel L B) (H : cs42 nb L rf x y z kc vv LN) (e : yEqA LN L1) (ms : B1.length = B.length) : zRel L1 B1 := ⟨(e.len.trans (cs42_len H)).trans (Eq.trans R.1 ms.symm), by rw [e.len, cs42_len H]; exact R.2⟩
theorem zrel46 {nb : Nat} {L L1 LN : List yBS} {B B1 : List rBS} {rf : Int32} {x : Int32} {y : Int32} {z : Int32} {kc : Nat} {vv : Int32} (R : zRel L B) (H : cs46 nb L rf x y z kc vv LN) (e : yEqA LN L1) (ms : B1.length = B.length) : zRel L1 B1 := ⟨(e.len.trans (cs46_len H)).trans (Eq.trans R.1 ms.symm), by rw [e.len, cs46_len H]; exact R.2⟩
theorem zrel18 {nb : Nat} {L L1 LN : List yBS} {B B1 : List rBS} {rf : Int32} {x : Int32} {y : Int32} {kc : Nat} {vv : Int32} (R : zRel L B) (H : cs18 nb L rf x y kc vv LN) (e : yEqA LN L1) (ms : B1.length = B.length) : zRel L1 B1 := ⟨(e.len.trans (cs18_len H)).trans (Eq.trans R.1 ms.symm), by rw [e.len, cs18_len H]; exact R.2⟩
theorem zrel109 {nb : Nat} {L L1 LN : List yBS} {B B1 : List rBS} {rf : Int32} {x : Int32} {kc : Nat} {vv : Nat} (R : zRel L B) (H : cs109 nb L rf x kc vv LN) (e : yEqA LN L1) (ms : B1.length = B.length) : zRel L1 B1 := ⟨(e.len.trans (cs109_len H)).trans (Eq.trans R.1 ms.symm), by rw [e.len, cs109_len H]; exact R.2⟩
theorem zrel47 {nb : Nat} {L L1 LN : List yBS} {B B1 : List rBS} {rf : Int32} {x : Int32} {y : Int32} {kc : Nat} {vv : Int32} (R : zRel L B) (H : cs47 nb L rf x y kc vv LN) (e : yEqA LN L1) (ms : B1.length = B.length) : zRel L1 B1 := ⟨(e.len.trans (cs47_len H)).trans (Eq.trans R.1 ms.symm), by rw [e.len, cs47_len H]; exact R.2⟩
theorem zrel137 {nb : Nat} {L L1 LN : List yBS} {B B1 : List rBS} {rf : Int32} {x : Int32} {y : Int32} {kc : Nat} {vv : UInt64} (R : zRel L B) (H : cs137 nb L rf x y kc vv LN) (e : yEqA LN L1) (ms : B1.length = B.length) : zRel L1 B1 := ⟨(e.len.trans (cs137_len H)).trans (Eq.trans R.1 ms.symm), by rw [e.len, cs137_len H]; exact R.2⟩
theorem zrel49 {nb : Nat} {L L1 LN : List yBS} {B B1 : List rBS} {rf : Int32} {x : Int32} {y : Int32} {kc : Nat} {vv : UInt64} (R : zRel L B) (H : cs49 nb L rf x y kc vv LN) (e : yEqA LN L1) (ms : B1.length = B.length) : zRel L1 B1 := ⟨(e.len.trans (cs49_len H)).trans (Eq.trans R.1 ms.symm), by rw [e.len, cs49_len H]; exact R.2⟩
theorem zrel11 {nb : Nat} {L L1 LN : List yBS} {B B1 : List rBS} {rf : Int32} {x : Int32} {kc : Nat} {vv : Int32} (R : zRel L B) (H : cs11 nb L rf x kc vv LN) (e : yEqA LN L1) (ms : B1.length = B.length) : zRel L1 B1 := ⟨(e.len.trans (cs11_len H)).trans (Eq.trans R.1 ms.symm), by rw [e.len, cs11_len H]; exact R.2⟩
theorem zrel55 {nb : Nat} {L L1 LN : List yBS} {B B1 : List rBS} {rf : Int32} {x : Int32} {kc : Nat} {vv : Int32} (R : zRel L B) (H : cs55 nb L rf x kc vv LN) (e : yEqA LN L1) (ms : B1.length = B.length) : zRel L1 B1 := ⟨(e.len.trans (cs55_len H)).trans (Eq.trans R.1 ms.symm), by rw [e.len, cs55_len H]; exact R.2⟩
theorem zrel56 {nb : Nat} {L L1 LN : List yBS} {B B1 : List rBS} {rf : Int32} {x : Int32} {kc : Nat} {vv : Int32} (R : zRel L B) (H : cs56 nb L rf x kc vv LN) (e : yEqA LN L1) (ms : B1.length = B.length) : zRel L1 B1 := ⟨(e.len.trans (cs56_len H)).trans (Eq.trans R.1 ms.symm), by rw [e.len, cs56_len H]; exact R.2⟩
theorem zrel143 {nb : Nat} {L L1 LN : List yBS} {B B1 : List rBS} {rf : Int32} {x : Int32} {y : Int32} {q : Bool} {z : Int32} {kc : Nat} {vv : Int32} (R : zRel L B) (H : cs143 nb L rf x y q z kc vv LN) (e : yEqA LN L1) (ms : B1.length = B.length) : zRel L1 B1 := ⟨(e.len.trans (cs143_len H)).trans (Eq.trans R.1 ms.symm), by rw [e.len, cs143_len H]; exact R.2⟩
theorem zrel58 {nb : Nat} {L L1 LN : List yBS} {B B1 : List rBS} {rf : Int32} {x : Int32} {kc : Nat} {vv : Int32} (R : zRel L B) (H : cs58 nb L rf x kc vv LN) (e : yEqA LN L1) (ms : B1.length = B.length) : zRel L1 B1 := ⟨(e.len.trans (cs58_len H)).trans (Eq.trans R.1 ms.symm), by rw [e.len, cs58_len H]; exact R.2⟩
theorem zrel61 {nb : Nat} {L L1 LN : List yBS} {B B1 : List rBS} {rf : Int32} {x : Int32} {y : Int32} {kc : Nat} {vv : Int32} (R : zRel L B) (H : cs61 nb L rf x y kc vv LN) (e : yEqA LN L1) (ms : B1.length = B.length) : zRel L1 B1 := ⟨(e.len.trans (cs61_len H)).trans (Eq.trans R.1 ms.symm), by rw [e.len, cs61_len H]; exact R.2⟩
