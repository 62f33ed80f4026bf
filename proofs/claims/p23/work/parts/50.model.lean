/-! ===== the model: what it checks ===== -/
theorem rD.hd {h : zPH} {E : zEnv} {b r g e w hh : Nat} {X : rX4} {cl : List Int32} {mi sp : Int32} {KS : List rKS} (D : rD h E b r g e w hh X cl mi sp KS) : ∃ q mc, yBk h g [(8, [.ref q, .int (zJ KS.length), .int mc])] := by
  obtain ⟨-, ⟨-, q, mc, G, -⟩, -⟩ := D
  rw [List.length_map] at G
  exact ⟨q, mc, G⟩
theorem rC.hd {h : zPH} {E : zEnv} {m le : Nat} {n0 n2 : Int32} {B : List rBS} (C : rC h E m le n0 n2 B) : ∃ q mc, yBk h (m + 1) [(8, [.ref q, .int (zJ B.length), .int mc])] := by
  obtain ⟨-, ⟨-, q, mc, G, -⟩, -⟩ := C
  rw [List.length_map] at G
  exact ⟨q, mc, G⟩
theorem rC.bd {h : zPH} {E : zEnv} {m le : Nat} {n0 n2 : Int32} {B : List rBS} {k b r g e w hh : Nat} {X : rX4} {cl : List Int32} {mi sp : Int32} {KS : List rKS} (C : rC h E m le n0 n2 B) (hk : B[k]? = some (b, r, g, e, (w, hh), X, cl, (mi, sp), KS)) : rD h E b r g e w hh X cl mi sp KS := (C.2.2.2.2.1 k _ hk).1
theorem rC.at {B : List rBS} {x : Int32} (hx : zin x B.length) : ∃ k, x = zJ k ∧ ∃ b r g e w hh X cl mi sp KS, B[k]? = some (b, r, g, e, (w, hh), X, cl, (mi, sp), KS) := by
  obtain ⟨k, hk, rfl⟩ := hx
  exact ⟨k, rfl, _, _, _, _, _, _, _, _, _, _, _, List.getElem?_eq_getElem hk⟩
theorem c164M {E : zEnv} {h : zPH} {Q : zOut → zPH → Prop} {m le : Nat} {n0 n2 : Int32} {B : List rBS} (C : rC h E m le n0 n2 B) {k : Nat} {β : rBS} (hk : B[k]? = some β) (K : Q (.inl (some (.ref β.1))) h) : zcall E 2 164 [.ref (m + 1), .int (zJ k)] h Q :=
  c164 C.2.1 (by rw [List.getElem?_map, hk]; rfl) K
theorem zin_rng {x : Int32} {n : Nat} (hn : n < 1000) : (zJ 0 ≤ x ∧ x ≤ zJ n - zJ 1) ↔ zin x n := by
  cases n with
  | zero =>
    constructor
    · rintro ⟨h1, h2⟩
      have : zJ 0 ≤ zJ 0 - zJ 1 := Int32.le_trans h1 h2
      exact absurd this (by decide)
    · rintro ⟨k, hk, -⟩
      omega
  | succ n =>
    rw [show zJ (n + 1) - zJ 1 = zJ n from by rw [zJ_sub (by omega), Nat.add_sub_cancel]]
    constructor
    · rintro ⟨h1, h2⟩
      obtain ⟨k, hk, rfl⟩ := zJ_of (x := x) (Int32.not_lt.mpr h1)
      exact ⟨k, by have := (zJ_le hk (by omega)).mp h2; omega, rfl⟩
    · rintro ⟨k, hk, rfl⟩
      exact ⟨(zJ_le (by omega) (by omega)).mpr (Nat.zero_le _), (zJ_le (by omega) (by omega)).mpr (by omega)⟩
theorem c151 {E : zEnv} {h : zPH} {Q : zOut → zPH → Prop} {x lo hi : Int32} (K : ∀ q : Bool, (q = true ↔ lo ≤ x ∧ x ≤ hi) → Q (.inl (some (.int (zB q)))) h) : zcall E 0 151 [.int x, .int lo, .int hi] h Q := by
  show zwp E _ 151 (0, [some (.int _), some (.int _), some (.int _)], [], _) Q
  refine zr_iload_n zi151_0 rfl ?_
  refine zr_iload_n zi151_1 rfl ?_
  refine zr_icmp_lt zi151_2 rfl (fun q2 => ?_) (fun q2 => ?_)
  · refine zr_iconst (v := zB false) zi151_14 rfl ?_
    refine zr_zreturnB zi151_15 rfl ?_
    first | exact K true ⟨fun _ => ⟨Int32.not_lt.mp q2, Int32.not_lt.mp q7⟩, fun _ => rfl⟩ | exact K false ⟨fun z => absurd z Bool.false_ne_true, fun z => absurd z.1 (Int32.not_le.mpr q2)⟩ | exact K false ⟨fun z => absurd z Bool.false_ne_true, fun z => absurd z.2 (Int32.not_le.mpr q7)⟩
  · refine zr_iload_n zi151_5 rfl ?_
    refine zr_iload_n zi151_6 rfl ?_
    refine zr_icmp_gt zi151_7 rfl (fun q7 => ?_) (fun q7 => ?_)
    · refine zr_iconst (v := zB false) zi151_14 rfl ?_
      refine zr_zreturnB zi151_15 rfl ?_
      first | exact K true ⟨fun _ => ⟨Int32.not_lt.mp q2, Int32.not_lt.mp q7⟩, fun _ => rfl⟩ | exact K false ⟨fun z => absurd z Bool.false_ne_true, fun z => absurd z.1 (Int32.not_le.mpr q2)⟩ | exact K false ⟨fun z => absurd z Bool.false_ne_true, fun z => absurd z.2 (Int32.not_le.mpr q7)⟩
    · refine zr_iconst (v := zB true) zi151_10 rfl ?_
      refine zr_goto zi151_11 rfl ?_
      refine zr_zreturnB zi151_15 rfl ?_
      first | exact K true ⟨fun _ => ⟨Int32.not_lt.mp q2, Int32.not_lt.mp q7⟩, fun _ => rfl⟩ | exact K false ⟨fun z => absurd z Bool.false_ne_true, fun z => absurd z.1 (Int32.not_le.mpr q2)⟩ | exact K false ⟨fun z => absurd z Bool.false_ne_true, fun z => absurd z.2 (Int32.not_le.mpr q7)⟩
theorem c152 {E : zEnv} {h : zPH} {Q : zOut → zPH → Prop} {m le : Nat} {n0 n2 : Int32} {B : List rBS} (C : rC h E m le n0 n2 B) {v : Int32} (K : ∀ h1, rNx h h1 E m n2 n2 le B le B 0 0 → rC h1 E m le v n2 B → h1.2.1 = h.2.1 → Q (.inl (some (.int (zJ 0)))) h1) : zcall E 0 152 [.ref m, .int v] h Q := by
  show zwp E _ 152 (0, [some (.ref _), some (.int _)], [], _) Q
  obtain ⟨qM0, mM0, GM0⟩ := C.hd
  refine zr_aload_n zi152_0 rfl ?_
  refine zr_iload_n zi152_1 rfl ?_
  refine zr_putfield zi152_2 (C.1.at0 rfl) rfl rfl ?_
  refine rC.wm (E := E) C (fun h2 N2 C2 e2 => ?_)
  obtain ⟨qM2, mM2, GM2⟩ := C2.hd
  refine zr_iconst (v := zJ 0) zi152_5 rfl ?_
  refine zr_ireturn zi152_6 rfl ?_
  exact K _ N2 C2 e2
theorem c163 {E : zEnv} {h : zPH} {Q : zOut → zPH → Prop} {m le : Nat} {n0 n2 : Int32} {B : List rBS} (C : rC h E m le n0 n2 B) {x : Int32} (K : ∀ q : Bool, (q = true ↔ zin x B.length) → Q (.inl (some (.int (zB q)))) h) : zcall E 1 163 [.ref m, .int x] h Q := by
  show zwp E _ 163 (0, [some (.ref _), some (.int _)], [], _) Q
  obtain ⟨qM0, mM0, GM0⟩ := C.hd
  refine zr_iload_n zi163_0 rfl ?_
  refine zr_iconst (v := zJ 0) zi163_1 rfl ?_
  refine zr_aload_n zi163_2 rfl ?_
  refine zr_getfield zi163_3 (C.1.at0 rfl) rfl ?_
  refine zr_iface zi163_6 rfl (GM0.at0 rfl) rfl rfl ?_
  refine zcall_dep (d := 0) (Nat.le_of_ble_eq_true rfl) (c153 GM0 (zbk_v ?_))
  refine zr_iconst (v := zJ 1) zi163_11 rfl ?_
  refine zr_isub zi163_12 ?_
  refine zr_static zi163_13 rfl rfl rfl rfl ?_
  refine zcall_dep (d := 0) (Nat.le_of_ble_eq_true rfl) (c151 (fun y13 Y13 => zbk_v ?_))
  refine zr_zreturnB zi163_16 rfl ?_
  exact K _ (Y13.trans (zin_rng (by have := C.2.2.1; omega)))
theorem c179 {E : zEnv} {h : zPH} {Q : zOut → zPH → Prop} {m le : Nat} {n0 n2 : Int32} {B : List rBS} (C : rC h E m le n0 n2 B) {x y : Int32} (K : ∀ q : Bool, (q = true ↔ ∃ k b r g e w hh X cl mi sp KS, x = zJ k ∧ B[k]? = some (b, r, g, e, (w, hh), X, cl, (mi, sp), KS) ∧ zin y (w * hh)) → Q (.inl (some (.int (zB q)))) h) : zcall E 3 179 [.ref m, .int x, .int y] h Q := by
  show zwp E _ 179 (0, [some (.ref _), some (.int _), some (.int _)], [], _) Q
  obtain ⟨qM0, mM0, GM0⟩ := C.hd
  refine zr_aload_n zi179_0 rfl ?_
  refine zr_iload_n zi179_1 rfl ?_
  refine zr_virtual zi179_2 rfl rfl (C.1.at0 rfl) rfl rfl ?_
  refine zcall_dep (d := 1) (Nat.le_of_ble_eq_true rfl) (c163 C (fun y2 Y2 => zbk_v ?_))
  refine zr_if_eqB zi179_5 rfl (fun q5 => ?_) (fun q5 => ?_)
  · refine zr_iconst (v := zB false) zi179_38 rfl ?_
    refine zr_zreturnB zi179_39 rfl ?_
    have lt : ∀ (k1 : Nat) (γ : rBS), B[k1]? = some γ → k1 < B.length := fun k1 γ z2 => by
      rcases Nat.lt_or_ge k1 B.length with z | z
      · exact z
      · rw [List.getElem?_eq_none z] at z2; cases z2
    refine K false ⟨fun z => absurd z Bool.false_ne_true, ?_⟩
    rintro ⟨k1, b1, r1, g1, e1, w1, hh1, X1, cl1, mi1, sp1, KS1, z1, z2, z3⟩
    rw [← q5]
    exact Y2.mpr ⟨k1, lt _ _ z2, z1⟩
  · obtain ⟨k, rfl, b, r, g, e, w, hh, X, cl, mi, sp, KS, hk⟩ := rC.at (Y2.mp q5)
    obtain ⟨⟨gw1, gw2, gh1, gh2⟩, ⟨l0, l1, l2, l3, lcl⟩, d1, d2, d3⟩ := (C.bd hk).1.2.2.2
    have hwh := zwh_b (w := w) (hh := hh) ⟨gw1, gw2, gh1, gh2⟩
    have hkl := C.2.2.1
    have hKS := (C.bd hk).2.2.2.1
    have hki : k < B.length := by
      rcases Nat.lt_or_ge k B.length with z | z
      · exact z
      · rw [List.getElem?_eq_none z] at hk; cases hk
    refine zr_iload_n zi179_8 rfl ?_
    refine zr_iconst (v := zJ 0) zi179_9 rfl ?_
    refine zr_aload_n zi179_10 rfl ?_
    refine zr_getfield zi179_11 (C.1.at0 rfl) rfl ?_
    refine zr_iload_n zi179_14 rfl ?_
    refine zr_iface zi179_15 rfl (GM0.at0 rfl) rfl rfl ?_
    refine zcall_dep (d := 2) (Nat.le_of_ble_eq_true rfl) (c164M C hk (zbk_v ?_))
    have D15 := C.bd hk
    have P15 := D15.1
    obtain ⟨qg15, mg15, Lg15⟩ := D15.hd
    refine zr_checkcast zi179_20 (P15.1.at0 rfl) rfl ?_
    refine zr_virtual zi179_23 rfl rfl (P15.1.at0 rfl) rfl rfl ?_
    refine zcall_dep (d := 0) (Nat.le_of_ble_eq_true rfl) (c156 P15 (zbk_v ?_))
    refine zr_iconst (v := zJ 1) zi179_26 rfl ?_
    refine zr_isub zi179_27 ?_
    refine zr_static zi179_28 rfl rfl rfl rfl ?_
    refine zcall_dep (d := 0) (Nat.le_of_ble_eq_true rfl) (c151 (fun y28 Y28 => zbk_v ?_))
    refine zr_if_eqB zi179_31 rfl (fun q31 => ?_) (fun q31 => ?_)
    · refine zr_iconst (v := zB false) zi179_38 rfl ?_
      refine zr_zreturnB zi179_39 rfl ?_
      have lt : ∀ (k1 : Nat) (γ : rBS), B[k1]? = some γ → k1 < B.length := fun k1 γ z2 => by
        rcases Nat.lt_or_ge k1 B.length with z | z
        · exact z
        · rw [List.getElem?_eq_none z] at z2; cases z2
      refine K false ⟨fun z => absurd z Bool.false_ne_true, ?_⟩
      rintro ⟨k1, b1, r1, g1, e1, w1, hh1, X1, cl1, mi1, sp1, KS1, z1, z2, z3⟩
      have hk1 := lt _ _ z2
      obtain rfl : k = k1 := (zJ_eq (by omega) (by omega)).mp z1
      rw [hk] at z2
      cases z2
      rw [← q31]
      exact Y28.mpr ((zin_rng (by omega)).mpr z3)
    · refine zr_iconst (v := zB true) zi179_34 rfl ?_
      refine zr_goto zi179_35 rfl ?_
      refine zr_zreturnB zi179_39 rfl ?_
      exact K true ⟨fun _ => ⟨k, b, r, g, e, w, hh, X, cl, mi, sp, KS, rfl, hk, (zin_rng (by omega)).mp (Y28.mp q31)⟩, fun _ => rfl⟩
theorem c162 {E : zEnv} {h : zPH} {Q : zOut → zPH → Prop} {m le : Nat} {n0 n2 : Int32} {B : List rBS} (C : rC h E m le n0 n2 B) {x y : Int32} (K : ∀ q : Bool, (q = true ↔ ∃ k b r g e w hh X cl mi sp KS, x = zJ k ∧ B[k]? = some (b, r, g, e, (w, hh), X, cl, (mi, sp), KS) ∧ zin y (w + hh)) → Q (.inl (some (.int (zB q)))) h) : zcall E 3 162 [.ref m, .int x, .int y] h Q := by
  show zwp E _ 162 (0, [some (.ref _), some (.int _), some (.int _)], [], _) Q
  obtain ⟨qM0, mM0, GM0⟩ := C.hd
  refine zr_aload_n zi162_0 rfl ?_
  refine zr_iload_n zi162_1 rfl ?_
  refine zr_virtual zi162_2 rfl rfl (C.1.at0 rfl) rfl rfl ?_
  refine zcall_dep (d := 1) (Nat.le_of_ble_eq_true rfl) (c163 C (fun y2 Y2 => zbk_v ?_))
  refine zr_if_eqB zi162_5 rfl (fun q5 => ?_) (fun q5 => ?_)
  · refine zr_iconst (v := zB false) zi162_38 rfl ?_
    refine zr_zreturnB zi162_39 rfl ?_
    have lt : ∀ (k1 : Nat) (γ : rBS), B[k1]? = some γ → k1 < B.length := fun k1 γ z2 => by
      rcases Nat.lt_or_ge k1 B.length with z | z
      · exact z
      · rw [List.getElem?_eq_none z] at z2; cases z2
    refine K false ⟨fun z => absurd z Bool.false_ne_true, ?_⟩
    rintro ⟨k1, b1, r1, g1, e1, w1, hh1, X1, cl1, mi1, sp1, KS1, z1, z2, z3⟩
    rw [← q5]
    exact Y2.mpr ⟨k1, lt _ _ z2, z1⟩
  · obtain ⟨k, rfl, b, r, g, e, w, hh, X, cl, mi, sp, KS, hk⟩ := rC.at (Y2.mp q5)
    obtain ⟨⟨gw1, gw2, gh1, gh2⟩, ⟨l0, l1, l2, l3, lcl⟩, d1, d2, d3⟩ := (C.bd hk).1.2.2.2
    have hwh := zwh_b (w := w) (hh := hh) ⟨gw1, gw2, gh1, gh2⟩
    have hkl := C.2.2.1
    have hKS := (C.bd hk).2.2.2.1
    have hki : k < B.length := by
      rcases Nat.lt_or_ge k B.length with z | z
      · exact z
      · rw [List.getElem?_eq_none z] at hk; cases hk
    refine zr_iload_n zi162_8 rfl ?_
    refine zr_iconst (v := zJ 0) zi162_9 rfl ?_
    refine zr_aload_n zi162_10 rfl ?_
    refine zr_getfield zi162_11 (C.1.at0 rfl) rfl ?_
    refine zr_iload_n zi162_14 rfl ?_
    refine zr_iface zi162_15 rfl (GM0.at0 rfl) rfl rfl ?_
    refine zcall_dep (d := 2) (Nat.le_of_ble_eq_true rfl) (c164M C hk (zbk_v ?_))
    have D15 := C.bd hk
    have P15 := D15.1
    obtain ⟨qg15, mg15, Lg15⟩ := D15.hd
    refine zr_checkcast zi162_20 (P15.1.at0 rfl) rfl ?_
    refine zr_virtual zi162_23 rfl rfl (P15.1.at0 rfl) rfl rfl ?_
    refine zcall_dep (d := 0) (Nat.le_of_ble_eq_true rfl) (c167 P15 (zbk_v ?_))
    refine zr_iconst (v := zJ 1) zi162_26 rfl ?_
    refine zr_isub zi162_27 ?_
    refine zr_static zi162_28 rfl rfl rfl rfl ?_
    refine zcall_dep (d := 0) (Nat.le_of_ble_eq_true rfl) (c151 (fun y28 Y28 => zbk_v ?_))
    refine zr_if_eqB zi162_31 rfl (fun q31 => ?_) (fun q31 => ?_)
    · refine zr_iconst (v := zB false) zi162_38 rfl ?_
      refine zr_zreturnB zi162_39 rfl ?_
      have lt : ∀ (k1 : Nat) (γ : rBS), B[k1]? = some γ → k1 < B.length := fun k1 γ z2 => by
        rcases Nat.lt_or_ge k1 B.length with z | z
        · exact z
        · rw [List.getElem?_eq_none z] at z2; cases z2
      refine K false ⟨fun z => absurd z Bool.false_ne_true, ?_⟩
      rintro ⟨k1, b1, r1, g1, e1, w1, hh1, X1, cl1, mi1, sp1, KS1, z1, z2, z3⟩
      have hk1 := lt _ _ z2
      obtain rfl : k = k1 := (zJ_eq (by omega) (by omega)).mp z1
      rw [hk] at z2
      cases z2
      rw [← q31]
      exact Y28.mpr ((zin_rng (by omega)).mpr z3)
    · refine zr_iconst (v := zB true) zi162_34 rfl ?_
      refine zr_goto zi162_35 rfl ?_
      refine zr_zreturnB zi162_39 rfl ?_
      exact K true ⟨fun _ => ⟨k, b, r, g, e, w, hh, X, cl, mi, sp, KS, rfl, hk, (zin_rng (by omega)).mp (Y28.mp q31)⟩, fun _ => rfl⟩
