/-! ===== the model: many, alike ===== -/
theorem c224 {E : zEnv} {h : zPH} {Q : zOut → zPH → Prop} {m le : Nat} {n0 n2 : Int32} {B : List rBS} (C : rC h E m le n0 n2 B) {t : Nat} (ht : t < 5) (K : ∀ h1 v, yFr (fun x => h.2.1 ≤ x) h h1 1 5 → v = rmn B n2 t → Q (.inl (some (.int v))) h1) : zcall E 3 224 [.ref m, .int (zJ t)] h Q := by
  show zwp E _ 224 (0, [some (.ref _), some (.int (zJ _)), none, none, none, none, none], [], _) Q
  obtain ⟨qM0, mM0, GM0⟩ := C.hd
  refine zr_iconst (v := zJ 0) zi224_0 rfl ?_
  refine zr_istore_n (L' := [some (.ref _), some (.int (zJ _)), some (.int (zJ _)), none, none, none, none]) zi224_1 rfl rfl ?_
  refine zr_iconst (v := zJ 0) zi224_2 rfl ?_
  refine zr_istore_n (L' := [some (.ref _), some (.int (zJ _)), some (.int (zJ _)), some (.int (zJ _)), none, none, none]) zi224_3 rfl rfl ?_
  refine zr_iconst (v := zJ 0) zi224_4 rfl ?_
  refine zr_istore (L' := [some (.ref _), some (.int (zJ _)), some (.int (zJ _)), some (.int (zJ _)), some (.int (zJ _)), none, none]) zi224_5 rfl rfl ?_
  refine zr_iconst (v := zJ 0) zi224_7 rfl ?_
  refine zr_istore (L' := [some (.ref _), some (.int (zJ _)), some (.int (zJ _)), some (.int (zJ _)), some (.int (zJ _)), some (.int (zJ _)), none]) zi224_8 rfl rfl ?_
  suffices key10 : ∀ x6, zwp E 3 224 (10, [some (.ref m), some (.int (zJ t)), some (.int (rmu B 0).1), some (.int (rmu B 0).2.1), some (.int (rmu B 0).2.2), some (.int (zJ 0)), x6], [], h) Q from key10 _
  refine zloop (P := fun i => ∀ x6, zwp E 3 224 (10, [some (.ref m), some (.int (zJ t)), some (.int (rmu B i).1), some (.int (rmu B i).2.1), some (.int (rmu B i).2.2), some (.int (zJ i)), x6], [], h) Q) (n := B.length) fun i hk10 ih10 => ?_
  intro x6
  have hBl := C.2.2.1
  refine zr_iload zi224_10 rfl ?_
  refine zr_aload_n zi224_12 rfl ?_
  refine zr_getfield zi224_13 (C.1.at0 rfl) rfl ?_
  refine zr_iface zi224_16 rfl (GM0.at0 rfl) rfl rfl ?_
  refine zcall_dep (d := 0) (Nat.le_of_ble_eq_true rfl) (c153 GM0 (zbk_v ?_))
  refine zr_icmp_geN zi224_21 rfl (by omega) (by omega) (fun q21 => ?_) (fun q21 => ?_)
  · refine zr_iconst (v := zJ 5) zi224_78 rfl ?_
    refine zr_newarrayN zi224_79 (by omega) rfl ?_
    refine zw_n (fun h79 y F79 ey Xy N79 n79 => ?_)
    obtain ⟨ly, hy, Xy0⟩ : ∃ ly : List Int32, ly.length = 5 ∧ h79.1 y = some (64, zis ly) := ⟨_, List.length_replicate, Xy⟩
    have C79 := rC.nw C (F79 (fun x => _ ≤ x))
    obtain ⟨qM79, mM79, GM79⟩ := C79.hd
    refine zr_dup zi224_81 rfl ?_
    refine zr_iconst (v := zJ 0) zi224_82 rfl ?_
    refine zr_aload_n zi224_83 rfl ?_
    refine zr_getfield zi224_84 (C79.1.at0 rfl) rfl ?_
    refine zr_iface zi224_87 rfl (GM79.at0 rfl) rfl rfl ?_
    refine zcall_dep (d := 0) (Nat.le_of_ble_eq_true rfl) (c153 GM79 (zbk_v ?_))
    refine zr_iastoreN zi224_92 Xy0 (by omega) (by first | omega | (simp only [List.length_set, zpt_len]; omega)) ?_
    refine zw_c (N := h.2.1) Xy0 (by decide) (by omega) (fun h92 F92 X92 N92 d92 => ?_)
    have C92 := rC.nw C ((F79 _).trans F92)
    obtain ⟨qM92, mM92, GM92⟩ := C92.hd
    refine zr_dup zi224_93 rfl ?_
    refine zr_iconst (v := zJ 1) zi224_94 rfl ?_
    refine zr_aload_n zi224_95 rfl ?_
    refine zr_getfield zi224_96 (C92.1.at0 rfl) rfl ?_
    refine zr_iastoreN zi224_99 X92 (by omega) (by first | omega | (simp only [List.length_set, zpt_len]; omega)) ?_
    refine zw_c (N := h.2.1) X92 (by decide) (by omega) (fun h99 F99 X99 N99 d99 => ?_)
    have C99 := rC.nw C (((F79 _).trans F92).trans F99)
    obtain ⟨qM99, mM99, GM99⟩ := C99.hd
    refine zr_dup zi224_100 rfl ?_
    refine zr_iconst (v := zJ 2) zi224_101 rfl ?_
    refine zr_iload_n zi224_102 rfl ?_
    refine zr_iastoreN zi224_103 X99 (by omega) (by first | omega | (simp only [List.length_set, zpt_len]; omega)) ?_
    refine zw_c (N := h.2.1) X99 (by decide) (by omega) (fun h103 F103 X103 N103 d103 => ?_)
    have C103 := rC.nw C ((((F79 _).trans F92).trans F99).trans F103)
    obtain ⟨qM103, mM103, GM103⟩ := C103.hd
    refine zr_dup zi224_104 rfl ?_
    refine zr_iconst (v := zJ 3) zi224_105 rfl ?_
    refine zr_iload_n zi224_106 rfl ?_
    refine zr_iastoreN zi224_107 X103 (by omega) (by first | omega | (simp only [List.length_set, zpt_len]; omega)) ?_
    refine zw_c (N := h.2.1) X103 (by decide) (by omega) (fun h107 F107 X107 N107 d107 => ?_)
    have C107 := rC.nw C (((((F79 _).trans F92).trans F99).trans F103).trans F107)
    obtain ⟨qM107, mM107, GM107⟩ := C107.hd
    refine zr_dup zi224_108 rfl ?_
    refine zr_iconst (v := zJ 4) zi224_109 rfl ?_
    refine zr_iload zi224_110 rfl ?_
    refine zr_iastoreN zi224_112 X107 (by omega) (by first | omega | (simp only [List.length_set, zpt_len]; omega)) ?_
    refine zw_c (N := h.2.1) X107 (by decide) (by omega) (fun h112 F112 X112 N112 d112 => ?_)
    have C112 := rC.nw C ((((((F79 _).trans F92).trans F99).trans F103).trans F107).trans F112)
    obtain ⟨qM112, mM112, GM112⟩ := C112.hd
    refine zr_astore (L' := [some (.ref _), some (.int (zJ _)), some (.int _), some (.int _), some (.int _), some (.ref _), _]) zi224_113 rfl rfl ?_
    refine zr_aload zi224_115 rfl ?_
    refine zr_iload_n zi224_117 rfl ?_
    refine zr_ialoadN zi224_118 X112 rfl (by omega) (by first | omega | (simp only [List.length_set, zpt_len]; omega)) ?_
    refine zr_ireturn zi224_119 rfl ?_
    obtain rfl : i = B.length := by omega
    exact K _ _ (((((((F79 _).trans F92).trans F99).trans F103).trans F107).trans F112).fit (by omega) (by omega)) (by rw [r5 hy]; rfl)
  · obtain ⟨b, r, g, e, w, hh, X, cl, mi, sp, KS, hk⟩ := rC.ix (B := B) (i := i) (by omega)
    obtain ⟨⟨gw1, gw2, gh1, gh2⟩, ⟨l0, l1, l2, l3, lcl⟩, d1, d2, d3⟩ := (C.bd hk).1.2.2.2
    have hwh := zwh_b (w := w) (hh := hh) ⟨gw1, gw2, gh1, gh2⟩
    refine zr_aload_n zi224_24 rfl ?_
    refine zr_getfield zi224_25 (C.1.at0 rfl) rfl ?_
    refine zr_iload zi224_28 rfl ?_
    refine zr_iface zi224_30 rfl (GM0.at0 rfl) rfl rfl ?_
    refine zcall_dep (d := 2) (Nat.le_of_ble_eq_true rfl) (c164M C hk (zbk_v ?_))
    have D30 := C.bd hk
    have P30 := D30.1
    obtain ⟨qg30, mg30, Lg30⟩ := D30.hd
    refine zr_checkcast zi224_35 (P30.1.at0 rfl) rfl ?_
    refine zr_astore (L' := [some (.ref _), some (.int (zJ _)), some (.int _), some (.int _), some (.int _), some (.int (zJ _)), some (.ref _)]) zi224_38 rfl rfl ?_
    refine zr_iload_n zi224_40 rfl ?_
    refine zr_aload zi224_41 rfl ?_
    refine zr_getfield zi224_43 (P30.1.at0 rfl) rfl ?_
    refine zr_iadd zi224_46 ?_
    refine zr_istore_n (L' := [some (.ref _), some (.int (zJ _)), some (.int _), some (.int _), some (.int _), some (.int (zJ _)), some (.ref _)]) zi224_47 rfl rfl ?_
    refine zr_iload_n zi224_48 rfl ?_
    refine zr_aload zi224_49 rfl ?_
    refine zr_iconst (v := zJ 0) zi224_51 rfl ?_
    refine zr_virtual zi224_52 rfl rfl (P30.1.at0 rfl) rfl rfl ?_
    refine zcall_dep (d := 0) (Nat.le_of_ble_eq_true rfl) (c202 P30 (zbk_v ?_))
    refine zr_iadd zi224_55 ?_
    refine zr_istore_n (L' := [some (.ref _), some (.int (zJ _)), some (.int _), some (.int _), some (.int _), some (.int (zJ _)), some (.ref _)]) zi224_56 rfl rfl ?_
    refine zr_iload zi224_57 rfl ?_
    refine zr_aload zi224_59 rfl ?_
    refine zr_getfield zi224_61 (P30.1.at0 rfl) rfl ?_
    refine zr_iface zi224_64 rfl (Lg30.at0 rfl) rfl rfl ?_
    refine zcall_dep (d := 0) (Nat.le_of_ble_eq_true rfl) (c153 Lg30 (zbk_v ?_))
    refine zr_iadd zi224_69 ?_
    refine zr_istore (L' := [some (.ref _), some (.int (zJ _)), some (.int _), some (.int _), some (.int _), some (.int (zJ _)), some (.ref _)]) zi224_70 rfl rfl ?_
    refine zr_iincN (z := 1) (L' := [some (.ref _), some (.int (zJ _)), some (.int _), some (.int _), some (.int _), some (.int (zJ _)), some (.ref _)]) zi224_72 rfl rfl rfl rfl ?_
    refine zr_goto zi224_75 rfl ?_
    have en := ih10 (by omega)
    rw [rmu_s hk] at en
    exact en _
theorem c223 {E : zEnv} {h : zPH} {Q : zOut → zPH → Prop} {m le : Nat} {n0 n2 : Int32} {B : List rBS} (C : rC h E m le n0 n2 B) {x : Int32} (K : ∀ h1 v n0 le1 B1, (ms223 B n2 x n0 v B1) → rNx h h1 E m n2 n2 le B le1 B1 1 5 → rC h1 E m le1 n0 n2 B1 → Q (.inl (some (.int v))) h1) : zcall E 4 223 [.ref m, .int x] h Q := by
  show zwp E _ 223 (0, [some (.ref _), some (.int _)], [], _) Q
  obtain ⟨qM0, mM0, GM0⟩ := C.hd
  refine zr_aload_n zi223_0 rfl ?_
  refine zr_iconst (v := zJ 0) zi223_1 rfl ?_
  refine zr_putfield zi223_2 (C.1.at0 rfl) rfl rfl ?_
  refine rC.wm (E := E) C (fun h2 N2 C2 e2 => ?_)
  obtain ⟨qM2, mM2, GM2⟩ := C2.hd
  refine zr_iload_n zi223_5 rfl ?_
  refine zr_iconst (v := zJ 0) zi223_6 rfl ?_
  refine zr_iconst (v := zJ 4) zi223_7 rfl ?_
  refine zr_static zi223_8 rfl rfl rfl rfl ?_
  refine zcall_dep (d := 0) (Nat.le_of_ble_eq_true rfl) (c151 (fun y8 Y8 => zbk_v ?_))
  refine zr_if_neB zi223_11 rfl (fun q11 => ?_) (fun q11 => ?_)
  · obtain ⟨t, ht, rfl⟩ := (zin_le (by omega)).mp (Y8.mp q11)
    refine zr_aload_n zi223_20 rfl ?_
    refine zr_iload_n zi223_21 rfl ?_
    refine zr_virtual zi223_22 rfl rfl (C2.1.at0 rfl) rfl rfl ?_
    refine zcall_dep (d := 3) (Nat.le_of_ble_eq_true rfl) (c224 C2 (by omega) (fun h22 v22 F22 ev22 => zbk_v ?_))
    subst ev22
    have C22 := rC.nw C2 F22
    obtain ⟨qM22, mM22, GM22⟩ := C22.hd
    refine zr_ireturn zi223_25 rfl ?_
    exact K _ _ _ _ _ ⟨rfl, Or.inr ⟨rfl, t, ht, rfl, rfl⟩⟩ ((((rNx.refl C).trans N2).trans (rNx.new C2 F22)).fit (by omega) (by omega)) C22
  · refine zr_aload_n zi223_14 rfl ?_
    refine zr_iconst (v := zJ 1) zi223_15 rfl ?_
    refine zr_virtual zi223_16 rfl rfl (C2.1.at0 rfl) rfl rfl ?_
    refine zcall_dep (d := 0) (Nat.le_of_ble_eq_true rfl) (c152 C2 (fun h16 N16 C16 e16 => zbk_v ?_))
    obtain ⟨qM16, mM16, GM16⟩ := C16.hd
    refine zr_ireturn zi223_19 rfl ?_
    exact K _ _ _ _ _ ⟨rfl, Or.inl ⟨rfl, fun hz => absurd (Y8.mpr ((zin_le (by omega)).mpr hz)) (by rw [q11]; decide)⟩⟩ ((((rNx.refl C).trans N2).trans N16).fit (by omega) (by omega)) C16
def rac : Nat → Nat
  | 0 => 0
  | k + 1 => rac k + (1 + k % 2 + k / 2 % 2 + k / 4)
theorem rac_le {k : Nat} (h : k ≤ 8) : rac k ≤ 20 := by
  have : ∀ i : Fin 9, rac i.val ≤ 20 := by decide
  exact this ⟨k, by omega⟩
def rsl (w hh : Nat) : Nat := 7 + (3 + (w + hh) + (4 + 4 * (w * hh))) + (4 + 4 * (w * hh))
theorem rsl_le {w hh : Nat} (h : w ≤ 5 ∧ hh ≤ 5) : 7 + (3 + (w + hh) + (4 + 4 * (w * hh))) + (4 + 4 * (w * hh)) ≤ 228 := by
  have : w * hh ≤ 5 * 5 := Nat.mul_le_mul h.1 h.2
  omega
theorem c234 {E : zEnv} {h : zPH} {Q : zOut → zPH → Prop} {m le : Nat} {n0 n2 : Int32} {B : List rBS} (C : rC h E m le n0 n2 B) (S : ySs E h) {k1 k2 : Nat} {b1 r1 g1 e1 w1 hh1 : Nat} {X1 : rX4} {cl1 : List Int32} {mi1 sp1 : Int32} {KS1 : List rKS} (kh1 : B[k1]? = some (b1, r1, g1, e1, (w1, hh1), X1, cl1, (mi1, sp1), KS1)) {b2 r2 g2 e2 w2 hh2 : Nat} {X2 : rX4} {cl2 : List Int32} {mi2 sp2 : Int32} {KS2 : List rKS} (kh2 : B[k2]? = some (b2, r2, g2, e2, (w2, hh2), X2, cl2, (mi2, sp2), KS2)) (K : ∀ h1 v, yFr (fun x => h.2.1 ≤ x) h h1 260 4560 → v = zfst (fun t => rak w1 hh1 cl1 w2 hh2 cl2 t) 8 0 → Q (.inl (some (.int v))) h1) : zcall E 6 234 [.ref m, .int (zJ k1), .int (zJ k2)] h Q := by
  show zwp E _ 234 (0, [some (.ref _), some (.int (zJ _)), some (.int (zJ _)), none, none], [], _) Q
  obtain ⟨qM0, mM0, GM0⟩ := C.hd
  refine zr_iconst (v := zJ 0) zi234_0 rfl ?_
  refine zr_istore_n (L' := [some (.ref _), some (.int (zJ _)), some (.int (zJ _)), some (.int (zJ _)), none]) zi234_1 rfl rfl ?_
  suffices key2 : ∀ h1 x4, (yFr (fun x => h.2.1 ≤ x) h h1 (13 * rac 0) (228 * rac 0)) → (zfst (fun t => rak w1 hh1 cl1 w2 hh2 cl2 t) 8 0 = zfst (fun t => rak w1 hh1 cl1 w2 hh2 cl2 t) (8 - 0) 0) → zwp E 6 234 (2, [some (.ref m), some (.int (zJ k1)), some (.int (zJ k2)), some (.int (zJ 0)), x4], [], h1) Q from key2 _ _ (yFr.refl _ _) rfl
  refine zloop (P := fun i => ∀ h1 x4, (yFr (fun x => h.2.1 ≤ x) h h1 (13 * rac i) (228 * rac i)) → (zfst (fun t => rak w1 hh1 cl1 w2 hh2 cl2 t) 8 0 = zfst (fun t => rak w1 hh1 cl1 w2 hh2 cl2 t) (8 - i) i) → zwp E 6 234 (2, [some (.ref m), some (.int (zJ k1)), some (.int (zJ k2)), some (.int (zJ i)), x4], [], h1) Q) (n := 8) fun i hk2 ih2 => ?_
  intro h1 x4 F1 hF
  have C1 := rC.nw C F1
  have S1 := F1.ss S
  obtain ⟨qM1, mM1, GM1⟩ := C1.hd
  have hF1 := F1.2.1
  obtain ⟨⟨u1, u2, u3, u4⟩, -⟩ := (C.bd kh1).1.2.2.2
  have hs1 := rsl_le (w := w1) (hh := hh1) ⟨u2, u4⟩
  have hra : rac (i + 1) = rac i + (1 + i % 2 + i / 2 % 2 + i / 4) := rfl
  refine zr_iload_n zi234_2 rfl ?_
  refine zr_bipush (v := zJ 8) zi234_3 rfl ?_
  refine zr_icmp_geN zi234_5 rfl (by omega) (by omega) (fun q5 => ?_) (fun q5 => ?_)
  · refine zr_iconst (v := (-1)) zi234_94 rfl ?_
    refine zr_ireturn zi234_95 rfl ?_
    exact K _ _ (F1.fit (by have := rac_le (k := i) (by omega); omega) (by have := rac_le (k := i) (by omega); omega)) (by rw [show zfst _ 8 0 = _ from hF, show 8 - i = 0 by omega]; rfl)
  · refine zr_aload_n zi234_8 rfl ?_
    refine zr_getfield zi234_9 (C1.1.at0 rfl) rfl ?_
    refine zr_iload_n zi234_12 rfl ?_
    refine zr_iface zi234_13 rfl (GM1.at0 rfl) rfl rfl ?_
    refine zcall_dep (d := 2) (Nat.le_of_ble_eq_true rfl) (c164M C1 kh1 (zbk_v ?_))
    have D13 := C1.bd kh1
    have P13 := D13.1
    refine zr_checkcast zi234_18 (P13.1.at0 rfl) rfl ?_
    refine zr_virtual zi234_21 rfl rfl (P13.1.at0 rfl) rfl rfl ?_
    refine zcall_dep (d := 4) (Nat.le_of_ble_eq_true rfl) (c198 S1 P13 (fun h21 bT F21 eT n21 R21 L21 => zbk_v ?_))
    have G21 := (F1.lo F21 (fun x z => by have z : _ ≤ x := z; omega))
    have C21 := rC.nw C G21
    have S21 := G21.ss S
    obtain ⟨qM21, mM21, GM21⟩ := C21.hd
    refine zr_astore (L' := [some (.ref _), some (.int (zJ _)), some (.int (zJ _)), some (.int (zJ _)), some (.ref _)]) zi234_24 rfl rfl ?_
    refine zr_iload_n zi234_26 rfl ?_
    refine zr_iconst (v := zJ 2) zi234_27 rfl ?_
    refine zr_iremN zi234_28 (by omega) (by omega) (by omega) ?_
    refine zr_iconst (v := zJ 1) zi234_29 rfl ?_
    refine zr_icmp_neN zi234_30 rfl (by omega) (by omega) (fun q30 => ?_) (fun q30 => ?_)
    · refine zr_iload_n zi234_39 rfl ?_
      refine zr_iconst (v := zJ 2) zi234_40 rfl ?_
      refine zr_idivN zi234_41 (by omega) (by omega) (by omega) ?_
      refine zr_iconst (v := zJ 2) zi234_42 rfl ?_
      refine zr_iremN zi234_43 (by omega) (by omega) (by omega) ?_
      refine zr_iconst (v := zJ 1) zi234_44 rfl ?_
      refine zr_icmp_neN zi234_45 rfl (by omega) (by omega) (fun q45 => ?_) (fun q45 => ?_)
      · refine zr_iload_n zi234_54 rfl ?_
        refine zr_iconst (v := zJ 3) zi234_55 rfl ?_
        refine zr_icmp_leN zi234_56 rfl (by omega) (by omega) (fun q56 => ?_) (fun q56 => ?_)
        · refine zr_aload zi234_65 rfl ?_
          refine zr_aload_n zi234_67 rfl ?_
          refine zr_getfield zi234_68 (C21.1.at0 rfl) rfl ?_
          refine zr_iload_n zi234_71 rfl ?_
          refine zr_iface zi234_72 rfl (GM21.at0 rfl) rfl rfl ?_
          refine zcall_dep (d := 2) (Nat.le_of_ble_eq_true rfl) (c164M C21 kh2 (zbk_v ?_))
          have D72 := C21.bd kh2
          have P72 := D72.1
          refine zr_checkcast zi234_77 (P72.1.at0 rfl) rfl ?_
          refine zr_static zi234_80 rfl rfl rfl rfl ?_
          refine zcall_dep (d := 1) (Nat.le_of_ble_eq_true rfl) (c235 R21 P72 (zbk_v ?_))
          refine zr_if_eqB zi234_83 rfl (fun q83 => ?_) (fun q83 => ?_)
          · refine zr_iincN (z := 1) (L' := [some (.ref _), some (.int (zJ _)), some (.int (zJ _)), some (.int (zJ _)), some (.ref _)]) zi234_88 rfl rfl rfl rfl ?_
            refine zr_goto zi234_91 rfl ?_
            have k83 : rak w1 hh1 cl1 w2 hh2 cl2 i = false := by
              first | rw [rak_n q56] | rw [rak_y (Nat.not_le.mpr q56)]
              first | rw [rau_y q45] | rw [rau_n q45]
              first | rw [rat_y q30] | rw [rat_n q30]
              exact q83
            exact ih2 (by omega) _ _ (G21.fit (by omega) (by omega)) (hF.trans (zfst_n (f := (fun t => rak w1 hh1 cl1 w2 hh2 cl2 t)) k83 (by omega)))
          · refine zr_iload_n zi234_86 rfl ?_
            refine zr_ireturn zi234_87 rfl ?_
            have k83 : rak w1 hh1 cl1 w2 hh2 cl2 i = true := by
              first | rw [rak_n q56] | rw [rak_y (Nat.not_le.mpr q56)]
              first | rw [rau_y q45] | rw [rau_n q45]
              first | rw [rat_y q30] | rw [rat_n q30]
              exact q83
            exact K _ _ (G21.fit (by have := rac_le (k := i + 1) (by omega); omega) (by have := rac_le (k := i + 1) (by omega); omega)) (hF.trans (zfst_y (f := (fun t => rak w1 hh1 cl1 w2 hh2 cl2 t)) k83 (by omega))).symm
        · refine zr_aload zi234_59 rfl ?_
          refine zr_iconst (v := zJ 2) zi234_61 rfl ?_
          refine zr_virtual zi234_62 rfl rfl (R21.1.at0 rfl) rfl rfl ?_
          refine zcall_dep (d := 5) (Nat.le_of_ble_eq_true rfl) (c197_2 S21 R21 (fun h62 F62 n62 R62 => zbk_0 ?_))
          have G62 := (G21.lo F62 (fun x z => by rcases z with z | z | z | z; omega; have := z.1; omega; have := z.1; omega; have := z.1; omega))
          have C62 := rC.nw C G62
          have S62 := G62.ss S
          obtain ⟨qM62, mM62, GM62⟩ := C62.hd
          refine zr_aload zi234_65 rfl ?_
          refine zr_aload_n zi234_67 rfl ?_
          refine zr_getfield zi234_68 (C62.1.at0 rfl) rfl ?_
          refine zr_iload_n zi234_71 rfl ?_
          refine zr_iface zi234_72 rfl (GM62.at0 rfl) rfl rfl ?_
          refine zcall_dep (d := 2) (Nat.le_of_ble_eq_true rfl) (c164M C62 kh2 (zbk_v ?_))
          have D72 := C62.bd kh2
          have P72 := D72.1
          refine zr_checkcast zi234_77 (P72.1.at0 rfl) rfl ?_
          refine zr_static zi234_80 rfl rfl rfl rfl ?_
          refine zcall_dep (d := 1) (Nat.le_of_ble_eq_true rfl) (c235 R62 P72 (zbk_v ?_))
          refine zr_if_eqB zi234_83 rfl (fun q83 => ?_) (fun q83 => ?_)
          · refine zr_iincN (z := 1) (L' := [some (.ref _), some (.int (zJ _)), some (.int (zJ _)), some (.int (zJ _)), some (.ref _)]) zi234_88 rfl rfl rfl rfl ?_
            refine zr_goto zi234_91 rfl ?_
            have k83 : rak w1 hh1 cl1 w2 hh2 cl2 i = false := by
              first | rw [rak_n q56] | rw [rak_y (Nat.not_le.mpr q56)]
              first | rw [rau_y q45] | rw [rau_n q45]
              first | rw [rat_y q30] | rw [rat_n q30]
              exact q83
            exact ih2 (by omega) _ _ (G62.fit (by omega) (by omega)) (hF.trans (zfst_n (f := (fun t => rak w1 hh1 cl1 w2 hh2 cl2 t)) k83 (by omega)))
          · refine zr_iload_n zi234_86 rfl ?_
            refine zr_ireturn zi234_87 rfl ?_
            have k83 : rak w1 hh1 cl1 w2 hh2 cl2 i = true := by
              first | rw [rak_n q56] | rw [rak_y (Nat.not_le.mpr q56)]
              first | rw [rau_y q45] | rw [rau_n q45]
              first | rw [rat_y q30] | rw [rat_n q30]
              exact q83
            exact K _ _ (G62.fit (by have := rac_le (k := i + 1) (by omega); omega) (by have := rac_le (k := i + 1) (by omega); omega)) (hF.trans (zfst_y (f := (fun t => rak w1 hh1 cl1 w2 hh2 cl2 t)) k83 (by omega))).symm
      · refine zr_aload zi234_48 rfl ?_
        refine zr_iconst (v := zJ 0) zi234_50 rfl ?_
        refine zr_virtual zi234_51 rfl rfl (R21.1.at0 rfl) rfl rfl ?_
        refine zcall_dep (d := 5) (Nat.le_of_ble_eq_true rfl) (c197_0 S21 R21 (fun h51 F51 n51 R51 => zbk_0 ?_))
        have G51 := (G21.lo F51 (fun x z => by rcases z with z | z | z | z; omega; have := z.1; omega; have := z.1; omega; have := z.1; omega))
        have C51 := rC.nw C G51
        have S51 := G51.ss S
        obtain ⟨qM51, mM51, GM51⟩ := C51.hd
        refine zr_iload_n zi234_54 rfl ?_
        refine zr_iconst (v := zJ 3) zi234_55 rfl ?_
        refine zr_icmp_leN zi234_56 rfl (by omega) (by omega) (fun q56 => ?_) (fun q56 => ?_)
        · refine zr_aload zi234_65 rfl ?_
          refine zr_aload_n zi234_67 rfl ?_
          refine zr_getfield zi234_68 (C51.1.at0 rfl) rfl ?_
          refine zr_iload_n zi234_71 rfl ?_
          refine zr_iface zi234_72 rfl (GM51.at0 rfl) rfl rfl ?_
          refine zcall_dep (d := 2) (Nat.le_of_ble_eq_true rfl) (c164M C51 kh2 (zbk_v ?_))
          have D72 := C51.bd kh2
          have P72 := D72.1
          refine zr_checkcast zi234_77 (P72.1.at0 rfl) rfl ?_
          refine zr_static zi234_80 rfl rfl rfl rfl ?_
          refine zcall_dep (d := 1) (Nat.le_of_ble_eq_true rfl) (c235 R51 P72 (zbk_v ?_))
          refine zr_if_eqB zi234_83 rfl (fun q83 => ?_) (fun q83 => ?_)
          · refine zr_iincN (z := 1) (L' := [some (.ref _), some (.int (zJ _)), some (.int (zJ _)), some (.int (zJ _)), some (.ref _)]) zi234_88 rfl rfl rfl rfl ?_
            refine zr_goto zi234_91 rfl ?_
            have k83 : rak w1 hh1 cl1 w2 hh2 cl2 i = false := by
              first | rw [rak_n q56] | rw [rak_y (Nat.not_le.mpr q56)]
              first | rw [rau_y q45] | rw [rau_n q45]
              first | rw [rat_y q30] | rw [rat_n q30]
              exact q83
            exact ih2 (by omega) _ _ (G51.fit (by omega) (by omega)) (hF.trans (zfst_n (f := (fun t => rak w1 hh1 cl1 w2 hh2 cl2 t)) k83 (by omega)))
          · refine zr_iload_n zi234_86 rfl ?_
            refine zr_ireturn zi234_87 rfl ?_
            have k83 : rak w1 hh1 cl1 w2 hh2 cl2 i = true := by
              first | rw [rak_n q56] | rw [rak_y (Nat.not_le.mpr q56)]
              first | rw [rau_y q45] | rw [rau_n q45]
              first | rw [rat_y q30] | rw [rat_n q30]
              exact q83
            exact K _ _ (G51.fit (by have := rac_le (k := i + 1) (by omega); omega) (by have := rac_le (k := i + 1) (by omega); omega)) (hF.trans (zfst_y (f := (fun t => rak w1 hh1 cl1 w2 hh2 cl2 t)) k83 (by omega))).symm
        · refine zr_aload zi234_59 rfl ?_
          refine zr_iconst (v := zJ 2) zi234_61 rfl ?_
          refine zr_virtual zi234_62 rfl rfl (R51.1.at0 rfl) rfl rfl ?_
          refine zcall_dep (d := 5) (Nat.le_of_ble_eq_true rfl) (c197_2 S51 R51 (fun h62 F62 n62 R62 => zbk_0 ?_))
          have G62 := (G51.lo F62 (fun x z => by rcases z with z | z | z | z; omega; have := z.1; omega; have := z.1; omega; have := z.1; omega))
          have C62 := rC.nw C G62
          have S62 := G62.ss S
          obtain ⟨qM62, mM62, GM62⟩ := C62.hd
          refine zr_aload zi234_65 rfl ?_
          refine zr_aload_n zi234_67 rfl ?_
          refine zr_getfield zi234_68 (C62.1.at0 rfl) rfl ?_
          refine zr_iload_n zi234_71 rfl ?_
          refine zr_iface zi234_72 rfl (GM62.at0 rfl) rfl rfl ?_
          refine zcall_dep (d := 2) (Nat.le_of_ble_eq_true rfl) (c164M C62 kh2 (zbk_v ?_))
          have D72 := C62.bd kh2
          have P72 := D72.1
          refine zr_checkcast zi234_77 (P72.1.at0 rfl) rfl ?_
          refine zr_static zi234_80 rfl rfl rfl rfl ?_
          refine zcall_dep (d := 1) (Nat.le_of_ble_eq_true rfl) (c235 R62 P72 (zbk_v ?_))
          refine zr_if_eqB zi234_83 rfl (fun q83 => ?_) (fun q83 => ?_)
          · refine zr_iincN (z := 1) (L' := [some (.ref _), some (.int (zJ _)), some (.int (zJ _)), some (.int (zJ _)), some (.ref _)]) zi234_88 rfl rfl rfl rfl ?_
            refine zr_goto zi234_91 rfl ?_
            have k83 : rak w1 hh1 cl1 w2 hh2 cl2 i = false := by
              first | rw [rak_n q56] | rw [rak_y (Nat.not_le.mpr q56)]
              first | rw [rau_y q45] | rw [rau_n q45]
              first | rw [rat_y q30] | rw [rat_n q30]
              exact q83
            exact ih2 (by omega) _ _ (G62.fit (by omega) (by omega)) (hF.trans (zfst_n (f := (fun t => rak w1 hh1 cl1 w2 hh2 cl2 t)) k83 (by omega)))
          · refine zr_iload_n zi234_86 rfl ?_
            refine zr_ireturn zi234_87 rfl ?_
            have k83 : rak w1 hh1 cl1 w2 hh2 cl2 i = true := by
              first | rw [rak_n q56] | rw [rak_y (Nat.not_le.mpr q56)]
              first | rw [rau_y q45] | rw [rau_n q45]
              first | rw [rat_y q30] | rw [rat_n q30]
              exact q83
            exact K _ _ (G62.fit (by have := rac_le (k := i + 1) (by omega); omega) (by have := rac_le (k := i + 1) (by omega); omega)) (hF.trans (zfst_y (f := (fun t => rak w1 hh1 cl1 w2 hh2 cl2 t)) k83 (by omega))).symm
    · refine zr_aload zi234_33 rfl ?_
      refine zr_iconst (v := zJ 1) zi234_35 rfl ?_
      refine zr_virtual zi234_36 rfl rfl (R21.1.at0 rfl) rfl rfl ?_
      refine zcall_dep (d := 5) (Nat.le_of_ble_eq_true rfl) (c197_1 S21 R21 (fun h36 F36 n36 R36 => zbk_0 ?_))
      have G36 := (G21.lo F36 (fun x z => by rcases z with z | z | z | z; omega; have := z.1; omega; have := z.1; omega; have := z.1; omega))
      have C36 := rC.nw C G36
      have S36 := G36.ss S
      obtain ⟨qM36, mM36, GM36⟩ := C36.hd
      refine zr_iload_n zi234_39 rfl ?_
      refine zr_iconst (v := zJ 2) zi234_40 rfl ?_
      refine zr_idivN zi234_41 (by omega) (by omega) (by omega) ?_
      refine zr_iconst (v := zJ 2) zi234_42 rfl ?_
      refine zr_iremN zi234_43 (by omega) (by omega) (by omega) ?_
      refine zr_iconst (v := zJ 1) zi234_44 rfl ?_
      refine zr_icmp_neN zi234_45 rfl (by omega) (by omega) (fun q45 => ?_) (fun q45 => ?_)
      · refine zr_iload_n zi234_54 rfl ?_
        refine zr_iconst (v := zJ 3) zi234_55 rfl ?_
        refine zr_icmp_leN zi234_56 rfl (by omega) (by omega) (fun q56 => ?_) (fun q56 => ?_)
        · refine zr_aload zi234_65 rfl ?_
          refine zr_aload_n zi234_67 rfl ?_
          refine zr_getfield zi234_68 (C36.1.at0 rfl) rfl ?_
          refine zr_iload_n zi234_71 rfl ?_
          refine zr_iface zi234_72 rfl (GM36.at0 rfl) rfl rfl ?_
          refine zcall_dep (d := 2) (Nat.le_of_ble_eq_true rfl) (c164M C36 kh2 (zbk_v ?_))
          have D72 := C36.bd kh2
          have P72 := D72.1
          refine zr_checkcast zi234_77 (P72.1.at0 rfl) rfl ?_
          refine zr_static zi234_80 rfl rfl rfl rfl ?_
          refine zcall_dep (d := 1) (Nat.le_of_ble_eq_true rfl) (c235 R36 P72 (zbk_v ?_))
          refine zr_if_eqB zi234_83 rfl (fun q83 => ?_) (fun q83 => ?_)
          · refine zr_iincN (z := 1) (L' := [some (.ref _), some (.int (zJ _)), some (.int (zJ _)), some (.int (zJ _)), some (.ref _)]) zi234_88 rfl rfl rfl rfl ?_
            refine zr_goto zi234_91 rfl ?_
            have k83 : rak w1 hh1 cl1 w2 hh2 cl2 i = false := by
              first | rw [rak_n q56] | rw [rak_y (Nat.not_le.mpr q56)]
              first | rw [rau_y q45] | rw [rau_n q45]
              first | rw [rat_y q30] | rw [rat_n q30]
              exact q83
            exact ih2 (by omega) _ _ (G36.fit (by omega) (by omega)) (hF.trans (zfst_n (f := (fun t => rak w1 hh1 cl1 w2 hh2 cl2 t)) k83 (by omega)))
          · refine zr_iload_n zi234_86 rfl ?_
            refine zr_ireturn zi234_87 rfl ?_
            have k83 : rak w1 hh1 cl1 w2 hh2 cl2 i = true := by
              first | rw [rak_n q56] | rw [rak_y (Nat.not_le.mpr q56)]
              first | rw [rau_y q45] | rw [rau_n q45]
              first | rw [rat_y q30] | rw [rat_n q30]
              exact q83
            exact K _ _ (G36.fit (by have := rac_le (k := i + 1) (by omega); omega) (by have := rac_le (k := i + 1) (by omega); omega)) (hF.trans (zfst_y (f := (fun t => rak w1 hh1 cl1 w2 hh2 cl2 t)) k83 (by omega))).symm
        · refine zr_aload zi234_59 rfl ?_
          refine zr_iconst (v := zJ 2) zi234_61 rfl ?_
          refine zr_virtual zi234_62 rfl rfl (R36.1.at0 rfl) rfl rfl ?_
          refine zcall_dep (d := 5) (Nat.le_of_ble_eq_true rfl) (c197_2 S36 R36 (fun h62 F62 n62 R62 => zbk_0 ?_))
          have G62 := (G36.lo F62 (fun x z => by rcases z with z | z | z | z; omega; have := z.1; omega; have := z.1; omega; have := z.1; omega))
          have C62 := rC.nw C G62
          have S62 := G62.ss S
          obtain ⟨qM62, mM62, GM62⟩ := C62.hd
          refine zr_aload zi234_65 rfl ?_
          refine zr_aload_n zi234_67 rfl ?_
          refine zr_getfield zi234_68 (C62.1.at0 rfl) rfl ?_
          refine zr_iload_n zi234_71 rfl ?_
          refine zr_iface zi234_72 rfl (GM62.at0 rfl) rfl rfl ?_
          refine zcall_dep (d := 2) (Nat.le_of_ble_eq_true rfl) (c164M C62 kh2 (zbk_v ?_))
          have D72 := C62.bd kh2
          have P72 := D72.1
          refine zr_checkcast zi234_77 (P72.1.at0 rfl) rfl ?_
          refine zr_static zi234_80 rfl rfl rfl rfl ?_
          refine zcall_dep (d := 1) (Nat.le_of_ble_eq_true rfl) (c235 R62 P72 (zbk_v ?_))
          refine zr_if_eqB zi234_83 rfl (fun q83 => ?_) (fun q83 => ?_)
          · refine zr_iincN (z := 1) (L' := [some (.ref _), some (.int (zJ _)), some (.int (zJ _)), some (.int (zJ _)), some (.ref _)]) zi234_88 rfl rfl rfl rfl ?_
            refine zr_goto zi234_91 rfl ?_
            have k83 : rak w1 hh1 cl1 w2 hh2 cl2 i = false := by
              first | rw [rak_n q56] | rw [rak_y (Nat.not_le.mpr q56)]
              first | rw [rau_y q45] | rw [rau_n q45]
              first | rw [rat_y q30] | rw [rat_n q30]
              exact q83
            exact ih2 (by omega) _ _ (G62.fit (by omega) (by omega)) (hF.trans (zfst_n (f := (fun t => rak w1 hh1 cl1 w2 hh2 cl2 t)) k83 (by omega)))
          · refine zr_iload_n zi234_86 rfl ?_
            refine zr_ireturn zi234_87 rfl ?_
            have k83 : rak w1 hh1 cl1 w2 hh2 cl2 i = true := by
              first | rw [rak_n q56] | rw [rak_y (Nat.not_le.mpr q56)]
              first | rw [rau_y q45] | rw [rau_n q45]
              first | rw [rat_y q30] | rw [rat_n q30]
              exact q83
            exact K _ _ (G62.fit (by have := rac_le (k := i + 1) (by omega); omega) (by have := rac_le (k := i + 1) (by omega); omega)) (hF.trans (zfst_y (f := (fun t => rak w1 hh1 cl1 w2 hh2 cl2 t)) k83 (by omega))).symm
      · refine zr_aload zi234_48 rfl ?_
        refine zr_iconst (v := zJ 0) zi234_50 rfl ?_
        refine zr_virtual zi234_51 rfl rfl (R36.1.at0 rfl) rfl rfl ?_
        refine zcall_dep (d := 5) (Nat.le_of_ble_eq_true rfl) (c197_0 S36 R36 (fun h51 F51 n51 R51 => zbk_0 ?_))
        have G51 := (G36.lo F51 (fun x z => by rcases z with z | z | z | z; omega; have := z.1; omega; have := z.1; omega; have := z.1; omega))
        have C51 := rC.nw C G51
        have S51 := G51.ss S
        obtain ⟨qM51, mM51, GM51⟩ := C51.hd
        refine zr_iload_n zi234_54 rfl ?_
        refine zr_iconst (v := zJ 3) zi234_55 rfl ?_
        refine zr_icmp_leN zi234_56 rfl (by omega) (by omega) (fun q56 => ?_) (fun q56 => ?_)
        · refine zr_aload zi234_65 rfl ?_
          refine zr_aload_n zi234_67 rfl ?_
          refine zr_getfield zi234_68 (C51.1.at0 rfl) rfl ?_
          refine zr_iload_n zi234_71 rfl ?_
          refine zr_iface zi234_72 rfl (GM51.at0 rfl) rfl rfl ?_
          refine zcall_dep (d := 2) (Nat.le_of_ble_eq_true rfl) (c164M C51 kh2 (zbk_v ?_))
          have D72 := C51.bd kh2
          have P72 := D72.1
          refine zr_checkcast zi234_77 (P72.1.at0 rfl) rfl ?_
          refine zr_static zi234_80 rfl rfl rfl rfl ?_
          refine zcall_dep (d := 1) (Nat.le_of_ble_eq_true rfl) (c235 R51 P72 (zbk_v ?_))
          refine zr_if_eqB zi234_83 rfl (fun q83 => ?_) (fun q83 => ?_)
          · refine zr_iincN (z := 1) (L' := [some (.ref _), some (.int (zJ _)), some (.int (zJ _)), some (.int (zJ _)), some (.ref _)]) zi234_88 rfl rfl rfl rfl ?_
            refine zr_goto zi234_91 rfl ?_
            have k83 : rak w1 hh1 cl1 w2 hh2 cl2 i = false := by
              first | rw [rak_n q56] | rw [rak_y (Nat.not_le.mpr q56)]
              first | rw [rau_y q45] | rw [rau_n q45]
              first | rw [rat_y q30] | rw [rat_n q30]
              exact q83
            exact ih2 (by omega) _ _ (G51.fit (by omega) (by omega)) (hF.trans (zfst_n (f := (fun t => rak w1 hh1 cl1 w2 hh2 cl2 t)) k83 (by omega)))
          · refine zr_iload_n zi234_86 rfl ?_
            refine zr_ireturn zi234_87 rfl ?_
            have k83 : rak w1 hh1 cl1 w2 hh2 cl2 i = true := by
              first | rw [rak_n q56] | rw [rak_y (Nat.not_le.mpr q56)]
              first | rw [rau_y q45] | rw [rau_n q45]
              first | rw [rat_y q30] | rw [rat_n q30]
              exact q83
            exact K _ _ (G51.fit (by have := rac_le (k := i + 1) (by omega); omega) (by have := rac_le (k := i + 1) (by omega); omega)) (hF.trans (zfst_y (f := (fun t => rak w1 hh1 cl1 w2 hh2 cl2 t)) k83 (by omega))).symm
        · refine zr_aload zi234_59 rfl ?_
          refine zr_iconst (v := zJ 2) zi234_61 rfl ?_
          refine zr_virtual zi234_62 rfl rfl (R51.1.at0 rfl) rfl rfl ?_
          refine zcall_dep (d := 5) (Nat.le_of_ble_eq_true rfl) (c197_2 S51 R51 (fun h62 F62 n62 R62 => zbk_0 ?_))
          have G62 := (G51.lo F62 (fun x z => by rcases z with z | z | z | z; omega; have := z.1; omega; have := z.1; omega; have := z.1; omega))
          have C62 := rC.nw C G62
          have S62 := G62.ss S
          obtain ⟨qM62, mM62, GM62⟩ := C62.hd
          refine zr_aload zi234_65 rfl ?_
          refine zr_aload_n zi234_67 rfl ?_
          refine zr_getfield zi234_68 (C62.1.at0 rfl) rfl ?_
          refine zr_iload_n zi234_71 rfl ?_
          refine zr_iface zi234_72 rfl (GM62.at0 rfl) rfl rfl ?_
          refine zcall_dep (d := 2) (Nat.le_of_ble_eq_true rfl) (c164M C62 kh2 (zbk_v ?_))
          have D72 := C62.bd kh2
          have P72 := D72.1
          refine zr_checkcast zi234_77 (P72.1.at0 rfl) rfl ?_
          refine zr_static zi234_80 rfl rfl rfl rfl ?_
          refine zcall_dep (d := 1) (Nat.le_of_ble_eq_true rfl) (c235 R62 P72 (zbk_v ?_))
          refine zr_if_eqB zi234_83 rfl (fun q83 => ?_) (fun q83 => ?_)
          · refine zr_iincN (z := 1) (L' := [some (.ref _), some (.int (zJ _)), some (.int (zJ _)), some (.int (zJ _)), some (.ref _)]) zi234_88 rfl rfl rfl rfl ?_
            refine zr_goto zi234_91 rfl ?_
            have k83 : rak w1 hh1 cl1 w2 hh2 cl2 i = false := by
              first | rw [rak_n q56] | rw [rak_y (Nat.not_le.mpr q56)]
              first | rw [rau_y q45] | rw [rau_n q45]
              first | rw [rat_y q30] | rw [rat_n q30]
              exact q83
            exact ih2 (by omega) _ _ (G62.fit (by omega) (by omega)) (hF.trans (zfst_n (f := (fun t => rak w1 hh1 cl1 w2 hh2 cl2 t)) k83 (by omega)))
          · refine zr_iload_n zi234_86 rfl ?_
            refine zr_ireturn zi234_87 rfl ?_
            have k83 : rak w1 hh1 cl1 w2 hh2 cl2 i = true := by
              first | rw [rak_n q56] | rw [rak_y (Nat.not_le.mpr q56)]
              first | rw [rau_y q45] | rw [rau_n q45]
              first | rw [rat_y q30] | rw [rat_n q30]
              exact q83
            exact K _ _ (G62.fit (by have := rac_le (k := i + 1) (by omega); omega) (by have := rac_le (k := i + 1) (by omega); omega)) (hF.trans (zfst_y (f := (fun t => rak w1 hh1 cl1 w2 hh2 cl2 t)) k83 (by omega))).symm
theorem c234s {E : zEnv} {h : zPH} {Q : zOut → zPH → Prop} {m le : Nat} {n0 n2 : Int32} {B : List rBS} (C : rC h E m le n0 n2 B) (S : ySs E h) {k1 : Nat} {b1 r1 g1 e1 w1 hh1 : Nat} {X1 : rX4} {cl1 : List Int32} {mi1 sp1 : Int32} {KS1 : List rKS} (kh1 : B[k1]? = some (b1, r1, g1, e1, (w1, hh1), X1, cl1, (mi1, sp1), KS1)) (K : ∀ h1 v, yFr (fun x => h.2.1 ≤ x) h h1 13 228 → v = zJ 0 → Q (.inl (some (.int v))) h1) : zcall E 6 234 [.ref m, .int (zJ k1), .int (zJ k1)] h Q := by
  show zwp E _ 234 (0, [some (.ref _), some (.int (zJ _)), some (.int (zJ _)), none, none], [], _) Q
  obtain ⟨qM0, mM0, GM0⟩ := C.hd
  obtain ⟨⟨u1, u2, u3, u4⟩, -⟩ := (C.bd kh1).1.2.2.2
  have hs1 := rsl_le (w := w1) (hh := hh1) ⟨u2, u4⟩
  refine zr_iconst (v := zJ 0) zi234_0 rfl ?_
  refine zr_istore_n (L' := [some (.ref _), some (.int (zJ _)), some (.int (zJ _)), some (.int (zJ _)), none]) zi234_1 rfl rfl ?_
  refine zr_iload_n zi234_2 rfl ?_
  refine zr_bipush (v := zJ 8) zi234_3 rfl ?_
  refine zr_icmp_geN zi234_5 rfl (by omega) (by omega) (fun q5 => absurd q5 (by omega)) (fun q5 => ?_)
  refine zr_aload_n zi234_8 rfl ?_
  refine zr_getfield zi234_9 (C.1.at0 rfl) rfl ?_
  refine zr_iload_n zi234_12 rfl ?_
  refine zr_iface zi234_13 rfl (GM0.at0 rfl) rfl rfl ?_
  refine zcall_dep (d := 2) (Nat.le_of_ble_eq_true rfl) (c164M C kh1 (zbk_v ?_))
  have D13 := C.bd kh1
  have P13 := D13.1
  refine zr_checkcast zi234_18 (P13.1.at0 rfl) rfl ?_
  refine zr_virtual zi234_21 rfl rfl (P13.1.at0 rfl) rfl rfl ?_
  refine zcall_dep (d := 4) (Nat.le_of_ble_eq_true rfl) (c198 S P13 (fun h21 bT F21 eT n21 R21 L21 => zbk_v ?_))
  have G21 := ((yFr.refl _ h).lo F21 (fun x z => by have z : _ ≤ x := z; omega))
  have C21 := rC.nw C G21
  have S21 := G21.ss S
  obtain ⟨qM21, mM21, GM21⟩ := C21.hd
  refine zr_astore (L' := [some (.ref _), some (.int (zJ _)), some (.int (zJ _)), some (.int (zJ _)), some (.ref _)]) zi234_24 rfl rfl ?_
  refine zr_iload_n zi234_26 rfl ?_
  refine zr_iconst (v := zJ 2) zi234_27 rfl ?_
  refine zr_iremN zi234_28 (by omega) (by omega) (by omega) ?_
  refine zr_iconst (v := zJ 1) zi234_29 rfl ?_
  refine zr_icmp_neN zi234_30 rfl (by omega) (by omega) (fun q30 => ?_) (fun q30 => absurd q30 (by omega))
  refine zr_iload_n zi234_39 rfl ?_
  refine zr_iconst (v := zJ 2) zi234_40 rfl ?_
  refine zr_idivN zi234_41 (by omega) (by omega) (by omega) ?_
  refine zr_iconst (v := zJ 2) zi234_42 rfl ?_
  refine zr_iremN zi234_43 (by omega) (by omega) (by omega) ?_
  refine zr_iconst (v := zJ 1) zi234_44 rfl ?_
  refine zr_icmp_neN zi234_45 rfl (by omega) (by omega) (fun q45 => ?_) (fun q45 => absurd q45 (by omega))
  refine zr_iload_n zi234_54 rfl ?_
  refine zr_iconst (v := zJ 3) zi234_55 rfl ?_
  refine zr_icmp_leN zi234_56 rfl (by omega) (by omega) (fun q56 => ?_) (fun q56 => absurd q56 (by omega))
  refine zr_aload zi234_65 rfl ?_
  refine zr_aload_n zi234_67 rfl ?_
  refine zr_getfield zi234_68 (C21.1.at0 rfl) rfl ?_
  refine zr_iload_n zi234_71 rfl ?_
  refine zr_iface zi234_72 rfl (GM21.at0 rfl) rfl rfl ?_
  refine zcall_dep (d := 2) (Nat.le_of_ble_eq_true rfl) (c164M C21 kh1 (zbk_v ?_))
  have D72 := C21.bd kh1
  have P72 := D72.1
  refine zr_checkcast zi234_77 (P72.1.at0 rfl) rfl ?_
  refine zr_static zi234_80 rfl rfl rfl rfl ?_
  refine zcall_dep (d := 1) (Nat.le_of_ble_eq_true rfl) (c235 R21 P72 (zbk_v ?_))
  refine zr_if_eqB zi234_83 rfl (fun q83 => absurd q83 (by rw [rae_self]; exact fun z => Bool.noConfusion z)) (fun q83 => ?_)
  refine zr_iload_n zi234_86 rfl ?_
  refine zr_ireturn zi234_87 rfl ?_
  exact K _ _ (G21.fit (by omega) (by omega)) rfl
theorem c233 {E : zEnv} {h : zPH} {Q : zOut → zPH → Prop} {m le : Nat} {n0 n2 : Int32} {B : List rBS} (C : rC h E m le n0 n2 B) (S : ySs E h) {x y : Int32} (K : ∀ h1 v n0 le1 B1, (ms233 B x y n0 v B1) → rNx h h1 E m n2 n2 le B le1 B1 260 4560 → rC h1 E m le1 n0 n2 B1 → Q (.inl (some (.int v))) h1) : zcall E 7 233 [.ref m, .int x, .int y] h Q := by
  show zwp E _ 233 (0, [some (.ref _), some (.int _), some (.int _)], [], _) Q
  obtain ⟨qM0, mM0, GM0⟩ := C.hd
  refine zr_aload_n zi233_0 rfl ?_
  refine zr_iconst (v := zJ 0) zi233_1 rfl ?_
  refine zr_putfield zi233_2 (C.1.at0 rfl) rfl rfl ?_
  refine rC.wm (E := E) C (fun h2 N2 C2 e2 => ?_)
  obtain ⟨qM2, mM2, GM2⟩ := C2.hd
  refine zr_aload_n zi233_5 rfl ?_
  refine zr_iload_n zi233_6 rfl ?_
  refine zr_virtual zi233_7 rfl rfl (C2.1.at0 rfl) rfl rfl ?_
  refine zcall_dep (d := 1) (Nat.le_of_ble_eq_true rfl) (c163 C2 (fun y7 Y7 => zbk_v ?_))
  refine zr_if_eqB zi233_10 rfl (fun q10 => ?_) (fun q10 => ?_)
  · refine zr_aload_n zi233_21 rfl ?_
    refine zr_iconst (v := zJ 1) zi233_22 rfl ?_
    refine zr_virtual zi233_23 rfl rfl (C2.1.at0 rfl) rfl rfl ?_
    refine zcall_dep (d := 0) (Nat.le_of_ble_eq_true rfl) (c152 C2 (fun h23 N23 C23 e23 => zbk_v ?_))
    obtain ⟨qM23, mM23, GM23⟩ := C23.hd
    refine zr_ireturn zi233_26 rfl ?_
    first
      | exact K _ _ _ _ _ ⟨rfl, Or.inl ⟨rfl, fun hz => absurd (Y7.mpr hz.1) (by rw [q10]; decide)⟩⟩ ((((rNx.refl C).trans N2).trans N23).fit (by omega) (by omega)) C23
      | exact K _ _ _ _ _ ⟨rfl, Or.inl ⟨rfl, fun hz => absurd (Y15.mpr hz.2) (by rw [q18]; decide)⟩⟩ ((((rNx.refl C).trans N2).trans N23).fit (by omega) (by omega)) C23
  · obtain ⟨k1, rfl, b1, r1, g1, e1, w1, hh1, X1, cl1, mi1, sp1, KS1, kh1⟩ := rC.at (Y7.mp q10)
    refine zr_aload_n zi233_13 rfl ?_
    refine zr_iload_n zi233_14 rfl ?_
    refine zr_virtual zi233_15 rfl rfl (C2.1.at0 rfl) rfl rfl ?_
    refine zcall_dep (d := 1) (Nat.le_of_ble_eq_true rfl) (c163 C2 (fun y15 Y15 => zbk_v ?_))
    refine zr_if_neB zi233_18 rfl (fun q18 => ?_) (fun q18 => ?_)
    · obtain ⟨k2, rfl, b2, r2, g2, e2, w2, hh2, X2, cl2, mi2, sp2, KS2, kh2⟩ := rC.at (Y15.mp q18)
      refine zr_aload_n zi233_27 rfl ?_
      refine zr_iload_n zi233_28 rfl ?_
      refine zr_iload_n zi233_29 rfl ?_
      refine zr_virtual zi233_30 rfl rfl (C2.1.at0 rfl) rfl rfl ?_
      refine zcall_dep (d := 6) (Nat.le_of_ble_eq_true rfl) (c234 C2 (N2.1.ss S) kh1 kh2 (fun h30 v30 F30 ev30 => zbk_v ?_))
      have C30 := rC.nw C2 F30
      obtain ⟨qM30, mM30, GM30⟩ := C30.hd
      refine zr_ireturn zi233_33 rfl ?_
      exact K _ _ _ _ _ ⟨rfl, Or.inr ⟨rfl, k1, k2, rlt_of kh1, rfl, rlt_of kh2, rfl, ev30.trans (ral_e kh1 kh2).symm⟩⟩ ((((rNx.refl C).trans N2).trans (rNx.new C2 F30)).fit (by omega) (by omega)) C30
    · refine zr_aload_n zi233_21 rfl ?_
      refine zr_iconst (v := zJ 1) zi233_22 rfl ?_
      refine zr_virtual zi233_23 rfl rfl (C2.1.at0 rfl) rfl rfl ?_
      refine zcall_dep (d := 0) (Nat.le_of_ble_eq_true rfl) (c152 C2 (fun h23 N23 C23 e23 => zbk_v ?_))
      obtain ⟨qM23, mM23, GM23⟩ := C23.hd
      refine zr_ireturn zi233_26 rfl ?_
      first
        | exact K _ _ _ _ _ ⟨rfl, Or.inl ⟨rfl, fun hz => absurd (Y7.mpr hz.1) (by rw [q10]; decide)⟩⟩ ((((rNx.refl C).trans N2).trans N23).fit (by omega) (by omega)) C23
        | exact K _ _ _ _ _ ⟨rfl, Or.inl ⟨rfl, fun hz => absurd (Y15.mpr hz.2) (by rw [q18]; decide)⟩⟩ ((((rNx.refl C).trans N2).trans N23).fit (by omega) (by omega)) C23
