/-! ===== the model: guess, back, board ===== -/
theorem c190 {E : zEnv} {h : zPH} {Q : zOut → zPH → Prop} {m le : Nat} {n0 n2 : Int32} {B : List rBS} (C : rC h E m le n0 n2 B) (S : ySs E h) {x y : Int32} {q : Bool} (K : ∀ h1 v n0 le1 B1, (ms190 B x y q n0 v B1) → rNx h h1 E m n2 n2 le B le1 B1 7 117 → rC h1 E m le1 n0 n2 B1 → Q (.inl (some (.int v))) h1) : zcall E 6 190 [.ref m, .int x, .int y, .int (zB q)] h Q := by
  show zwp E _ 190 (0, [some (.ref _), some (.int _), some (.int _), some (.int (zB _)), none], [], _) Q
  obtain ⟨qM0, mM0, GM0⟩ := C.hd
  refine zr_aload_n zi190_0 rfl ?_
  refine zr_iconst (v := zJ 0) zi190_1 rfl ?_
  refine zr_putfield zi190_2 (C.1.at0 rfl) rfl rfl ?_
  refine rC.wm (E := E) C (fun h2 N2 C2 e2 => ?_)
  obtain ⟨qM2, mM2, GM2⟩ := C2.hd
  refine zr_aload_n zi190_5 rfl ?_
  refine zr_iload_n zi190_6 rfl ?_
  refine zr_iload_n zi190_7 rfl ?_
  refine zr_virtual zi190_8 rfl rfl (C2.1.at0 rfl) rfl rfl ?_
  refine zcall_dep (d := 3) (Nat.le_of_ble_eq_true rfl) (c179 C2 (fun y8 Y8 => zbk_v ?_))
  refine zr_if_neB zi190_11 rfl (fun q11 => ?_) (fun q11 => ?_)
  · obtain ⟨k, b, r, g, e, w, hh, X, cl, mi, sp, KS, rfl, hk, c, hc, rfl⟩ := Y8.mp q11
    obtain ⟨⟨gw1, gw2, gh1, gh2⟩, ⟨l0, l1, l2, l3, lcl⟩, d1, d2, d3⟩ := (C2.bd hk).1.2.2.2
    have hwh := zwh_b (w := w) (hh := hh) ⟨gw1, gw2, gh1, gh2⟩
    have hkl := C2.2.2.1
    have hKS := (C2.bd hk).2.2.2.1
    have hki : k < B.length := by
      rcases Nat.lt_or_ge k B.length with z | z
      · exact z
      · rw [List.getElem?_eq_none z] at hk; cases hk
    refine zr_aload_n zi190_20 rfl ?_
    refine zr_getfield zi190_21 (C2.1.at0 rfl) rfl ?_
    refine zr_iload_n zi190_24 rfl ?_
    refine zr_iface zi190_25 rfl (GM2.at0 rfl) rfl rfl ?_
    refine zcall_dep (d := 2) (Nat.le_of_ble_eq_true rfl) (c164M C2 hk (zbk_v ?_))
    have D25 := C2.bd hk
    have P25 := D25.1
    obtain ⟨qg25, mg25, Lg25⟩ := D25.hd
    refine zr_checkcast zi190_30 (P25.1.at0 rfl) rfl ?_
    refine zr_astore (L' := [some (.ref _), some (.int (zJ _)), some (.int (zJ _)), some (.int (zB _)), some (.ref _)]) zi190_33 rfl rfl ?_
    refine zr_aload zi190_35 rfl ?_
    refine zr_iload_n zi190_37 rfl ?_
    refine zr_virtual zi190_38 rfl rfl (P25.1.at0 rfl) rfl rfl ?_
    refine zcall_dep (d := 0) (Nat.le_of_ble_eq_true rfl) (c174 P25 (by omega) (zbk_v ?_))
    refine zr_if_ne zi190_41 rfl (fun q41 => ?_) (fun q41 => ?_)
    · refine zr_aload_n zi190_59 rfl ?_
      refine zr_iconst (v := zJ 2) zi190_60 rfl ?_
      refine zr_virtual zi190_61 rfl rfl (C2.1.at0 rfl) rfl rfl ?_
      refine zcall_dep (d := 0) (Nat.le_of_ble_eq_true rfl) (c152 C2 (fun h61 N61 C61 e61 => zbk_v ?_))
      obtain ⟨qM61, mM61, GM61⟩ := C61.hd
      refine zr_ireturn zi190_64 rfl ?_
      exact K _ _ _ _ _ (Or.inr (Or.inl ⟨⟨rfl, rfl⟩, ⟨k, w, hh, X, cl, mi, sp, KS, ⟨b, r, g, e, hk⟩, rfl, c, hc, rfl, (by first | exact Or.inl q41 | exact Or.inr q56)⟩⟩)) ((((rNx.refl C).trans N2).trans N61).fit (by omega) (by omega)) C61
    · refine zr_aload zi190_44 rfl ?_
      refine zr_getfield zi190_46 (P25.1.at0 rfl) rfl ?_
      refine zr_iface zi190_49 rfl (Lg25.at0 rfl) rfl rfl ?_
      refine zcall_dep (d := 0) (Nat.le_of_ble_eq_true rfl) (c153 Lg25 (zbk_v ?_))
      refine zr_bipush (v := zJ 6) zi190_54 rfl ?_
      refine zr_icmp_neN zi190_56 rfl (by omega) (by omega) (fun q56 => ?_) (fun q56 => ?_)
      · refine zr_aload zi190_65 rfl ?_
        refine zr_getfield zi190_67 (P25.1.at0 rfl) rfl ?_
        refine zr_new zi190_70 rfl rfl ?_
        refine zw_new (a := h2.2.1) rfl (fun h70 F70 X70 e70 => ?_)
        have P2_ := P25
        have C70 := rC.nw C2 (F70 _)
        obtain ⟨qM70, mM70, GM70⟩ := C70.hd
        have D70 := C70.bd hk
        have P70 := D70.1
        obtain ⟨qg70, mg70, Lg70⟩ := D70.hd
        refine zr_dup zi190_73 rfl ?_
        refine zr_aload zi190_74 rfl ?_
        refine zr_getfield zi190_76 (P70.1.at0 rfl) rfl ?_
        refine zr_static zi190_79 rfl rfl rfl rfl ?_
        refine zcall_dep (d := 0) (Nat.le_of_ble_eq_true rfl) (c191 P70.rw ⟨l0, l1, l2, l3⟩ hwh.2 (fun h79 qq F79 eq79 n79 R79 => zbk_v ?_))
        have C79 := rC.nw C70 F79
        obtain ⟨qM79, mM79, GM79⟩ := C79.hd
        have D79 := C79.bd hk
        have P79 := D79.1
        obtain ⟨qg79, mg79, Lg79⟩ := D79.hd
        obtain rfl : qq = h2.2.1 + 1 := by omega
        have X79 := F79.bk X70 (fun x z1 z2 z3 => by have z2 : x < h2.2.1 + 1 := z2; have z3 : _ ≤ x := z3; omega)
        refine zr_iload_n zi190_82 rfl ?_
        refine zr_iload_n zi190_83 rfl ?_
        refine zr_special zi190_84 rfl rfl rfl rfl ?_
        refine zcall_dep (d := 0) (Nat.le_of_ble_eq_true rfl) (c192 X79 (c := c) (y := q) (fun h84 F84 e84 X84 => zbk_0 ?_))
        have R84 := F84.bk R79 (fun x z1 z2 z3 => by have := z3.2; omega)
        have FA := ((F70 (fun x => h2.2.1 ≤ x)).lo F79 (fun x z => by have z : _ ≤ x := z; omega)).lo F84 (fun x z => z.1)
        have FA := FA.fit (m' := 6) (s' := 107) (by omega) (by omega)
        have Kb := yBk.join X84 R84 rfl
        have C84 := rC.nw C2 FA
        obtain ⟨qM84, mM84, GM84⟩ := C84.hd
        have D84 := C84.bd hk
        have P84 := D84.1
        obtain ⟨qg84, mg84, Lg84⟩ := D84.hd
        have S84 := FA.ss (N2.1.ss S)
        refine zr_iface zi190_87 rfl (Lg84.at0 rfl) rfl rfl ?_
        have hgl : g < h2.2.1 := D70.2.1.lt.1 |> fun z => by have := P2_.1.1; exact (rD.lt (C2.bd hk) (x := g) (Or.inr (Or.inr (Or.inl rfl))))
        refine zcall_dep (d := 5) (Nat.le_of_ble_eq_true rfl) (c157 S84 D84.2.1 (by rw [List.length_map]; omega) (X84.at0 rfl) X84.1 (by omega) rfl (fun h87 e1 F87 ee L87 => zbk_v ?_))
        obtain ⟨C87, N87, hk87⟩ := rC.goK C2 hk FA F87 (Nat.le_refl _) Kb hc ⟨l0, l1, l2, l3⟩ ee L87 (by omega)
        obtain ⟨qM87, mM87, GM87⟩ := C87.hd
        have D87 := C87.bd hk87
        have P87 := D87.1
        obtain ⟨qg87, mg87, Lg87⟩ := D87.hd
        have hln : (KS ++ [(h2.2.1, X, c, q)]).length = KS.length + 1 := by rw [List.length_append]; rfl
        refine zr_pop zi190_92 rfl ?_
        refine zr_aload zi190_93 rfl ?_
        refine zr_iload_n zi190_95 rfl ?_
        refine zr_iload_n zi190_96 rfl ?_
        refine zr_if_eqB zi190_97 rfl (fun q97 => ?_) (fun q97 => ?_)
        · refine zr_iconst (v := zJ 2) zi190_104 rfl ?_
          refine zr_iconst (v := (-1)) zi190_105 rfl ?_
          refine zr_iconst (v := zJ 0) zi190_106 rfl ?_
          refine zr_virtual zi190_107 rfl rfl (P87.1.at0 rfl) rfl rfl ?_
          refine zcall_dep (d := 1) (Nat.le_of_ble_eq_true rfl) (c180 P87 Lg87 D87.gr (by omega) (fun h107 F107 Q107 => zbk_0 ?_))
          obtain ⟨C107, N107, hk107⟩ := rC.go C87 hk87 F107 (fun x z => Or.inl (Or.inr (Or.inl z))) Q107 rfl
          obtain ⟨qM107, mM107, GM107⟩ := C107.hd
          have D107 := C107.bd hk107
          have P107 := D107.1
          obtain ⟨qg107, mg107, Lg107⟩ := D107.hd
          refine zr_aload zi190_110 rfl ?_
          refine zr_getfield zi190_112 (P107.1.at0 rfl) rfl ?_
          refine zr_iface zi190_115 rfl (Lg107.at0 rfl) rfl rfl ?_
          refine zcall_dep (d := 0) (Nat.le_of_ble_eq_true rfl) (c153 Lg107 (zbk_v ?_))
          refine zr_ireturn zi190_120 rfl ?_
          subst q97
          exact K _ _ _ _ _ (Or.inr (Or.inr ⟨rfl, ⟨k, w, hh, X, cl, mi, sp, KS, ⟨b, r, g, e, hk⟩, rfl, c, hc, rfl, q41, q56, _, rfl, ⟨b, r, g, e1, (by first | rfl | (rw [List.set_set] <;> rfl) | (rw [List.set_set, List.set_set] <;> rfl))⟩⟩⟩)) (((N2.trans N87).trans N107).fit (by omega) (by omega)) C107
        · refine zr_iconst (v := zJ 1) zi190_100 rfl ?_
          refine zr_goto zi190_101 rfl ?_
          refine zr_iconst (v := (-1)) zi190_105 rfl ?_
          refine zr_iconst (v := zJ 0) zi190_106 rfl ?_
          refine zr_virtual zi190_107 rfl rfl (P87.1.at0 rfl) rfl rfl ?_
          refine zcall_dep (d := 1) (Nat.le_of_ble_eq_true rfl) (c180 P87 Lg87 D87.gr (by omega) (fun h107 F107 Q107 => zbk_0 ?_))
          obtain ⟨C107, N107, hk107⟩ := rC.go C87 hk87 F107 (fun x z => Or.inl (Or.inr (Or.inl z))) Q107 rfl
          obtain ⟨qM107, mM107, GM107⟩ := C107.hd
          have D107 := C107.bd hk107
          have P107 := D107.1
          obtain ⟨qg107, mg107, Lg107⟩ := D107.hd
          refine zr_aload zi190_110 rfl ?_
          refine zr_getfield zi190_112 (P107.1.at0 rfl) rfl ?_
          refine zr_iface zi190_115 rfl (Lg107.at0 rfl) rfl rfl ?_
          refine zcall_dep (d := 0) (Nat.le_of_ble_eq_true rfl) (c153 Lg107 (zbk_v ?_))
          refine zr_ireturn zi190_120 rfl ?_
          subst q97
          exact K _ _ _ _ _ (Or.inr (Or.inr ⟨rfl, ⟨k, w, hh, X, cl, mi, sp, KS, ⟨b, r, g, e, hk⟩, rfl, c, hc, rfl, q41, q56, _, rfl, ⟨b, r, g, e1, (by first | rfl | (rw [List.set_set] <;> rfl) | (rw [List.set_set, List.set_set] <;> rfl))⟩⟩⟩)) (((N2.trans N87).trans N107).fit (by omega) (by omega)) C107
      · refine zr_aload_n zi190_59 rfl ?_
        refine zr_iconst (v := zJ 2) zi190_60 rfl ?_
        refine zr_virtual zi190_61 rfl rfl (C2.1.at0 rfl) rfl rfl ?_
        refine zcall_dep (d := 0) (Nat.le_of_ble_eq_true rfl) (c152 C2 (fun h61 N61 C61 e61 => zbk_v ?_))
        obtain ⟨qM61, mM61, GM61⟩ := C61.hd
        refine zr_ireturn zi190_64 rfl ?_
        exact K _ _ _ _ _ (Or.inr (Or.inl ⟨⟨rfl, rfl⟩, ⟨k, w, hh, X, cl, mi, sp, KS, ⟨b, r, g, e, hk⟩, rfl, c, hc, rfl, (by first | exact Or.inl q41 | exact Or.inr q56)⟩⟩)) ((((rNx.refl C).trans N2).trans N61).fit (by omega) (by omega)) C61
  · refine zr_aload_n zi190_14 rfl ?_
    refine zr_iconst (v := zJ 1) zi190_15 rfl ?_
    refine zr_virtual zi190_16 rfl rfl (C2.1.at0 rfl) rfl rfl ?_
    refine zcall_dep (d := 0) (Nat.le_of_ble_eq_true rfl) (c152 C2 (fun h16 N16 C16 e16 => zbk_v ?_))
    obtain ⟨qM16, mM16, GM16⟩ := C16.hd
    refine zr_ireturn zi190_19 rfl ?_
    exact K _ _ _ _ _ (Or.inl ⟨⟨rfl, rfl⟩, (fun k w hh X cl mi sp KS ⟨b, r, g, e, hk⟩ ex hz => absurd (Y8.mpr ⟨k, b, r, g, e, w, hh, X, cl, mi, sp, KS, ex, hk, hz⟩) (by rw [q11]; decide))⟩) ((((rNx.refl C).trans N2).trans N16).fit (by omega) (by omega)) C16
theorem c193 {E : zEnv} {h : zPH} {Q : zOut → zPH → Prop} {m le : Nat} {n0 n2 : Int32} {B : List rBS} (C : rC h E m le n0 n2 B) {x : Int32} {q : Bool} (K : ∀ h1 v n0 le1 B1, (ms193 B x q n0 v B1) → rNx h h1 E m n2 n2 le B le1 B1 0 0 → rC h1 E m le1 n0 n2 B1 → Q (.inl (some (.int v))) h1) : zcall E 3 193 [.ref m, .int x, .int (zB q)] h Q := by
  show zwp E _ 193 (0, [some (.ref _), some (.int _), some (.int (zB _)), none, none], [], _) Q
  obtain ⟨qM0, mM0, GM0⟩ := C.hd
  refine zr_aload_n zi193_0 rfl ?_
  refine zr_iconst (v := zJ 0) zi193_1 rfl ?_
  refine zr_putfield zi193_2 (C.1.at0 rfl) rfl rfl ?_
  refine rC.wm (E := E) C (fun h2 N2 C2 e2 => ?_)
  obtain ⟨qM2, mM2, GM2⟩ := C2.hd
  refine zr_aload_n zi193_5 rfl ?_
  refine zr_iload_n zi193_6 rfl ?_
  refine zr_virtual zi193_7 rfl rfl (C2.1.at0 rfl) rfl rfl ?_
  refine zcall_dep (d := 1) (Nat.le_of_ble_eq_true rfl) (c163 C2 (fun y7 Y7 => zbk_v ?_))
  refine zr_if_neB zi193_10 rfl (fun q10 => ?_) (fun q10 => ?_)
  · obtain ⟨k, rfl, b, r, g, e, w, hh, X, cl, mi, sp, KS, hk⟩ := rC.at (Y7.mp q10)
    obtain ⟨⟨gw1, gw2, gh1, gh2⟩, ⟨l0, l1, l2, l3, lcl⟩, d1, d2, d3⟩ := (C2.bd hk).1.2.2.2
    have hwh := zwh_b (w := w) (hh := hh) ⟨gw1, gw2, gh1, gh2⟩
    have hkl := C2.2.2.1
    have hKS := (C2.bd hk).2.2.2.1
    have hki : k < B.length := by
      rcases Nat.lt_or_ge k B.length with z | z
      · exact z
      · rw [List.getElem?_eq_none z] at hk; cases hk
    refine zr_aload_n zi193_19 rfl ?_
    refine zr_getfield zi193_20 (C2.1.at0 rfl) rfl ?_
    refine zr_iload_n zi193_23 rfl ?_
    refine zr_iface zi193_24 rfl (GM2.at0 rfl) rfl rfl ?_
    refine zcall_dep (d := 2) (Nat.le_of_ble_eq_true rfl) (c164M C2 hk (zbk_v ?_))
    have D24 := C2.bd hk
    have P24 := D24.1
    obtain ⟨qg24, mg24, Lg24⟩ := D24.hd
    refine zr_checkcast zi193_29 (P24.1.at0 rfl) rfl ?_
    refine zr_astore_n (L' := [some (.ref _), some (.int (zJ _)), some (.int (zB _)), some (.ref _), none]) zi193_32 rfl rfl ?_
    refine zr_aload_n zi193_33 rfl ?_
    refine zr_getfield zi193_34 (P24.1.at0 rfl) rfl ?_
    refine zr_iface zi193_37 rfl (Lg24.at0 rfl) rfl rfl ?_
    refine zcall_dep (d := 0) (Nat.le_of_ble_eq_true rfl) (c153 Lg24 (zbk_v ?_))
    refine zr_if_neN zi193_42 rfl (by omega) (fun q42 => ?_) (fun q42 => ?_)
    · obtain ⟨K0, κ, rfl⟩ : ∃ K0 κ, KS = K0 ++ [κ] := by
        rcases List.eq_nil_or_concat KS with z | ⟨K0, κ, z⟩
        · rw [z] at q42; exact absurd rfl q42
        · exact ⟨K0, κ, by rw [z]; simp⟩
      have D51 := C2.bd hk
      have P51 := D51.1
      obtain ⟨qg51, mg51, Lg51⟩ := D51.hd
      have hKp := D51.2.2.1 κ (List.mem_append.mpr (Or.inr (List.mem_singleton.mpr rfl)))
      have hKd := D51.2.2.2.2.2.2.2.1 κ (List.mem_append.mpr (Or.inr (List.mem_singleton.mpr rfl)))
      have hle : (K0 ++ [κ]).length - 1 = K0.length := by rw [List.length_append]; exact Nat.add_sub_cancel _ _
      refine zr_aload_n zi193_51 rfl ?_
      refine zr_getfield zi193_52 (P51.1.at0 rfl) rfl ?_
      refine zr_aload_n zi193_55 rfl ?_
      refine zr_getfield zi193_56 (P51.1.at0 rfl) rfl ?_
      refine zr_iface zi193_59 rfl (Lg51.at0 rfl) rfl rfl ?_
      refine zcall_dep (d := 0) (Nat.le_of_ble_eq_true rfl) (c153 Lg51 (zbk_v ?_))
      refine zr_iconst (v := zJ 1) zi193_64 rfl ?_
      refine zr_isubN zi193_65 (by omega) ?_
      refine zr_iface zi193_66 rfl (Lg51.at0 rfl) rfl rfl ?_
      rw [hle]
      have L51 := D51.2.1
      rw [List.map_append] at L51
      refine zcall_dep (d := 2) (Nat.le_of_ble_eq_true rfl) (c194 (t := κ.1) (vs := K0.map fun κ => .ref κ.1) L51 (by rw [List.length_map]) (fun h66 F66 L66 => zbk_v ?_))
      have he := D51.2.2.2.2.2.2.1
      have hgg := D51.2.2.2.2.2.1
      have hbr := D51.2.2.2.2.1
      have P66 := P51.fr F66 (fun x z y => by rcases z with z | z | z <;> (have z1 := z.1; have z2 := z.2; rcases y with y | y <;> rcases he with he | he <;> omega))
      have K66 := hKp.fr F66 (fun x z y => by have z1 := z.1; have z2 := z.2; rcases y with y | y <;> omega)
      have Kc66 : yBk h66 κ.1 [(10, [.ref (κ.1 + 1), .int (zJ κ.2.2.1), .int (zB κ.2.2.2)])] := K66.1.sub 0 _ rfl (Nat.le_of_ble_eq_true rfl)
      refine zr_checkcast zi193_71 (Kc66.at0 rfl) rfl ?_
      refine zr_astore (L' := [some (.ref _), some (.int (zJ _)), some (.int (zB _)), some (.ref _), some (.ref _)]) zi193_74 rfl rfl ?_
      refine zr_aload_n zi193_76 rfl ?_
      refine zr_aload zi193_77 rfl ?_
      refine zr_getfield zi193_79 (Kc66.at0 rfl) rfl ?_
      refine zr_putfield zi193_82 (P66.1.at0 rfl) rfl rfl ?_
      refine rB.wrw P66 (K66.1.sub 1 (rRX (κ.1 + 1) κ.2.1) rfl (Nat.le_of_ble_eq_true rfl)) hKp.2.2 (by omega) (by omega) (fun h82 F82 Q82 => ?_)
      obtain ⟨C82, N82, hk82⟩ := rC.goB C2 hk F66 L66 F82 Q82
      have Kc82 := Kc66.f1 F82 (fun y => by have := y.2; omega)
      obtain ⟨qM82, mM82, GM82⟩ := C82.hd
      have D82 := C82.bd hk82
      have P82 := D82.1
      obtain ⟨qg82, mg82, Lg82⟩ := D82.hd
      refine zr_iload_n zi193_85 rfl ?_
      refine zr_if_eqB zi193_86 rfl (fun q86 => ?_) (fun q86 => ?_)
      · refine zr_aload zi193_114 rfl ?_
        refine zr_getfield zi193_116 (Kc82.at0 rfl) rfl ?_
        refine zr_ireturn zi193_119 rfl ?_
        subst q86
        exact K _ _ _ _ _ (Or.inr (Or.inr ⟨rfl, ⟨k, w, hh, X, cl, mi, sp, (K0 ++ [κ]), ⟨b, r, g, e, hk⟩, rfl, K0, κ, rfl, rfl, ⟨b, (κ.1 + 1), g, e, (by first | (have em : mlt κ.2.2.2 = zJ 2 := if_pos q100; rw [em]; exact List.set_set ..) | (have em : mlt κ.2.2.2 = zJ 1 := if_neg (by rw [q100]; decide); rw [em]; exact List.set_set ..) | rfl)⟩⟩⟩)) ((N2.trans N82).fit (by omega) (by omega)) C82
      · refine zr_aload_n zi193_89 rfl ?_
        refine zr_aload zi193_90 rfl ?_
        refine zr_getfield zi193_92 (Kc82.at0 rfl) rfl ?_
        refine zr_aload zi193_95 rfl ?_
        refine zr_getfield zi193_97 (Kc82.at0 rfl) rfl ?_
        refine zr_if_eqB zi193_100 rfl (fun q100 => ?_) (fun q100 => ?_)
        · refine zr_iconst (v := zJ 1) zi193_107 rfl ?_
          refine zr_bipush (v := (-2)) zi193_108 rfl ?_
          refine zr_iconst (v := zJ 0) zi193_110 rfl ?_
          refine zr_virtual zi193_111 rfl rfl (P82.1.at0 rfl) rfl rfl ?_
          have hc := hKp.2.1
          refine zcall_dep (d := 1) (Nat.le_of_ble_eq_true rfl) (c180 P82 Lg82 D82.gr (by omega) (fun h111 F111 Q111 => zbk_0 ?_))
          obtain ⟨C111, N111, hk111⟩ := rC.go C82 hk82 F111 (fun x z => Or.inl (Or.inr (Or.inl z))) Q111 rfl
          obtain ⟨qM111, mM111, GM111⟩ := C111.hd
          have D111 := C111.bd hk111
          have P111 := D111.1
          obtain ⟨qg111, mg111, Lg111⟩ := D111.hd
          have Kc111 := Kc82.f1 F111 (fun y => by have := y.1; omega)
          refine zr_aload zi193_114 rfl ?_
          refine zr_getfield zi193_116 (Kc111.at0 rfl) rfl ?_
          refine zr_ireturn zi193_119 rfl ?_
          subst q86
          exact K _ _ _ _ _ (Or.inr (Or.inr ⟨rfl, ⟨k, w, hh, X, cl, mi, sp, (K0 ++ [κ]), ⟨b, r, g, e, hk⟩, rfl, K0, κ, rfl, rfl, ⟨b, (κ.1 + 1), g, e, (by first | (have em : mlt κ.2.2.2 = zJ 2 := if_pos q100; rw [em]; exact List.set_set ..) | (have em : mlt κ.2.2.2 = zJ 1 := if_neg (by rw [q100]; decide); rw [em]; exact List.set_set ..) | rfl)⟩⟩⟩)) (((N2.trans N82).trans N111).fit (by omega) (by omega)) C111
        · refine zr_iconst (v := zJ 2) zi193_103 rfl ?_
          refine zr_goto zi193_104 rfl ?_
          refine zr_bipush (v := (-2)) zi193_108 rfl ?_
          refine zr_iconst (v := zJ 0) zi193_110 rfl ?_
          refine zr_virtual zi193_111 rfl rfl (P82.1.at0 rfl) rfl rfl ?_
          have hc := hKp.2.1
          refine zcall_dep (d := 1) (Nat.le_of_ble_eq_true rfl) (c180 P82 Lg82 D82.gr (by omega) (fun h111 F111 Q111 => zbk_0 ?_))
          obtain ⟨C111, N111, hk111⟩ := rC.go C82 hk82 F111 (fun x z => Or.inl (Or.inr (Or.inl z))) Q111 rfl
          obtain ⟨qM111, mM111, GM111⟩ := C111.hd
          have D111 := C111.bd hk111
          have P111 := D111.1
          obtain ⟨qg111, mg111, Lg111⟩ := D111.hd
          have Kc111 := Kc82.f1 F111 (fun y => by have := y.1; omega)
          refine zr_aload zi193_114 rfl ?_
          refine zr_getfield zi193_116 (Kc111.at0 rfl) rfl ?_
          refine zr_ireturn zi193_119 rfl ?_
          subst q86
          exact K _ _ _ _ _ (Or.inr (Or.inr ⟨rfl, ⟨k, w, hh, X, cl, mi, sp, (K0 ++ [κ]), ⟨b, r, g, e, hk⟩, rfl, K0, κ, rfl, rfl, ⟨b, (κ.1 + 1), g, e, (by first | (have em : mlt κ.2.2.2 = zJ 2 := if_pos q100; rw [em]; exact List.set_set ..) | (have em : mlt κ.2.2.2 = zJ 1 := if_neg (by rw [q100]; decide); rw [em]; exact List.set_set ..) | rfl)⟩⟩⟩)) (((N2.trans N82).trans N111).fit (by omega) (by omega)) C111
    · refine zr_aload_n zi193_45 rfl ?_
      refine zr_iconst (v := zJ 2) zi193_46 rfl ?_
      refine zr_virtual zi193_47 rfl rfl (C2.1.at0 rfl) rfl rfl ?_
      refine zcall_dep (d := 0) (Nat.le_of_ble_eq_true rfl) (c152 C2 (fun h47 N47 C47 e47 => zbk_v ?_))
      obtain ⟨qM47, mM47, GM47⟩ := C47.hd
      refine zr_ireturn zi193_50 rfl ?_
      exact K _ _ _ _ _ (Or.inr (Or.inl ⟨⟨rfl, rfl⟩, ⟨k, w, hh, X, cl, mi, sp, KS, ⟨b, r, g, e, hk⟩, rfl, q42⟩⟩)) ((((rNx.refl C).trans N2).trans N47).fit (by omega) (by omega)) C47
  · refine zr_aload_n zi193_13 rfl ?_
    refine zr_iconst (v := zJ 1) zi193_14 rfl ?_
    refine zr_virtual zi193_15 rfl rfl (C2.1.at0 rfl) rfl rfl ?_
    refine zcall_dep (d := 0) (Nat.le_of_ble_eq_true rfl) (c152 C2 (fun h15 N15 C15 e15 => zbk_v ?_))
    obtain ⟨qM15, mM15, GM15⟩ := C15.hd
    refine zr_ireturn zi193_18 rfl ?_
    exact K _ _ _ _ _ (Or.inl ⟨⟨rfl, rfl⟩, (fun hz => absurd (Y7.mpr hz) (by rw [q10]; decide))⟩) ((((rNx.refl C).trans N2).trans N15).fit (by omega) (by omega)) C15
theorem c150 {E : zEnv} {h : zPH} {Q : zOut → zPH → Prop} {m le : Nat} {n0 n2 : Int32} {B : List rBS} (C : rC h E m le n0 n2 B) (S : ySs E h) {x y : Int32} (K : ∀ h1 v n0 le1 B1, (ms150 B x y n0 v B1) → rNx h h1 E m n2 n2 le B le1 B1 9 134 → rC h1 E m le1 n0 n2 B1 → Q (.inl (some (.int v))) h1) : zcall E 6 150 [.ref m, .int x, .int y] h Q := by
  show zwp E _ 150 (0, [some (.ref _), some (.int _), some (.int _)], [], _) Q
  obtain ⟨qM0, mM0, GM0⟩ := C.hd
  refine zr_aload_n zi150_0 rfl ?_
  refine zr_iconst (v := zJ 0) zi150_1 rfl ?_
  refine zr_putfield zi150_2 (C.1.at0 rfl) rfl rfl ?_
  refine rC.wm (E := E) C (fun h2 N2 C2 e2 => ?_)
  obtain ⟨qM2, mM2, GM2⟩ := C2.hd
  refine zr_iload_n zi150_5 rfl ?_
  refine zr_iconst (v := zJ 2) zi150_6 rfl ?_
  refine zr_iconst (v := zJ 5) zi150_7 rfl ?_
  refine zr_static zi150_8 rfl rfl rfl rfl ?_
  refine zcall_dep (d := 0) (Nat.le_of_ble_eq_true rfl) (c151 (fun y8 Y8 => zbk_v ?_))
  refine zr_if_eqB zi150_11 rfl (fun q11 => ?_) (fun q11 => ?_)
  · refine zr_aload_n zi150_23 rfl ?_
    refine zr_iconst (v := zJ 1) zi150_24 rfl ?_
    refine zr_virtual zi150_25 rfl rfl (C2.1.at0 rfl) rfl rfl ?_
    refine zcall_dep (d := 0) (Nat.le_of_ble_eq_true rfl) (c152 C2 (fun h25 N25 C25 e25 => zbk_v ?_))
    obtain ⟨qM25, mM25, GM25⟩ := C25.hd
    refine zr_ireturn zi150_28 rfl ?_
    exact K _ _ _ _ _ (Or.inl ⟨⟨rfl, rfl⟩, fun z => by first | exact absurd (Y8.mpr z.1) (by rw [q11]; decide) | exact absurd (Y17.mpr z.2) (by rw [q20]; decide)⟩) ((((rNx.refl C).trans N2).trans N25).fit (by omega) (by omega)) C25
  · refine zr_iload_n zi150_14 rfl ?_
    refine zr_iconst (v := zJ 2) zi150_15 rfl ?_
    refine zr_iconst (v := zJ 5) zi150_16 rfl ?_
    refine zr_static zi150_17 rfl rfl rfl rfl ?_
    refine zcall_dep (d := 0) (Nat.le_of_ble_eq_true rfl) (c151 (fun y17 Y17 => zbk_v ?_))
    refine zr_if_neB zi150_20 rfl (fun q20 => ?_) (fun q20 => ?_)
    · have hB3 := C2.2.2.1
      obtain ⟨w, gw1, gw2, rfl⟩ := yrange (Int32.not_lt.mpr (Y8.mp q11).1) (Int32.not_lt.mpr (Y8.mp q11).2)
      obtain ⟨hh, gh1, gh2, rfl⟩ := yrange (Int32.not_lt.mpr (Y17.mp q20).1) (Int32.not_lt.mpr (Y17.mp q20).2)
      refine zr_aload_n zi150_29 rfl ?_
      refine zr_getfield zi150_30 (C2.1.at0 rfl) rfl ?_
      refine zr_iface zi150_33 rfl (GM2.at0 rfl) rfl rfl ?_
      refine zcall_dep (d := 0) (Nat.le_of_ble_eq_true rfl) (c153 GM2 (zbk_v ?_))
      refine zr_iconst (v := zJ 3) zi150_38 rfl ?_
      refine zr_icmp_neN zi150_39 rfl (by omega) (by omega) (fun q39 => ?_) (fun q39 => ?_)
      · refine zr_aload_n zi150_48 rfl ?_
        refine zr_getfield zi150_49 (C2.1.at0 rfl) rfl ?_
        refine zr_new zi150_52 rfl rfl ?_
        refine zw_new (a := h2.2.1) rfl (fun h52 F52 X52 e52 => ?_)
        have C52 := rC.nw C2 (F52 _)
        obtain ⟨qM52, mM52, GM52⟩ := C52.hd
        refine zr_dup zi150_55 rfl ?_
        refine zr_iload_n zi150_56 rfl ?_
        refine zr_iload_n zi150_57 rfl ?_
        refine zr_special zi150_58 rfl rfl rfl rfl ?_
        refine zcall_dep (d := 3) (Nat.le_of_ble_eq_true rfl) (c154 ((F52 (fun _ => True)).ss (N2.1.ss S)) X52 e52 gw1 gw2 gh1 gh2 (fun h58 F58 e58 P58 L58 => zbk_0 ?_))
        have hs1 := rsl_le (w := w) (hh := hh) ⟨gw2, gh2⟩
        have FA := ((F52 (fun x => h2.2.1 ≤ x)).lo F58 (fun x z => z.1)).fit (m' := 8) (s' := 124) (by omega) (by omega)
        have C58 := rC.nw C2 FA
        obtain ⟨qM58, mM58, GM58⟩ := C58.hd
        obtain ⟨elb, eEb, Gb⟩ := L58
        have Db : rD h58 E h2.2.1 (h2.2.1 + 3) (h2.2.1 + 1) (h2.2.1 + 1) w hh (List.replicate (w * hh) 0, rn1 (w * hh) (w * hh), List.replicate (w * hh) 0, List.replicate (w * hh) 0) (rnc (w + hh) (w + hh)) 0 0 [] := ⟨P58, ⟨Nat.zero_le _, elb, zJ 0, Gb, Or.inl ⟨rfl, rfl, eEb⟩⟩, fun κ hm => (by cases hm), Nat.zero_le _, by omega, ⟨by omega, by omega, by omega⟩, Or.inl rfl, fun κ hm => (by cases hm), List.Pairwise.nil⟩
        refine zr_iface zi150_61 rfl (GM58.at0 rfl) rfl rfl ?_
        have hml : m + 1 < h2.2.1 := C2.lt (Or.inr (Or.inl rfl))
        have hB3 := C2.2.2.1
        refine zcall_dep (d := 5) (Nat.le_of_ble_eq_true rfl) (c157 (FA.ss (N2.1.ss S)) C58.2.1 (by rw [List.length_map]; omega) (P58.1.at0 rfl) (by omega) (by omega) rfl (fun h61 le1 F61 ee L61 => zbk_v ?_))
        obtain ⟨C61, N61⟩ := rC.add C2 FA F61 Db (fun x z => by rcases z with z | z | z | z | ⟨κ, hm, z⟩; exact z.1; exact Nat.le_trans (Nat.le_add_right _ 3) z.1; omega; omega; cases hm) (by omega) ee L61
        obtain ⟨qM61, mM61, GM61⟩ := C61.hd
        refine zr_pop zi150_66 rfl ?_
        refine zr_aload_n zi150_67 rfl ?_
        refine zr_getfield zi150_68 (C61.1.at0 rfl) rfl ?_
        refine zr_iface zi150_71 rfl (GM61.at0 rfl) rfl rfl ?_
        refine zcall_dep (d := 0) (Nat.le_of_ble_eq_true rfl) (c153 GM61 (zbk_v ?_))
        refine zr_iconst (v := zJ 1) zi150_76 rfl ?_
        refine zr_isub zi150_77 ?_
        refine zr_ireturn zi150_78 rfl ?_
        exact K _ _ _ _ _ (Or.inr (Or.inr ⟨rfl, by rw [List.length_append]; exact zJ_sub (by show 1 ≤ B.length + 1; omega), w, hh, _, _, _, _, gw1, gw2, gh1, gh2, rfl, rfl, q39, rfl⟩)) ((N2.trans N61).fit (by omega) (by omega)) C61
      · refine zr_aload_n zi150_42 rfl ?_
        refine zr_iconst (v := zJ 2) zi150_43 rfl ?_
        refine zr_virtual zi150_44 rfl rfl (C2.1.at0 rfl) rfl rfl ?_
        refine zcall_dep (d := 0) (Nat.le_of_ble_eq_true rfl) (c152 C2 (fun h44 N44 C44 e44 => zbk_v ?_))
        obtain ⟨qM44, mM44, GM44⟩ := C44.hd
        refine zr_ireturn zi150_47 rfl ?_
        exact K _ _ _ _ _ (Or.inr (Or.inl ⟨⟨rfl, rfl⟩, ⟨Y8.mp q11, Y17.mp q20⟩, q39⟩)) ((((rNx.refl C).trans N2).trans N44).fit (by omega) (by omega)) C44
    · refine zr_aload_n zi150_23 rfl ?_
      refine zr_iconst (v := zJ 1) zi150_24 rfl ?_
      refine zr_virtual zi150_25 rfl rfl (C2.1.at0 rfl) rfl rfl ?_
      refine zcall_dep (d := 0) (Nat.le_of_ble_eq_true rfl) (c152 C2 (fun h25 N25 C25 e25 => zbk_v ?_))
      obtain ⟨qM25, mM25, GM25⟩ := C25.hd
      refine zr_ireturn zi150_28 rfl ?_
      exact K _ _ _ _ _ (Or.inl ⟨⟨rfl, rfl⟩, fun z => by first | exact absurd (Y8.mpr z.1) (by rw [q11]; decide) | exact absurd (Y17.mpr z.2) (by rw [q20]; decide)⟩) ((((rNx.refl C).trans N2).trans N25).fit (by omega) (by omega)) C25
