/-! ===== the model: clue, open, mark, sweep, turn, paint, read, wipe ===== -/
theorem c161 {E : zEnv} {h : zPH} {Q : zOut → zPH → Prop} {m le : Nat} {n0 n2 : Int32} {B : List rBS} (C : rC h E m le n0 n2 B) {x y z : Int32} (K : ∀ h1 v n0 le1 B1, (ms161 B x y z n0 v B1) → rNx h h1 E m n2 n2 le B le1 B1 0 0 → rC h1 E m le1 n0 n2 B1 → Q (.inl (some (.int v))) h1) : zcall E 4 161 [.ref m, .int x, .int y, .int z] h Q := by
  show zwp E _ 161 (0, [some (.ref _), some (.int _), some (.int _), some (.int _), none], [], _) Q
  obtain ⟨qM0, mM0, GM0⟩ := C.hd
  refine zr_aload_n zi161_0 rfl ?_
  refine zr_iconst (v := zJ 0) zi161_1 rfl ?_
  refine zr_putfield zi161_2 (C.1.at0 rfl) rfl rfl ?_
  refine rC.wm (E := E) C (fun h2 N2 C2 e2 => ?_)
  obtain ⟨qM2, mM2, GM2⟩ := C2.hd
  refine zr_aload_n zi161_5 rfl ?_
  refine zr_iload_n zi161_6 rfl ?_
  refine zr_iload_n zi161_7 rfl ?_
  refine zr_virtual zi161_8 rfl rfl (C2.1.at0 rfl) rfl rfl ?_
  refine zcall_dep (d := 3) (Nat.le_of_ble_eq_true rfl) (c162 C2 (fun y8 Y8 => zbk_v ?_))
  refine zr_if_neB zi161_11 rfl (fun q11 => ?_) (fun q11 => ?_)
  · obtain ⟨k, b, r, g, e, w, hh, X, cl, mi, sp, KS, rfl, hk, i, hi, rfl⟩ := Y8.mp q11
    obtain ⟨⟨gw1, gw2, gh1, gh2⟩, ⟨l0, l1, l2, l3, lcl⟩, d1, d2, d3⟩ := (C2.bd hk).1.2.2.2
    have hwh := zwh_b (w := w) (hh := hh) ⟨gw1, gw2, gh1, gh2⟩
    have hkl := C2.2.2.1
    have hKS := (C2.bd hk).2.2.2.1
    have hki : k < B.length := by
      rcases Nat.lt_or_ge k B.length with z | z
      · exact z
      · rw [List.getElem?_eq_none z] at hk; cases hk
    have hln := yln_b i ⟨gw1, gw2, gh1, gh2⟩
    refine zr_aload_n zi161_20 rfl ?_
    refine zr_getfield zi161_21 (C2.1.at0 rfl) rfl ?_
    refine zr_iload_n zi161_24 rfl ?_
    refine zr_iface zi161_25 rfl (GM2.at0 rfl) rfl rfl ?_
    refine zcall_dep (d := 2) (Nat.le_of_ble_eq_true rfl) (c164M C2 hk (zbk_v ?_))
    have D25 := C2.bd hk
    have P25 := D25.1
    obtain ⟨qg25, mg25, Lg25⟩ := D25.hd
    refine zr_checkcast zi161_30 (P25.1.at0 rfl) rfl ?_
    refine zr_astore (L' := [some (.ref _), some (.int (zJ _)), some (.int (zJ _)), some (.int _), some (.ref _)]) zi161_33 rfl rfl ?_
    refine zr_iload_n zi161_35 rfl ?_
    refine zr_aload zi161_36 rfl ?_
    refine zr_iload_n zi161_38 rfl ?_
    refine zr_virtual zi161_39 rfl rfl (P25.1.at0 rfl) rfl rfl ?_
    refine zcall_dep (d := 0) (Nat.le_of_ble_eq_true rfl) (c168 P25 (by omega) (zbk_v ?_))
    refine zr_static zi161_42 rfl rfl rfl rfl ?_
    refine zcall_dep (d := 1) (Nat.le_of_ble_eq_true rfl) (c169 (by omega) (zbk_v ?_))
    refine zr_if_neB zi161_45 rfl (fun q45 => ?_) (fun q45 => ?_)
    · refine zr_aload zi161_54 rfl ?_
      refine zr_getfield zi161_56 (P25.1.at0 rfl) rfl ?_
      refine zr_iload_n zi161_59 rfl ?_
      refine zr_iload_n zi161_60 rfl ?_
      refine zr_iastoreN zi161_61 (P25.ca.at0 rfl) (by omega) (by first | omega | (simp only [List.length_set, zpt_len]; omega)) ?_
      refine rB.wca P25 (by first | omega | (simp only [List.length_set]; omega)) (fun h61 F61 Q61 => ?_)
      obtain ⟨C61, N61, hk61⟩ := rC.go C2 hk F61 (fun x z => Or.inl (Or.inr (Or.inr z))) Q61 rfl
      obtain ⟨qM61, mM61, GM61⟩ := C61.hd
      have D61 := C61.bd hk61
      have P61 := D61.1
      obtain ⟨qg61, mg61, Lg61⟩ := D61.hd
      refine zr_aload zi161_62 rfl ?_
      refine zr_iload_n zi161_64 rfl ?_
      refine zr_virtual zi161_65 rfl rfl (P61.1.at0 rfl) rfl rfl ?_
      refine zcall_dep (d := 3) (Nat.le_of_ble_eq_true rfl) (c171 P61 (by omega) (zbk_v ?_))
      refine zr_ireturn zi161_68 rfl ?_
      exact K _ _ _ _ _ (Or.inr (Or.inr ⟨rfl, ⟨k, w, hh, X, cl, mi, sp, KS, ⟨b, r, g, e, hk⟩, rfl, i, hi, rfl, q45, rfl, ⟨b, r, g, e, (by first | rfl | (rw [List.set_set] <;> rfl) | (rw [List.set_set, List.set_set] <;> rfl))⟩⟩⟩)) ((((rNx.refl C).trans N2).trans N61).fit (by omega) (by omega)) C61
    · refine zr_aload_n zi161_48 rfl ?_
      refine zr_iconst (v := zJ 2) zi161_49 rfl ?_
      refine zr_virtual zi161_50 rfl rfl (C2.1.at0 rfl) rfl rfl ?_
      refine zcall_dep (d := 0) (Nat.le_of_ble_eq_true rfl) (c152 C2 (fun h50 N50 C50 e50 => zbk_v ?_))
      obtain ⟨qM50, mM50, GM50⟩ := C50.hd
      refine zr_ireturn zi161_53 rfl ?_
      exact K _ _ _ _ _ (Or.inr (Or.inl ⟨⟨rfl, rfl⟩, ⟨k, w, hh, X, cl, mi, sp, KS, ⟨b, r, g, e, hk⟩, rfl, i, hi, rfl, q45⟩⟩)) ((((rNx.refl C).trans N2).trans N50).fit (by omega) (by omega)) C50
  · refine zr_aload_n zi161_14 rfl ?_
    refine zr_iconst (v := zJ 1) zi161_15 rfl ?_
    refine zr_virtual zi161_16 rfl rfl (C2.1.at0 rfl) rfl rfl ?_
    refine zcall_dep (d := 0) (Nat.le_of_ble_eq_true rfl) (c152 C2 (fun h16 N16 C16 e16 => zbk_v ?_))
    obtain ⟨qM16, mM16, GM16⟩ := C16.hd
    refine zr_ireturn zi161_19 rfl ?_
    exact K _ _ _ _ _ (Or.inl ⟨⟨rfl, rfl⟩, (fun k w hh X cl mi sp KS ⟨b, r, g, e, hk⟩ ex hz => absurd (Y8.mpr ⟨k, b, r, g, e, w, hh, X, cl, mi, sp, KS, ex, hk, hz⟩) (by rw [q11]; decide))⟩) ((((rNx.refl C).trans N2).trans N16).fit (by omega) (by omega)) C16
theorem c177 {E : zEnv} {h : zPH} {Q : zOut → zPH → Prop} {m le : Nat} {n0 n2 : Int32} {B : List rBS} (C : rC h E m le n0 n2 B) {x y : Int32} (K : ∀ h1 v n0 le1 B1, (ms177 B x y n0 v B1) → rNx h h1 E m n2 n2 le B le1 B1 0 0 → rC h1 E m le1 n0 n2 B1 → Q (.inl (some (.int v))) h1) : zcall E 4 177 [.ref m, .int x, .int y] h Q := by
  show zwp E _ 177 (0, [some (.ref _), some (.int _), some (.int _), none], [], _) Q
  obtain ⟨qM0, mM0, GM0⟩ := C.hd
  refine zr_aload_n zi177_0 rfl ?_
  refine zr_iconst (v := zJ 0) zi177_1 rfl ?_
  refine zr_putfield zi177_2 (C.1.at0 rfl) rfl rfl ?_
  refine rC.wm (E := E) C (fun h2 N2 C2 e2 => ?_)
  obtain ⟨qM2, mM2, GM2⟩ := C2.hd
  refine zr_aload_n zi177_5 rfl ?_
  refine zr_iload_n zi177_6 rfl ?_
  refine zr_iload_n zi177_7 rfl ?_
  refine zr_virtual zi177_8 rfl rfl (C2.1.at0 rfl) rfl rfl ?_
  refine zcall_dep (d := 3) (Nat.le_of_ble_eq_true rfl) (c162 C2 (fun y8 Y8 => zbk_v ?_))
  refine zr_if_neB zi177_11 rfl (fun q11 => ?_) (fun q11 => ?_)
  · obtain ⟨k, b, r, g, e, w, hh, X, cl, mi, sp, KS, rfl, hk, i, hi, rfl⟩ := Y8.mp q11
    obtain ⟨⟨gw1, gw2, gh1, gh2⟩, ⟨l0, l1, l2, l3, lcl⟩, d1, d2, d3⟩ := (C2.bd hk).1.2.2.2
    have hwh := zwh_b (w := w) (hh := hh) ⟨gw1, gw2, gh1, gh2⟩
    have hkl := C2.2.2.1
    have hKS := (C2.bd hk).2.2.2.1
    have hki : k < B.length := by
      rcases Nat.lt_or_ge k B.length with z | z
      · exact z
      · rw [List.getElem?_eq_none z] at hk; cases hk
    refine zr_aload_n zi177_20 rfl ?_
    refine zr_getfield zi177_21 (C2.1.at0 rfl) rfl ?_
    refine zr_iload_n zi177_24 rfl ?_
    refine zr_iface zi177_25 rfl (GM2.at0 rfl) rfl rfl ?_
    refine zcall_dep (d := 2) (Nat.le_of_ble_eq_true rfl) (c164M C2 hk (zbk_v ?_))
    have D25 := C2.bd hk
    have P25 := D25.1
    obtain ⟨qg25, mg25, Lg25⟩ := D25.hd
    refine zr_checkcast zi177_30 (P25.1.at0 rfl) rfl ?_
    refine zr_getfield zi177_33 (P25.1.at0 rfl) rfl ?_
    refine zr_iload_n zi177_36 rfl ?_
    refine zr_ialoadN zi177_37 (P25.ca.at0 rfl) rfl (by omega) (by first | omega | (simp only [List.length_set, zpt_len]; omega)) ?_
    refine zr_istore_n (L' := [some (.ref _), some (.int (zJ _)), some (.int (zJ _)), some (.int _)]) zi177_38 rfl rfl ?_
    refine zr_aload_n zi177_39 rfl ?_
    refine zr_getfield zi177_40 (C2.1.at0 rfl) rfl ?_
    refine zr_iload_n zi177_43 rfl ?_
    refine zr_iface zi177_44 rfl (GM2.at0 rfl) rfl rfl ?_
    refine zcall_dep (d := 2) (Nat.le_of_ble_eq_true rfl) (c164M C2 hk (zbk_v ?_))
    have D44 := C2.bd hk
    have P44 := D44.1
    obtain ⟨qg44, mg44, Lg44⟩ := D44.hd
    refine zr_checkcast zi177_49 (P44.1.at0 rfl) rfl ?_
    refine zr_getfield zi177_52 (P44.1.at0 rfl) rfl ?_
    refine zr_iload_n zi177_55 rfl ?_
    refine zr_iconst (v := (-1)) zi177_56 rfl ?_
    refine zr_iastoreN zi177_57 (P44.ca.at0 rfl) (by omega) (by first | omega | (simp only [List.length_set, zpt_len]; omega)) ?_
    refine rB.wca P44 (by first | omega | (simp only [List.length_set]; omega)) (fun h57 F57 Q57 => ?_)
    obtain ⟨C57, N57, hk57⟩ := rC.go C2 hk F57 (fun x z => Or.inl (Or.inr (Or.inr z))) Q57 rfl
    obtain ⟨qM57, mM57, GM57⟩ := C57.hd
    have D57 := C57.bd hk57
    have P57 := D57.1
    obtain ⟨qg57, mg57, Lg57⟩ := D57.hd
    refine zr_iload_n zi177_58 rfl ?_
    refine zr_ireturn zi177_59 rfl ?_
    exact K _ _ _ _ _ (Or.inr ⟨rfl, ⟨k, w, hh, X, cl, mi, sp, KS, ⟨b, r, g, e, hk⟩, rfl, i, hi, rfl, rfl, ⟨b, r, g, e, (by first | rfl | (rw [List.set_set] <;> rfl) | (rw [List.set_set, List.set_set] <;> rfl))⟩⟩⟩) ((((rNx.refl C).trans N2).trans N57).fit (by omega) (by omega)) C57
  · refine zr_aload_n zi177_14 rfl ?_
    refine zr_iconst (v := zJ 1) zi177_15 rfl ?_
    refine zr_virtual zi177_16 rfl rfl (C2.1.at0 rfl) rfl rfl ?_
    refine zcall_dep (d := 0) (Nat.le_of_ble_eq_true rfl) (c152 C2 (fun h16 N16 C16 e16 => zbk_v ?_))
    obtain ⟨qM16, mM16, GM16⟩ := C16.hd
    refine zr_ireturn zi177_19 rfl ?_
    exact K _ _ _ _ _ (Or.inl ⟨⟨rfl, rfl⟩, (fun k w hh X cl mi sp KS ⟨b, r, g, e, hk⟩ ex hz => absurd (Y8.mpr ⟨k, b, r, g, e, w, hh, X, cl, mi, sp, KS, ex, hk, hz⟩) (by rw [q11]; decide))⟩) ((((rNx.refl C).trans N2).trans N16).fit (by omega) (by omega)) C16
theorem c178 {E : zEnv} {h : zPH} {Q : zOut → zPH → Prop} {m le : Nat} {n0 n2 : Int32} {B : List rBS} (C : rC h E m le n0 n2 B) {x y : Int32} {q : Bool} (K : ∀ h1 v n0 le1 B1, (ms178 B x y q n0 v B1) → rNx h h1 E m n2 n2 le B le1 B1 51 1442 → rC h1 E m le1 n0 n2 B1 → Q (.inl (some (.int v))) h1) : zcall E 16 178 [.ref m, .int x, .int y, .int (zB q)] h Q := by
  show zwp E _ 178 (0, [some (.ref _), some (.int _), some (.int _), some (.int (zB _)), none], [], _) Q
  obtain ⟨qM0, mM0, GM0⟩ := C.hd
  refine zr_aload_n zi178_0 rfl ?_
  refine zr_iconst (v := zJ 0) zi178_1 rfl ?_
  refine zr_putfield zi178_2 (C.1.at0 rfl) rfl rfl ?_
  refine rC.wm (E := E) C (fun h2 N2 C2 e2 => ?_)
  obtain ⟨qM2, mM2, GM2⟩ := C2.hd
  refine zr_aload_n zi178_5 rfl ?_
  refine zr_iload_n zi178_6 rfl ?_
  refine zr_iload_n zi178_7 rfl ?_
  refine zr_virtual zi178_8 rfl rfl (C2.1.at0 rfl) rfl rfl ?_
  refine zcall_dep (d := 3) (Nat.le_of_ble_eq_true rfl) (c179 C2 (fun y8 Y8 => zbk_v ?_))
  refine zr_if_neB zi178_11 rfl (fun q11 => ?_) (fun q11 => ?_)
  · obtain ⟨k, b, r, g, e, w, hh, X, cl, mi, sp, KS, rfl, hk, c, hc, rfl⟩ := Y8.mp q11
    obtain ⟨⟨gw1, gw2, gh1, gh2⟩, ⟨l0, l1, l2, l3, lcl⟩, d1, d2, d3⟩ := (C2.bd hk).1.2.2.2
    have hwh := zwh_b (w := w) (hh := hh) ⟨gw1, gw2, gh1, gh2⟩
    have hkl := C2.2.2.1
    have hKS := (C2.bd hk).2.2.2.1
    have hki : k < B.length := by
      rcases Nat.lt_or_ge k B.length with z | z
      · exact z
      · rw [List.getElem?_eq_none z] at hk; cases hk
    refine zr_aload_n zi178_28 rfl ?_
    refine zr_getfield zi178_29 (C2.1.at0 rfl) rfl ?_
    refine zr_iload_n zi178_32 rfl ?_
    refine zr_iface zi178_33 rfl (GM2.at0 rfl) rfl rfl ?_
    refine zcall_dep (d := 2) (Nat.le_of_ble_eq_true rfl) (c164M C2 hk (zbk_v ?_))
    have D33 := C2.bd hk
    have P33 := D33.1
    obtain ⟨qg33, mg33, Lg33⟩ := D33.hd
    refine zr_checkcast zi178_38 (P33.1.at0 rfl) rfl ?_
    refine zr_astore (L' := [some (.ref _), some (.int (zJ _)), some (.int (zJ _)), some (.int (zB _)), some (.ref _)]) zi178_41 rfl rfl ?_
    refine zr_aload zi178_43 rfl ?_
    refine zr_iload_n zi178_45 rfl ?_
    refine zr_virtual zi178_46 rfl rfl (P33.1.at0 rfl) rfl rfl ?_
    refine zcall_dep (d := 0) (Nat.le_of_ble_eq_true rfl) (c174 P33 (by omega) (zbk_v ?_))
    refine zr_if_eq zi178_49 rfl (fun q49 => ?_) (fun q49 => ?_)
    · refine zr_aload zi178_66 rfl ?_
      refine zr_iload_n zi178_68 rfl ?_
      refine zr_iload_n zi178_69 rfl ?_
      refine zr_if_eqB zi178_70 rfl (fun q70 => ?_) (fun q70 => ?_)
      · refine zr_iconst (v := zJ 2) zi178_77 rfl ?_
        refine zr_iconst (v := (-1)) zi178_78 rfl ?_
        refine zr_iconst (v := zJ 0) zi178_79 rfl ?_
        refine zr_virtual zi178_80 rfl rfl (P33.1.at0 rfl) rfl rfl ?_
        refine zcall_dep (d := 1) (Nat.le_of_ble_eq_true rfl) (c180 P33 Lg33 D33.gr (by omega) (fun h80 F80 Q80 => zbk_0 ?_))
        obtain ⟨C80, N80, hk80⟩ := rC.go C2 hk F80 (fun x z => Or.inl (Or.inr (Or.inl z))) Q80 rfl
        obtain ⟨qM80, mM80, GM80⟩ := C80.hd
        have D80 := C80.bd hk80
        have P80 := D80.1
        obtain ⟨qg80, mg80, Lg80⟩ := D80.hd
        refine zr_aload zi178_83 rfl ?_
        refine zr_virtual zi178_85 rfl rfl (P80.1.at0 rfl) rfl rfl ?_
        refine zcall_dep (d := 15) (Nat.le_of_ble_eq_true rfl) (c181 P80 (fun h85 l85 F85 px85 hl85 => zbk_v ?_))
        have C85 := rC.nw C80 F85
        obtain ⟨qM85, mM85, GM85⟩ := C85.hd
        have D85 := C85.bd hk80
        have P85 := D85.1
        obtain ⟨qg85, mg85, Lg85⟩ := D85.hd
        refine zr_if_leN zi178_88 rfl (by omega) (fun q88 => ?_) (fun q88 => ?_)
        · refine zr_aload zi178_93 rfl ?_
          refine zr_iload_n zi178_95 rfl ?_
          refine zr_iconst (v := zJ 0) zi178_96 rfl ?_
          refine zr_iconst (v := (-1)) zi178_97 rfl ?_
          refine zr_iconst (v := zJ 0) zi178_98 rfl ?_
          refine zr_virtual zi178_99 rfl rfl (P85.1.at0 rfl) rfl rfl ?_
          refine zcall_dep (d := 1) (Nat.le_of_ble_eq_true rfl) (c180 P85 Lg85 D85.gr (by omega) (fun h99 F99 Q99 => zbk_0 ?_))
          obtain ⟨C99, N99, hk99⟩ := rC.go C85 hk80 F99 (fun x z => Or.inl (Or.inr (Or.inl z))) Q99 rfl
          obtain ⟨qM99, mM99, GM99⟩ := C99.hd
          have D99 := C99.bd hk99
          have P99 := D99.1
          obtain ⟨qg99, mg99, Lg99⟩ := D99.hd
          refine zr_aload zi178_102 rfl ?_
          refine zr_dup zi178_104 rfl ?_
          refine zr_getfield zi178_105 (P99.1.at0 rfl) rfl ?_
          refine zr_iconst (v := zJ 1) zi178_108 rfl ?_
          refine zr_iadd zi178_109 ?_
          refine zr_putfield zi178_110 (P99.1.at0 rfl) rfl rfl ?_
          refine rB.wob P99 (fun h110 F110 Q110 => ?_)
          obtain ⟨C110, N110, hk110⟩ := rC.go C99 hk99 F110 (fun x z => Or.inl (Or.inl z)) Q110 rfl
          obtain ⟨qM110, mM110, GM110⟩ := C110.hd
          have D110 := C110.bd hk110
          have P110 := D110.1
          obtain ⟨qg110, mg110, Lg110⟩ := D110.hd
          refine zr_iconst (v := zB false) zi178_113 rfl ?_
          refine zr_zreturnB zi178_114 rfl ?_
          subst q70
          exact K _ _ _ _ _ (Or.inr (Or.inr ⟨rfl, ⟨k, w, hh, X, cl, mi, sp, KS, ⟨b, r, g, e, hk⟩, rfl, c, hc, rfl, q49, l85, px85, Or.inr ⟨q88, rfl, ⟨b, r, g, e, (by first | rfl | (rw [List.set_set] <;> rfl) | (rw [List.set_set, List.set_set] <;> rfl))⟩⟩⟩⟩)) (((((((rNx.refl C).trans N2).trans N80).trans (rNx.new C80 F85)).trans N99).trans N110).fit (by omega) (by omega)) C110
        · refine zr_iconst (v := zB true) zi178_91 rfl ?_
          refine zr_zreturnB zi178_92 rfl ?_
          subst q70
          exact K _ _ _ _ _ (Or.inr (Or.inr ⟨rfl, ⟨k, w, hh, X, cl, mi, sp, KS, ⟨b, r, g, e, hk⟩, rfl, c, hc, rfl, q49, l85, px85, Or.inl ⟨q88, rfl, ⟨b, r, g, e, (by first | rfl | (rw [List.set_set] <;> rfl) | (rw [List.set_set, List.set_set] <;> rfl))⟩⟩⟩⟩)) (((((rNx.refl C).trans N2).trans N80).trans (rNx.new C80 F85)).fit (by omega) (by omega)) C85
      · refine zr_iconst (v := zJ 1) zi178_73 rfl ?_
        refine zr_goto zi178_74 rfl ?_
        refine zr_iconst (v := (-1)) zi178_78 rfl ?_
        refine zr_iconst (v := zJ 0) zi178_79 rfl ?_
        refine zr_virtual zi178_80 rfl rfl (P33.1.at0 rfl) rfl rfl ?_
        refine zcall_dep (d := 1) (Nat.le_of_ble_eq_true rfl) (c180 P33 Lg33 D33.gr (by omega) (fun h80 F80 Q80 => zbk_0 ?_))
        obtain ⟨C80, N80, hk80⟩ := rC.go C2 hk F80 (fun x z => Or.inl (Or.inr (Or.inl z))) Q80 rfl
        obtain ⟨qM80, mM80, GM80⟩ := C80.hd
        have D80 := C80.bd hk80
        have P80 := D80.1
        obtain ⟨qg80, mg80, Lg80⟩ := D80.hd
        refine zr_aload zi178_83 rfl ?_
        refine zr_virtual zi178_85 rfl rfl (P80.1.at0 rfl) rfl rfl ?_
        refine zcall_dep (d := 15) (Nat.le_of_ble_eq_true rfl) (c181 P80 (fun h85 l85 F85 px85 hl85 => zbk_v ?_))
        have C85 := rC.nw C80 F85
        obtain ⟨qM85, mM85, GM85⟩ := C85.hd
        have D85 := C85.bd hk80
        have P85 := D85.1
        obtain ⟨qg85, mg85, Lg85⟩ := D85.hd
        refine zr_if_leN zi178_88 rfl (by omega) (fun q88 => ?_) (fun q88 => ?_)
        · refine zr_aload zi178_93 rfl ?_
          refine zr_iload_n zi178_95 rfl ?_
          refine zr_iconst (v := zJ 0) zi178_96 rfl ?_
          refine zr_iconst (v := (-1)) zi178_97 rfl ?_
          refine zr_iconst (v := zJ 0) zi178_98 rfl ?_
          refine zr_virtual zi178_99 rfl rfl (P85.1.at0 rfl) rfl rfl ?_
          refine zcall_dep (d := 1) (Nat.le_of_ble_eq_true rfl) (c180 P85 Lg85 D85.gr (by omega) (fun h99 F99 Q99 => zbk_0 ?_))
          obtain ⟨C99, N99, hk99⟩ := rC.go C85 hk80 F99 (fun x z => Or.inl (Or.inr (Or.inl z))) Q99 rfl
          obtain ⟨qM99, mM99, GM99⟩ := C99.hd
          have D99 := C99.bd hk99
          have P99 := D99.1
          obtain ⟨qg99, mg99, Lg99⟩ := D99.hd
          refine zr_aload zi178_102 rfl ?_
          refine zr_dup zi178_104 rfl ?_
          refine zr_getfield zi178_105 (P99.1.at0 rfl) rfl ?_
          refine zr_iconst (v := zJ 1) zi178_108 rfl ?_
          refine zr_iadd zi178_109 ?_
          refine zr_putfield zi178_110 (P99.1.at0 rfl) rfl rfl ?_
          refine rB.wob P99 (fun h110 F110 Q110 => ?_)
          obtain ⟨C110, N110, hk110⟩ := rC.go C99 hk99 F110 (fun x z => Or.inl (Or.inl z)) Q110 rfl
          obtain ⟨qM110, mM110, GM110⟩ := C110.hd
          have D110 := C110.bd hk110
          have P110 := D110.1
          obtain ⟨qg110, mg110, Lg110⟩ := D110.hd
          refine zr_iconst (v := zB false) zi178_113 rfl ?_
          refine zr_zreturnB zi178_114 rfl ?_
          subst q70
          exact K _ _ _ _ _ (Or.inr (Or.inr ⟨rfl, ⟨k, w, hh, X, cl, mi, sp, KS, ⟨b, r, g, e, hk⟩, rfl, c, hc, rfl, q49, l85, px85, Or.inr ⟨q88, rfl, ⟨b, r, g, e, (by first | rfl | (rw [List.set_set] <;> rfl) | (rw [List.set_set, List.set_set] <;> rfl))⟩⟩⟩⟩)) (((((((rNx.refl C).trans N2).trans N80).trans (rNx.new C80 F85)).trans N99).trans N110).fit (by omega) (by omega)) C110
        · refine zr_iconst (v := zB true) zi178_91 rfl ?_
          refine zr_zreturnB zi178_92 rfl ?_
          subst q70
          exact K _ _ _ _ _ (Or.inr (Or.inr ⟨rfl, ⟨k, w, hh, X, cl, mi, sp, KS, ⟨b, r, g, e, hk⟩, rfl, c, hc, rfl, q49, l85, px85, Or.inl ⟨q88, rfl, ⟨b, r, g, e, (by first | rfl | (rw [List.set_set] <;> rfl) | (rw [List.set_set, List.set_set] <;> rfl))⟩⟩⟩⟩)) (((((rNx.refl C).trans N2).trans N80).trans (rNx.new C80 F85)).fit (by omega) (by omega)) C85
    · refine zr_aload_n zi178_52 rfl ?_
      refine zr_iconst (v := zJ 2) zi178_53 rfl ?_
      refine zr_virtual zi178_54 rfl rfl (C2.1.at0 rfl) rfl rfl ?_
      refine zcall_dep (d := 0) (Nat.le_of_ble_eq_true rfl) (c152 C2 (fun h54 N54 C54 e54 => zbk_v ?_))
      obtain ⟨qM54, mM54, GM54⟩ := C54.hd
      refine zr_if_leN zi178_57 rfl (by omega) (fun q57 => ?_) (fun q57 => absurd q57 (by omega))
      refine zr_iconst (v := zB false) zi178_64 rfl ?_
      refine zr_zreturnB zi178_65 rfl ?_
      exact K _ _ _ _ _ (Or.inr (Or.inl ⟨⟨rfl, rfl⟩, ⟨k, w, hh, X, cl, mi, sp, KS, ⟨b, r, g, e, hk⟩, rfl, c, hc, rfl, q49⟩⟩)) ((((rNx.refl C).trans N2).trans N54).fit (by omega) (by omega)) C54
  · refine zr_aload_n zi178_14 rfl ?_
    refine zr_iconst (v := zJ 1) zi178_15 rfl ?_
    refine zr_virtual zi178_16 rfl rfl (C2.1.at0 rfl) rfl rfl ?_
    refine zcall_dep (d := 0) (Nat.le_of_ble_eq_true rfl) (c152 C2 (fun h16 N16 C16 e16 => zbk_v ?_))
    obtain ⟨qM16, mM16, GM16⟩ := C16.hd
    refine zr_if_leN zi178_19 rfl (by omega) (fun q19 => ?_) (fun q19 => absurd q19 (by omega))
    refine zr_iconst (v := zB false) zi178_26 rfl ?_
    refine zr_zreturnB zi178_27 rfl ?_
    exact K _ _ _ _ _ (Or.inl ⟨⟨rfl, rfl⟩, (fun k w hh X cl mi sp KS ⟨b, r, g, e, hk⟩ ex hz => absurd (Y8.mpr ⟨k, b, r, g, e, w, hh, X, cl, mi, sp, KS, ex, hk, hz⟩) (by rw [q11]; decide))⟩) ((((rNx.refl C).trans N2).trans N16).fit (by omega) (by omega)) C16
theorem c186 {E : zEnv} {h : zPH} {Q : zOut → zPH → Prop} {m le : Nat} {n0 n2 : Int32} {B : List rBS} (C : rC h E m le n0 n2 B) {x : Int32} (K : ∀ h1 v n0 le1 B1, (ms186 B x n0 v B1) → rNx h h1 E m n2 n2 le B le1 B1 0 0 → rC h1 E m le1 n0 n2 B1 → Q (.inl (some (.int v))) h1) : zcall E 5 186 [.ref m, .int x] h Q := by
  show zwp E _ 186 (0, [some (.ref _), some (.int _)], [], _) Q
  obtain ⟨qM0, mM0, GM0⟩ := C.hd
  refine zr_aload_n zi186_0 rfl ?_
  refine zr_iconst (v := zJ 0) zi186_1 rfl ?_
  refine zr_putfield zi186_2 (C.1.at0 rfl) rfl rfl ?_
  refine rC.wm (E := E) C (fun h2 N2 C2 e2 => ?_)
  obtain ⟨qM2, mM2, GM2⟩ := C2.hd
  refine zr_aload_n zi186_5 rfl ?_
  refine zr_iload_n zi186_6 rfl ?_
  refine zr_virtual zi186_7 rfl rfl (C2.1.at0 rfl) rfl rfl ?_
  refine zcall_dep (d := 1) (Nat.le_of_ble_eq_true rfl) (c163 C2 (fun y7 Y7 => zbk_v ?_))
  refine zr_if_neB zi186_10 rfl (fun q10 => ?_) (fun q10 => ?_)
  · obtain ⟨k, rfl, b, r, g, e, w, hh, X, cl, mi, sp, KS, hk⟩ := rC.at (Y7.mp q10)
    obtain ⟨⟨gw1, gw2, gh1, gh2⟩, ⟨l0, l1, l2, l3, lcl⟩, d1, d2, d3⟩ := (C2.bd hk).1.2.2.2
    have hwh := zwh_b (w := w) (hh := hh) ⟨gw1, gw2, gh1, gh2⟩
    have hkl := C2.2.2.1
    have hKS := (C2.bd hk).2.2.2.1
    have hki : k < B.length := by
      rcases Nat.lt_or_ge k B.length with z | z
      · exact z
      · rw [List.getElem?_eq_none z] at hk; cases hk
    refine zr_aload_n zi186_19 rfl ?_
    refine zr_getfield zi186_20 (C2.1.at0 rfl) rfl ?_
    refine zr_iload_n zi186_23 rfl ?_
    refine zr_iface zi186_24 rfl (GM2.at0 rfl) rfl rfl ?_
    refine zcall_dep (d := 2) (Nat.le_of_ble_eq_true rfl) (c164M C2 hk (zbk_v ?_))
    have D24 := C2.bd hk
    have P24 := D24.1
    obtain ⟨qg24, mg24, Lg24⟩ := D24.hd
    refine zr_checkcast zi186_29 (P24.1.at0 rfl) rfl ?_
    refine zr_dup zi186_32 rfl ?_
    refine zr_getfield zi186_33 (P24.1.at0 rfl) rfl ?_
    refine zr_iconst (v := zJ 1) zi186_36 rfl ?_
    refine zr_iadd zi186_37 ?_
    refine zr_putfield zi186_38 (P24.1.at0 rfl) rfl rfl ?_
    refine rB.wob P24 (fun h38 F38 Q38 => ?_)
    obtain ⟨C38, N38, hk38⟩ := rC.go C2 hk F38 (fun x z => Or.inl (Or.inl z)) Q38 rfl
    obtain ⟨qM38, mM38, GM38⟩ := C38.hd
    have D38 := C38.bd hk38
    have P38 := D38.1
    obtain ⟨qg38, mg38, Lg38⟩ := D38.hd
    refine zr_aload_n zi186_41 rfl ?_
    refine zr_getfield zi186_42 (C38.1.at0 rfl) rfl ?_
    refine zr_iload_n zi186_45 rfl ?_
    refine zr_iface zi186_46 rfl (GM38.at0 rfl) rfl rfl ?_
    refine zcall_dep (d := 2) (Nat.le_of_ble_eq_true rfl) (c164M C38 hk38 (zbk_v ?_))
    have D46 := C38.bd hk38
    have P46 := D46.1
    obtain ⟨qg46, mg46, Lg46⟩ := D46.hd
    refine zr_checkcast zi186_51 (P46.1.at0 rfl) rfl ?_
    refine zr_virtual zi186_54 rfl rfl (P46.1.at0 rfl) rfl rfl ?_
    refine zcall_dep (d := 4) (Nat.le_of_ble_eq_true rfl) (c187 P46 Lg46 D46.gr (fun h54 F54 Q54 => zbk_v ?_))
    obtain ⟨C54, N54, hk54⟩ := rC.go C38 hk38 F54 (fun x z => Or.inl (Or.inr (Or.inl z))) Q54 rfl
    obtain ⟨qM54, mM54, GM54⟩ := C54.hd
    have D54 := C54.bd hk54
    have P54 := D54.1
    obtain ⟨qg54, mg54, Lg54⟩ := D54.hd
    refine zr_ireturn zi186_57 rfl ?_
    exact K _ _ _ _ _ (Or.inr ⟨rfl, ⟨k, w, hh, X, cl, mi, sp, KS, ⟨b, r, g, e, hk⟩, rfl, rfl, ⟨b, r, g, e, (by first | rfl | (rw [List.set_set] <;> rfl) | (rw [List.set_set, List.set_set] <;> rfl))⟩⟩⟩) (((((rNx.refl C).trans N2).trans N38).trans N54).fit (by omega) (by omega)) C54
  · refine zr_aload_n zi186_13 rfl ?_
    refine zr_iconst (v := zJ 1) zi186_14 rfl ?_
    refine zr_virtual zi186_15 rfl rfl (C2.1.at0 rfl) rfl rfl ?_
    refine zcall_dep (d := 0) (Nat.le_of_ble_eq_true rfl) (c152 C2 (fun h15 N15 C15 e15 => zbk_v ?_))
    obtain ⟨qM15, mM15, GM15⟩ := C15.hd
    refine zr_ireturn zi186_18 rfl ?_
    exact K _ _ _ _ _ (Or.inl ⟨⟨rfl, rfl⟩, (fun hz => absurd (Y7.mpr hz) (by rw [q10]; decide))⟩) ((((rNx.refl C).trans N2).trans N15).fit (by omega) (by omega)) C15
theorem c197w {E : zEnv} {h : zPH} {Q : zOut → zPH → Prop} (S : ySs E h) {b r c g w hh : Nat} {x0 x1 x2 x3 cl : List Int32} {mi sp : Int32} (P : rB h b r c g w hh x0 x1 x2 x3 cl mi sp) {t : Nat} (ht : t < 3) (K : ∀ h1, yFr (fun x => h.2.1 ≤ x ∨ rP b r c x) h h1 13 228 → rB h1 b r c g (ynw w hh t) (ynh w hh t) (rTk t w hh (x0, x1, x2, x3) (x0, x1, x2, x3) (w * hh)).1 (rTk t w hh (x0, x1, x2, x3) (x0, x1, x2, x3) (w * hh)).2.1 (rTk t w hh (x0, x1, x2, x3) (x0, x1, x2, x3) (w * hh)).2.2.1 (rTk t w hh (x0, x1, x2, x3) (x0, x1, x2, x3) (w * hh)).2.2.2 (rTl t w hh cl cl (w + hh)) mi sp → ynw w hh t * ynh w hh t = w * hh → Q (.inl none) h1) : zcall E 5 197 [.ref b, .int (zJ t)] h Q := by
  obtain ⟨⟨gw1, gw2, gh1, gh2⟩, -⟩ := P.2.2.2
  have hs := rsl_le (w := w) (hh := hh) ⟨gw2, gh2⟩
  match t, ht with
  | 0, _ => exact c197_0 S P (fun h1 F n R => K h1 (F.fit (Nat.le_refl _) hs) R rfl)
  | 1, _ => exact c197_1 S P (fun h1 F n R => K h1 (F.fit (Nat.le_refl _) hs) R rfl)
  | 2, _ => exact c197_2 S P (fun h1 F n R => K h1 (F.fit (Nat.le_refl _) hs) R (Nat.mul_comm _ _))
theorem c196 {E : zEnv} {h : zPH} {Q : zOut → zPH → Prop} {m le : Nat} {n0 n2 : Int32} {B : List rBS} (C : rC h E m le n0 n2 B) (S : ySs E h) {x y : Int32} (K : ∀ h1 v n0 le1 B1, (ms196 B x y n0 v B1) → rNx h h1 E m n2 n2 le B le1 B1 13 228 → rC h1 E m le1 n0 n2 B1 → Q (.inl (some (.int v))) h1) : zcall E 6 196 [.ref m, .int x, .int y] h Q := by
  show zwp E _ 196 (0, [some (.ref _), some (.int _), some (.int _), none], [], _) Q
  obtain ⟨qM0, mM0, GM0⟩ := C.hd
  refine zr_aload_n zi196_0 rfl ?_
  refine zr_iconst (v := zJ 0) zi196_1 rfl ?_
  refine zr_putfield zi196_2 (C.1.at0 rfl) rfl rfl ?_
  refine rC.wm (E := E) C (fun h2 N2 C2 e2 => ?_)
  obtain ⟨qM2, mM2, GM2⟩ := C2.hd
  refine zr_aload_n zi196_5 rfl ?_
  refine zr_iload_n zi196_6 rfl ?_
  refine zr_virtual zi196_7 rfl rfl (C2.1.at0 rfl) rfl rfl ?_
  refine zcall_dep (d := 1) (Nat.le_of_ble_eq_true rfl) (c163 C2 (fun y7 Y7 => zbk_v ?_))
  refine zr_if_neB zi196_10 rfl (fun q10 => ?_) (fun q10 => ?_)
  · obtain ⟨k, rfl, b, r, g, e, w, hh, X, cl, mi, sp, KS, hk⟩ := rC.at (Y7.mp q10)
    obtain ⟨⟨gw1, gw2, gh1, gh2⟩, ⟨l0, l1, l2, l3, lcl⟩, d1, d2, d3⟩ := (C2.bd hk).1.2.2.2
    have hwh := zwh_b (w := w) (hh := hh) ⟨gw1, gw2, gh1, gh2⟩
    have hkl := C2.2.2.1
    have hKS := (C2.bd hk).2.2.2.1
    have hki : k < B.length := by
      rcases Nat.lt_or_ge k B.length with z | z
      · exact z
      · rw [List.getElem?_eq_none z] at hk; cases hk
    refine zr_iload_n zi196_19 rfl ?_
    refine zr_iconst (v := zJ 0) zi196_20 rfl ?_
    refine zr_iconst (v := zJ 2) zi196_21 rfl ?_
    refine zr_static zi196_22 rfl rfl rfl rfl ?_
    refine zcall_dep (d := 0) (Nat.le_of_ble_eq_true rfl) (c151 (fun y22 Y22 => zbk_v ?_))
    refine zr_if_neB zi196_25 rfl (fun q25 => ?_) (fun q25 => ?_)
    · obtain ⟨t, ht, rfl⟩ := (zin_le (by omega)).mp (Y22.mp q25)
      refine zr_aload_n zi196_34 rfl ?_
      refine zr_getfield zi196_35 (C2.1.at0 rfl) rfl ?_
      refine zr_iload_n zi196_38 rfl ?_
      refine zr_iface zi196_39 rfl (GM2.at0 rfl) rfl rfl ?_
      refine zcall_dep (d := 2) (Nat.le_of_ble_eq_true rfl) (c164M C2 hk (zbk_v ?_))
      have D39 := C2.bd hk
      have P39 := D39.1
      obtain ⟨qg39, mg39, Lg39⟩ := D39.hd
      refine zr_checkcast zi196_44 (P39.1.at0 rfl) rfl ?_
      refine zr_astore_n (L' := [some (.ref _), some (.int (zJ _)), some (.int (zJ _)), some (.ref _)]) zi196_47 rfl rfl ?_
      refine zr_aload_n zi196_48 rfl ?_
      refine zr_getfield zi196_49 (P39.1.at0 rfl) rfl ?_
      refine zr_iface zi196_52 rfl (Lg39.at0 rfl) rfl rfl ?_
      refine zcall_dep (d := 0) (Nat.le_of_ble_eq_true rfl) (c153 Lg39 (zbk_v ?_))
      refine zr_if_leN zi196_57 rfl (by omega) (fun q57 => ?_) (fun q57 => ?_)
      · refine zr_aload_n zi196_66 rfl ?_
        refine zr_iload_n zi196_67 rfl ?_
        refine zr_virtual zi196_68 rfl rfl (P39.1.at0 rfl) rfl rfl ?_
        refine zcall_dep (d := 5) (Nat.le_of_ble_eq_true rfl) (c197w (N2.1.ss S) P39 ht (fun h68 F68 Q68 ew => zbk_0 ?_))
        obtain ⟨C68, N68, hk68⟩ := rC.go C2 hk F68 (fun x z => z.symm) Q68 ew
        obtain ⟨qM68, mM68, GM68⟩ := C68.hd
        have D68 := C68.bd hk68
        have P68 := D68.1
        obtain ⟨qg68, mg68, Lg68⟩ := D68.hd
        refine zr_aload_n zi196_71 rfl ?_
        refine zr_getfield zi196_72 (P68.1.at0 rfl) rfl ?_
        refine zr_ireturn zi196_75 rfl ?_
        exact K _ _ _ _ _ (Or.inr (Or.inr (Or.inr ⟨rfl, ⟨k, w, hh, X, cl, mi, sp, KS, ⟨b, r, g, e, hk⟩, rfl, t, ht, rfl, (by omega), rfl, ⟨b, r, g, e, (by first | rfl | (rw [List.set_set] <;> rfl) | (rw [List.set_set, List.set_set] <;> rfl))⟩⟩⟩))) ((((rNx.refl C).trans N2).trans N68).fit (by omega) (by omega)) C68
      · refine zr_aload_n zi196_60 rfl ?_
        refine zr_iconst (v := zJ 3) zi196_61 rfl ?_
        refine zr_virtual zi196_62 rfl rfl (C2.1.at0 rfl) rfl rfl ?_
        refine zcall_dep (d := 0) (Nat.le_of_ble_eq_true rfl) (c152 C2 (fun h62 N62 C62 e62 => zbk_v ?_))
        obtain ⟨qM62, mM62, GM62⟩ := C62.hd
        refine zr_ireturn zi196_65 rfl ?_
        exact K _ _ _ _ _ (Or.inr (Or.inr (Or.inl ⟨⟨rfl, rfl⟩, ⟨t, ht, rfl⟩, ⟨k, w, hh, X, cl, mi, sp, KS, ⟨b, r, g, e, hk⟩, rfl, (by omega)⟩⟩))) ((((rNx.refl C).trans N2).trans N62).fit (by omega) (by omega)) C62
    · refine zr_aload_n zi196_28 rfl ?_
      refine zr_iconst (v := zJ 2) zi196_29 rfl ?_
      refine zr_virtual zi196_30 rfl rfl (C2.1.at0 rfl) rfl rfl ?_
      refine zcall_dep (d := 0) (Nat.le_of_ble_eq_true rfl) (c152 C2 (fun h30 N30 C30 e30 => zbk_v ?_))
      obtain ⟨qM30, mM30, GM30⟩ := C30.hd
      refine zr_ireturn zi196_33 rfl ?_
      exact K _ _ _ _ _ (Or.inr (Or.inl ⟨⟨rfl, rfl⟩, Y7.mp q10, fun hz => absurd (Y22.mpr ((zin_le (by omega)).mpr hz)) (by rw [q25]; decide)⟩)) ((((rNx.refl C).trans N2).trans N30).fit (by omega) (by omega)) C30
  · refine zr_aload_n zi196_13 rfl ?_
    refine zr_iconst (v := zJ 1) zi196_14 rfl ?_
    refine zr_virtual zi196_15 rfl rfl (C2.1.at0 rfl) rfl rfl ?_
    refine zcall_dep (d := 0) (Nat.le_of_ble_eq_true rfl) (c152 C2 (fun h15 N15 C15 e15 => zbk_v ?_))
    obtain ⟨qM15, mM15, GM15⟩ := C15.hd
    refine zr_ireturn zi196_18 rfl ?_
    exact K _ _ _ _ _ (Or.inl ⟨⟨rfl, rfl⟩, (fun hz => absurd (Y7.mpr hz) (by rw [q10]; decide))⟩) ((((rNx.refl C).trans N2).trans N15).fit (by omega) (by omega)) C15
theorem c201 {E : zEnv} {h : zPH} {Q : zOut → zPH → Prop} {m le : Nat} {n0 n2 : Int32} {B : List rBS} (C : rC h E m le n0 n2 B) {x y z : Int32} (K : ∀ h1 v n0 le1 B1, (ms201 B x y z n0 v B1) → rNx h h1 E m n2 n2 le B le1 B1 0 0 → rC h1 E m le1 n0 n2 B1 → Q (.inl (some (.int v))) h1) : zcall E 3 201 [.ref m, .int x, .int y, .int z] h Q := by
  show zwp E _ 201 (0, [some (.ref _), some (.int _), some (.int _), some (.int _), none, none], [], _) Q
  obtain ⟨qM0, mM0, GM0⟩ := C.hd
  refine zr_aload_n zi201_0 rfl ?_
  refine zr_iconst (v := zJ 0) zi201_1 rfl ?_
  refine zr_putfield zi201_2 (C.1.at0 rfl) rfl rfl ?_
  refine rC.wm (E := E) C (fun h2 N2 C2 e2 => ?_)
  obtain ⟨qM2, mM2, GM2⟩ := C2.hd
  refine zr_aload_n zi201_5 rfl ?_
  refine zr_iload_n zi201_6 rfl ?_
  refine zr_virtual zi201_7 rfl rfl (C2.1.at0 rfl) rfl rfl ?_
  refine zcall_dep (d := 1) (Nat.le_of_ble_eq_true rfl) (c163 C2 (fun y7 Y7 => zbk_v ?_))
  refine zr_if_eqB zi201_10 rfl (fun q10 => ?_) (fun q10 => ?_)
  · refine zr_aload_n zi201_39 rfl ?_
    refine zr_iconst (v := zJ 1) zi201_40 rfl ?_
    refine zr_virtual zi201_41 rfl rfl (C2.1.at0 rfl) rfl rfl ?_
    refine zcall_dep (d := 0) (Nat.le_of_ble_eq_true rfl) (c152 C2 (fun h41 N41 C41 e41 => zbk_v ?_))
    obtain ⟨qM41, mM41, GM41⟩ := C41.hd
    refine zr_ireturn zi201_44 rfl ?_
    first
      | exact K _ _ _ _ _ (Or.inl ⟨⟨rfl, rfl⟩, fun k w hh X cl mi sp KS ⟨b, r, g, e, hk⟩ ex hz => absurd (Y7.mpr ⟨k, rlt_of hk, ex⟩) (by rw [q10]; decide)⟩) ((((rNx.refl C).trans N2).trans N41).fit (by omega) (by omega)) C41
      | exact K _ _ _ _ _ (Or.inl ⟨⟨rfl, rfl⟩, fun k2 w2 hh2 X2 cl2 mi2 sp2 KS2 ⟨b2, r2, g2, e2, hk2⟩ ex2 hz => by
          have e3 := rk_eq hk hk2 ex2 (by omega)
          cases e3
          exact absurd (Y33.mpr ((zin_rng (by omega)).mpr hz)) (by rw [q36]; decide)⟩) ((((rNx.refl C).trans N2).trans N41).fit (by omega) (by omega)) C41
  · obtain ⟨k, rfl, b, r, g, e, w, hh, X, cl, mi, sp, KS, hk⟩ := rC.at (Y7.mp q10)
    obtain ⟨⟨gw1, gw2, gh1, gh2⟩, ⟨l0, l1, l2, l3, lcl⟩, d1, d2, d3⟩ := (C2.bd hk).1.2.2.2
    have hwh := zwh_b (w := w) (hh := hh) ⟨gw1, gw2, gh1, gh2⟩
    have hkl := C2.2.2.1
    have hKS := (C2.bd hk).2.2.2.1
    have hki : k < B.length := by
      rcases Nat.lt_or_ge k B.length with z | z
      · exact z
      · rw [List.getElem?_eq_none z] at hk; cases hk
    refine zr_iload_n zi201_13 rfl ?_
    refine zr_iconst (v := zJ 0) zi201_14 rfl ?_
    refine zr_aload_n zi201_15 rfl ?_
    refine zr_getfield zi201_16 (C2.1.at0 rfl) rfl ?_
    refine zr_iload_n zi201_19 rfl ?_
    refine zr_iface zi201_20 rfl (GM2.at0 rfl) rfl rfl ?_
    refine zcall_dep (d := 2) (Nat.le_of_ble_eq_true rfl) (c164M C2 hk (zbk_v ?_))
    have D20 := C2.bd hk
    have P20 := D20.1
    obtain ⟨qg20, mg20, Lg20⟩ := D20.hd
    refine zr_checkcast zi201_25 (P20.1.at0 rfl) rfl ?_
    refine zr_getfield zi201_28 (P20.1.at0 rfl) rfl ?_
    refine zr_iconst (v := zJ 1) zi201_31 rfl ?_
    refine zr_isub zi201_32 ?_
    refine zr_static zi201_33 rfl rfl rfl rfl ?_
    refine zcall_dep (d := 0) (Nat.le_of_ble_eq_true rfl) (c151 (fun y33 Y33 => zbk_v ?_))
    refine zr_if_neB zi201_36 rfl (fun q36 => ?_) (fun q36 => ?_)
    · obtain ⟨ro, hro, rfl⟩ := (zin_rng (by omega)).mp (Y33.mp q36)
      refine zr_aload_n zi201_45 rfl ?_
      refine zr_getfield zi201_46 (C2.1.at0 rfl) rfl ?_
      refine zr_iload_n zi201_49 rfl ?_
      refine zr_iface zi201_50 rfl (GM2.at0 rfl) rfl rfl ?_
      refine zcall_dep (d := 2) (Nat.le_of_ble_eq_true rfl) (c164M C2 hk (zbk_v ?_))
      have D50 := C2.bd hk
      have P50 := D50.1
      obtain ⟨qg50, mg50, Lg50⟩ := D50.hd
      refine zr_checkcast zi201_55 (P50.1.at0 rfl) rfl ?_
      refine zr_astore (L' := [some (.ref _), some (.int (zJ _)), some (.int (zJ _)), some (.int _), some (.ref _), none]) zi201_58 rfl rfl ?_
      refine zr_iload_n zi201_60 rfl ?_
      refine zr_iconst (v := zJ 0) zi201_61 rfl ?_
      refine zr_iconst (v := zJ 1) zi201_62 rfl ?_
      refine zr_aload zi201_63 rfl ?_
      refine zr_getfield zi201_65 (P50.1.at0 rfl) rfl ?_
      refine zr_ishlN zi201_68 (by omega) ?_
      refine zr_iconst (v := zJ 1) zi201_69 rfl ?_
      refine zr_isub zi201_70 ?_
      refine zr_static zi201_71 rfl rfl rfl rfl ?_
      refine zcall_dep (d := 0) (Nat.le_of_ble_eq_true rfl) (c151 (fun y71 Y71 => zbk_v ?_))
      refine zr_if_neB zi201_74 rfl (fun q74 => ?_) (fun q74 => ?_)
      · refine zr_aload zi201_83 rfl ?_
        refine zr_getfield zi201_85 (P50.1.at0 rfl) rfl ?_
        refine zr_iface zi201_88 rfl (Lg50.at0 rfl) rfl rfl ?_
        refine zcall_dep (d := 0) (Nat.le_of_ble_eq_true rfl) (c153 Lg50 (zbk_v ?_))
        refine zr_if_leN zi201_93 rfl (by omega) (fun q93 => ?_) (fun q93 => ?_)
        · refine zr_iconst (v := zJ 0) zi201_102 rfl ?_
          refine zr_istore (L' := [some (.ref _), some (.int (zJ _)), some (.int (zJ _)), some (.int _), some (.ref _), some (.int (zJ _))]) zi201_103 rfl rfl ?_
          have hsl := rset_self hk
          suffices key105 : ∀ h3 B1, (rNx h h3 E m n2 n2 le B le B1 0 0) → (rC h3 E m le (zJ 0) n2 B1) → (B1[k]? = some (b, r, g, e, (w, hh), (rpt w hh ro z KS.length X (0)), cl, (mi, sp), KS)) → (B1 = B.set k (b, r, g, e, (w, hh), (rpt w hh ro z KS.length X (0)), cl, (mi, sp), KS)) → zwp E 3 201 (105, [some (.ref m), some (.int (zJ k)), some (.int (zJ ro)), some (.int z), some (.ref b), some (.int (zJ 0))], [], h3) Q from key105 _ _ ((rNx.refl C).trans N2) C2 hk hsl.symm
          refine zloop (P := fun u => ∀ h3 B1, (rNx h h3 E m n2 n2 le B le B1 0 0) → (rC h3 E m le (zJ 0) n2 B1) → (B1[k]? = some (b, r, g, e, (w, hh), (rpt w hh ro z KS.length X (u)), cl, (mi, sp), KS)) → (B1 = B.set k (b, r, g, e, (w, hh), (rpt w hh ro z KS.length X (u)), cl, (mi, sp), KS)) → zwp E 3 201 (105, [some (.ref m), some (.int (zJ k)), some (.int (zJ ro)), some (.int z), some (.ref b), some (.int (zJ u))], [], h3) Q) (n := w) fun u hk105 ih105 => ?_
          intro h3 B1 N3 C3 hk3 hB3
          obtain ⟨qM3, mM3, GM3⟩ := C3.hd
          have D3 := C3.bd hk3
          have P3 := D3.1
          obtain ⟨qg3, mg3, Lg3⟩ := D3.hd
          skip
          refine zr_iload zi201_105 rfl ?_
          refine zr_aload zi201_107 rfl ?_
          refine zr_getfield zi201_109 (P3.1.at0 rfl) rfl ?_
          refine zr_icmp_geN zi201_112 rfl (by omega) (by omega) (fun q112 => ?_) (fun q112 => ?_)
          · refine zr_aload zi201_150 rfl ?_
            refine zr_iconst (v := zJ 1) zi201_152 rfl ?_
            refine zr_virtual zi201_153 rfl rfl (P3.1.at0 rfl) rfl rfl ?_
            refine zcall_dep (d := 0) (Nat.le_of_ble_eq_true rfl) (c202 P3 (zbk_v ?_))
            refine zr_ireturn zi201_156 rfl ?_
            obtain rfl : w = u := by omega
            exact K _ _ _ _ _ (Or.inr (Or.inr (Or.inr ⟨rfl, ⟨k, w, hh, X, cl, mi, sp, KS, ⟨b, r, g, e, hk⟩, rfl, ro, hro, rfl, ((zin_rng (by have := zpow5 gw2; omega)).mp (by first | exact Y71.mp q74 | (have h71 := Y71.mp q74; rw [Nat.one_mul] at h71; exact h71))), (by omega), rfl, ⟨b, r, g, e, hB3⟩⟩⟩))) (N3.fit (by omega) (by omega)) C3
          · have hc := ycl_b (w := w) (hh := hh) (i := ro) (p := u) (by omega) (by rw [yln, if_pos hro]; exact q112)
            refine zr_aload zi201_115 rfl ?_
            refine zr_aload zi201_117 rfl ?_
            refine zr_iload_n zi201_119 rfl ?_
            refine zr_iload zi201_120 rfl ?_
            refine zr_virtual zi201_122 rfl rfl (P3.1.at0 rfl) rfl rfl ?_
            refine zcall_dep (d := 0) (Nat.le_of_ble_eq_true rfl) (c173 P3 (by omega) (by omega) (zbk_v ?_))
            refine zr_iload_n zi201_125 rfl ?_
            refine zr_iload zi201_126 rfl ?_
            refine zr_static zi201_128 rfl rfl rfl rfl ?_
            refine zcall_dep (d := 0) (Nat.le_of_ble_eq_true rfl) (c175 (by omega) (zbk_v ?_))
            refine zr_if_eqB zi201_131 rfl (fun q131 => ?_) (fun q131 => ?_)
            · refine zr_iconst (v := zJ 2) zi201_138 rfl ?_
              refine zr_iconst (v := (-1)) zi201_139 rfl ?_
              refine zr_iconst (v := zJ 0) zi201_140 rfl ?_
              refine zr_virtual zi201_141 rfl rfl (P3.1.at0 rfl) rfl rfl ?_
              refine zcall_dep (d := 1) (Nat.le_of_ble_eq_true rfl) (c180 P3 Lg3 D3.gr (by omega) (fun h141 F141 Q141 => zbk_0 ?_))
              obtain ⟨C141, N141, hk141⟩ := rC.go C3 hk3 F141 (fun x z => Or.inl (Or.inr (Or.inl z))) Q141 rfl
              obtain ⟨qM141, mM141, GM141⟩ := C141.hd
              have D141 := C141.bd hk141
              have P141 := D141.1
              obtain ⟨qg141, mg141, Lg141⟩ := D141.hd
              refine zr_iincN (z := 1) (L' := [some (.ref _), some (.int (zJ _)), some (.int (zJ _)), some (.int _), some (.ref _), some (.int (zJ _))]) zi201_144 rfl rfl rfl rfl ?_
              refine zr_goto zi201_147 rfl ?_
              have en := ih105 (by omega)
              rw [rpt, mdk] at en
              first | rw [if_pos q131] at en | rw [if_neg (by rw [q131]; decide)] at en
              exact en _ _ ((N3.trans N141).fit (by omega) (by omega)) C141 hk141 (by rw [hB3]; exact List.set_set ..)
            · refine zr_iconst (v := zJ 1) zi201_134 rfl ?_
              refine zr_goto zi201_135 rfl ?_
              refine zr_iconst (v := (-1)) zi201_139 rfl ?_
              refine zr_iconst (v := zJ 0) zi201_140 rfl ?_
              refine zr_virtual zi201_141 rfl rfl (P3.1.at0 rfl) rfl rfl ?_
              refine zcall_dep (d := 1) (Nat.le_of_ble_eq_true rfl) (c180 P3 Lg3 D3.gr (by omega) (fun h141 F141 Q141 => zbk_0 ?_))
              obtain ⟨C141, N141, hk141⟩ := rC.go C3 hk3 F141 (fun x z => Or.inl (Or.inr (Or.inl z))) Q141 rfl
              obtain ⟨qM141, mM141, GM141⟩ := C141.hd
              have D141 := C141.bd hk141
              have P141 := D141.1
              obtain ⟨qg141, mg141, Lg141⟩ := D141.hd
              refine zr_iincN (z := 1) (L' := [some (.ref _), some (.int (zJ _)), some (.int (zJ _)), some (.int _), some (.ref _), some (.int (zJ _))]) zi201_144 rfl rfl rfl rfl ?_
              refine zr_goto zi201_147 rfl ?_
              have en := ih105 (by omega)
              rw [rpt, mdk] at en
              first | rw [if_pos q131] at en | rw [if_neg (by rw [q131]; decide)] at en
              exact en _ _ ((N3.trans N141).fit (by omega) (by omega)) C141 hk141 (by rw [hB3]; exact List.set_set ..)
        · refine zr_aload_n zi201_96 rfl ?_
          refine zr_iconst (v := zJ 3) zi201_97 rfl ?_
          refine zr_virtual zi201_98 rfl rfl (C2.1.at0 rfl) rfl rfl ?_
          refine zcall_dep (d := 0) (Nat.le_of_ble_eq_true rfl) (c152 C2 (fun h98 N98 C98 e98 => zbk_v ?_))
          obtain ⟨qM98, mM98, GM98⟩ := C98.hd
          refine zr_ireturn zi201_101 rfl ?_
          exact K _ _ _ _ _ (Or.inr (Or.inr (Or.inl ⟨⟨rfl, rfl⟩, ⟨k, w, hh, X, cl, mi, sp, KS, ⟨b, r, g, e, hk⟩, rfl, ⟨ro, hro, rfl⟩, ((zin_rng (by have := zpow5 gw2; omega)).mp (by first | exact Y71.mp q74 | (have h71 := Y71.mp q74; rw [Nat.one_mul] at h71; exact h71))), (by omega)⟩⟩))) ((((rNx.refl C).trans N2).trans N98).fit (by omega) (by omega)) C98
      · refine zr_aload_n zi201_77 rfl ?_
        refine zr_iconst (v := zJ 2) zi201_78 rfl ?_
        refine zr_virtual zi201_79 rfl rfl (C2.1.at0 rfl) rfl rfl ?_
        refine zcall_dep (d := 0) (Nat.le_of_ble_eq_true rfl) (c152 C2 (fun h79 N79 C79 e79 => zbk_v ?_))
        obtain ⟨qM79, mM79, GM79⟩ := C79.hd
        refine zr_ireturn zi201_82 rfl ?_
        exact K _ _ _ _ _ (Or.inr (Or.inl ⟨⟨rfl, rfl⟩, ⟨k, w, hh, X, cl, mi, sp, KS, ⟨b, r, g, e, hk⟩, rfl, ⟨ro, hro, rfl⟩, fun hz => absurd (Y71.mpr (by have h71 := (zin_rng (by have := zpow5 gw2; omega)).mpr hz; first | exact h71 | (rw [Nat.one_mul]; exact h71))) (by rw [q74]; decide)⟩⟩)) ((((rNx.refl C).trans N2).trans N79).fit (by omega) (by omega)) C79
    · refine zr_aload_n zi201_39 rfl ?_
      refine zr_iconst (v := zJ 1) zi201_40 rfl ?_
      refine zr_virtual zi201_41 rfl rfl (C2.1.at0 rfl) rfl rfl ?_
      refine zcall_dep (d := 0) (Nat.le_of_ble_eq_true rfl) (c152 C2 (fun h41 N41 C41 e41 => zbk_v ?_))
      obtain ⟨qM41, mM41, GM41⟩ := C41.hd
      refine zr_ireturn zi201_44 rfl ?_
      first
        | exact K _ _ _ _ _ (Or.inl ⟨⟨rfl, rfl⟩, fun k w hh X cl mi sp KS ⟨b, r, g, e, hk⟩ ex hz => absurd (Y7.mpr ⟨k, rlt_of hk, ex⟩) (by rw [q10]; decide)⟩) ((((rNx.refl C).trans N2).trans N41).fit (by omega) (by omega)) C41
        | exact K _ _ _ _ _ (Or.inl ⟨⟨rfl, rfl⟩, fun k2 w2 hh2 X2 cl2 mi2 sp2 KS2 ⟨b2, r2, g2, e2, hk2⟩ ex2 hz => by
            have e3 := rk_eq hk hk2 ex2 (by omega)
            cases e3
            exact absurd (Y33.mpr ((zin_rng (by omega)).mpr hz)) (by rw [q36]; decide)⟩) ((((rNx.refl C).trans N2).trans N41).fit (by omega) (by omega)) C41
theorem c203 {E : zEnv} {h : zPH} {Q : zOut → zPH → Prop} {m le : Nat} {n0 n2 : Int32} {B : List rBS} (C : rC h E m le n0 n2 B) {x : Int32} (K : ∀ h1 v n0 le1 B1, (ms203 B x n0 v B1) → rNx h h1 E m n2 n2 le B le1 B1 5 104 → rC h1 E m le1 n0 n2 B1 → Q (.inl (some (.int v))) h1) : zcall E 3 203 [.ref m, .int x] h Q := by
  show zwp E _ 203 (0, [some (.ref _), some (.int _), none, none, none, none, none], [], _) Q
  obtain ⟨qM0, mM0, GM0⟩ := C.hd
  refine zr_aload_n zi203_0 rfl ?_
  refine zr_iconst (v := zJ 0) zi203_1 rfl ?_
  refine zr_putfield zi203_2 (C.1.at0 rfl) rfl rfl ?_
  refine rC.wm (E := E) C (fun h2 N2 C2 e2 => ?_)
  obtain ⟨qM2, mM2, GM2⟩ := C2.hd
  refine zr_aload_n zi203_5 rfl ?_
  refine zr_iload_n zi203_6 rfl ?_
  refine zr_virtual zi203_7 rfl rfl (C2.1.at0 rfl) rfl rfl ?_
  refine zcall_dep (d := 1) (Nat.le_of_ble_eq_true rfl) (c163 C2 (fun y7 Y7 => zbk_v ?_))
  refine zr_if_neB zi203_10 rfl (fun q10 => ?_) (fun q10 => ?_)
  · obtain ⟨k, rfl, b, r, g, e, w, hh, X, cl, mi, sp, KS, hk⟩ := rC.at (Y7.mp q10)
    obtain ⟨⟨gw1, gw2, gh1, gh2⟩, ⟨l0, l1, l2, l3, lcl⟩, d1, d2, d3⟩ := (C2.bd hk).1.2.2.2
    have hwh := zwh_b (w := w) (hh := hh) ⟨gw1, gw2, gh1, gh2⟩
    have hkl := C2.2.2.1
    have hKS := (C2.bd hk).2.2.2.1
    have hki : k < B.length := by
      rcases Nat.lt_or_ge k B.length with z | z
      · exact z
      · rw [List.getElem?_eq_none z] at hk; cases hk
    refine zr_aload_n zi203_19 rfl ?_
    refine zr_getfield zi203_20 (C2.1.at0 rfl) rfl ?_
    refine zr_iload_n zi203_23 rfl ?_
    refine zr_iface zi203_24 rfl (GM2.at0 rfl) rfl rfl ?_
    refine zcall_dep (d := 2) (Nat.le_of_ble_eq_true rfl) (c164M C2 hk (zbk_v ?_))
    have D24 := C2.bd hk
    have P24 := D24.1
    obtain ⟨qg24, mg24, Lg24⟩ := D24.hd
    refine zr_checkcast zi203_29 (P24.1.at0 rfl) rfl ?_
    refine zr_astore_n (L' := [some (.ref _), some (.int (zJ _)), some (.ref _), none, none, none, none]) zi203_32 rfl rfl ?_
    refine zr_aload_n zi203_33 rfl ?_
    refine zr_getfield zi203_34 (P24.1.at0 rfl) rfl ?_
    refine zr_iface zi203_37 rfl (Lg24.at0 rfl) rfl rfl ?_
    refine zcall_dep (d := 0) (Nat.le_of_ble_eq_true rfl) (c153 Lg24 (zbk_v ?_))
    refine zr_if_gtN zi203_42 rfl (by omega) (fun q42 => ?_) (fun q42 => ?_)
    · refine zr_aload_n zi203_53 rfl ?_
      refine zr_iconst (v := zJ 2) zi203_54 rfl ?_
      refine zr_virtual zi203_55 rfl rfl (C2.1.at0 rfl) rfl rfl ?_
      refine zcall_dep (d := 0) (Nat.le_of_ble_eq_true rfl) (c152 C2 (fun h55 N55 C55 e55 => zbk_v ?_))
      obtain ⟨qM55, mM55, GM55⟩ := C55.hd
      refine zr_ireturn zi203_58 rfl ?_
      exact K _ _ _ _ _ (Or.inr (Or.inl ⟨⟨rfl, rfl⟩, ⟨k, w, hh, X, cl, mi, sp, KS, ⟨b, r, g, e, hk⟩, rfl, (by first | exact Or.inl (by omega) | exact Or.inr (by omega))⟩⟩)) ((((rNx.refl C).trans N2).trans N55).fit (by omega) (by omega)) C55
    · have hcc := rcc_le X.1 (zJ 0) (w * hh)
      refine zr_aload_n zi203_45 rfl ?_
      refine zr_iconst (v := zJ 0) zi203_46 rfl ?_
      refine zr_virtual zi203_47 rfl rfl (P24.1.at0 rfl) rfl rfl ?_
      refine zcall_dep (d := 0) (Nat.le_of_ble_eq_true rfl) (c202 P24 (zbk_v ?_))
      refine zr_if_leN zi203_50 rfl (by omega) (fun q50 => ?_) (fun q50 => ?_)
      · refine zr_iconst (v := zJ 0) zi203_59 rfl ?_
        refine zr_istore_n (L' := [some (.ref _), some (.int (zJ _)), some (.ref _), some (.int (zJ _)), none, none, none]) zi203_60 rfl rfl ?_
        refine zr_iconst (v := zJ 0) zi203_61 rfl ?_
        refine zr_istore (L' := [some (.ref _), some (.int (zJ _)), some (.ref _), some (.int (zJ _)), some (.int (zJ _)), none, none]) zi203_62 rfl rfl ?_
        have hsl := rset_self hk
        suffices key64 : ∀ h3 B1 x5 x6, (rNx h h3 E m n2 n2 le B le B1 0 0) → (rC h3 E m le (zJ 0) n2 B1) → (B1[k]? = some (b, r, g, e, (w, hh), X, (rrd w hh X.1 cl (0)).1, (mi, sp), KS)) → (B1 = B.set k (b, r, g, e, (w, hh), X, (rrd w hh X.1 cl (0)).1, (mi, sp), KS)) → zwp E 3 203 (64, [some (.ref m), some (.int (zJ k)), some (.ref b), some (.int (rrd w hh X.1 cl (0)).2), some (.int (zJ 0)), x5, x6], [], h3) Q from key64 _ _ _ _ ((rNx.refl C).trans N2) C2 hk hsl.symm
        refine zloop (P := fun i => ∀ h3 B1 x5 x6, (rNx h h3 E m n2 n2 le B le B1 0 0) → (rC h3 E m le (zJ 0) n2 B1) → (B1[k]? = some (b, r, g, e, (w, hh), X, (rrd w hh X.1 cl (i)).1, (mi, sp), KS)) → (B1 = B.set k (b, r, g, e, (w, hh), X, (rrd w hh X.1 cl (i)).1, (mi, sp), KS)) → zwp E 3 203 (64, [some (.ref m), some (.int (zJ k)), some (.ref b), some (.int (rrd w hh X.1 cl (i)).2), some (.int (zJ i)), x5, x6], [], h3) Q) (n := w + hh) fun i hk64 ih64 => ?_
        intro h3 B1 x5 x6 N3 C3 hk3 hB3
        obtain ⟨qM3, mM3, GM3⟩ := C3.hd
        have D3 := C3.bd hk3
        have P3 := D3.1
        obtain ⟨qg3, mg3, Lg3⟩ := D3.hd
        have lcn := D3.1.2.2.2.2.1.2.2.2.2
        have hln := yln_b i ⟨gw1, gw2, gh1, gh2⟩
        refine zr_iload zi203_64 rfl ?_
        refine zr_aload_n zi203_66 rfl ?_
        refine zr_virtual zi203_67 rfl rfl (P3.1.at0 rfl) rfl rfl ?_
        refine zcall_dep (d := 0) (Nat.le_of_ble_eq_true rfl) (c167 P3 (zbk_v ?_))
        refine zr_icmp_geN zi203_70 rfl (by omega) (by omega) (fun q70 => ?_) (fun q70 => ?_)
        · refine zr_aload_n zi203_162 rfl ?_
          refine zr_virtual zi203_163 rfl rfl (P3.1.at0 rfl) rfl rfl ?_
          refine zcall_dep (d := 1) (Nat.le_of_ble_eq_true rfl) (c155 P3.b0 (fun h163 rn F163 er nr Q163 => zbk_0 ?_))
          obtain ⟨C163, N163, hk163⟩ := rC.goR C3 hk3 F163 (by omega) Q163
          obtain ⟨qM163, mM163, GM163⟩ := C163.hd
          have D163 := C163.bd hk163
          have P163 := D163.1
          obtain ⟨qg163, mg163, Lg163⟩ := D163.hd
          refine zr_iload_n zi203_166 rfl ?_
          refine zr_ireturn zi203_167 rfl ?_
          obtain rfl : i = w + hh := by omega
          exact K _ _ _ _ _ (Or.inr (Or.inr ⟨rfl, ⟨k, w, hh, X, cl, mi, sp, KS, ⟨b, r, g, e, hk⟩, rfl, (by omega), (by omega), rfl, ⟨b, rn, g, e, (by rw [hB3]; exact List.set_set ..)⟩⟩⟩)) ((N3.trans N163).fit (by omega) (by omega)) C163
        · refine zr_iconst (v := zJ 0) zi203_73 rfl ?_
          refine zr_istore (L' := [some (.ref _), some (.int (zJ _)), some (.ref _), some (.int _), some (.int (zJ _)), some (.int (zJ _)), _]) zi203_74 rfl rfl ?_
          refine zr_iconst (v := zJ 0) zi203_76 rfl ?_
          refine zr_istore (L' := [some (.ref _), some (.int (zJ _)), some (.ref _), some (.int _), some (.int (zJ _)), some (.int (zJ _)), some (.int (zJ _))]) zi203_77 rfl rfl ?_
          suffices key79 : zwp E 3 203 (79, [some (.ref m), some (.int (zJ k)), some (.ref b), some (.int (rrd w hh X.1 cl (i)).2), some (.int (zJ i)), some (.int (rdk w hh X.1 i 0)), some (.int (zJ 0))], [], h3) Q from key79 
          refine zloop (P := fun u => zwp E 3 203 (79, [some (.ref m), some (.int (zJ k)), some (.ref b), some (.int (rrd w hh X.1 cl (i)).2), some (.int (zJ i)), some (.int (rdk w hh X.1 i u)), some (.int (zJ u))], [], h3) Q) (n := yln w hh i) fun u hk79 ih79 => ?_
          refine zr_iload zi203_79 rfl ?_
          refine zr_aload_n zi203_81 rfl ?_
          refine zr_iload zi203_82 rfl ?_
          refine zr_virtual zi203_84 rfl rfl (P3.1.at0 rfl) rfl rfl ?_
          refine zcall_dep (d := 0) (Nat.le_of_ble_eq_true rfl) (c168 P3 (by omega) (zbk_v ?_))
          refine zr_icmp_geN zi203_87 rfl (by omega) (by omega) (fun q87 => ?_) (fun q87 => ?_)
          · refine zr_aload_n zi203_125 rfl ?_
            refine zr_getfield zi203_126 (P3.1.at0 rfl) rfl ?_
            refine zr_iload zi203_129 rfl ?_
            refine zr_iload zi203_131 rfl ?_
            refine zr_aload_n zi203_133 rfl ?_
            refine zr_iload zi203_134 rfl ?_
            refine zr_virtual zi203_136 rfl rfl (P3.1.at0 rfl) rfl rfl ?_
            refine zcall_dep (d := 0) (Nat.le_of_ble_eq_true rfl) (c168 P3 (by omega) (zbk_v ?_))
            refine zr_static zi203_139 rfl rfl rfl rfl ?_
            refine zcall_dep (d := 1) (Nat.le_of_ble_eq_true rfl) (c176 (by omega) (zbk_v ?_))
            refine zr_iastoreN zi203_142 (P3.ca.at0 rfl) (by omega) (by first | omega | (simp only [List.length_set, zpt_len]; omega)) ?_
            refine rB.wca P3 (by first | omega | (simp only [List.length_set]; omega)) (fun h142 F142 Q142 => ?_)
            obtain ⟨C142, N142, hk142⟩ := rC.go C3 hk3 F142 (fun x z => Or.inl (Or.inr (Or.inr z))) Q142 rfl
            obtain ⟨qM142, mM142, GM142⟩ := C142.hd
            have D142 := C142.bd hk142
            have P142 := D142.1
            obtain ⟨qg142, mg142, Lg142⟩ := D142.hd
            refine zr_iload_n zi203_143 rfl ?_
            refine zr_aload_n zi203_144 rfl ?_
            refine zr_getfield zi203_145 (P142.1.at0 rfl) rfl ?_
            refine zr_iload zi203_148 rfl ?_
            refine zr_ialoadN zi203_150 (P142.ca.at0 rfl) rfl (by omega) (by first | omega | (simp only [List.length_set, zpt_len]; omega)) ?_
            refine zr_static zi203_151 rfl rfl rfl rfl ?_
            refine zcall_dep (d := 0) (Nat.le_of_ble_eq_true rfl) (c170 (zbk_v ?_))
            refine zr_iadd zi203_154 ?_
            refine zr_istore_n (L' := [some (.ref _), some (.int (zJ _)), some (.ref _), some (.int _), some (.int (zJ _)), some (.int _), some (.int (zJ _))]) zi203_155 rfl rfl ?_
            refine zr_iincN (z := 1) (L' := [some (.ref _), some (.int (zJ _)), some (.ref _), some (.int _), some (.int (zJ _)), some (.int _), some (.int (zJ _))]) zi203_156 rfl rfl rfl rfl ?_
            refine zr_goto zi203_159 rfl ?_
            obtain rfl : yln w hh i = u := by omega
            exact ih64 (by omega) _ _ _ _ ((N3.trans N142).fit (by omega) (by omega)) C142 hk142 (by rw [hB3]; exact List.set_set ..)
          · have hc := ycl_b (w := w) (hh := hh) (show i < w + hh from q70) q87
            refine zr_iload zi203_90 rfl ?_
            refine zr_aload_n zi203_92 rfl ?_
            refine zr_aload_n zi203_93 rfl ?_
            refine zr_iload zi203_94 rfl ?_
            refine zr_iload zi203_96 rfl ?_
            refine zr_virtual zi203_98 rfl rfl (P3.1.at0 rfl) rfl rfl ?_
            refine zcall_dep (d := 0) (Nat.le_of_ble_eq_true rfl) (c173 P3 (by omega) (by omega) (zbk_v ?_))
            refine zr_virtual zi203_101 rfl rfl (P3.1.at0 rfl) rfl rfl ?_
            refine zcall_dep (d := 0) (Nat.le_of_ble_eq_true rfl) (c174 P3 (by omega) (zbk_v ?_))
            refine zr_iconst (v := zJ 1) zi203_104 rfl ?_
            refine zr_icmp_ne zi203_105 rfl (fun q105 => ?_) (fun q105 => ?_)
            · refine zr_iconst (v := zJ 0) zi203_115 rfl ?_
              refine zr_ior zi203_116 ?_
              refine zr_istore (L' := [some (.ref _), some (.int (zJ _)), some (.ref _), some (.int _), some (.int (zJ _)), some (.int _), some (.int (zJ _))]) zi203_117 rfl rfl ?_
              refine zr_iincN (z := 1) (L' := [some (.ref _), some (.int (zJ _)), some (.ref _), some (.int _), some (.int (zJ _)), some (.int _), some (.int (zJ _))]) zi203_119 rfl rfl rfl rfl ?_
              refine zr_goto zi203_122 rfl ?_
              have en := ih79 (by omega)
              rw [rdk] at en
              first | rw [if_pos q105] at en | rw [if_neg q105] at en
              exact en
            · refine zr_iconst (v := zJ 1) zi203_108 rfl ?_
              refine zr_iload zi203_109 rfl ?_
              refine zr_ishl zi203_111 ?_
              refine zr_goto zi203_112 rfl ?_
              refine zr_ior zi203_116 ?_
              refine zr_istore (L' := [some (.ref _), some (.int (zJ _)), some (.ref _), some (.int _), some (.int (zJ _)), some (.int _), some (.int (zJ _))]) zi203_117 rfl rfl ?_
              refine zr_iincN (z := 1) (L' := [some (.ref _), some (.int (zJ _)), some (.ref _), some (.int _), some (.int (zJ _)), some (.int _), some (.int (zJ _))]) zi203_119 rfl rfl rfl rfl ?_
              refine zr_goto zi203_122 rfl ?_
              have en := ih79 (by omega)
              rw [rdk] at en
              first | rw [if_pos q105] at en | rw [if_neg q105] at en
              exact en
      · refine zr_aload_n zi203_53 rfl ?_
        refine zr_iconst (v := zJ 2) zi203_54 rfl ?_
        refine zr_virtual zi203_55 rfl rfl (C2.1.at0 rfl) rfl rfl ?_
        refine zcall_dep (d := 0) (Nat.le_of_ble_eq_true rfl) (c152 C2 (fun h55 N55 C55 e55 => zbk_v ?_))
        obtain ⟨qM55, mM55, GM55⟩ := C55.hd
        refine zr_ireturn zi203_58 rfl ?_
        exact K _ _ _ _ _ (Or.inr (Or.inl ⟨⟨rfl, rfl⟩, ⟨k, w, hh, X, cl, mi, sp, KS, ⟨b, r, g, e, hk⟩, rfl, (by first | exact Or.inl (by omega) | exact Or.inr (by omega))⟩⟩)) ((((rNx.refl C).trans N2).trans N55).fit (by omega) (by omega)) C55
  · refine zr_aload_n zi203_13 rfl ?_
    refine zr_iconst (v := zJ 1) zi203_14 rfl ?_
    refine zr_virtual zi203_15 rfl rfl (C2.1.at0 rfl) rfl rfl ?_
    refine zcall_dep (d := 0) (Nat.le_of_ble_eq_true rfl) (c152 C2 (fun h15 N15 C15 e15 => zbk_v ?_))
    obtain ⟨qM15, mM15, GM15⟩ := C15.hd
    refine zr_ireturn zi203_18 rfl ?_
    exact K _ _ _ _ _ (Or.inl ⟨⟨rfl, rfl⟩, (fun hz => absurd (Y7.mpr hz) (by rw [q10]; decide))⟩) ((((rNx.refl C).trans N2).trans N15).fit (by omega) (by omega)) C15
theorem c204 {E : zEnv} {h : zPH} {Q : zOut → zPH → Prop} {m le : Nat} {n0 n2 : Int32} {B : List rBS} (C : rC h E m le n0 n2 B) (S : ySs E h) {x : Int32} (K : ∀ h1 v n0 le1 B1, (ms204 B x n0 v B1) → rNx h h1 E m n2 n2 le B le1 B1 6 107 → rC h1 E m le1 n0 n2 B1 → Q (.inl (some (.int v))) h1) : zcall E 3 204 [.ref m, .int x] h Q := by
  show zwp E _ 204 (0, [some (.ref _), some (.int _), none, none], [], _) Q
  obtain ⟨qM0, mM0, GM0⟩ := C.hd
  refine zr_aload_n zi204_0 rfl ?_
  refine zr_iconst (v := zJ 0) zi204_1 rfl ?_
  refine zr_putfield zi204_2 (C.1.at0 rfl) rfl rfl ?_
  refine rC.wm (E := E) C (fun h2 N2 C2 e2 => ?_)
  obtain ⟨qM2, mM2, GM2⟩ := C2.hd
  refine zr_aload_n zi204_5 rfl ?_
  refine zr_iload_n zi204_6 rfl ?_
  refine zr_virtual zi204_7 rfl rfl (C2.1.at0 rfl) rfl rfl ?_
  refine zcall_dep (d := 1) (Nat.le_of_ble_eq_true rfl) (c163 C2 (fun y7 Y7 => zbk_v ?_))
  refine zr_if_neB zi204_10 rfl (fun q10 => ?_) (fun q10 => ?_)
  · obtain ⟨k, rfl, b, r, g, e, w, hh, X, cl, mi, sp, KS, hk⟩ := rC.at (Y7.mp q10)
    obtain ⟨⟨gw1, gw2, gh1, gh2⟩, ⟨l0, l1, l2, l3, lcl⟩, d1, d2, d3⟩ := (C2.bd hk).1.2.2.2
    have hwh := zwh_b (w := w) (hh := hh) ⟨gw1, gw2, gh1, gh2⟩
    have hkl := C2.2.2.1
    have hKS := (C2.bd hk).2.2.2.1
    have hki : k < B.length := by
      rcases Nat.lt_or_ge k B.length with z | z
      · exact z
      · rw [List.getElem?_eq_none z] at hk; cases hk
    refine zr_aload_n zi204_19 rfl ?_
    refine zr_getfield zi204_20 (C2.1.at0 rfl) rfl ?_
    refine zr_iload_n zi204_23 rfl ?_
    refine zr_iface zi204_24 rfl (GM2.at0 rfl) rfl rfl ?_
    refine zcall_dep (d := 2) (Nat.le_of_ble_eq_true rfl) (c164M C2 hk (zbk_v ?_))
    have D24 := C2.bd hk
    have P24 := D24.1
    obtain ⟨qg24, mg24, Lg24⟩ := D24.hd
    refine zr_checkcast zi204_29 (P24.1.at0 rfl) rfl ?_
    refine zr_astore_n (L' := [some (.ref _), some (.int (zJ _)), some (.ref _), none]) zi204_32 rfl rfl ?_
    refine zr_aload_n zi204_33 rfl ?_
    refine zr_virtual zi204_34 rfl rfl (P24.1.at0 rfl) rfl rfl ?_
    refine zcall_dep (d := 0) (Nat.le_of_ble_eq_true rfl) (c156 P24 (zbk_v ?_))
    refine zr_aload_n zi204_37 rfl ?_
    refine zr_iconst (v := zJ 0) zi204_38 rfl ?_
    refine zr_virtual zi204_39 rfl rfl (P24.1.at0 rfl) rfl rfl ?_
    refine zcall_dep (d := 0) (Nat.le_of_ble_eq_true rfl) (c202 P24 (zbk_v ?_))
    refine zr_isub zi204_42 ?_
    refine zr_istore_n (L' := [some (.ref _), some (.int (zJ _)), some (.ref _), some (.int _)]) zi204_43 rfl rfl ?_
    refine zr_aload_n zi204_44 rfl ?_
    refine zr_virtual zi204_45 rfl rfl (P24.1.at0 rfl) rfl rfl ?_
    refine zcall_dep (d := 1) (Nat.le_of_ble_eq_true rfl) (c155 P24.b0 (fun h45 rn F45 er nr Q45 => zbk_0 ?_))
    obtain ⟨C45, N45, hk45⟩ := rC.goR C2 hk F45 (by omega) Q45
    obtain ⟨qM45, mM45, GM45⟩ := C45.hd
    have D45 := C45.bd hk45
    have P45 := D45.1
    obtain ⟨qg45, mg45, Lg45⟩ := D45.hd
    refine zr_aload_n zi204_48 rfl ?_
    refine zr_new zi204_49 rfl rfl ?_
    refine zw_new (a := h45.2.1) rfl (fun h49 F49 X49 e49 => ?_)
    have C49 := rC.nw C45 (F49 _)
    obtain ⟨qM49, mM49, GM49⟩ := C49.hd
    have D49 := C49.bd hk45
    have P49 := D49.1
    obtain ⟨qg49, mg49, Lg49⟩ := D49.hd
    refine zr_dup zi204_52 rfl ?_
    refine zr_special zi204_53 rfl rfl rfl rfl ?_
    refine zcall_dep (d := 2) (Nat.le_of_ble_eq_true rfl) (c147 ((F49 (fun _ => True)).ss (N45.1.ss (N2.1.ss S))) X49 (fun h53 F53 e53 L53 => zbk_0 ?_))
    have FB := (F49 (fun x => h45.2.1 ≤ x)).trans (F53.mono (fun x _ z => by have := z.1; omega) (Nat.le_refl _) (Nat.le_refl _))
    have C53 := rC.nw C45 FB
    obtain ⟨qM53, mM53, GM53⟩ := C53.hd
    have D53 := C53.bd hk45
    have P53 := D53.1
    obtain ⟨qg53, mg53, Lg53⟩ := D53.hd
    refine zr_putfield zi204_56 (P53.1.at0 rfl) rfl rfl ?_
    refine rB.wob P53 (fun h56 F56 Q56 => ?_)
    obtain ⟨el, eE, G53⟩ := L53
    have L56 : rL0 h56 E h45.2.1 (zJ 0) := ⟨el, eE, G53.f1 F56 (fun z => by have := z.1; have := z.2; have := P45.1.1; have : b + 1 ≤ h45.2.1 := this; omega)⟩
    have FC := (FB.mono (P' := fun x => h45.2.1 ≤ x ∨ yIv b 1 x) (fun x _ z => Or.inl z) (Nat.le_refl _) (Nat.le_refl _)).trans (F56.mono (fun x _ z => Or.inr z) (Nat.le_refl _) (Nat.le_refl _))
    obtain ⟨C56, N56, hk56⟩ := rC.goG C45 hk45 FC (Nat.le_refl _) (n := 0) L56 Q56
    refine zr_iload_n zi204_59 rfl ?_
    refine zr_ireturn zi204_60 rfl ?_
    exact K _ _ _ _ _ (Or.inr ⟨rfl, ⟨k, w, hh, X, cl, mi, sp, KS, ⟨b, r, g, e, hk⟩, rfl, rfl, ⟨b, rn, _, _, (by first | rfl | (rw [List.set_set] <;> rfl) | (rw [List.set_set, List.set_set] <;> rfl))⟩⟩⟩) (((((rNx.refl C).trans N2).trans N45).trans N56).fit (by omega) (by omega)) C56
  · refine zr_aload_n zi204_13 rfl ?_
    refine zr_iconst (v := zJ 1) zi204_14 rfl ?_
    refine zr_virtual zi204_15 rfl rfl (C2.1.at0 rfl) rfl rfl ?_
    refine zcall_dep (d := 0) (Nat.le_of_ble_eq_true rfl) (c152 C2 (fun h15 N15 C15 e15 => zbk_v ?_))
    obtain ⟨qM15, mM15, GM15⟩ := C15.hd
    refine zr_ireturn zi204_18 rfl ?_
    exact K _ _ _ _ _ (Or.inl ⟨⟨rfl, rfl⟩, (fun hz => absurd (Y7.mpr hz) (by rw [q10]; decide))⟩) ((((rNx.refl C).trans N2).trans N15).fit (by omega) (by omega)) C15
