/-! ===== the board: walks ===== -/
theorem c87 {E : zEnv} {h : zPH} {Q : zOut → zPH → Prop} {b w hh : Nat} {cs cl fs : List Int32} {α : yAS} {kp gd : List Int32} {gu : Nat} {mi sp : Int32} (B : yB h b w hh cs cl fs α kp gd gu mi sp) (h0 : 0 < gu) (K : Q (.inl (some (.int (gd.getD (gu - 1) 0)))) h) : zcall E 0 87 [.ref b] h Q := by
  obtain ⟨⟨gw1, gw2, gh1, gh2⟩, gcs, gcl, gfs⟩ := B.gr.2
  obtain ⟨bkp, bgd, bgu⟩ := B.2.2.2.2
  show zwp E _ 87 (0, [some (.ref _)], [], _) Q
  refine zr_aload_n zi87_0 rfl ?_
  refine zr_getfield zi87_1 (B.1.at0 rfl) rfl ?_
  refine zr_if_leN zi87_4 rfl (by omega) (fun q4 => absurd q4 (by omega)) (fun q4 => ?_)
  refine zr_aload_n zi87_7 rfl ?_
  refine zr_getfield zi87_8 (B.1.at0 rfl) rfl ?_
  refine zr_aload_n zi87_11 rfl ?_
  refine zr_getfield zi87_12 (B.1.at0 rfl) rfl ?_
  refine zr_arraylength (v := zJ 6) zi87_15 (B.kg.at 1 rfl) rfl (zlenJ bgd) ?_
  refine zr_icmp_gtN zi87_16 rfl (by omega) (by omega) (fun q16 => absurd q16 (by omega)) (fun q16 => ?_)
  refine zr_aload_n zi87_19 rfl ?_
  refine zr_getfield zi87_20 (B.1.at0 rfl) rfl ?_
  refine zr_aload_n zi87_23 rfl ?_
  refine zr_getfield zi87_24 (B.1.at0 rfl) rfl ?_
  refine zr_iconst (v := zJ 1) zi87_27 rfl ?_
  refine zr_isubN zi87_28 (by omega) ?_
  refine zr_ialoadN zi87_29 (B.kg.at 1 rfl) rfl (by omega) (by first | omega | (simp only [List.length_set, zpt_len]; omega)) ?_
  refine zr_goto zi87_30 rfl ?_
  refine zr_ireturn zi87_34 rfl ?_
  exact K
theorem c84 {E : zEnv} {h : zPH} {Q : zOut → zPH → Prop} {b w hh : Nat} {cs cl fs : List Int32} {α : yAS} {kp gd : List Int32} {gu : Nat} {mi sp : Int32} (B : yB h b w hh cs cl fs α kp gd gu mi sp) {c : Int32} (hg : gu < 6) (K : ∀ h1, yFr (yIv b 17) h h1 0 0 → yB h1 b w hh cs cl fs α (zcpi cs kp 0 (gu * 100) 100) (gd.set gu c) (gu + 1) mi sp → Q (.inl none) h1) : zcall E 0 84 [.ref b, .int c] h Q := by
  obtain ⟨⟨gw1, gw2, gh1, gh2⟩, gcs, gcl, gfs⟩ := B.gr.2
  obtain ⟨bkp, bgd, bgu⟩ := B.2.2.2.2
  show zwp E _ 84 (0, [some (.ref _), some (.int _)], [], _) Q
  refine zr_aload_n zi84_0 rfl ?_
  refine zr_getfield zi84_1 (B.1.at0 rfl) rfl ?_
  refine zr_if_ltN zi84_4 rfl (by omega) ?_
  refine zr_aload_n zi84_7 rfl ?_
  refine zr_getfield zi84_8 (B.1.at0 rfl) rfl ?_
  refine zr_bipush (v := zJ 6) zi84_11 rfl ?_
  refine zr_icmp_geN zi84_13 rfl (by omega) (by omega) (fun q13 => absurd q13 (by omega)) (fun q13 => ?_)
  refine zr_aload_n zi84_16 rfl ?_
  refine zr_getfield zi84_17 (B.1.at0 rfl) rfl ?_
  refine zr_getfield zi84_20 (B.gr.1.at0 rfl) rfl ?_
  refine zr_iconst (v := zJ 0) zi84_23 rfl ?_
  refine zr_aload_n zi84_24 rfl ?_
  refine zr_getfield zi84_25 (B.1.at0 rfl) rfl ?_
  refine zr_aload_n zi84_28 rfl ?_
  refine zr_getfield zi84_29 (B.1.at0 rfl) rfl ?_
  refine zr_aload_n zi84_32 rfl ?_
  refine zr_getfield zi84_33 (B.1.at0 rfl) rfl ?_
  refine zr_getfield zi84_36 (B.gr.1.at0 rfl) rfl ?_
  refine zr_arraylength (v := zJ 100) zi84_39 (B.gr.1.at 1 rfl) rfl (zlenJ B.gr.2.2.1) ?_
  refine zr_imulN zi84_40 ?_
  refine zr_aload_n zi84_41 rfl ?_
  refine zr_getfield zi84_42 (B.1.at0 rfl) rfl ?_
  refine zr_getfield zi84_45 (B.gr.1.at0 rfl) rfl ?_
  refine zr_arraylength (v := zJ 100) zi84_48 (B.gr.1.at 1 rfl) rfl (zlenJ B.gr.2.2.1) ?_
  refine zr_copyN (q := 100) zi84_49 (B.gr.1.at 1 rfl) (B.kg.at0 rfl) ⟨by omega, by omega, by omega⟩ (by omega) (by omega) rfl ?_
  refine yB.wkp B (by rw [zcpi_len (by omega) (by omega)]; exact bkp) (fun h49 F49 B49 => ?_)
  refine zr_aload_n zi84_52 rfl ?_
  refine zr_getfield zi84_53 (B49.1.at0 rfl) rfl ?_
  refine zr_aload_n zi84_56 rfl ?_
  refine zr_getfield zi84_57 (B49.1.at0 rfl) rfl ?_
  refine zr_iload_n zi84_60 rfl ?_
  refine zr_iastoreN zi84_61 (B49.kg.at 1 rfl) (by omega) (by first | omega | (simp only [List.length_set, zpt_len]; omega)) ?_
  refine yB.wgd B49 (by first | omega | (simp only [List.length_set, zpt_len]; omega)) (fun h61 F61 B61 => ?_)
  refine zr_aload_n zi84_62 rfl ?_
  refine zr_dup zi84_63 rfl ?_
  refine zr_getfield zi84_64 (B61.1.at0 rfl) rfl ?_
  refine zr_iconst (v := zJ 1) zi84_67 rfl ?_
  refine zr_iaddN zi84_68 ?_
  refine zr_putfield zi84_69 (B61.1.at0 rfl) rfl rfl ?_
  refine yB.wob B61 (by first | omega | (simp only [List.length_set, zpt_len]; omega)) (fun h69 F69 B69 => ?_)
  refine zr_return zi84_72 rfl ?_
  exact K _ ((F49.trans F61).trans F69) B69
theorem c88 {E : zEnv} {h : zPH} {Q : zOut → zPH → Prop} {b w hh : Nat} {cs cl fs : List Int32} {α : yAS} {kp gd : List Int32} {gu : Nat} {mi sp : Int32} (B : yB h b w hh cs cl fs α kp gd gu mi sp) (h0 : 0 < gu) (K : ∀ h1, yFr (yIv b 17) h h1 0 0 → yB h1 b w hh (zcpi kp cs ((gu - 1) * 100) 0 100) cl fs α kp gd (gu - 1) mi sp → Q (.inl none) h1) : zcall E 0 88 [.ref b] h Q := by
  obtain ⟨⟨gw1, gw2, gh1, gh2⟩, gcs, gcl, gfs⟩ := B.gr.2
  obtain ⟨bkp, bgd, bgu⟩ := B.2.2.2.2
  show zwp E _ 88 (0, [some (.ref _)], [], _) Q
  refine zr_aload_n zi88_0 rfl ?_
  refine zr_getfield zi88_1 (B.1.at0 rfl) rfl ?_
  refine zr_if_leN zi88_4 rfl (by omega) (fun q4 => absurd q4 (by omega)) (fun q4 => ?_)
  refine zr_aload_n zi88_7 rfl ?_
  refine zr_getfield zi88_8 (B.1.at0 rfl) rfl ?_
  refine zr_bipush (v := zJ 6) zi88_11 rfl ?_
  refine zr_icmp_gtN zi88_13 rfl (by omega) (by omega) (fun q13 => absurd q13 (by omega)) (fun q13 => ?_)
  refine zr_aload_n zi88_16 rfl ?_
  refine zr_dup zi88_17 rfl ?_
  refine zr_getfield zi88_18 (B.1.at0 rfl) rfl ?_
  refine zr_iconst (v := zJ 1) zi88_21 rfl ?_
  refine zr_isubN zi88_22 (by omega) ?_
  refine zr_putfield zi88_23 (B.1.at0 rfl) rfl rfl ?_
  refine yB.wob B (by first | omega | (simp only [List.length_set, zpt_len]; omega)) (fun h23 F23 B23 => ?_)
  refine zr_aload_n zi88_26 rfl ?_
  refine zr_getfield zi88_27 (B23.1.at0 rfl) rfl ?_
  refine zr_aload_n zi88_30 rfl ?_
  refine zr_getfield zi88_31 (B23.1.at0 rfl) rfl ?_
  refine zr_aload_n zi88_34 rfl ?_
  refine zr_getfield zi88_35 (B23.1.at0 rfl) rfl ?_
  refine zr_getfield zi88_38 (B23.gr.1.at0 rfl) rfl ?_
  refine zr_arraylength (v := zJ 100) zi88_41 (B23.gr.1.at 1 rfl) rfl (zlenJ B23.gr.2.2.1) ?_
  refine zr_imulN zi88_42 ?_
  refine zr_aload_n zi88_43 rfl ?_
  refine zr_getfield zi88_44 (B23.1.at0 rfl) rfl ?_
  refine zr_getfield zi88_47 (B23.gr.1.at0 rfl) rfl ?_
  refine zr_iconst (v := zJ 0) zi88_50 rfl ?_
  refine zr_aload_n zi88_51 rfl ?_
  refine zr_getfield zi88_52 (B23.1.at0 rfl) rfl ?_
  refine zr_getfield zi88_55 (B23.gr.1.at0 rfl) rfl ?_
  refine zr_arraylength (v := zJ 100) zi88_58 (B23.gr.1.at 1 rfl) rfl (zlenJ B23.gr.2.2.1) ?_
  refine zr_copyN (q := 100) zi88_59 (B23.kg.at0 rfl) (B23.gr.1.at 1 rfl) ⟨by omega, by omega, by omega⟩ (by omega) (by omega) rfl ?_
  refine yG.wcs B23.gr (by rw [zcpi_len (by omega) (by omega)]; exact gcs) (fun h59 F59 B_gr59 => ?_)
  have B59p := B23.putGr F59 B_gr59
  replace F59 := F59.up (N := 17) (by omega)
  refine zr_return zi88_62 rfl ?_
  exact K _ (F23.trans F59) B59p
def yA0 : yAS := ((List.replicate 500 0, List.replicate 10 0, List.replicate 5 0, List.replicate 30 0, List.replicate 25 0), (2, 2, yZ0, (yTi 2 2 4).1, (yTi 2 2 4).2), (false, 0, 0, 0, 0))
theorem c69 {E : zEnv} {h : zPH} {Q : zOut → zPH → Prop} (S : ySs E h) {b w hh : Nat} (X : yBk h b [(4, [.null, .null, .null, .null, .int 0, .int 0, .int 0])]) (e : h.2.1 = b + 1) (hd : 2 ≤ w ∧ w ≤ 5 ∧ 2 ≤ hh ∧ hh ≤ 5) (K : ∀ h1, yFr (yIv b 17) h h1 16 1437 → h1.2.1 = b + 17 → yB h1 b w hh yZ0 (yTi w hh (w + hh)).1 (yTi w hh (w + hh)).2 yA0 (List.replicate 600 0) (List.replicate 6 0) 0 0 0 → Q (.inl none) h1) : zcall E 4 69 [.ref b, .int (zJ w), .int (zJ hh)] h Q := by
  show zwp E _ 69 (0, [some (.ref _), some (.int (zJ _)), some (.int (zJ _))], [], _) Q
  refine zr_aload_n zi69_0 rfl ?_
  refine zr_obj zi69_1 rfl ?_
  refine zr_aload_n zi69_4 rfl ?_
  refine zr_new zi69_5 rfl rfl ?_
  refine zw_app (k := 1) X e rfl (fun h5 F5 X5 e5 => ?_)
  have S_5 := (F5 (fun _ => True)).ss S
  refine zr_dup zi69_8 rfl ?_
  refine zr_special zi69_9 rfl rfl rfl rfl ?_
  refine zcall_dep (d := 3) (Nat.le_of_ble_eq_true rfl) (c8 S_5 (X5.sub 1 [(2, [.null, .null, .null, .null, .null, .null, .int 0, .int 0, .int 0, .int 0, .int 0])] rfl (Nat.le_of_ble_eq_true rfl)) e5 (fun h9 F9 e9 A9 => zbk_0 ?_))
  have X9 := yBk.grow (k := 1) (n := 10) X5 F9 A9.1 rfl
  have S_9 := F9.ss S_5
  refine zr_putfield zi69_12 (X9.at0 rfl) rfl rfl ?_
  refine zw_bkX0 (N := 17) X9 rfl (by omega) (Nat.le_of_ble_eq_true rfl) (fun h12 F12 X12 d12 => ?_)
  have e12 := d12.trans e9
  have S_12 := F12.ss S_9
  refine zr_aload_n zi69_15 rfl ?_
  refine zr_sipush (v := zJ 600) zi69_16 rfl ?_
  refine zr_newarrayN zi69_19 (by omega) rfl ?_
  refine zw_app (k := 11) X12 e12 rfl (fun h19 F19 X19 e19 => ?_)
  have S_19 := (F19 (fun _ => True)).ss S_12
  refine zr_putfield zi69_21 (X19.at0 rfl) rfl rfl ?_
  refine zw_bkX0 (N := 17) X19 rfl (by omega) (Nat.le_of_ble_eq_true rfl) (fun h21 F21 X21 d21 => ?_)
  have e21 := d21.trans e19
  have S_21 := F21.ss S_19
  refine zr_aload_n zi69_24 rfl ?_
  refine zr_bipush (v := zJ 6) zi69_25 rfl ?_
  refine zr_newarrayN zi69_27 (by omega) rfl ?_
  refine zw_app (k := 12) X21 e21 rfl (fun h27 F27 X27 e27 => ?_)
  have S_27 := (F27 (fun _ => True)).ss S_21
  refine zr_putfield zi69_29 (X27.at0 rfl) rfl rfl ?_
  refine zw_bkX0 (N := 17) X27 rfl (by omega) (Nat.le_of_ble_eq_true rfl) (fun h29 F29 X29 d29 => ?_)
  have e29 := d29.trans e27
  have S_29 := F29.ss S_27
  refine zr_aload_n zi69_32 rfl ?_
  refine zr_new zi69_33 rfl rfl ?_
  refine zw_app (k := 13) X29 e29 rfl (fun h33 F33 X33 e33 => ?_)
  have S_33 := (F33 (fun _ => True)).ss S_29
  refine zr_dup zi69_36 rfl ?_
  refine zr_iload_n zi69_37 rfl ?_
  refine zr_iload_n zi69_38 rfl ?_
  refine zr_special zi69_39 rfl rfl rfl rfl ?_
  refine zcall_dep (d := 2) (Nat.le_of_ble_eq_true rfl) (c1 S_33 (X33.sub 13 [(1, [.null, .null, .null, .int 0, .int 0])] rfl (Nat.le_of_ble_eq_true rfl)) e33 (by omega) (fun h39 F39 e39 G39 => zbk_0 ?_))
  have X39 := yBk.grow (k := 13) (n := 4) X33 F39 G39.1 rfl
  have S_39 := F39.ss S_33
  refine zr_putfield zi69_42 (X39.at0 rfl) rfl rfl ?_
  refine zw_bkX0 (N := 17) X39 rfl (by omega) (Nat.le_of_ble_eq_true rfl) (fun h42 F42 X42 d42 => ?_)
  have e42 := d42.trans e39
  have S_42 := F42.ss S_39
  refine zr_return zi69_45 rfl ?_
  have XX := X42
  exact K _ ((((((((((F5 (yIv b 17)).trans (F9.up (N := 17) (by omega))).trans F12).trans (F19 (yIv b 17))).trans F21).trans (F27 (yIv b 17))).trans F29).trans (F33 (yIv b 17))).trans (F39.up (N := 17) (by omega))).trans F42) e42 ⟨XX.sub 0 [(4, [.ref (b + 13), .ref (b + 1), .ref (b + 11), .ref (b + 12), .int (zJ 0), .int 0, .int 0])] rfl (Nat.le_of_ble_eq_true rfl), ⟨XX.sub 1 (aC (b + 1) (List.replicate 500 0) (List.replicate 10 0) (List.replicate 5 0) (List.replicate 30 0) (List.replicate 25 0) 2 2 yZ0 (yTi 2 2 4).1 (yTi 2 2 4).2 false 0 0 0 0) rfl (Nat.le_of_ble_eq_true rfl), A9.2⟩, XX.sub 11 [(64, zis (List.replicate 600 0)), (64, zis (List.replicate 6 0))] rfl (Nat.le_of_ble_eq_true rfl), ⟨XX.sub 13 (gC (b + 13) w hh yZ0 (yTi w hh (w + hh)).1 (yTi w hh (w + hh)).2) rfl (Nat.le_of_ble_eq_true rfl), G39.2⟩, List.length_replicate, rfl, by omega⟩
