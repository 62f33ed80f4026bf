/-! ===== things made ===== -/
def yTi (w hh : Nat) : Nat → List Int32 × List Int32
  | 0 => (List.replicate 10 0, List.replicate 10 0)
  | k + 1 => ((yTi w hh k).1.set k (-1), (yTi w hh k).2.set k (zfg (-1) (yln w hh k)))
def yZ0 : List Int32 := zclr (List.replicate 100 0) 25
theorem c1 {E : zEnv} {h : zPH} {Q : zOut → zPH → Prop} (S : ySs E h) {g w hh : Nat} (X : yBk h g [(1, [.null, .null, .null, .int 0, .int 0])]) (e : h.2.1 = g + 1) (hd : 2 ≤ w ∧ w ≤ 5 ∧ 2 ≤ hh ∧ hh ≤ 5) (K : ∀ h1, yFr (yIv g 4) h h1 3 120 → h1.2.1 = g + 4 → yG h1 g w hh yZ0 (yTi w hh (w + hh)).1 (yTi w hh (w + hh)).2 → Q (.inl none) h1) : zcall E 2 1 [.ref g, .int (zJ w), .int (zJ hh)] h Q := by
  show zwp E _ 1 (0, [some (.ref _), some (.int (zJ _)), some (.int (zJ _)), none], [], _) Q
  refine zr_aload_n zi1_0 rfl ?_
  refine zr_obj zi1_1 rfl ?_
  refine zr_aload_n zi1_4 rfl ?_
  refine zr_bipush (v := zJ 100) zi1_5 rfl ?_
  refine zr_newarrayN zi1_7 (by omega) rfl ?_
  refine zw_app (k := 1) X e rfl (fun h7 F7 X7 e7 => ?_)
  have S_7 := (F7 (fun _ => True)).ss S
  refine zr_putfield zi1_9 (X7.at0 rfl) rfl rfl ?_
  refine zw_bkX0 (N := 4) X7 rfl (by omega) (Nat.le_of_ble_eq_true rfl) (fun h9 F9 X9 d9 => ?_)
  have e9 := d9.trans e7
  have S_9 := F9.ss S_7
  refine zr_aload_n zi1_12 rfl ?_
  refine zr_bipush (v := zJ 10) zi1_13 rfl ?_
  refine zr_newarrayN zi1_15 (by omega) rfl ?_
  refine zw_app (k := 2) X9 e9 rfl (fun h15 F15 X15 e15 => ?_)
  have S_15 := (F15 (fun _ => True)).ss S_9
  refine zr_putfield zi1_17 (X15.at0 rfl) rfl rfl ?_
  refine zw_bkX0 (N := 4) X15 rfl (by omega) (Nat.le_of_ble_eq_true rfl) (fun h17 F17 X17 d17 => ?_)
  have e17 := d17.trans e15
  have S_17 := F17.ss S_15
  refine zr_aload_n zi1_20 rfl ?_
  refine zr_bipush (v := zJ 10) zi1_21 rfl ?_
  refine zr_newarrayN zi1_23 (by omega) rfl ?_
  refine zw_app (k := 3) X17 e17 rfl (fun h23 F23 X23 e23 => ?_)
  have S_23 := (F23 (fun _ => True)).ss S_17
  refine zr_putfield zi1_25 (X23.at0 rfl) rfl rfl ?_
  refine zw_bkX0 (N := 4) X23 rfl (by omega) (Nat.le_of_ble_eq_true rfl) (fun h25 F25 X25 d25 => ?_)
  have e25 := d25.trans e23
  have S_25 := F25.ss S_23
  refine zr_aload_n zi1_28 rfl ?_
  refine zr_iload_n zi1_29 rfl ?_
  refine zr_putfield zi1_30 (X25.at0 rfl) rfl rfl ?_
  refine zw_bkX0 (N := 4) X25 rfl (by omega) (Nat.le_of_ble_eq_true rfl) (fun h30 F30 X30 d30 => ?_)
  have e30 := d30.trans e25
  have S_30 := F30.ss S_25
  refine zr_aload_n zi1_33 rfl ?_
  refine zr_iload_n zi1_34 rfl ?_
  refine zr_putfield zi1_35 (X30.at0 rfl) rfl rfl ?_
  refine zw_bkX0 (N := 4) X30 rfl (by omega) (Nat.le_of_ble_eq_true rfl) (fun h35 F35 X35 d35 => ?_)
  have e35 := d35.trans e30
  have S_35 := F35.ss S_30
  have G : yG h35 g w hh (List.replicate 100 0) (List.replicate 10 0) (List.replicate 10 0) := ⟨X35, hd, rfl, rfl, rfl⟩
  have FA : yFr (yIv g 4) h h35 3 120 := ((((((((F7 (yIv g 4)).trans F9).trans (F15 (yIv g 4))).trans F17).trans (F23 (yIv g 4))).trans F25).trans F30).trans F35)
  have e9 : h35.2.1 = g + 4 := e35
  obtain ⟨gw1, gw2, gh1, gh2⟩ := hd
  refine zr_aload_n zi1_38 rfl ?_
  refine zr_virtual zi1_39 rfl rfl (G.1.at0 rfl) rfl rfl ?_
  refine zcall_dep (d := 1) (Nat.le_of_ble_eq_true rfl) (c2 G (fun h39 F39 G39 => zbk_0 ?_))
  have S_39 := F39.ss S_35
  refine zr_iconst (v := zJ 0) zi1_42 rfl ?_
  refine zr_istore_n (L' := [some (.ref _), some (.int (zJ _)), some (.int (zJ _)), some (.int (zJ _))]) zi1_43 rfl rfl ?_
  suffices key44 : ∀ h1, yFr (yIv g 4) h35 h1 0 0 → yG h1 g w hh yZ0 (yTi w hh 0).1 (yTi w hh 0).2 → zwp E 2 1 (44, [some (.ref g), some (.int (zJ w)), some (.int (zJ hh)), some (.int (zJ 0))], [], h1) Q from key44 _ F39 G39
  refine zloop (P := fun k => ∀ h1, yFr (yIv g 4) h35 h1 0 0 → yG h1 g w hh yZ0 (yTi w hh k).1 (yTi w hh k).2 → zwp E 2 1 (44, [some (.ref g), some (.int (zJ w)), some (.int (zJ hh)), some (.int (zJ k))], [], h1) Q) (n := w + hh) fun k hk44 ih44 => ?_
  intro h1 F1 G1
  have S_1 := F1.ss S_35
  refine zr_iload_n zi1_44 rfl ?_
  refine zr_aload_n zi1_45 rfl ?_
  refine zr_virtual zi1_46 rfl rfl (G1.1.at0 rfl) rfl rfl ?_
  refine zcall_dep (d := 0) (Nat.le_of_ble_eq_true rfl) (c4 G1 (zbk_v ?_))
  refine zr_icmp_geN zi1_49 rfl (by omega) (by omega) (fun q49 => ?_) (fun q49 => ?_)
  · refine zr_return zi1_64 rfl ?_
    obtain rfl : k = w + hh := by omega
    exact K _ (FA.trans F1) (by have := F1.2.1; have := F1.2.2.1; omega) G1
  · refine zr_aload_n zi1_52 rfl ?_
    refine zr_iload_n zi1_53 rfl ?_
    refine zr_iconst (v := (-1)) zi1_54 rfl ?_
    refine zr_virtual zi1_55 rfl rfl (G1.1.at0 rfl) rfl rfl ?_
    refine zcall_dep (d := 1) (Nat.le_of_ble_eq_true rfl) (c5 S_1 G1 (by omega) (fun h55 F55 G55 => zbk_0 ?_))
    have S_55 := F55.ss S_1
    refine zr_iincN (z := 1) (L' := [some (.ref _), some (.int (zJ _)), some (.int (zJ _)), some (.int (zJ _))]) zi1_58 rfl rfl rfl rfl ?_
    refine zr_goto zi1_61 rfl ?_
    exact ih44 (by omega) _ (F1.trans F55) G55
theorem yBk.grow {h h' : zPH} {b k n m s : Nat} {ws vs : List zCel} {c : zCel} (X : yBk h b (ws ++ [c])) (F : yFr (yIv (b + k) n) h h' m s) (V : yBk h' (b + k) vs) (hk : ws.length = k) : yBk h' b (ws ++ vs) := by
  subst hk
  refine yBk.join (k := ws.length) ?_ V rfl
  have h0 : yBk h b ws := by
    refine ⟨by have := X.1; rw [List.length_append] at this; omega, fun i d hi => ?_⟩
    have hl : i < ws.length := by
      rcases Nat.lt_or_ge i ws.length with q | q
      · exact q
      · rw [List.getElem?_eq_none q] at hi; cases hi
    exact X.2 i d (by rw [List.getElem?_append_left hl]; exact hi)
  exact F.bk h0 (fun a z1 z2 z3 => by have := z3.1; omega)
theorem c8 {E : zEnv} {h : zPH} {Q : zOut → zPH → Prop} (S : ySs E h) {a : Nat} (X : yBk h a [(2, [.null, .null, .null, .null, .null, .null, .int 0, .int 0, .int 0, .int 0, .int 0])]) (e : h.2.1 = a + 1) (K : ∀ h1, yFr (yIv a 10) h h1 9 695 → h1.2.1 = a + 10 → yA h1 a (List.replicate 500 0) (List.replicate 10 0) (List.replicate 5 0) (List.replicate 30 0) (List.replicate 25 0) 2 2 yZ0 (yTi 2 2 4).1 (yTi 2 2 4).2 false 0 0 0 0 → Q (.inl none) h1) : zcall E 3 8 [.ref a] h Q := by
  show zwp E _ 8 (0, [some (.ref _)], [], _) Q
  refine zr_aload_n zi8_0 rfl ?_
  refine zr_obj zi8_1 rfl ?_
  refine zr_aload_n zi8_4 rfl ?_
  refine zr_sipush (v := zJ 500) zi8_5 rfl ?_
  refine zr_newarrayN zi8_8 (by omega) rfl ?_
  refine zw_app (k := 1) X e rfl (fun h8 F8 X8 e8 => ?_)
  have S_8 := (F8 (fun _ => True)).ss S
  refine zr_putfield zi8_10 (X8.at0 rfl) rfl rfl ?_
  refine zw_bkX0 (N := 10) X8 rfl (by omega) (Nat.le_of_ble_eq_true rfl) (fun h10 F10 X10 d10 => ?_)
  have e10 := d10.trans e8
  have S_10 := F10.ss S_8
  refine zr_aload_n zi8_13 rfl ?_
  refine zr_bipush (v := zJ 10) zi8_14 rfl ?_
  refine zr_newarrayN zi8_16 (by omega) rfl ?_
  refine zw_app (k := 2) X10 e10 rfl (fun h16 F16 X16 e16 => ?_)
  have S_16 := (F16 (fun _ => True)).ss S_10
  refine zr_putfield zi8_18 (X16.at0 rfl) rfl rfl ?_
  refine zw_bkX0 (N := 10) X16 rfl (by omega) (Nat.le_of_ble_eq_true rfl) (fun h18 F18 X18 d18 => ?_)
  have e18 := d18.trans e16
  have S_18 := F18.ss S_16
  refine zr_aload_n zi8_21 rfl ?_
  refine zr_new zi8_22 rfl rfl ?_
  refine zw_app (k := 3) X18 e18 rfl (fun h22 F22 X22 e22 => ?_)
  have S_22 := (F22 (fun _ => True)).ss S_18
  refine zr_dup zi8_25 rfl ?_
  refine zr_iconst (v := zJ 2) zi8_26 rfl ?_
  refine zr_iconst (v := zJ 2) zi8_27 rfl ?_
  refine zr_special zi8_28 rfl rfl rfl rfl ?_
  refine zcall_dep (d := 2) (Nat.le_of_ble_eq_true rfl) (c1 S_22 (X22.sub 3 [(1, [.null, .null, .null, .int 0, .int 0])] rfl (Nat.le_of_ble_eq_true rfl)) e22 (by omega) (fun h28 F28 e28 G28 => zbk_0 ?_))
  have X28 := yBk.grow (k := 3) (n := 4) X22 F28 G28.1 rfl
  have S_28 := F28.ss S_22
  refine zr_putfield zi8_31 (X28.at0 rfl) rfl rfl ?_
  refine zw_bkX0 (N := 10) X28 rfl (by omega) (Nat.le_of_ble_eq_true rfl) (fun h31 F31 X31 d31 => ?_)
  have e31 := d31.trans e28
  have S_31 := F31.ss S_28
  refine zr_aload_n zi8_34 rfl ?_
  refine zr_iconst (v := zJ 5) zi8_35 rfl ?_
  refine zr_newarrayN zi8_36 (by omega) rfl ?_
  refine zw_app (k := 7) X31 e31 rfl (fun h36 F36 X36 e36 => ?_)
  have S_36 := (F36 (fun _ => True)).ss S_31
  refine zr_putfield zi8_38 (X36.at0 rfl) rfl rfl ?_
  refine zw_bkX0 (N := 10) X36 rfl (by omega) (Nat.le_of_ble_eq_true rfl) (fun h38 F38 X38 d38 => ?_)
  have e38 := d38.trans e36
  have S_38 := F38.ss S_36
  refine zr_aload_n zi8_41 rfl ?_
  refine zr_bipush (v := zJ 30) zi8_42 rfl ?_
  refine zr_newarrayN zi8_44 (by omega) rfl ?_
  refine zw_app (k := 8) X38 e38 rfl (fun h44 F44 X44 e44 => ?_)
  have S_44 := (F44 (fun _ => True)).ss S_38
  refine zr_putfield zi8_46 (X44.at0 rfl) rfl rfl ?_
  refine zw_bkX0 (N := 10) X44 rfl (by omega) (Nat.le_of_ble_eq_true rfl) (fun h46 F46 X46 d46 => ?_)
  have e46 := d46.trans e44
  have S_46 := F46.ss S_44
  refine zr_aload_n zi8_49 rfl ?_
  refine zr_bipush (v := zJ 25) zi8_50 rfl ?_
  refine zr_newarrayN zi8_52 (by omega) rfl ?_
  refine zw_app (k := 9) X46 e46 rfl (fun h52 F52 X52 e52 => ?_)
  have S_52 := (F52 (fun _ => True)).ss S_46
  refine zr_putfield zi8_54 (X52.at0 rfl) rfl rfl ?_
  refine zw_bkX0 (N := 10) X52 rfl (by omega) (Nat.le_of_ble_eq_true rfl) (fun h54 F54 X54 d54 => ?_)
  have e54 := d54.trans e52
  have S_54 := F54.ss S_52
  refine zr_return zi8_57 rfl ?_
  exact K _ (((((((((((((F8 (yIv a 10)).trans F10).trans (F16 (yIv a 10))).trans F18).trans (F22 (yIv a 10))).trans (F28.up (N := 10) (by omega))).trans F31).trans (F36 (yIv a 10))).trans F38).trans (F44 (yIv a 10))).trans F46).trans (F52 (yIv a 10))).trans F54) e54 ⟨X54, ⟨List.length_replicate, rfl, rfl, rfl, rfl⟩, ⟨by omega, rfl, rfl, rfl⟩, by omega⟩
