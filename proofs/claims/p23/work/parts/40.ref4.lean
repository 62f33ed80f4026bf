/-! ===== the reference: boards written, swept ===== -/
theorem c153 {E : zEnv} {h : zPH} {Q : zOut → zPH → Prop} {g eg ng : Nat} {mc : Int32} (Lg : yBk h g [(8, [.ref eg, .int (zJ ng), .int mc])]) (K : Q (.inl (some (.int (zJ ng)))) h) : zcall E 0 153 [.ref g] h Q := by
  show zwp E _ 153 (0, [some (.ref _)], [], _) Q
  refine zr_aload_n zi153_0 rfl ?_
  refine zr_getfield zi153_1 (Lg.at0 rfl) rfl ?_
  refine zr_ireturn zi153_4 rfl ?_
  exact K
theorem c180 {E : zEnv} {h : zPH} {Q : zOut → zPH → Prop} {b r c g w hh : Nat} {x0 x1 x2 x3 cl : List Int32} {mi sp : Int32} (P : rB h b r c g w hh x0 x1 x2 x3 cl mi sp) {eg ng : Nat} {mc : Int32} (Lg : yBk h g [(8, [.ref eg, .int (zJ ng), .int mc])]) (hg : g + 1 ≤ r ∨ r + 5 ≤ g) {k : Nat} {x y z : Int32} (hk : k < w * hh) (K : ∀ h1, yFr (yIv r 5) h h1 0 0 → rB h1 b r c g w hh (x0.set k x) (x1.set k y) (x2.set k z) (x3.set k (if x = 0 then zJ 0 else zJ ng)) cl mi sp → Q (.inl none) h1) : zcall E 1 180 [.ref b, .int (zJ k), .int x, .int y, .int z] h Q := by
  obtain ⟨⟨gw1, gw2, gh1, gh2⟩, ⟨l0, l1, l2, l3, lcl⟩, d1, d2, d3⟩ := P.2.2.2
  have hwh := zwh_b (w := w) (hh := hh) ⟨gw1, gw2, gh1, gh2⟩
  show zwp E _ 180 (0, [some (.ref _), some (.int (zJ _)), some (.int _), some (.int _), some (.int _)], [], _) Q
  refine zr_aload_n zi180_0 rfl ?_
  refine zr_getfield zi180_1 (P.1.at0 rfl) rfl ?_
  refine zr_iconst (v := zJ 0) zi180_4 rfl ?_
  refine zr_aaloadN zi180_5 (P.rw.at0 rfl) rfl (by omega) rfl ?_
  refine zr_iload_n zi180_6 rfl ?_
  refine zr_iload_n zi180_7 rfl ?_
  refine zr_iastoreN zi180_8 (P.rw.at 1 rfl) (by omega) (by first | omega | (simp only [List.length_set, zpt_len]; omega)) ?_
  refine rB.wx0 P (by first | omega | (simp only [List.length_set, zpt_len]; omega)) (fun h8 F8 P8 => ?_)
  have Lg_8 := F8.bk Lg (by intro x z1 z2 z3; have z2 : x < _ + 1 := z2; have := z3.1; have := z3.2; omega)
  refine zr_aload_n zi180_9 rfl ?_
  refine zr_getfield zi180_10 (P8.1.at0 rfl) rfl ?_
  refine zr_iconst (v := zJ 1) zi180_13 rfl ?_
  refine zr_aaloadN zi180_14 (P8.rw.at0 rfl) rfl (by omega) rfl ?_
  refine zr_iload_n zi180_15 rfl ?_
  refine zr_iload_n zi180_16 rfl ?_
  refine zr_iastoreN zi180_17 (P8.rw.at 2 rfl) (by omega) (by first | omega | (simp only [List.length_set, zpt_len]; omega)) ?_
  refine rB.wx1 P8 (by first | omega | (simp only [List.length_set, zpt_len]; omega)) (fun h17 F17 P17 => ?_)
  have Lg_17 := F17.bk Lg_8 (by intro x z1 z2 z3; have z2 : x < _ + 1 := z2; have := z3.1; have := z3.2; omega)
  refine zr_aload_n zi180_18 rfl ?_
  refine zr_getfield zi180_19 (P17.1.at0 rfl) rfl ?_
  refine zr_iconst (v := zJ 2) zi180_22 rfl ?_
  refine zr_aaloadN zi180_23 (P17.rw.at0 rfl) rfl (by omega) rfl ?_
  refine zr_iload_n zi180_24 rfl ?_
  refine zr_iload zi180_25 rfl ?_
  refine zr_iastoreN zi180_27 (P17.rw.at 3 rfl) (by omega) (by first | omega | (simp only [List.length_set, zpt_len]; omega)) ?_
  refine rB.wx2 P17 (by first | omega | (simp only [List.length_set, zpt_len]; omega)) (fun h27 F27 P27 => ?_)
  have Lg_27 := F27.bk Lg_17 (by intro x z1 z2 z3; have z2 : x < _ + 1 := z2; have := z3.1; have := z3.2; omega)
  refine zr_aload_n zi180_28 rfl ?_
  refine zr_getfield zi180_29 (P27.1.at0 rfl) rfl ?_
  refine zr_iconst (v := zJ 3) zi180_32 rfl ?_
  refine zr_aaloadN zi180_33 (P27.rw.at0 rfl) rfl (by omega) rfl ?_
  refine zr_iload_n zi180_34 rfl ?_
  refine zr_iload_n zi180_35 rfl ?_
  refine zr_if_ne zi180_36 rfl (fun q36 => ?_) (fun q36 => ?_)
  · rw [if_neg q36] at K
    refine zr_aload_n zi180_43 rfl ?_
    refine zr_getfield zi180_44 (P27.1.at0 rfl) rfl ?_
    refine zr_iface zi180_47 rfl (Lg_27.at0 rfl) rfl rfl ?_
    refine zcall_dep (d := 0) (Nat.le_of_ble_eq_true rfl) (c153 Lg_27 (zbk_v ?_))
    refine zr_iastoreN zi180_52 (P27.rw.at 4 rfl) (by omega) (by first | omega | (simp only [List.length_set, zpt_len]; omega)) ?_
    refine rB.wx3 P27 (by first | omega | (simp only [List.length_set, zpt_len]; omega)) (fun h52 F52 P52 => ?_)
    have Lg_52 := F52.bk Lg_27 (by intro x z1 z2 z3; have z2 : x < _ + 1 := z2; have := z3.1; have := z3.2; omega)
    refine zr_return zi180_53 rfl ?_
    exact K _ (((F8.trans F17).trans F27).trans F52) P52
  · rw [if_pos q36] at K
    refine zr_iconst (v := zJ 0) zi180_39 rfl ?_
    refine zr_goto zi180_40 rfl ?_
    refine zr_iastoreN zi180_52 (P27.rw.at 4 rfl) (by omega) (by first | omega | (simp only [List.length_set, zpt_len]; omega)) ?_
    refine rB.wx3 P27 (by first | omega | (simp only [List.length_set, zpt_len]; omega)) (fun h52 F52 P52 => ?_)
    have Lg_52 := F52.bk Lg_27 (by intro x z1 z2 z3; have z2 : x < _ + 1 := z2; have := z3.1; have := z3.2; omega)
    refine zr_return zi180_53 rfl ?_
    exact K _ (((F8.trans F17).trans F27).trans F52) P52
theorem c156r {E : zEnv} {h : zPH} {Q : zOut → zPH → Prop} {b c g w hh : Nat} {v : Value} {cl : List Int32} {mi sp : Int32} (P0 : rB0 h b c g w hh v cl mi sp) (K : Q (.inl (some (.int (zJ (w * hh))))) h) : zcall E 0 156 [.ref b] h Q := by
  show zwp E _ 156 (0, [some (.ref _)], [], _) Q
  refine zr_aload_n zi156_0 rfl ?_
  refine zr_getfield zi156_1 (P0.1.at0 rfl) rfl ?_
  refine zr_aload_n zi156_4 rfl ?_
  refine zr_getfield zi156_5 (P0.1.at0 rfl) rfl ?_
  refine zr_imulN zi156_8 ?_
  refine zr_ireturn zi156_9 rfl ?_
  exact K
theorem c155 {E : zEnv} {h : zPH} {Q : zOut → zPH → Prop} {b c g w hh : Nat} {v : Value} {cl : List Int32} {mi sp : Int32} (P0 : rB0 h b c g w hh v cl mi sp) (K : ∀ h1 q, yFr (fun x => h.2.1 ≤ x ∨ yIv b 1 x) h h1 5 (4 + 4 * (w * hh)) → q = h.2.1 → h1.2.1 = h.2.1 + 5 → rB h1 b q c g w hh (List.replicate (w * hh) 0) (rn1 (w * hh) (w * hh)) (List.replicate (w * hh) 0) (List.replicate (w * hh) 0) cl mi sp → Q (.inl none) h1) : zcall E 1 155 [.ref b] h Q := by
  obtain ⟨gw1, gw2, gh1, gh2⟩ := P0.2.2.1
  have hwh := zwh_b (w := w) (hh := hh) ⟨gw1, gw2, gh1, gh2⟩
  show zwp E _ 155 (0, [some (.ref _), none], [], _) Q
  refine zr_aload_n zi155_0 rfl ?_
  refine zr_iconst (v := zJ 4) zi155_1 rfl ?_
  refine zr_aload_n zi155_2 rfl ?_
  refine zr_virtual zi155_3 rfl rfl (P0.1.at0 rfl) rfl rfl ?_
  refine zcall_dep (d := 0) (Nat.le_of_ble_eq_true rfl) (c156r P0 (zbk_v ?_))
  refine zr_mul2N zi155_6 (by omega) (by omega) ?_
  refine zw_new4 (fun h6 q F6 eq6 R6 n6 => ?_)
  have P6 := P0.fr (F6 (fun _ => False)) (fun _ _ z => z)
  have hb : b < h.2.1 := P0.1.1
  have hc : c < h.2.1 := P0.2.1.1
  refine zr_putfield zi155_10 (P6.1.at0 rfl) rfl rfl ?_
  refine rB0.mk P6 R6 ⟨List.length_replicate, List.length_replicate, List.length_replicate, List.length_replicate⟩ (by omega) (by omega) (fun h10 F10 P10 => ?_)
  refine zr_iconst (v := zJ 0) zi155_13 rfl ?_
  refine zr_istore_n (L' := [some (.ref _), some (.int (zJ _))]) zi155_14 rfl rfl ?_
  suffices key15 : ∀ h1, (yFr (fun x => h.2.1 ≤ x ∨ yIv b 1 x) h h1 5 (4 + 4 * (w * hh))) → (rB h1 b q c g w hh (List.replicate (w * hh) 0) (rn1 (w * hh) 0) (List.replicate (w * hh) 0) (List.replicate (w * hh) 0) cl mi sp) → (h1.2.1 = h.2.1 + 5) → zwp E 1 155 (15, [some (.ref b), some (.int (zJ 0))], [], h1) Q from key15 h10 (((F6 _).trans (F10.mono (fun _ _ z => Or.inr z) (Nat.le_refl _) (Nat.le_refl _)))) P10 (by have := F10.2.1; have := F10.2.2.1; omega)
  refine zloop (P := fun k => ∀ h1, (yFr (fun x => h.2.1 ≤ x ∨ yIv b 1 x) h h1 5 (4 + 4 * (w * hh))) → (rB h1 b q c g w hh (List.replicate (w * hh) 0) (rn1 (w * hh) k) (List.replicate (w * hh) 0) (List.replicate (w * hh) 0) cl mi sp) → (h1.2.1 = h.2.1 + 5) → zwp E 1 155 (15, [some (.ref b), some (.int (zJ k))], [], h1) Q) (n := w * hh) fun k hk15 ih15 => ?_
  intro h1 F1 P1 n1
  have l1 := P1.2.2.2.2.1.2.1
  refine zr_iload_n zi155_15 rfl ?_
  refine zr_aload_n zi155_16 rfl ?_
  refine zr_virtual zi155_17 rfl rfl (P1.1.at0 rfl) rfl rfl ?_
  refine zcall_dep (d := 0) (Nat.le_of_ble_eq_true rfl) (c156 P1 (zbk_v ?_))
  refine zr_icmp_geN zi155_20 rfl (by omega) (by omega) (fun q20 => ?_) (fun q20 => ?_)
  · refine zr_return zi155_38 rfl ?_
    obtain rfl : k = w * hh := by omega
    exact K _ q F1 eq6 n1 P1
  · refine zr_aload_n zi155_23 rfl ?_
    refine zr_getfield zi155_24 (P1.1.at0 rfl) rfl ?_
    refine zr_iconst (v := zJ 1) zi155_27 rfl ?_
    refine zr_aaloadN zi155_28 (P1.rw.at0 rfl) rfl (by omega) rfl ?_
    refine zr_iload_n zi155_29 rfl ?_
    refine zr_iconst (v := (-1)) zi155_30 rfl ?_
    refine zr_iastoreN zi155_31 (P1.rw.at 2 rfl) (by omega) (by first | omega | (simp only [List.length_set, zpt_len]; omega)) ?_
    refine rB.wx1 P1 (by first | omega | (simp only [List.length_set, zpt_len]; omega)) (fun h31 F31 P31 => ?_)
    refine zr_iincN (z := 1) (L' := [some (.ref _), some (.int (zJ _))]) zi155_32 rfl rfl rfl rfl ?_
    refine zr_goto zi155_35 rfl ?_
    exact ih15 (by omega) _ (F1.trans (F31.mono (fun x _ z => Or.inl (by have := z.1; omega)) (Nat.le_refl _) (Nat.le_refl _))) P31 (by have := F31.2.1; have := F31.2.2.1; omega)
def rL0 (h : zPH) (E : zEnv) (g : Nat) (mc : Int32) : Prop := ∃ e, E.1 3 = .ref e ∧ yBk h g [(8, [.ref e, .int (zJ 0), .int mc])]
theorem c149 {E : zEnv} {h : zPH} {Q : zOut → zPH → Prop} {a : Nat} (K : Q (.inl none) h) : zcall E 0 149 [.ref a] h Q := by
  show zwp E _ 149 (0, [some (.ref _)], [], _) Q
  refine zr_aload_n zi149_0 rfl ?_
  refine zr_obj zi149_1 rfl ?_
  refine zr_return zi149_4 rfl ?_
  exact K
theorem c148 {E : zEnv} {h : zPH} {Q : zOut → zPH → Prop} {a : Nat} {v : Value} {n : Int32} (X : yBk h a [(8, [v, .int 0, .int n])]) (K : ∀ h1, yFr (yIv a 1) h h1 0 0 → h1.2.1 = h.2.1 → yBk h1 a [(8, [v, .int 0, .int (zJ 0)])] → Q (.inl none) h1) : zcall E 1 148 [.ref a] h Q := by
  show zwp E _ 148 (0, [some (.ref _)], [], _) Q
  refine zr_aload_n zi148_0 rfl ?_
  refine zr_special zi148_1 rfl rfl rfl rfl ?_
  refine zcall_dep (d := 0) (Nat.le_of_ble_eq_true rfl) (c149 (zbk_0 ?_))
  refine zr_aload_n zi148_4 rfl ?_
  refine zr_iconst (v := zJ 0) zi148_5 rfl ?_
  refine zr_putfield zi148_6 (X.at0 rfl) rfl rfl ?_
  refine zw_bkX0 (N := 1) X rfl (by decide) (Nat.le_of_ble_eq_true rfl) (fun h6 F6 X6 d6 => ?_)
  refine zr_return zi148_9 rfl ?_
  exact K _ F6 d6 X6
theorem c147 {E : zEnv} {h : zPH} {Q : zOut → zPH → Prop} (S : ySs E h) {a : Nat} {v : Value} {n : Int32} (X : yBk h a [(8, [v, .int 0, .int n])]) (K : ∀ h1, yFr (yIv a 1) h h1 0 0 → h1.2.1 = h.2.1 → rL0 h1 E a (zJ 0) → Q (.inl none) h1) : zcall E 2 147 [.ref a] h Q := by
  obtain ⟨⟨aSH, eSH, lSH, hSH⟩, ⟨aDK, eDK, lDK, hDK⟩, eCS, ⟨aEL, eEL, lEL, hEL⟩⟩ := S
  show zwp E _ 147 (0, [some (.ref _)], [], _) Q
  refine zr_aload_n zi147_0 rfl ?_
  refine zr_special zi147_1 rfl rfl rfl rfl ?_
  refine zcall_dep (d := 1) (Nat.le_of_ble_eq_true rfl) (c148 X (fun h1 F1 d1 X1 => zbk_0 ?_))
  refine zr_aload_n zi147_4 rfl ?_
  refine zr_getstatic zi147_5 rfl eEL ?_
  refine zr_putfield zi147_8 (X1.at0 rfl) rfl rfl ?_
  refine zw_bkX0 (N := 1) X1 rfl (by decide) (Nat.le_of_ble_eq_true rfl) (fun h8 F8 X8 d8 => ?_)
  refine zr_return zi147_11 rfl ?_
  exact K _ (F1.trans F8) (d8.trans d1) ⟨_, eEL, X8⟩
theorem c154 {E : zEnv} {h : zPH} {Q : zOut → zPH → Prop} (S : ySs E h) {b w hh : Nat} (X : yBk h b [(9, [.int 0, .int 0, .null, .null, .null, .int 0, .int 0])]) (e : h.2.1 = b + 1) (gw1 : 2 ≤ w) (gw2 : w ≤ 5) (gh1 : 2 ≤ hh) (gh2 : hh ≤ 5) (K : ∀ h1, yFr (yIv b 8) h h1 7 (3 + (w + hh) + (4 + 4 * (w * hh))) → h1.2.1 = b + 8 → rB h1 b (b + 3) (b + 2) (b + 1) w hh (List.replicate (w * hh) 0) (rn1 (w * hh) (w * hh)) (List.replicate (w * hh) 0) (List.replicate (w * hh) 0) (rnc (w + hh) (w + hh)) 0 0 → rL0 h1 E (b + 1) (zJ 0) → Q (.inl none) h1) : zcall E 3 154 [.ref b, .int (zJ w), .int (zJ hh)] h Q := by
  show zwp E _ 154 (0, [some (.ref _), some (.int (zJ _)), some (.int (zJ _)), none], [], _) Q
  refine zr_aload_n zi154_0 rfl ?_
  refine zr_obj zi154_1 rfl ?_
  refine zr_aload_n zi154_4 rfl ?_
  refine zr_new zi154_5 rfl rfl ?_
  refine zw_app (k := 1) X e rfl (fun h5 F5 X5 e5 => ?_)
  have S_5 := (F5 (fun _ => True)).ss S
  refine zr_dup zi154_8 rfl ?_
  refine zr_special zi154_9 rfl rfl rfl rfl ?_
  refine zcall_dep (d := 2) (Nat.le_of_ble_eq_true rfl) (c147 S_5 (X5.sub 1 [(8, [.null, .int 0, .int 0])] rfl (Nat.le_of_ble_eq_true rfl)) (fun h9 F9 d9 X0 => zbk_0 ?_))
  obtain ⟨eg, eEL, XL⟩ := X0
  have X9 := yBk.grow (k := 1) (n := 1) X5 F9 XL rfl
  have e9 := d9.trans e5
  have S_9 := F9.ss S_5
  refine zr_putfield zi154_12 (X9.at0 rfl) rfl rfl ?_
  refine zw_bkX0 (N := 3) X9 rfl (by omega) (Nat.le_of_ble_eq_true rfl) (fun h12 F12 X12 d12 => ?_)
  have e12 := d12.trans e9
  have S_12 := F12.ss S_9
  refine zr_aload_n zi154_15 rfl ?_
  refine zr_iload_n zi154_16 rfl ?_
  refine zr_putfield zi154_17 (X12.at0 rfl) rfl rfl ?_
  refine zw_bkX0 (N := 3) X12 rfl (by omega) (Nat.le_of_ble_eq_true rfl) (fun h17 F17 X17 d17 => ?_)
  have e17 := d17.trans e12
  have S_17 := F17.ss S_12
  refine zr_aload_n zi154_20 rfl ?_
  refine zr_iload_n zi154_21 rfl ?_
  refine zr_putfield zi154_22 (X17.at0 rfl) rfl rfl ?_
  refine zw_bkX0 (N := 3) X17 rfl (by omega) (Nat.le_of_ble_eq_true rfl) (fun h22 F22 X22 d22 => ?_)
  have e22 := d22.trans e17
  have S_22 := F22.ss S_17
  refine zr_aload_n zi154_25 rfl ?_
  refine zr_iload_n zi154_26 rfl ?_
  refine zr_iload_n zi154_27 rfl ?_
  refine zr_iaddN zi154_28 ?_
  refine zr_newarrayN zi154_29 (by omega) rfl ?_
  refine zw_app (k := 2) X22 e22 rfl (fun h29 F29 X29 e29 => ?_)
  have S_29 := (F29 (fun _ => True)).ss S_22
  refine zr_putfield zi154_31 (X29.at0 rfl) rfl rfl ?_
  refine zw_bkX0 (N := 3) X29 rfl (by omega) (Nat.le_of_ble_eq_true rfl) (fun h31 F31 X31 d31 => ?_)
  have e31 := d31.trans e29
  have S_31 := F31.ss S_29
  refine zr_iconst (v := zJ 0) zi154_34 rfl ?_
  refine zr_istore_n (L' := [some (.ref _), some (.int (zJ _)), some (.int (zJ _)), some (.int (zJ _))]) zi154_35 rfl rfl ?_
  have FA : yFr (yIv b 3) h h31 2 (3 + (w + hh)) := (((((((F5 (yIv b 3)).trans (F9.up (N := 3) (by omega))).trans F12).trans F17).trans F22).trans (F29 (yIv b 3))).trans F31).mono (fun _ _ z => z) (by omega) (by omega)
  have e9 : h31.2.1 = b + 3 := e31
  suffices key36 : ∀ h1, (yFr (yIv b 3) h h1 2 (3 + (w + hh))) → (h1.2.1 = b + 3) → (yBk h1 b [(9, [.int (zJ w), .int (zJ hh), .null, .ref (b + 2), .ref (b + 1), .int 0, .int 0]), (8, [.ref eg, .int (zJ 0), .int (zJ 0)]), (64, zis (rnc (w + hh) 0))]) → (ySs E h1) → zwp E 3 154 (36, [some (.ref b), some (.int (zJ w)), some (.int (zJ hh)), some (.int (zJ 0))], [], h1) Q from key36 h31 FA e9 X31 S_31
  refine zloop (P := fun k => ∀ h1, (yFr (yIv b 3) h h1 2 (3 + (w + hh))) → (h1.2.1 = b + 3) → (yBk h1 b [(9, [.int (zJ w), .int (zJ hh), .null, .ref (b + 2), .ref (b + 1), .int 0, .int 0]), (8, [.ref eg, .int (zJ 0), .int (zJ 0)]), (64, zis (rnc (w + hh) k))]) → (ySs E h1) → zwp E 3 154 (36, [some (.ref b), some (.int (zJ w)), some (.int (zJ hh)), some (.int (zJ k))], [], h1) Q) (n := w + hh) fun k hk36 ih36 => ?_
  intro h1 F1 e1 X1 S1
  have hrn := rnc_len (w + hh) k
  refine zr_iload_n zi154_36 rfl ?_
  refine zr_aload_n zi154_37 rfl ?_
  refine zr_getfield zi154_38 (X1.at0 rfl) rfl ?_
  refine zr_arraylength (v := zJ (w + hh)) zi154_41 (X1.at 2 rfl) rfl (zlenJ hrn) ?_
  refine zr_icmp_geN zi154_42 rfl (by omega) (by omega) (fun q42 => ?_) (fun q42 => ?_)
  · refine zr_aload_n zi154_58 rfl ?_
    refine zr_virtual zi154_59 rfl rfl (X1.at0 rfl) rfl rfl ?_
    refine zcall_dep (d := 1) (Nat.le_of_ble_eq_true rfl) (c155 (g := b + 1) ⟨X1.sub 0 [(9, [.int (zJ w), .int (zJ hh), .null, .ref (b + 2), .ref (b + 1), .int 0, .int 0])] rfl (Nat.le_of_ble_eq_true rfl), X1.sub 2 [(64, zis (rnc (w + hh) k))] rfl (Nat.le_of_ble_eq_true rfl), by omega, hrn, by omega⟩ (fun h59 q F59 q59 n59 P59 => zbk_0 ?_))
    refine zr_return zi154_62 rfl ?_
    obtain rfl : k = w + hh := by omega
    have hq : q = b + 3 := by omega
    subst hq
    have XL := (X1.sub 1 [(8, [.ref eg, .int (zJ 0), .int (zJ 0)])] rfl (Nat.le_of_ble_eq_true rfl))
    refine K _ ((F1.mono (fun x _ z => (yIv_up (k := 0) z (by omega) : yIv b 8 x)) (Nat.le_refl _) (Nat.le_refl _)).trans (F59.mono (fun x hx z => by rcases z with z | z; omega; exact ⟨z.1, by have := z.2; omega⟩) (Nat.le_refl _) (Nat.le_refl _))) (by omega) P59 ⟨eg, eEL, F59.bk XL (fun x z1 z2 z3 => by have z2 : x < b + 1 + 1 := z2; rcases z3 with z | z; omega; have := z.2; omega)⟩
  · refine zr_aload_n zi154_45 rfl ?_
    refine zr_getfield zi154_46 (X1.at0 rfl) rfl ?_
    refine zr_iload_n zi154_49 rfl ?_
    refine zr_iconst (v := (-1)) zi154_50 rfl ?_
    refine zr_iastoreN zi154_51 (X1.at 2 rfl) (by omega) (by first | omega | (simp only [List.length_set, zpt_len]; omega)) ?_
    refine zw_bkX (N := 3) X1 rfl (by omega) (Nat.le_of_ble_eq_true rfl) (fun h51 F51 X51 d51 => ?_)
    have e51 := d51.trans e1
    have S_51 := F51.ss S1
    refine zr_iincN (z := 1) (L' := [some (.ref _), some (.int (zJ _)), some (.int (zJ _)), some (.int (zJ _))]) zi154_52 rfl rfl rfl rfl ?_
    refine zr_goto zi154_55 rfl ?_
    exact ih36 (by omega) _ (F1.trans F51) (by rw [d51]; exact e1) X51 (F51.ss S1)
