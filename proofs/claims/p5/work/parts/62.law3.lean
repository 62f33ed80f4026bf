/-! ===== the law ===== -/
theorem c66 {E : zEnv} {h : zPH} {Q : zOut → zPH → Prop} {o : Nat} (K : Q (.inl none) h) : zcall E 0 66 [.ref o] h Q := by
  show zwp E _ 66 (0, [some (.ref _)], [], _) Q
  refine zr_aload_n zi66_0 rfl ?_
  refine zr_obj zi66_1 rfl ?_
  refine zr_return zi66_4 rfl ?_
  exact K
theorem c0 {E : zEnv} {h : zPH} {Q : zOut → zPH → Prop} (S : ySs E h) {a : Nat} (X : yBk h a [(0, [.null, .null, .null, .int 0, .int 0])]) (e : h.2.1 = a + 1) (K : ∀ h1 τ α, yFr (yIv a 16) h h1 15 834 → h1.2.1 = a + 16 → yC h1 a [] (zJ 0) τ α → Q (.inl none) h1) : zcall E 4 0 [.ref a] h Q := by
  show zwp E _ 0 (0, [some (.ref _)], [], _) Q
  refine zr_aload_n zi0_0 rfl ?_
  refine zr_obj zi0_1 rfl ?_
  refine zr_aload_n zi0_4 rfl ?_
  refine zr_iconst (v := zJ 3) zi0_5 rfl ?_
  refine zr_anewarrayN zi0_6 (by omega) ?_
  refine zw_app (k := 1) X e rfl (fun h6 F6 X6 e6 => ?_)
  have S_6 := (F6 (fun _ => True)).ss S
  refine zr_putfield zi0_9 (X6.at0 rfl) rfl rfl ?_
  refine zw_bkX0 (N := 16) X6 rfl (by omega) (Nat.le_of_ble_eq_true rfl) (fun h9 F9 X9 d9 => ?_)
  have e9 := d9.trans e6
  have S_9 := F9.ss S_6
  refine zr_aload_n zi0_12 rfl ?_
  refine zr_new zi0_13 rfl rfl ?_
  refine zw_app (k := 2) X9 e9 rfl (fun h13 F13 X13 e13 => ?_)
  have S_13 := (F13 (fun _ => True)).ss S_9
  refine zr_dup zi0_16 rfl ?_
  refine zr_iconst (v := zJ 2) zi0_17 rfl ?_
  refine zr_iconst (v := zJ 2) zi0_18 rfl ?_
  refine zr_special zi0_19 rfl rfl rfl rfl ?_
  refine zcall_dep (d := 2) (Nat.le_of_ble_eq_true rfl) (c1 S_13 (X13.sub 2 [(1, [.null, .null, .null, .int 0, .int 0])] rfl (Nat.le_of_ble_eq_true rfl)) e13 (by omega) (fun h19 F19 e19 G19 => zbk_0 ?_))
  have X19 := yBk.grow (k := 2) (n := 4) X13 F19 G19.1 rfl
  have S_19 := F19.ss S_13
  refine zr_putfield zi0_22 (X19.at0 rfl) rfl rfl ?_
  refine zw_bkX0 (N := 16) X19 rfl (by omega) (Nat.le_of_ble_eq_true rfl) (fun h22 F22 X22 d22 => ?_)
  have e22 := d22.trans e19
  have S_22 := F22.ss S_19
  refine zr_aload_n zi0_25 rfl ?_
  refine zr_new zi0_26 rfl rfl ?_
  refine zw_app (k := 6) X22 e22 rfl (fun h26 F26 X26 e26 => ?_)
  have S_26 := (F26 (fun _ => True)).ss S_22
  refine zr_dup zi0_29 rfl ?_
  refine zr_special zi0_30 rfl rfl rfl rfl ?_
  refine zcall_dep (d := 3) (Nat.le_of_ble_eq_true rfl) (c8 S_26 (X26.sub 6 [(2, [.null, .null, .null, .null, .null, .null, .int 0, .int 0, .int 0, .int 0, .int 0])] rfl (Nat.le_of_ble_eq_true rfl)) e26 (fun h30 F30 e30 A30 => zbk_0 ?_))
  have X30 := yBk.grow (k := 6) (n := 10) X26 F30 A30.1 rfl
  have S_30 := F30.ss S_26
  refine zr_putfield zi0_33 (X30.at0 rfl) rfl rfl ?_
  refine zw_bkX0 (N := 16) X30 rfl (by omega) (Nat.le_of_ble_eq_true rfl) (fun h33 F33 X33 d33 => ?_)
  have e33 := d33.trans e30
  have S_33 := F33.ss S_30
  refine zr_aload_n zi0_36 rfl ?_
  refine zr_iconst (v := zJ 0) zi0_37 rfl ?_
  refine zr_putfield zi0_38 (X33.at0 rfl) rfl rfl ?_
  refine zw_bkX0 (N := 16) X33 rfl (by omega) (Nat.le_of_ble_eq_true rfl) (fun h38 F38 X38 d38 => ?_)
  have e38 := d38.trans e33
  have S_38 := F38.ss S_33
  refine zr_aload_n zi0_41 rfl ?_
  refine zr_iconst (v := zJ 0) zi0_42 rfl ?_
  refine zr_putfield zi0_43 (X38.at0 rfl) rfl rfl ?_
  refine zw_bkX0 (N := 16) X38 rfl (by omega) (Nat.le_of_ble_eq_true rfl) (fun h43 F43 X43 d43 => ?_)
  have e43 := d43.trans e38
  have S_43 := F43.ss S_38
  refine zr_return zi0_46 rfl ?_
  have XX := X43
  refine K _ (2, 2, yZ0, (yTi 2 2 4).1, (yTi 2 2 4).2) yA0 (((((((((((F6 (yIv a 16)).trans F9).trans (F13 (yIv a 16))).trans (F19.up (N := 16) (by omega))).trans F22).trans (F26 (yIv a 16))).trans (F30.up (N := 16) (by omega))).trans F33).trans F38).trans F43).fit (by omega) (by omega)) (e43) ⟨⟨XX.sub 0 [(0, [.ref (a + 1), .ref (a + 2), .ref (a + 6), .int (zJ 0), .int (zJ 0)]), (68, [.null, .null, .null])] rfl (Nat.le_of_ble_eq_true rfl), ⟨XX.sub 2 (gC (a + 2) 2 2 yZ0 (yTi 2 2 4).1 (yTi 2 2 4).2) rfl (Nat.le_of_ble_eq_true rfl), G19.2⟩, ⟨XX.sub 6 (aC (a + 6) (List.replicate 500 0) (List.replicate 10 0) (List.replicate 5 0) (List.replicate 30 0) (List.replicate 25 0) 2 2 yZ0 (yTi 2 2 4).1 (yTi 2 2 4).2 false 0 0 0 0) rfl (Nat.le_of_ble_eq_true rfl), A30.2⟩, Nat.zero_le _⟩, fun β z => (by cases z), fun β z => (by cases z), List.Pairwise.nil, fun β z => (by cases z), Or.inl rfl⟩
theorem c146 {E : zEnv} {h : zPH} {Q : zOut → zPH → Prop} (S : ySs E h) {m : Nat} (X : yBk h m [(7, [.int 0, .null, .int 0])]) (e : h.2.1 = m + 1) (K : ∀ h1, yFr (yIv m 2) h h1 1 3 → h1.2.1 = m + 2 → rC h1 E m (m + 1) (zJ 0) (zJ 0) [] → Q (.inl none) h1) : zcall E 3 146 [.ref m] h Q := by
  show zwp E _ 146 (0, [some (.ref _)], [], _) Q
  refine zr_aload_n zi146_0 rfl ?_
  refine zr_obj zi146_1 rfl ?_
  refine zr_aload_n zi146_4 rfl ?_
  refine zr_new zi146_5 rfl rfl ?_
  refine zw_app (k := 1) X e rfl (fun h5 F5 X5 e5 => ?_)
  have S_5 := (F5 (fun _ => True)).ss S
  refine zr_dup zi146_8 rfl ?_
  refine zr_special zi146_9 rfl rfl rfl rfl ?_
  refine zcall_dep (d := 2) (Nat.le_of_ble_eq_true rfl) (c147 S_5 (X5.sub 1 [(8, [.null, .int 0, .int 0])] rfl (Nat.le_of_ble_eq_true rfl)) (fun h9 F9 d9 L9 => zbk_0 ?_))
  obtain ⟨eg, eEL, XL⟩ := L9
  have X9 := yBk.grow (k := 1) (n := 1) X5 F9 XL rfl
  have e9 := d9.trans e5
  have S_9 := F9.ss S_5
  refine zr_putfield zi146_12 (X9.at0 rfl) rfl rfl ?_
  refine zw_bkX0 (N := 2) X9 rfl (by omega) (Nat.le_of_ble_eq_true rfl) (fun h12 F12 X12 d12 => ?_)
  have e12 := d12.trans e9
  have S_12 := F12.ss S_9
  refine zr_return zi146_15 rfl ?_
  have XX := X12
  exact K _ ((((F5 (yIv m 2)).trans (F9.up (N := 2) (by omega))).trans F12).fit (by omega) (by omega)) (e12) ⟨XX.sub 0 [(7, [.int 0, .ref (m + 1), .int 0])] rfl (Nat.le_of_ble_eq_true rfl), ⟨Nat.zero_le _, eg, zJ 0, XX.sub 1 [(8, [.ref eg, .int (zJ 0), .int (zJ 0)])] rfl (Nat.le_of_ble_eq_true rfl), Or.inl ⟨rfl, rfl, eEL⟩⟩, Nat.zero_le _, Or.inl rfl, fun i β z => (by cases i <;> cases z), fun i j β γ z => (by cases i <;> cases z)⟩
theorem cthr {E : zEnv} {h : zPH} {Q : zOut → zPH → Prop} {m le : Nat} {n0 n2 : Int32} {B : List rBS} (C : rC h E m le n0 n2 B) (K : Q (.inl (some (.int n0))) h) : zcall E 0 237 [.ref m] h Q := by
  show zwp E _ 237 (0, [some (.ref _)], [], _) Q
  refine zr_aload_n zi237_0 rfl ?_
  refine zr_getfield zi237_1 (C.1.at0 rfl) rfl ?_
  refine zr_ireturn zi237_4 rfl ?_
  exact K
theorem claw {E : zEnv} {h : zPH} {Q : zOut → zPH → Prop} (S : ySs E h) {b : Nat} {l : List Int32} (Xs : h.1 b = some (96, zis l)) (hb : b < h.2.1) (hl : l.length ≤ 2560) (K : ∀ h1, h1.2.1 ≤ h.2.1 + 601024 → h1.2.2 ≤ h.2.2 + 7293034 → Q (.inl (some (.int (zB true)))) h1) : zcall E 19 238 [.ref b] h Q := by
  show zwp E _ 238 (0, [some (.ref _), none, none, none, none, none, none, none], [], _) Q
  refine zr_new zi238_0 rfl rfl ?_
  refine zw_new (a := h.2.1) (by omega) (fun h0 F0 X0 e0 => ?_)
  refine zr_dup zi238_3 rfl ?_
  refine zr_special zi238_4 rfl rfl rfl rfl ?_
  have S0 := (F0 (fun _ => True)).ss S
  refine zcall_dep (d := 4) (Nat.le_of_ble_eq_true rfl) (c0 S0 X0 e0 (fun h4 τ4 α4 F4 e4 C4 => zbk_0 ?_))
  have S4 := F4.ss S0
  refine zr_astore_n (L' := [some (.ref _), some (.ref _), none, none, none, none, none, none]) zi238_7 rfl rfl ?_
  refine zr_new zi238_8 rfl rfl ?_
  refine zw_new (a := (h.2.1 + 16)) (by omega) (fun h8 F8 X8 e8 => ?_)
  refine zr_dup zi238_11 rfl ?_
  refine zr_special zi238_12 rfl rfl rfl rfl ?_
  have S8 := (F8 (fun _ => True)).ss S4
  refine zcall_dep (d := 3) (Nat.le_of_ble_eq_true rfl) (c146 (m := h.2.1 + 16) S8 X8 (by omega) (fun h12 F12 e12 R12 => zbk_0 ?_))
  have S12 := F12.ss S8
  refine zr_astore_n (L' := [some (.ref _), some (.ref _), some (.ref _), none, none, none, none, none]) zi238_15 rfl rfl ?_
  refine zr_new zi238_16 rfl rfl ?_
  refine zw_new (a := (h.2.1 + 18)) (by omega) (fun h16 F16 X16 e16 => ?_)
  refine zr_dup zi238_19 rfl ?_
  refine zr_special zi238_20 rfl rfl rfl rfl ?_
  refine zcall_dep (d := 0) (Nat.le_of_ble_eq_true rfl) (c66 (zbk_0 ?_))
  have C8 := C4.fr (F8 (fun _ => False)) (fun _ _ y => y) (fun _ _ _ _ y => y)
  have C12 := C8.fr F12 (fun x z y => by have := z.2; have := y.1; omega) (fun β hm => by cases hm)
  have C16 := C12.fr (F16 (fun _ => False)) (fun _ _ y => y) (fun _ _ _ _ y => y)
  have R16 := R12.nw (F16 _)
  have S16 := (F16 (fun _ => True)).ss S12
  have G0 := (F0 (fun x => h.2.1 ≤ x)).lo F4 (fun x z => z.1)
  have G1 := (G0.lo (F8 (fun x => h.2.1 ≤ x)) (fun x z => z)).lo F12 (fun x z => by have := z.1; omega)
  have G2 := (G1.lo (F16 (fun x => h.2.1 ≤ x)) (fun x z => z)).fit (m' := 19) (s' := 848) (by omega) (by omega)
  have Z0 : zL1 E h16 b l h.2.1 (h.2.1 + 18) (h.2.1 + 16) [] (zJ 0) (h.2.1 + 16 + 1) (zJ 0) [] := by
    refine ⟨⟨G2.c hb (fun z => by have z : h.2.1 ≤ b := z; omega) Xs, by omega⟩, S16, ⟨_, _, C16⟩, ⟨_, _, _, X16⟩, fun k β z => (by cases k <;> cases z), ⟨_, R16⟩, fun x z e => ?_, fun x z => ?_⟩
    · rcases z with z | ⟨β, hm, z⟩
      · have := z.2; omega
      · cases hm
    · have hx : h.2.1 + 16 ≤ x ∧ x < h.2.1 + 18 := by
        rcases z with z | z | z | ⟨i, β, hm, z⟩
        · omega
        · omega
        · omega
        · cases i <;> cases hm
      refine ⟨fun y => ?_, by omega⟩
      rcases y with y | ⟨β, hm, y⟩
      · have := y.2; omega
      · cases hm
  refine zr_astore_n (L' := [some (.ref _), some (.ref _), some (.ref _), some (.ref _), none, none, none, none]) zi238_23 rfl rfl ?_
  refine zr_iconst (v := zJ 0) zi238_24 rfl ?_
  refine zr_istore (L' := [some (.ref _), some (.ref _), some (.ref _), some (.ref _), some (.int (zJ _)), none, none, none]) zi238_25 rfl rfl ?_
  suffices key27 : ∀ h1 L rf le B x5 x6 x7, (zL1 E h1 b l h.2.1 (h.2.1 + 18) (h.2.1 + 16) L rf le rf B) → (zRel L B) → (h1.2.1 ≤ h.2.1 + 19 + 1173 * 0) → (h1.2.2 ≤ h.2.2 + 848 + 14200 * 0) → (5 * 0 ≤ l.length) → zwp E 19 238 (27, [some (.ref b), some (.ref h.2.1), some (.ref (h.2.1 + 16)), some (.ref (h.2.1 + 18)), some (.int (zJ (5 * 0))), x5, x6, x7], [], h1) Q from key27 _ _ _ _ _ _ _ _ Z0 zRel0 (by have := G2.2; omega) (by have := G2.2; omega) (by omega)
  refine zloop (P := fun k => ∀ h1 L rf le B x5 x6 x7, (zL1 E h1 b l h.2.1 (h.2.1 + 18) (h.2.1 + 16) L rf le rf B) → (zRel L B) → (h1.2.1 ≤ h.2.1 + 19 + 1173 * k) → (h1.2.2 ≤ h.2.2 + 848 + 14200 * k) → (5 * k ≤ l.length) → zwp E 19 238 (27, [some (.ref b), some (.ref h.2.1), some (.ref (h.2.1 + 16)), some (.ref (h.2.1 + 18)), some (.int (zJ (5 * k))), x5, x6, x7], [], h1) Q) (n := l.length) fun k hk27 ih27 => ?_
  intro h1 L rf le B x5 x6 x7 Z Rl r1 r2 r3
  obtain ⟨⟨Zs1, Zb1⟩, S1_, ⟨τ1_, α1_, C1_⟩, O1_, I1_, ⟨n01_, R1_⟩, d1_, f1_⟩ := id Z
  have HM1 := R1_.1
  have HH1 := C1_.1
  skip
  refine zr_iload zi238_27 rfl ?_
  refine zr_aload_n zi238_29 rfl ?_
  refine zr_arraylength (v := zJ l.length) zi238_30 Zs1 rfl (zlenJ rfl) ?_
  refine zr_iconst (v := zJ 5) zi238_31 rfl ?_
  refine zr_isub zi238_32 ?_
  refine zr_icmp_gt zi238_33 rfl (fun q33 => ?_) (fun q33 => ?_)
  · refine zr_iconst (v := zB true) zi238_1308 rfl ?_
    refine zr_zreturnB zi238_1309 rfl ?_
    exact K _ (by omega) (by omega)
  · have r5 := zle_sub (by omega) (by omega) q33
    refine zr_aload_n zi238_36 rfl ?_
    refine zr_iload zi238_37 rfl ?_
    refine zr_ialoadN zi238_39 Zs1 rfl (by omega) (by first | omega | (simp only [List.length_set, zpt_len]; omega)) ?_
    refine zr_bipush (v := zJ 31) zi238_40 rfl ?_
    refine zr_iand zi238_42 ?_
    have r5 := zle_sub (by omega) (by omega) q33
    obtain ⟨t, ht, et⟩ := zband31 (l.getD (5 * k) 0)
    rw [et]
    rcases (show t = 0 ∨ t = 1 ∨ t = 2 ∨ t = 3 ∨ t = 4 ∨ t = 5 ∨ t = 6 ∨ t = 7 ∨ t = 8 ∨ t = 9 ∨ t = 10 ∨ t = 11 ∨ t = 12 ∨ t = 13 ∨ t = 14 ∨ t = 15 ∨ t = 16 ∨ t = 17 ∨ t = 18 ∨ t = 19 ∨ t = 20 ∨ t = 21 ∨ t = 22 ∨ t = 23 ∨ t = 24 ∨ t = 25 ∨ t = 26 ∨ t = 27 ∨ t = 28 ∨ t = 29 ∨ t = 30 ∨ t = 31 by omega) with rfl | rfl | rfl | rfl | rfl | rfl | rfl | rfl | rfl | rfl | rfl | rfl | rfl | rfl | rfl | rfl | rfl | rfl | rfl | rfl | rfl | rfl | rfl | rfl | rfl | rfl | rfl | rfl | rfl | rfl | rfl | rfl
    · refine zr_tableL zi238_43 (by decide) rfl rfl ?_
      refine zr_aload_n zi238_164 rfl ?_
      refine zr_aload_n zi238_165 rfl ?_
      refine zr_iload zi238_166 rfl ?_
      refine zr_iconst (v := zJ 1) zi238_168 rfl ?_
      refine zr_iaddN zi238_169 ?_
      refine zr_ialoadN zi238_170 Zs1 rfl (by omega) (by first | omega | (simp only [List.length_set, zpt_len]; omega)) ?_
      refine zr_aload_n zi238_171 rfl ?_
      refine zr_iload zi238_172 rfl ?_
      refine zr_iconst (v := zJ 2) zi238_174 rfl ?_
      refine zr_iaddN zi238_175 ?_
      refine zr_ialoadN zi238_176 Zs1 rfl (by omega) (by first | omega | (simp only [List.length_set, zpt_len]; omega)) ?_
      refine zr_aload_n zi238_177 rfl ?_
      refine zr_static zi238_178 rfl rfl rfl rfl ?_
      refine zcall_dep (d := 6) (Nat.le_of_ble_eq_true rfl) (c67 S1_ C1_ O1_ d1_ I1_ (fun h178 kc178 vv178 LN178 L178 cs178 hk178 e178 T178 U178 => zbk_v ?_))
      have Z178 := Z.cls T178
      have t178 := T178.1.2
      obtain ⟨⟨Zs2, Zb2⟩, S2_, ⟨τ2_, α2_, C2_⟩, O2_, I2_, ⟨n02_, R2_⟩, d2_, f2_⟩ := id Z178
      have HM2 := R2_.1
      have HH2 := C2_.1
      refine zr_istore (L' := [some (.ref _), some (.ref _), some (.ref _), some (.ref _), some (.int (zJ _)), some (.int (zJ _)), _, _]) zi238_181 rfl rfl ?_
      refine zr_aload_n zi238_183 rfl ?_
      refine zr_aload_n zi238_184 rfl ?_
      refine zr_iload zi238_185 rfl ?_
      refine zr_iconst (v := zJ 1) zi238_187 rfl ?_
      refine zr_iaddN zi238_188 ?_
      refine zr_ialoadN zi238_189 Zs2 rfl (by omega) (by first | omega | (simp only [List.length_set, zpt_len]; omega)) ?_
      refine zr_aload_n zi238_190 rfl ?_
      refine zr_iload zi238_191 rfl ?_
      refine zr_iconst (v := zJ 2) zi238_193 rfl ?_
      refine zr_iaddN zi238_194 ?_
      refine zr_ialoadN zi238_195 Zs2 rfl (by omega) (by first | omega | (simp only [List.length_set, zpt_len]; omega)) ?_
      refine zr_virtual zi238_196 rfl rfl (HM2.at0 rfl) rfl rfl ?_
      refine zcall_dep (d := 6) (Nat.le_of_ble_eq_true rfl) (c150 R2_ S2_ (fun h196 v196 n196 le196 B196 ms196 N196 RR196 => zbk_v ?_))
      have Z196 := Z178.ref N196
      have t196 := N196.1.2
      have Rl196 : zRel L178 B196 := by first | exact zrel68 C1_ Rl cs178 e178 ms196 | contradiction
      refine zr_istore (L' := [some (.ref _), some (.ref _), some (.ref _), some (.ref _), some (.int (zJ _)), some (.int (zJ _)), some (.int _), _]) zi238_199 rfl rfl ?_
      refine zr_goto zi238_201 rfl ?_
      refine zr_iincN (z := 5) (L' := [some (.ref _), some (.ref _), some (.ref _), some (.ref _), some (.int (zJ _)), some (.int (zJ _)), some (.int _), _]) zi238_1302 rfl rfl rfl rfl ?_
      refine zr_goto zi238_1305 rfl ?_
      have e5 : 5 * (k + 1) = 5 * k + 5 := Nat.mul_succ 5 k
      have ihk := ih27 (by omega)
      rw [e5] at ihk
      exact ihk _ _ _ _ _ _ _ _ Z196 Rl196 (by omega) (by omega) (by omega)
    · refine zr_tableL zi238_43 (by decide) rfl rfl ?_
      refine zr_aload_n zi238_204 rfl ?_
      refine zr_aload_n zi238_205 rfl ?_
      refine zr_iload zi238_206 rfl ?_
      refine zr_iconst (v := zJ 1) zi238_208 rfl ?_
      refine zr_iaddN zi238_209 ?_
      refine zr_ialoadN zi238_210 Zs1 rfl (by omega) (by first | omega | (simp only [List.length_set, zpt_len]; omega)) ?_
      refine zr_aload_n zi238_211 rfl ?_
      refine zr_iload zi238_212 rfl ?_
      refine zr_iconst (v := zJ 2) zi238_214 rfl ?_
      refine zr_iaddN zi238_215 ?_
      refine zr_ialoadN zi238_216 Zs1 rfl (by omega) (by first | omega | (simp only [List.length_set, zpt_len]; omega)) ?_
      refine zr_aload_n zi238_217 rfl ?_
      refine zr_iload zi238_218 rfl ?_
      refine zr_iconst (v := zJ 3) zi238_220 rfl ?_
      refine zr_iaddN zi238_221 ?_
      refine zr_ialoadN zi238_222 Zs1 rfl (by omega) (by first | omega | (simp only [List.length_set, zpt_len]; omega)) ?_
      refine zr_aload_n zi238_223 rfl ?_
      refine zr_static zi238_224 rfl rfl rfl rfl ?_
      refine zcall_dep (d := 3) (Nat.le_of_ble_eq_true rfl) (c70 S1_ C1_ O1_ d1_ I1_ (fun h224 kc224 vv224 LN224 L224 cs224 hk224 e224 T224 U224 => zbk_v ?_))
      have Z224 := Z.cls T224
      have t224 := T224.1.2
      obtain ⟨⟨Zs2, Zb2⟩, S2_, ⟨τ2_, α2_, C2_⟩, O2_, I2_, ⟨n02_, R2_⟩, d2_, f2_⟩ := id Z224
      have HM2 := R2_.1
      have HH2 := C2_.1
      refine zr_istore (L' := [some (.ref _), some (.ref _), some (.ref _), some (.ref _), some (.int (zJ _)), some (.int (zJ _)), _, _]) zi238_227 rfl rfl ?_
      refine zr_aload_n zi238_229 rfl ?_
      refine zr_aload_n zi238_230 rfl ?_
      refine zr_iload zi238_231 rfl ?_
      refine zr_iconst (v := zJ 1) zi238_233 rfl ?_
      refine zr_iaddN zi238_234 ?_
      refine zr_ialoadN zi238_235 Zs2 rfl (by omega) (by first | omega | (simp only [List.length_set, zpt_len]; omega)) ?_
      refine zr_aload_n zi238_236 rfl ?_
      refine zr_iload zi238_237 rfl ?_
      refine zr_iconst (v := zJ 2) zi238_239 rfl ?_
      refine zr_iaddN zi238_240 ?_
      refine zr_ialoadN zi238_241 Zs2 rfl (by omega) (by first | omega | (simp only [List.length_set, zpt_len]; omega)) ?_
      refine zr_aload_n zi238_242 rfl ?_
      refine zr_iload zi238_243 rfl ?_
      refine zr_iconst (v := zJ 3) zi238_245 rfl ?_
      refine zr_iaddN zi238_246 ?_
      refine zr_ialoadN zi238_247 Zs2 rfl (by omega) (by first | omega | (simp only [List.length_set, zpt_len]; omega)) ?_
      refine zr_virtual zi238_248 rfl rfl (HM2.at0 rfl) rfl rfl ?_
      refine zcall_dep (d := 4) (Nat.le_of_ble_eq_true rfl) (c161 R2_ (fun h248 v248 n248 le248 B248 ms248 N248 RR248 => zbk_v ?_))
      have Z248 := Z224.ref N248
      have t248 := N248.1.2
      have Rl248 : zRel L224 B248 := by first | exact zrel71 C1_ Rl cs224 e224 ms248 | contradiction
      refine zr_istore (L' := [some (.ref _), some (.ref _), some (.ref _), some (.ref _), some (.int (zJ _)), some (.int (zJ _)), some (.int _), _]) zi238_251 rfl rfl ?_
      refine zr_goto zi238_253 rfl ?_
      refine zr_iincN (z := 5) (L' := [some (.ref _), some (.ref _), some (.ref _), some (.ref _), some (.int (zJ _)), some (.int (zJ _)), some (.int _), _]) zi238_1302 rfl rfl rfl rfl ?_
      refine zr_goto zi238_1305 rfl ?_
      have e5 : 5 * (k + 1) = 5 * k + 5 := Nat.mul_succ 5 k
      have ihk := ih27 (by omega)
      rw [e5] at ihk
      exact ihk _ _ _ _ _ _ _ _ Z248 Rl248 (by omega) (by omega) (by omega)
    · refine zr_tableL zi238_43 (by decide) rfl rfl ?_
      refine zr_aload_n zi238_256 rfl ?_
      refine zr_aload_n zi238_257 rfl ?_
      refine zr_iload zi238_258 rfl ?_
      refine zr_iconst (v := zJ 1) zi238_260 rfl ?_
      refine zr_iaddN zi238_261 ?_
      refine zr_ialoadN zi238_262 Zs1 rfl (by omega) (by first | omega | (simp only [List.length_set, zpt_len]; omega)) ?_
      refine zr_aload_n zi238_263 rfl ?_
      refine zr_iload zi238_264 rfl ?_
      refine zr_iconst (v := zJ 2) zi238_266 rfl ?_
      refine zr_iaddN zi238_267 ?_
      refine zr_ialoadN zi238_268 Zs1 rfl (by omega) (by first | omega | (simp only [List.length_set, zpt_len]; omega)) ?_
      refine zr_aload_n zi238_269 rfl ?_
      refine zr_static zi238_270 rfl rfl rfl rfl ?_
      refine zcall_dep (d := 3) (Nat.le_of_ble_eq_true rfl) (c73 S1_ C1_ O1_ d1_ I1_ (fun h270 kc270 vv270 LN270 L270 cs270 hk270 e270 T270 U270 => zbk_v ?_))
      have Z270 := Z.cls T270
      have t270 := T270.1.2
      obtain ⟨⟨Zs2, Zb2⟩, S2_, ⟨τ2_, α2_, C2_⟩, O2_, I2_, ⟨n02_, R2_⟩, d2_, f2_⟩ := id Z270
      have HM2 := R2_.1
      have HH2 := C2_.1
      refine zr_istore (L' := [some (.ref _), some (.ref _), some (.ref _), some (.ref _), some (.int (zJ _)), some (.int (zJ _)), _, _]) zi238_273 rfl rfl ?_
      refine zr_aload_n zi238_275 rfl ?_
      refine zr_aload_n zi238_276 rfl ?_
      refine zr_iload zi238_277 rfl ?_
      refine zr_iconst (v := zJ 1) zi238_279 rfl ?_
      refine zr_iaddN zi238_280 ?_
      refine zr_ialoadN zi238_281 Zs2 rfl (by omega) (by first | omega | (simp only [List.length_set, zpt_len]; omega)) ?_
      refine zr_aload_n zi238_282 rfl ?_
      refine zr_iload zi238_283 rfl ?_
      refine zr_iconst (v := zJ 2) zi238_285 rfl ?_
      refine zr_iaddN zi238_286 ?_
      refine zr_ialoadN zi238_287 Zs2 rfl (by omega) (by first | omega | (simp only [List.length_set, zpt_len]; omega)) ?_
      refine zr_virtual zi238_288 rfl rfl (HM2.at0 rfl) rfl rfl ?_
      refine zcall_dep (d := 4) (Nat.le_of_ble_eq_true rfl) (c177 R2_ (fun h288 v288 n288 le288 B288 ms288 N288 RR288 => zbk_v ?_))
      have Z288 := Z270.ref N288
      have t288 := N288.1.2
      have Rl288 : zRel L270 B288 := by first | exact zrel74 C1_ Rl cs270 e270 ms288 | contradiction
      refine zr_istore (L' := [some (.ref _), some (.ref _), some (.ref _), some (.ref _), some (.int (zJ _)), some (.int (zJ _)), some (.int _), _]) zi238_291 rfl rfl ?_
      refine zr_goto zi238_293 rfl ?_
      refine zr_iincN (z := 5) (L' := [some (.ref _), some (.ref _), some (.ref _), some (.ref _), some (.int (zJ _)), some (.int (zJ _)), some (.int _), _]) zi238_1302 rfl rfl rfl rfl ?_
      refine zr_goto zi238_1305 rfl ?_
      have e5 : 5 * (k + 1) = 5 * k + 5 := Nat.mul_succ 5 k
      have ihk := ih27 (by omega)
      rw [e5] at ihk
      exact ihk _ _ _ _ _ _ _ _ Z288 Rl288 (by omega) (by omega) (by omega)
    · refine zr_tableL zi238_43 (by decide) rfl rfl ?_
      refine zr_aload_n zi238_296 rfl ?_
      refine zr_aload_n zi238_297 rfl ?_
      refine zr_iload zi238_298 rfl ?_
      refine zr_iconst (v := zJ 1) zi238_300 rfl ?_
      refine zr_iaddN zi238_301 ?_
      refine zr_ialoadN zi238_302 Zs1 rfl (by omega) (by first | omega | (simp only [List.length_set, zpt_len]; omega)) ?_
      refine zr_aload_n zi238_303 rfl ?_
      refine zr_iload zi238_304 rfl ?_
      refine zr_iconst (v := zJ 2) zi238_306 rfl ?_
      refine zr_iaddN zi238_307 ?_
      refine zr_ialoadN zi238_308 Zs1 rfl (by omega) (by first | omega | (simp only [List.length_set, zpt_len]; omega)) ?_
      refine zr_aload_n zi238_309 rfl ?_
      refine zr_iload zi238_310 rfl ?_
      refine zr_iconst (v := zJ 3) zi238_312 rfl ?_
      refine zr_iaddN zi238_313 ?_
      refine zr_ialoadN zi238_314 Zs1 rfl (by omega) (by first | omega | (simp only [List.length_set, zpt_len]; omega)) ?_
      refine zr_if_eq zi238_315 rfl (fun q315 => ?_) (fun q315 => ?_)
      · refine zr_iconst (v := zB false) zi238_322 rfl ?_
        refine zr_aload_n zi238_323 rfl ?_
        refine zr_static zi238_324 rfl rfl rfl rfl ?_
        refine zcall_dep (d := 17) (Nat.le_of_ble_eq_true rfl) (c75 S1_ C1_ O1_ d1_ I1_ (fun h324 kc324 vv324 LN324 L324 cs324 hk324 e324 T324 U324 => zbk_v ?_))
        have Z324 := Z.cls T324
        have t324 := T324.1.2
        obtain ⟨⟨Zs2, Zb2⟩, S2_, ⟨τ2_, α2_, C2_⟩, O2_, I2_, ⟨n02_, R2_⟩, d2_, f2_⟩ := id Z324
        have HM2 := R2_.1
        have HH2 := C2_.1
        refine zr_istore (L' := [some (.ref _), some (.ref _), some (.ref _), some (.ref _), some (.int (zJ _)), some (.int (zJ _)), _, _]) zi238_327 rfl rfl ?_
        refine zr_aload_n zi238_329 rfl ?_
        refine zr_aload_n zi238_330 rfl ?_
        refine zr_iload zi238_331 rfl ?_
        refine zr_iconst (v := zJ 1) zi238_333 rfl ?_
        refine zr_iaddN zi238_334 ?_
        refine zr_ialoadN zi238_335 Zs2 rfl (by omega) (by first | omega | (simp only [List.length_set, zpt_len]; omega)) ?_
        refine zr_aload_n zi238_336 rfl ?_
        refine zr_iload zi238_337 rfl ?_
        refine zr_iconst (v := zJ 2) zi238_339 rfl ?_
        refine zr_iaddN zi238_340 ?_
        refine zr_ialoadN zi238_341 Zs2 rfl (by omega) (by first | omega | (simp only [List.length_set, zpt_len]; omega)) ?_
        refine zr_aload_n zi238_342 rfl ?_
        refine zr_iload zi238_343 rfl ?_
        refine zr_iconst (v := zJ 3) zi238_345 rfl ?_
        refine zr_iaddN zi238_346 ?_
        refine zr_ialoadN zi238_347 Zs2 rfl (by omega) (by first | omega | (simp only [List.length_set, zpt_len]; omega)) ?_
        refine zr_if_eq zi238_348 rfl (fun q348 => ?_) (fun q348 => ?_)
        · refine zr_iconst (v := zB false) zi238_355 rfl ?_
          refine zr_virtual zi238_356 rfl rfl (HM2.at0 rfl) rfl rfl ?_
          refine zcall_dep (d := 16) (Nat.le_of_ble_eq_true rfl) (c178 R2_ (fun h356 v356 n356 le356 B356 ms356 N356 RR356 => zbk_v ?_))
          have Z356 := Z324.ref N356
          have t356 := N356.1.2
          have hb356 := zrelB76 ms356
          obtain ⟨Rl356, rfl, hv356⟩ : zRel L324 B356 ∧ n356 = zJ kc324 ∧ (kc324 = 0 → vv324 = v356) := by first | exact zrelC76 C1_ Rl cs324 e324 ms356 | contradiction
          have HM356 := RR356.1
          refine zr_istore (L' := [some (.ref _), some (.ref _), some (.ref _), some (.ref _), some (.int (zJ _)), some (.int (zJ _)), some (.int _), _]) zi238_359 rfl rfl ?_
          refine zr_aload_n zi238_361 rfl ?_
          refine zr_virtual zi238_362 rfl rfl (HM356.at0 rfl) rfl rfl ?_
          refine zcall_dep (d := 0) (Nat.le_of_ble_eq_true rfl) (cthr RR356 (zbk_v ?_))
          refine zr_iload zi238_365 rfl ?_
          refine zr_icmp_eqN zi238_367 rfl (by omega) (by omega) (fun q367 => ?_) (fun q367 => absurd q367 (fun z => z rfl))
          refine zr_iload zi238_372 rfl ?_
          refine zr_if_neN zi238_374 rfl (by omega) (fun q374 => ?_) (fun q374 => ?_)
          · refine zr_goto zi238_397 rfl ?_
            refine zr_iincN (z := 5) (L' := [some (.ref _), some (.ref _), some (.ref _), some (.ref _), some (.int (zJ _)), some (.int (zJ _)), some (.int _), _]) zi238_1302 rfl rfl rfl rfl ?_
            refine zr_goto zi238_1305 rfl ?_
            have e5 : 5 * (k + 1) = 5 * k + 5 := Nat.mul_succ 5 k
            have ihk := ih27 (by omega)
            rw [e5] at ihk
            exact ihk _ _ _ _ _ _ _ _ Z356 Rl356 (by omega) (by omega) (by omega)
          · obtain ⟨u1c, u2c, Uc⟩ := U324 q374
            have Ud := Z324.keepO N356 Uc
            refine zr_aload_n zi238_377 rfl ?_
            refine zr_getfield zi238_378 Ud rfl ?_
            refine zr_iload zi238_381 rfl ?_
            refine zr_if_eq zi238_383 rfl (fun q383 => ?_) (fun q383 => ?_)
            · refine zr_lconst (v := 0) zi238_390 rfl ?_
              refine zr_lcmp zi238_391 ?_
              refine zr_if_eq zi238_392 rfl (fun q392 => ?_) (fun q392 => absurd q392 (fun z => z (by first | (rw [hv356 q374, q383]; decide) | (rw [hv356 q374, zbnz (hb356 (congrArg zJ q374)) q383]; decide))))
              refine zr_goto zi238_397 rfl ?_
              refine zr_iincN (z := 5) (L' := [some (.ref _), some (.ref _), some (.ref _), some (.ref _), some (.int (zJ _)), some (.int (zJ _)), some (.int _), _]) zi238_1302 rfl rfl rfl rfl ?_
              refine zr_goto zi238_1305 rfl ?_
              have e5 : 5 * (k + 1) = 5 * k + 5 := Nat.mul_succ 5 k
              have ihk := ih27 (by omega)
              rw [e5] at ihk
              exact ihk _ _ _ _ _ _ _ _ Z356 Rl356 (by omega) (by omega) (by omega)
            · refine zr_lconst (v := 1) zi238_386 rfl ?_
              refine zr_goto zi238_387 rfl ?_
              refine zr_lcmp zi238_391 ?_
              refine zr_if_eq zi238_392 rfl (fun q392 => ?_) (fun q392 => absurd q392 (fun z => z (by first | (rw [hv356 q374, q383]; decide) | (rw [hv356 q374, zbnz (hb356 (congrArg zJ q374)) q383]; decide))))
              refine zr_goto zi238_397 rfl ?_
              refine zr_iincN (z := 5) (L' := [some (.ref _), some (.ref _), some (.ref _), some (.ref _), some (.int (zJ _)), some (.int (zJ _)), some (.int _), _]) zi238_1302 rfl rfl rfl rfl ?_
              refine zr_goto zi238_1305 rfl ?_
              have e5 : 5 * (k + 1) = 5 * k + 5 := Nat.mul_succ 5 k
              have ihk := ih27 (by omega)
              rw [e5] at ihk
              exact ihk _ _ _ _ _ _ _ _ Z356 Rl356 (by omega) (by omega) (by omega)
        · refine zr_iconst (v := zB true) zi238_351 rfl ?_
          refine zr_goto zi238_352 rfl ?_
          refine zr_virtual zi238_356 rfl rfl (HM2.at0 rfl) rfl rfl ?_
          refine zcall_dep (d := 16) (Nat.le_of_ble_eq_true rfl) (c178 R2_ (fun h356 v356 n356 le356 B356 ms356 N356 RR356 => zbk_v ?_))
          have Z356 := Z324.ref N356
          have t356 := N356.1.2
          have hb356 := zrelB76 ms356
          obtain ⟨Rl356, rfl, hv356⟩ : zRel L324 B356 ∧ n356 = zJ kc324 ∧ (kc324 = 0 → vv324 = v356) := by first | exact zrelC76 C1_ Rl cs324 e324 ms356 | contradiction
          have HM356 := RR356.1
          refine zr_istore (L' := [some (.ref _), some (.ref _), some (.ref _), some (.ref _), some (.int (zJ _)), some (.int (zJ _)), some (.int _), _]) zi238_359 rfl rfl ?_
          refine zr_aload_n zi238_361 rfl ?_
          refine zr_virtual zi238_362 rfl rfl (HM356.at0 rfl) rfl rfl ?_
          refine zcall_dep (d := 0) (Nat.le_of_ble_eq_true rfl) (cthr RR356 (zbk_v ?_))
          refine zr_iload zi238_365 rfl ?_
          refine zr_icmp_eqN zi238_367 rfl (by omega) (by omega) (fun q367 => ?_) (fun q367 => absurd q367 (fun z => z rfl))
          refine zr_iload zi238_372 rfl ?_
          refine zr_if_neN zi238_374 rfl (by omega) (fun q374 => ?_) (fun q374 => ?_)
          · refine zr_goto zi238_397 rfl ?_
            refine zr_iincN (z := 5) (L' := [some (.ref _), some (.ref _), some (.ref _), some (.ref _), some (.int (zJ _)), some (.int (zJ _)), some (.int _), _]) zi238_1302 rfl rfl rfl rfl ?_
            refine zr_goto zi238_1305 rfl ?_
            have e5 : 5 * (k + 1) = 5 * k + 5 := Nat.mul_succ 5 k
            have ihk := ih27 (by omega)
            rw [e5] at ihk
            exact ihk _ _ _ _ _ _ _ _ Z356 Rl356 (by omega) (by omega) (by omega)
          · obtain ⟨u1c, u2c, Uc⟩ := U324 q374
            have Ud := Z324.keepO N356 Uc
            refine zr_aload_n zi238_377 rfl ?_
            refine zr_getfield zi238_378 Ud rfl ?_
            refine zr_iload zi238_381 rfl ?_
            refine zr_if_eq zi238_383 rfl (fun q383 => ?_) (fun q383 => ?_)
            · refine zr_lconst (v := 0) zi238_390 rfl ?_
              refine zr_lcmp zi238_391 ?_
              refine zr_if_eq zi238_392 rfl (fun q392 => ?_) (fun q392 => absurd q392 (fun z => z (by first | (rw [hv356 q374, q383]; decide) | (rw [hv356 q374, zbnz (hb356 (congrArg zJ q374)) q383]; decide))))
              refine zr_goto zi238_397 rfl ?_
              refine zr_iincN (z := 5) (L' := [some (.ref _), some (.ref _), some (.ref _), some (.ref _), some (.int (zJ _)), some (.int (zJ _)), some (.int _), _]) zi238_1302 rfl rfl rfl rfl ?_
              refine zr_goto zi238_1305 rfl ?_
              have e5 : 5 * (k + 1) = 5 * k + 5 := Nat.mul_succ 5 k
              have ihk := ih27 (by omega)
              rw [e5] at ihk
              exact ihk _ _ _ _ _ _ _ _ Z356 Rl356 (by omega) (by omega) (by omega)
            · refine zr_lconst (v := 1) zi238_386 rfl ?_
              refine zr_goto zi238_387 rfl ?_
              refine zr_lcmp zi238_391 ?_
              refine zr_if_eq zi238_392 rfl (fun q392 => ?_) (fun q392 => absurd q392 (fun z => z (by first | (rw [hv356 q374, q383]; decide) | (rw [hv356 q374, zbnz (hb356 (congrArg zJ q374)) q383]; decide))))
              refine zr_goto zi238_397 rfl ?_
              refine zr_iincN (z := 5) (L' := [some (.ref _), some (.ref _), some (.ref _), some (.ref _), some (.int (zJ _)), some (.int (zJ _)), some (.int _), _]) zi238_1302 rfl rfl rfl rfl ?_
              refine zr_goto zi238_1305 rfl ?_
              have e5 : 5 * (k + 1) = 5 * k + 5 := Nat.mul_succ 5 k
              have ihk := ih27 (by omega)
              rw [e5] at ihk
              exact ihk _ _ _ _ _ _ _ _ Z356 Rl356 (by omega) (by omega) (by omega)
      · refine zr_iconst (v := zB true) zi238_318 rfl ?_
        refine zr_goto zi238_319 rfl ?_
        refine zr_aload_n zi238_323 rfl ?_
        refine zr_static zi238_324 rfl rfl rfl rfl ?_
        refine zcall_dep (d := 17) (Nat.le_of_ble_eq_true rfl) (c75 S1_ C1_ O1_ d1_ I1_ (fun h324 kc324 vv324 LN324 L324 cs324 hk324 e324 T324 U324 => zbk_v ?_))
        have Z324 := Z.cls T324
        have t324 := T324.1.2
        obtain ⟨⟨Zs2, Zb2⟩, S2_, ⟨τ2_, α2_, C2_⟩, O2_, I2_, ⟨n02_, R2_⟩, d2_, f2_⟩ := id Z324
        have HM2 := R2_.1
        have HH2 := C2_.1
        refine zr_istore (L' := [some (.ref _), some (.ref _), some (.ref _), some (.ref _), some (.int (zJ _)), some (.int (zJ _)), _, _]) zi238_327 rfl rfl ?_
        refine zr_aload_n zi238_329 rfl ?_
        refine zr_aload_n zi238_330 rfl ?_
        refine zr_iload zi238_331 rfl ?_
        refine zr_iconst (v := zJ 1) zi238_333 rfl ?_
        refine zr_iaddN zi238_334 ?_
        refine zr_ialoadN zi238_335 Zs2 rfl (by omega) (by first | omega | (simp only [List.length_set, zpt_len]; omega)) ?_
        refine zr_aload_n zi238_336 rfl ?_
        refine zr_iload zi238_337 rfl ?_
        refine zr_iconst (v := zJ 2) zi238_339 rfl ?_
        refine zr_iaddN zi238_340 ?_
        refine zr_ialoadN zi238_341 Zs2 rfl (by omega) (by first | omega | (simp only [List.length_set, zpt_len]; omega)) ?_
        refine zr_aload_n zi238_342 rfl ?_
        refine zr_iload zi238_343 rfl ?_
        refine zr_iconst (v := zJ 3) zi238_345 rfl ?_
        refine zr_iaddN zi238_346 ?_
        refine zr_ialoadN zi238_347 Zs2 rfl (by omega) (by first | omega | (simp only [List.length_set, zpt_len]; omega)) ?_
        refine zr_if_eq zi238_348 rfl (fun q348 => ?_) (fun q348 => ?_)
        · refine zr_iconst (v := zB false) zi238_355 rfl ?_
          refine zr_virtual zi238_356 rfl rfl (HM2.at0 rfl) rfl rfl ?_
          refine zcall_dep (d := 16) (Nat.le_of_ble_eq_true rfl) (c178 R2_ (fun h356 v356 n356 le356 B356 ms356 N356 RR356 => zbk_v ?_))
          have Z356 := Z324.ref N356
          have t356 := N356.1.2
          have hb356 := zrelB76 ms356
          obtain ⟨Rl356, rfl, hv356⟩ : zRel L324 B356 ∧ n356 = zJ kc324 ∧ (kc324 = 0 → vv324 = v356) := by first | exact zrelC76 C1_ Rl cs324 e324 ms356 | contradiction
          have HM356 := RR356.1
          refine zr_istore (L' := [some (.ref _), some (.ref _), some (.ref _), some (.ref _), some (.int (zJ _)), some (.int (zJ _)), some (.int _), _]) zi238_359 rfl rfl ?_
          refine zr_aload_n zi238_361 rfl ?_
          refine zr_virtual zi238_362 rfl rfl (HM356.at0 rfl) rfl rfl ?_
          refine zcall_dep (d := 0) (Nat.le_of_ble_eq_true rfl) (cthr RR356 (zbk_v ?_))
          refine zr_iload zi238_365 rfl ?_
          refine zr_icmp_eqN zi238_367 rfl (by omega) (by omega) (fun q367 => ?_) (fun q367 => absurd q367 (fun z => z rfl))
          refine zr_iload zi238_372 rfl ?_
          refine zr_if_neN zi238_374 rfl (by omega) (fun q374 => ?_) (fun q374 => ?_)
          · refine zr_goto zi238_397 rfl ?_
            refine zr_iincN (z := 5) (L' := [some (.ref _), some (.ref _), some (.ref _), some (.ref _), some (.int (zJ _)), some (.int (zJ _)), some (.int _), _]) zi238_1302 rfl rfl rfl rfl ?_
            refine zr_goto zi238_1305 rfl ?_
            have e5 : 5 * (k + 1) = 5 * k + 5 := Nat.mul_succ 5 k
            have ihk := ih27 (by omega)
            rw [e5] at ihk
            exact ihk _ _ _ _ _ _ _ _ Z356 Rl356 (by omega) (by omega) (by omega)
          · obtain ⟨u1c, u2c, Uc⟩ := U324 q374
            have Ud := Z324.keepO N356 Uc
            refine zr_aload_n zi238_377 rfl ?_
            refine zr_getfield zi238_378 Ud rfl ?_
            refine zr_iload zi238_381 rfl ?_
            refine zr_if_eq zi238_383 rfl (fun q383 => ?_) (fun q383 => ?_)
            · refine zr_lconst (v := 0) zi238_390 rfl ?_
              refine zr_lcmp zi238_391 ?_
              refine zr_if_eq zi238_392 rfl (fun q392 => ?_) (fun q392 => absurd q392 (fun z => z (by first | (rw [hv356 q374, q383]; decide) | (rw [hv356 q374, zbnz (hb356 (congrArg zJ q374)) q383]; decide))))
              refine zr_goto zi238_397 rfl ?_
              refine zr_iincN (z := 5) (L' := [some (.ref _), some (.ref _), some (.ref _), some (.ref _), some (.int (zJ _)), some (.int (zJ _)), some (.int _), _]) zi238_1302 rfl rfl rfl rfl ?_
              refine zr_goto zi238_1305 rfl ?_
              have e5 : 5 * (k + 1) = 5 * k + 5 := Nat.mul_succ 5 k
              have ihk := ih27 (by omega)
              rw [e5] at ihk
              exact ihk _ _ _ _ _ _ _ _ Z356 Rl356 (by omega) (by omega) (by omega)
            · refine zr_lconst (v := 1) zi238_386 rfl ?_
              refine zr_goto zi238_387 rfl ?_
              refine zr_lcmp zi238_391 ?_
              refine zr_if_eq zi238_392 rfl (fun q392 => ?_) (fun q392 => absurd q392 (fun z => z (by first | (rw [hv356 q374, q383]; decide) | (rw [hv356 q374, zbnz (hb356 (congrArg zJ q374)) q383]; decide))))
              refine zr_goto zi238_397 rfl ?_
              refine zr_iincN (z := 5) (L' := [some (.ref _), some (.ref _), some (.ref _), some (.ref _), some (.int (zJ _)), some (.int (zJ _)), some (.int _), _]) zi238_1302 rfl rfl rfl rfl ?_
              refine zr_goto zi238_1305 rfl ?_
              have e5 : 5 * (k + 1) = 5 * k + 5 := Nat.mul_succ 5 k
              have ihk := ih27 (by omega)
              rw [e5] at ihk
              exact ihk _ _ _ _ _ _ _ _ Z356 Rl356 (by omega) (by omega) (by omega)
        · refine zr_iconst (v := zB true) zi238_351 rfl ?_
          refine zr_goto zi238_352 rfl ?_
          refine zr_virtual zi238_356 rfl rfl (HM2.at0 rfl) rfl rfl ?_
          refine zcall_dep (d := 16) (Nat.le_of_ble_eq_true rfl) (c178 R2_ (fun h356 v356 n356 le356 B356 ms356 N356 RR356 => zbk_v ?_))
          have Z356 := Z324.ref N356
          have t356 := N356.1.2
          have hb356 := zrelB76 ms356
          obtain ⟨Rl356, rfl, hv356⟩ : zRel L324 B356 ∧ n356 = zJ kc324 ∧ (kc324 = 0 → vv324 = v356) := by first | exact zrelC76 C1_ Rl cs324 e324 ms356 | contradiction
          have HM356 := RR356.1
          refine zr_istore (L' := [some (.ref _), some (.ref _), some (.ref _), some (.ref _), some (.int (zJ _)), some (.int (zJ _)), some (.int _), _]) zi238_359 rfl rfl ?_
          refine zr_aload_n zi238_361 rfl ?_
          refine zr_virtual zi238_362 rfl rfl (HM356.at0 rfl) rfl rfl ?_
          refine zcall_dep (d := 0) (Nat.le_of_ble_eq_true rfl) (cthr RR356 (zbk_v ?_))
          refine zr_iload zi238_365 rfl ?_
          refine zr_icmp_eqN zi238_367 rfl (by omega) (by omega) (fun q367 => ?_) (fun q367 => absurd q367 (fun z => z rfl))
          refine zr_iload zi238_372 rfl ?_
          refine zr_if_neN zi238_374 rfl (by omega) (fun q374 => ?_) (fun q374 => ?_)
          · refine zr_goto zi238_397 rfl ?_
            refine zr_iincN (z := 5) (L' := [some (.ref _), some (.ref _), some (.ref _), some (.ref _), some (.int (zJ _)), some (.int (zJ _)), some (.int _), _]) zi238_1302 rfl rfl rfl rfl ?_
            refine zr_goto zi238_1305 rfl ?_
            have e5 : 5 * (k + 1) = 5 * k + 5 := Nat.mul_succ 5 k
            have ihk := ih27 (by omega)
            rw [e5] at ihk
            exact ihk _ _ _ _ _ _ _ _ Z356 Rl356 (by omega) (by omega) (by omega)
          · obtain ⟨u1c, u2c, Uc⟩ := U324 q374
            have Ud := Z324.keepO N356 Uc
            refine zr_aload_n zi238_377 rfl ?_
            refine zr_getfield zi238_378 Ud rfl ?_
            refine zr_iload zi238_381 rfl ?_
            refine zr_if_eq zi238_383 rfl (fun q383 => ?_) (fun q383 => ?_)
            · refine zr_lconst (v := 0) zi238_390 rfl ?_
              refine zr_lcmp zi238_391 ?_
              refine zr_if_eq zi238_392 rfl (fun q392 => ?_) (fun q392 => absurd q392 (fun z => z (by first | (rw [hv356 q374, q383]; decide) | (rw [hv356 q374, zbnz (hb356 (congrArg zJ q374)) q383]; decide))))
              refine zr_goto zi238_397 rfl ?_
              refine zr_iincN (z := 5) (L' := [some (.ref _), some (.ref _), some (.ref _), some (.ref _), some (.int (zJ _)), some (.int (zJ _)), some (.int _), _]) zi238_1302 rfl rfl rfl rfl ?_
              refine zr_goto zi238_1305 rfl ?_
              have e5 : 5 * (k + 1) = 5 * k + 5 := Nat.mul_succ 5 k
              have ihk := ih27 (by omega)
              rw [e5] at ihk
              exact ihk _ _ _ _ _ _ _ _ Z356 Rl356 (by omega) (by omega) (by omega)
            · refine zr_lconst (v := 1) zi238_386 rfl ?_
              refine zr_goto zi238_387 rfl ?_
              refine zr_lcmp zi238_391 ?_
              refine zr_if_eq zi238_392 rfl (fun q392 => ?_) (fun q392 => absurd q392 (fun z => z (by first | (rw [hv356 q374, q383]; decide) | (rw [hv356 q374, zbnz (hb356 (congrArg zJ q374)) q383]; decide))))
              refine zr_goto zi238_397 rfl ?_
              refine zr_iincN (z := 5) (L' := [some (.ref _), some (.ref _), some (.ref _), some (.ref _), some (.int (zJ _)), some (.int (zJ _)), some (.int _), _]) zi238_1302 rfl rfl rfl rfl ?_
              refine zr_goto zi238_1305 rfl ?_
              have e5 : 5 * (k + 1) = 5 * k + 5 := Nat.mul_succ 5 k
              have ihk := ih27 (by omega)
              rw [e5] at ihk
              exact ihk _ _ _ _ _ _ _ _ Z356 Rl356 (by omega) (by omega) (by omega)
    · refine zr_tableL zi238_43 (by decide) rfl rfl ?_
      refine zr_aload_n zi238_400 rfl ?_
      refine zr_aload_n zi238_401 rfl ?_
      refine zr_iload zi238_402 rfl ?_
      refine zr_iconst (v := zJ 1) zi238_404 rfl ?_
      refine zr_iaddN zi238_405 ?_
      refine zr_ialoadN zi238_406 Zs1 rfl (by omega) (by first | omega | (simp only [List.length_set, zpt_len]; omega)) ?_
      refine zr_aload_n zi238_407 rfl ?_
      refine zr_static zi238_408 rfl rfl rfl rfl ?_
      refine zcall_dep (d := 4) (Nat.le_of_ble_eq_true rfl) (c80 S1_ C1_ O1_ d1_ I1_ (fun h408 kc408 vv408 LN408 L408 cs408 hk408 e408 T408 U408 => zbk_v ?_))
      have Z408 := Z.cls T408
      have t408 := T408.1.2
      obtain ⟨⟨Zs2, Zb2⟩, S2_, ⟨τ2_, α2_, C2_⟩, O2_, I2_, ⟨n02_, R2_⟩, d2_, f2_⟩ := id Z408
      have HM2 := R2_.1
      have HH2 := C2_.1
      refine zr_istore (L' := [some (.ref _), some (.ref _), some (.ref _), some (.ref _), some (.int (zJ _)), some (.int (zJ _)), _, _]) zi238_411 rfl rfl ?_
      refine zr_aload_n zi238_413 rfl ?_
      refine zr_aload_n zi238_414 rfl ?_
      refine zr_iload zi238_415 rfl ?_
      refine zr_iconst (v := zJ 1) zi238_417 rfl ?_
      refine zr_iaddN zi238_418 ?_
      refine zr_ialoadN zi238_419 Zs2 rfl (by omega) (by first | omega | (simp only [List.length_set, zpt_len]; omega)) ?_
      refine zr_virtual zi238_420 rfl rfl (HM2.at0 rfl) rfl rfl ?_
      refine zcall_dep (d := 5) (Nat.le_of_ble_eq_true rfl) (c186 R2_ (fun h420 v420 n420 le420 B420 ms420 N420 RR420 => zbk_v ?_))
      have Z420 := Z408.ref N420
      have t420 := N420.1.2
      have Rl420 : zRel L408 B420 := by first | exact zrel81 C1_ Rl cs408 e408 ms420 | contradiction
      refine zr_istore (L' := [some (.ref _), some (.ref _), some (.ref _), some (.ref _), some (.int (zJ _)), some (.int (zJ _)), some (.int _), _]) zi238_423 rfl rfl ?_
      refine zr_goto zi238_425 rfl ?_
      refine zr_iincN (z := 5) (L' := [some (.ref _), some (.ref _), some (.ref _), some (.ref _), some (.int (zJ _)), some (.int (zJ _)), some (.int _), _]) zi238_1302 rfl rfl rfl rfl ?_
      refine zr_goto zi238_1305 rfl ?_
      have e5 : 5 * (k + 1) = 5 * k + 5 := Nat.mul_succ 5 k
      have ihk := ih27 (by omega)
      rw [e5] at ihk
      exact ihk _ _ _ _ _ _ _ _ Z420 Rl420 (by omega) (by omega) (by omega)
    · refine zr_tableL zi238_43 (by decide) rfl rfl ?_
      refine zr_aload_n zi238_428 rfl ?_
      refine zr_aload_n zi238_429 rfl ?_
      refine zr_iload zi238_430 rfl ?_
      refine zr_iconst (v := zJ 1) zi238_432 rfl ?_
      refine zr_iaddN zi238_433 ?_
      refine zr_ialoadN zi238_434 Zs1 rfl (by omega) (by first | omega | (simp only [List.length_set, zpt_len]; omega)) ?_
      refine zr_aload_n zi238_435 rfl ?_
      refine zr_iload zi238_436 rfl ?_
      refine zr_iconst (v := zJ 2) zi238_438 rfl ?_
      refine zr_iaddN zi238_439 ?_
      refine zr_ialoadN zi238_440 Zs1 rfl (by omega) (by first | omega | (simp only [List.length_set, zpt_len]; omega)) ?_
      refine zr_aload_n zi238_441 rfl ?_
      refine zr_iload zi238_442 rfl ?_
      refine zr_iconst (v := zJ 3) zi238_444 rfl ?_
      refine zr_iaddN zi238_445 ?_
      refine zr_ialoadN zi238_446 Zs1 rfl (by omega) (by first | omega | (simp only [List.length_set, zpt_len]; omega)) ?_
      refine zr_if_eq zi238_447 rfl (fun q447 => ?_) (fun q447 => ?_)
      · refine zr_iconst (v := zB false) zi238_454 rfl ?_
        refine zr_aload_n zi238_455 rfl ?_
        refine zr_static zi238_456 rfl rfl rfl rfl ?_
        refine zcall_dep (d := 3) (Nat.le_of_ble_eq_true rfl) (c82 S1_ C1_ O1_ d1_ I1_ (fun h456 kc456 vv456 LN456 L456 cs456 hk456 e456 T456 U456 => zbk_v ?_))
        have Z456 := Z.cls T456
        have t456 := T456.1.2
        obtain ⟨⟨Zs2, Zb2⟩, S2_, ⟨τ2_, α2_, C2_⟩, O2_, I2_, ⟨n02_, R2_⟩, d2_, f2_⟩ := id Z456
        have HM2 := R2_.1
        have HH2 := C2_.1
        refine zr_istore (L' := [some (.ref _), some (.ref _), some (.ref _), some (.ref _), some (.int (zJ _)), some (.int (zJ _)), _, _]) zi238_459 rfl rfl ?_
        refine zr_aload_n zi238_461 rfl ?_
        refine zr_aload_n zi238_462 rfl ?_
        refine zr_iload zi238_463 rfl ?_
        refine zr_iconst (v := zJ 1) zi238_465 rfl ?_
        refine zr_iaddN zi238_466 ?_
        refine zr_ialoadN zi238_467 Zs2 rfl (by omega) (by first | omega | (simp only [List.length_set, zpt_len]; omega)) ?_
        refine zr_aload_n zi238_468 rfl ?_
        refine zr_iload zi238_469 rfl ?_
        refine zr_iconst (v := zJ 2) zi238_471 rfl ?_
        refine zr_iaddN zi238_472 ?_
        refine zr_ialoadN zi238_473 Zs2 rfl (by omega) (by first | omega | (simp only [List.length_set, zpt_len]; omega)) ?_
        refine zr_aload_n zi238_474 rfl ?_
        refine zr_iload zi238_475 rfl ?_
        refine zr_iconst (v := zJ 3) zi238_477 rfl ?_
        refine zr_iaddN zi238_478 ?_
        refine zr_ialoadN zi238_479 Zs2 rfl (by omega) (by first | omega | (simp only [List.length_set, zpt_len]; omega)) ?_
        refine zr_if_eq zi238_480 rfl (fun q480 => ?_) (fun q480 => ?_)
        · refine zr_iconst (v := zB false) zi238_487 rfl ?_
          refine zr_virtual zi238_488 rfl rfl (HM2.at0 rfl) rfl rfl ?_
          refine zcall_dep (d := 6) (Nat.le_of_ble_eq_true rfl) (c190 R2_ S2_ (fun h488 v488 n488 le488 B488 ms488 N488 RR488 => zbk_v ?_))
          have Z488 := Z456.ref N488
          have t488 := N488.1.2
          have Rl488 : zRel L456 B488 := by first | exact zrel83 C1_ Rl cs456 e456 ms488 | contradiction
          refine zr_istore (L' := [some (.ref _), some (.ref _), some (.ref _), some (.ref _), some (.int (zJ _)), some (.int (zJ _)), some (.int _), _]) zi238_491 rfl rfl ?_
          refine zr_goto zi238_493 rfl ?_
          refine zr_iincN (z := 5) (L' := [some (.ref _), some (.ref _), some (.ref _), some (.ref _), some (.int (zJ _)), some (.int (zJ _)), some (.int _), _]) zi238_1302 rfl rfl rfl rfl ?_
          refine zr_goto zi238_1305 rfl ?_
          have e5 : 5 * (k + 1) = 5 * k + 5 := Nat.mul_succ 5 k
          have ihk := ih27 (by omega)
          rw [e5] at ihk
          exact ihk _ _ _ _ _ _ _ _ Z488 Rl488 (by omega) (by omega) (by omega)
        · refine zr_iconst (v := zB true) zi238_483 rfl ?_
          refine zr_goto zi238_484 rfl ?_
          refine zr_virtual zi238_488 rfl rfl (HM2.at0 rfl) rfl rfl ?_
          refine zcall_dep (d := 6) (Nat.le_of_ble_eq_true rfl) (c190 R2_ S2_ (fun h488 v488 n488 le488 B488 ms488 N488 RR488 => zbk_v ?_))
          have Z488 := Z456.ref N488
          have t488 := N488.1.2
          have Rl488 : zRel L456 B488 := by first | exact zrel83 C1_ Rl cs456 e456 ms488 | contradiction
          refine zr_istore (L' := [some (.ref _), some (.ref _), some (.ref _), some (.ref _), some (.int (zJ _)), some (.int (zJ _)), some (.int _), _]) zi238_491 rfl rfl ?_
          refine zr_goto zi238_493 rfl ?_
          refine zr_iincN (z := 5) (L' := [some (.ref _), some (.ref _), some (.ref _), some (.ref _), some (.int (zJ _)), some (.int (zJ _)), some (.int _), _]) zi238_1302 rfl rfl rfl rfl ?_
          refine zr_goto zi238_1305 rfl ?_
          have e5 : 5 * (k + 1) = 5 * k + 5 := Nat.mul_succ 5 k
          have ihk := ih27 (by omega)
          rw [e5] at ihk
          exact ihk _ _ _ _ _ _ _ _ Z488 Rl488 (by omega) (by omega) (by omega)
      · refine zr_iconst (v := zB true) zi238_450 rfl ?_
        refine zr_goto zi238_451 rfl ?_
        refine zr_aload_n zi238_455 rfl ?_
        refine zr_static zi238_456 rfl rfl rfl rfl ?_
        refine zcall_dep (d := 3) (Nat.le_of_ble_eq_true rfl) (c82 S1_ C1_ O1_ d1_ I1_ (fun h456 kc456 vv456 LN456 L456 cs456 hk456 e456 T456 U456 => zbk_v ?_))
        have Z456 := Z.cls T456
        have t456 := T456.1.2
        obtain ⟨⟨Zs2, Zb2⟩, S2_, ⟨τ2_, α2_, C2_⟩, O2_, I2_, ⟨n02_, R2_⟩, d2_, f2_⟩ := id Z456
        have HM2 := R2_.1
        have HH2 := C2_.1
        refine zr_istore (L' := [some (.ref _), some (.ref _), some (.ref _), some (.ref _), some (.int (zJ _)), some (.int (zJ _)), _, _]) zi238_459 rfl rfl ?_
        refine zr_aload_n zi238_461 rfl ?_
        refine zr_aload_n zi238_462 rfl ?_
        refine zr_iload zi238_463 rfl ?_
        refine zr_iconst (v := zJ 1) zi238_465 rfl ?_
        refine zr_iaddN zi238_466 ?_
        refine zr_ialoadN zi238_467 Zs2 rfl (by omega) (by first | omega | (simp only [List.length_set, zpt_len]; omega)) ?_
        refine zr_aload_n zi238_468 rfl ?_
        refine zr_iload zi238_469 rfl ?_
        refine zr_iconst (v := zJ 2) zi238_471 rfl ?_
        refine zr_iaddN zi238_472 ?_
        refine zr_ialoadN zi238_473 Zs2 rfl (by omega) (by first | omega | (simp only [List.length_set, zpt_len]; omega)) ?_
        refine zr_aload_n zi238_474 rfl ?_
        refine zr_iload zi238_475 rfl ?_
        refine zr_iconst (v := zJ 3) zi238_477 rfl ?_
        refine zr_iaddN zi238_478 ?_
        refine zr_ialoadN zi238_479 Zs2 rfl (by omega) (by first | omega | (simp only [List.length_set, zpt_len]; omega)) ?_
        refine zr_if_eq zi238_480 rfl (fun q480 => ?_) (fun q480 => ?_)
        · refine zr_iconst (v := zB false) zi238_487 rfl ?_
          refine zr_virtual zi238_488 rfl rfl (HM2.at0 rfl) rfl rfl ?_
          refine zcall_dep (d := 6) (Nat.le_of_ble_eq_true rfl) (c190 R2_ S2_ (fun h488 v488 n488 le488 B488 ms488 N488 RR488 => zbk_v ?_))
          have Z488 := Z456.ref N488
          have t488 := N488.1.2
          have Rl488 : zRel L456 B488 := by first | exact zrel83 C1_ Rl cs456 e456 ms488 | contradiction
          refine zr_istore (L' := [some (.ref _), some (.ref _), some (.ref _), some (.ref _), some (.int (zJ _)), some (.int (zJ _)), some (.int _), _]) zi238_491 rfl rfl ?_
          refine zr_goto zi238_493 rfl ?_
          refine zr_iincN (z := 5) (L' := [some (.ref _), some (.ref _), some (.ref _), some (.ref _), some (.int (zJ _)), some (.int (zJ _)), some (.int _), _]) zi238_1302 rfl rfl rfl rfl ?_
          refine zr_goto zi238_1305 rfl ?_
          have e5 : 5 * (k + 1) = 5 * k + 5 := Nat.mul_succ 5 k
          have ihk := ih27 (by omega)
          rw [e5] at ihk
          exact ihk _ _ _ _ _ _ _ _ Z488 Rl488 (by omega) (by omega) (by omega)
        · refine zr_iconst (v := zB true) zi238_483 rfl ?_
          refine zr_goto zi238_484 rfl ?_
          refine zr_virtual zi238_488 rfl rfl (HM2.at0 rfl) rfl rfl ?_
          refine zcall_dep (d := 6) (Nat.le_of_ble_eq_true rfl) (c190 R2_ S2_ (fun h488 v488 n488 le488 B488 ms488 N488 RR488 => zbk_v ?_))
          have Z488 := Z456.ref N488
          have t488 := N488.1.2
          have Rl488 : zRel L456 B488 := by first | exact zrel83 C1_ Rl cs456 e456 ms488 | contradiction
          refine zr_istore (L' := [some (.ref _), some (.ref _), some (.ref _), some (.ref _), some (.int (zJ _)), some (.int (zJ _)), some (.int _), _]) zi238_491 rfl rfl ?_
          refine zr_goto zi238_493 rfl ?_
          refine zr_iincN (z := 5) (L' := [some (.ref _), some (.ref _), some (.ref _), some (.ref _), some (.int (zJ _)), some (.int (zJ _)), some (.int _), _]) zi238_1302 rfl rfl rfl rfl ?_
          refine zr_goto zi238_1305 rfl ?_
          have e5 : 5 * (k + 1) = 5 * k + 5 := Nat.mul_succ 5 k
          have ihk := ih27 (by omega)
          rw [e5] at ihk
          exact ihk _ _ _ _ _ _ _ _ Z488 Rl488 (by omega) (by omega) (by omega)
    · refine zr_tableL zi238_43 (by decide) rfl rfl ?_
      refine zr_aload_n zi238_496 rfl ?_
      refine zr_aload_n zi238_497 rfl ?_
      refine zr_iload zi238_498 rfl ?_
      refine zr_iconst (v := zJ 1) zi238_500 rfl ?_
      refine zr_iaddN zi238_501 ?_
      refine zr_ialoadN zi238_502 Zs1 rfl (by omega) (by first | omega | (simp only [List.length_set, zpt_len]; omega)) ?_
      refine zr_aload_n zi238_503 rfl ?_
      refine zr_iload zi238_504 rfl ?_
      refine zr_iconst (v := zJ 2) zi238_506 rfl ?_
      refine zr_iaddN zi238_507 ?_
      refine zr_ialoadN zi238_508 Zs1 rfl (by omega) (by first | omega | (simp only [List.length_set, zpt_len]; omega)) ?_
      refine zr_if_eq zi238_509 rfl (fun q509 => ?_) (fun q509 => ?_)
      · refine zr_iconst (v := zB false) zi238_516 rfl ?_
        refine zr_aload_n zi238_517 rfl ?_
        refine zr_static zi238_518 rfl rfl rfl rfl ?_
        refine zcall_dep (d := 2) (Nat.le_of_ble_eq_true rfl) (c85 S1_ C1_ O1_ d1_ I1_ (fun h518 kc518 vv518 LN518 L518 cs518 hk518 e518 T518 U518 => zbk_v ?_))
        have Z518 := Z.cls T518
        have t518 := T518.1.2
        obtain ⟨⟨Zs2, Zb2⟩, S2_, ⟨τ2_, α2_, C2_⟩, O2_, I2_, ⟨n02_, R2_⟩, d2_, f2_⟩ := id Z518
        have HM2 := R2_.1
        have HH2 := C2_.1
        refine zr_istore (L' := [some (.ref _), some (.ref _), some (.ref _), some (.ref _), some (.int (zJ _)), some (.int (zJ _)), _, _]) zi238_521 rfl rfl ?_
        refine zr_aload_n zi238_523 rfl ?_
        refine zr_aload_n zi238_524 rfl ?_
        refine zr_iload zi238_525 rfl ?_
        refine zr_iconst (v := zJ 1) zi238_527 rfl ?_
        refine zr_iaddN zi238_528 ?_
        refine zr_ialoadN zi238_529 Zs2 rfl (by omega) (by first | omega | (simp only [List.length_set, zpt_len]; omega)) ?_
        refine zr_aload_n zi238_530 rfl ?_
        refine zr_iload zi238_531 rfl ?_
        refine zr_iconst (v := zJ 2) zi238_533 rfl ?_
        refine zr_iaddN zi238_534 ?_
        refine zr_ialoadN zi238_535 Zs2 rfl (by omega) (by first | omega | (simp only [List.length_set, zpt_len]; omega)) ?_
        refine zr_if_eq zi238_536 rfl (fun q536 => ?_) (fun q536 => ?_)
        · refine zr_iconst (v := zB false) zi238_543 rfl ?_
          refine zr_virtual zi238_544 rfl rfl (HM2.at0 rfl) rfl rfl ?_
          refine zcall_dep (d := 3) (Nat.le_of_ble_eq_true rfl) (c193 R2_ (fun h544 v544 n544 le544 B544 ms544 N544 RR544 => zbk_v ?_))
          have Z544 := Z518.ref N544
          have t544 := N544.1.2
          have Rl544 : zRel L518 B544 := by first | exact zrel86 C1_ Rl cs518 e518 ms544 | contradiction
          refine zr_istore (L' := [some (.ref _), some (.ref _), some (.ref _), some (.ref _), some (.int (zJ _)), some (.int (zJ _)), some (.int _), _]) zi238_547 rfl rfl ?_
          refine zr_goto zi238_549 rfl ?_
          refine zr_iincN (z := 5) (L' := [some (.ref _), some (.ref _), some (.ref _), some (.ref _), some (.int (zJ _)), some (.int (zJ _)), some (.int _), _]) zi238_1302 rfl rfl rfl rfl ?_
          refine zr_goto zi238_1305 rfl ?_
          have e5 : 5 * (k + 1) = 5 * k + 5 := Nat.mul_succ 5 k
          have ihk := ih27 (by omega)
          rw [e5] at ihk
          exact ihk _ _ _ _ _ _ _ _ Z544 Rl544 (by omega) (by omega) (by omega)
        · refine zr_iconst (v := zB true) zi238_539 rfl ?_
          refine zr_goto zi238_540 rfl ?_
          refine zr_virtual zi238_544 rfl rfl (HM2.at0 rfl) rfl rfl ?_
          refine zcall_dep (d := 3) (Nat.le_of_ble_eq_true rfl) (c193 R2_ (fun h544 v544 n544 le544 B544 ms544 N544 RR544 => zbk_v ?_))
          have Z544 := Z518.ref N544
          have t544 := N544.1.2
          have Rl544 : zRel L518 B544 := by first | exact zrel86 C1_ Rl cs518 e518 ms544 | contradiction
          refine zr_istore (L' := [some (.ref _), some (.ref _), some (.ref _), some (.ref _), some (.int (zJ _)), some (.int (zJ _)), some (.int _), _]) zi238_547 rfl rfl ?_
          refine zr_goto zi238_549 rfl ?_
          refine zr_iincN (z := 5) (L' := [some (.ref _), some (.ref _), some (.ref _), some (.ref _), some (.int (zJ _)), some (.int (zJ _)), some (.int _), _]) zi238_1302 rfl rfl rfl rfl ?_
          refine zr_goto zi238_1305 rfl ?_
          have e5 : 5 * (k + 1) = 5 * k + 5 := Nat.mul_succ 5 k
          have ihk := ih27 (by omega)
          rw [e5] at ihk
          exact ihk _ _ _ _ _ _ _ _ Z544 Rl544 (by omega) (by omega) (by omega)
      · refine zr_iconst (v := zB true) zi238_512 rfl ?_
        refine zr_goto zi238_513 rfl ?_
        refine zr_aload_n zi238_517 rfl ?_
        refine zr_static zi238_518 rfl rfl rfl rfl ?_
        refine zcall_dep (d := 2) (Nat.le_of_ble_eq_true rfl) (c85 S1_ C1_ O1_ d1_ I1_ (fun h518 kc518 vv518 LN518 L518 cs518 hk518 e518 T518 U518 => zbk_v ?_))
        have Z518 := Z.cls T518
        have t518 := T518.1.2
        obtain ⟨⟨Zs2, Zb2⟩, S2_, ⟨τ2_, α2_, C2_⟩, O2_, I2_, ⟨n02_, R2_⟩, d2_, f2_⟩ := id Z518
        have HM2 := R2_.1
        have HH2 := C2_.1
        refine zr_istore (L' := [some (.ref _), some (.ref _), some (.ref _), some (.ref _), some (.int (zJ _)), some (.int (zJ _)), _, _]) zi238_521 rfl rfl ?_
        refine zr_aload_n zi238_523 rfl ?_
        refine zr_aload_n zi238_524 rfl ?_
        refine zr_iload zi238_525 rfl ?_
        refine zr_iconst (v := zJ 1) zi238_527 rfl ?_
        refine zr_iaddN zi238_528 ?_
        refine zr_ialoadN zi238_529 Zs2 rfl (by omega) (by first | omega | (simp only [List.length_set, zpt_len]; omega)) ?_
        refine zr_aload_n zi238_530 rfl ?_
        refine zr_iload zi238_531 rfl ?_
        refine zr_iconst (v := zJ 2) zi238_533 rfl ?_
        refine zr_iaddN zi238_534 ?_
        refine zr_ialoadN zi238_535 Zs2 rfl (by omega) (by first | omega | (simp only [List.length_set, zpt_len]; omega)) ?_
        refine zr_if_eq zi238_536 rfl (fun q536 => ?_) (fun q536 => ?_)
        · refine zr_iconst (v := zB false) zi238_543 rfl ?_
          refine zr_virtual zi238_544 rfl rfl (HM2.at0 rfl) rfl rfl ?_
          refine zcall_dep (d := 3) (Nat.le_of_ble_eq_true rfl) (c193 R2_ (fun h544 v544 n544 le544 B544 ms544 N544 RR544 => zbk_v ?_))
          have Z544 := Z518.ref N544
          have t544 := N544.1.2
          have Rl544 : zRel L518 B544 := by first | exact zrel86 C1_ Rl cs518 e518 ms544 | contradiction
          refine zr_istore (L' := [some (.ref _), some (.ref _), some (.ref _), some (.ref _), some (.int (zJ _)), some (.int (zJ _)), some (.int _), _]) zi238_547 rfl rfl ?_
          refine zr_goto zi238_549 rfl ?_
          refine zr_iincN (z := 5) (L' := [some (.ref _), some (.ref _), some (.ref _), some (.ref _), some (.int (zJ _)), some (.int (zJ _)), some (.int _), _]) zi238_1302 rfl rfl rfl rfl ?_
          refine zr_goto zi238_1305 rfl ?_
          have e5 : 5 * (k + 1) = 5 * k + 5 := Nat.mul_succ 5 k
          have ihk := ih27 (by omega)
          rw [e5] at ihk
          exact ihk _ _ _ _ _ _ _ _ Z544 Rl544 (by omega) (by omega) (by omega)
        · refine zr_iconst (v := zB true) zi238_539 rfl ?_
          refine zr_goto zi238_540 rfl ?_
          refine zr_virtual zi238_544 rfl rfl (HM2.at0 rfl) rfl rfl ?_
          refine zcall_dep (d := 3) (Nat.le_of_ble_eq_true rfl) (c193 R2_ (fun h544 v544 n544 le544 B544 ms544 N544 RR544 => zbk_v ?_))
          have Z544 := Z518.ref N544
          have t544 := N544.1.2
          have Rl544 : zRel L518 B544 := by first | exact zrel86 C1_ Rl cs518 e518 ms544 | contradiction
          refine zr_istore (L' := [some (.ref _), some (.ref _), some (.ref _), some (.ref _), some (.int (zJ _)), some (.int (zJ _)), some (.int _), _]) zi238_547 rfl rfl ?_
          refine zr_goto zi238_549 rfl ?_
          refine zr_iincN (z := 5) (L' := [some (.ref _), some (.ref _), some (.ref _), some (.ref _), some (.int (zJ _)), some (.int (zJ _)), some (.int _), _]) zi238_1302 rfl rfl rfl rfl ?_
          refine zr_goto zi238_1305 rfl ?_
          have e5 : 5 * (k + 1) = 5 * k + 5 := Nat.mul_succ 5 k
          have ihk := ih27 (by omega)
          rw [e5] at ihk
          exact ihk _ _ _ _ _ _ _ _ Z544 Rl544 (by omega) (by omega) (by omega)
    · refine zr_tableL zi238_43 (by decide) rfl rfl ?_
      refine zr_aload_n zi238_552 rfl ?_
      refine zr_aload_n zi238_553 rfl ?_
      refine zr_iload zi238_554 rfl ?_
      refine zr_iconst (v := zJ 1) zi238_556 rfl ?_
      refine zr_iaddN zi238_557 ?_
      refine zr_ialoadN zi238_558 Zs1 rfl (by omega) (by first | omega | (simp only [List.length_set, zpt_len]; omega)) ?_
      refine zr_aload_n zi238_559 rfl ?_
      refine zr_iload zi238_560 rfl ?_
      refine zr_iconst (v := zJ 2) zi238_562 rfl ?_
      refine zr_iaddN zi238_563 ?_
      refine zr_ialoadN zi238_564 Zs1 rfl (by omega) (by first | omega | (simp only [List.length_set, zpt_len]; omega)) ?_
      refine zr_aload_n zi238_565 rfl ?_
      refine zr_static zi238_566 rfl rfl rfl rfl ?_
      refine zcall_dep (d := 4) (Nat.le_of_ble_eq_true rfl) (c89 S1_ C1_ O1_ d1_ I1_ (fun h566 kc566 vv566 LN566 L566 cs566 hk566 e566 T566 U566 => zbk_v ?_))
      have Z566 := Z.cls T566
      have t566 := T566.1.2
      obtain ⟨⟨Zs2, Zb2⟩, S2_, ⟨τ2_, α2_, C2_⟩, O2_, I2_, ⟨n02_, R2_⟩, d2_, f2_⟩ := id Z566
      have HM2 := R2_.1
      have HH2 := C2_.1
      refine zr_istore (L' := [some (.ref _), some (.ref _), some (.ref _), some (.ref _), some (.int (zJ _)), some (.int (zJ _)), _, _]) zi238_569 rfl rfl ?_
      refine zr_aload_n zi238_571 rfl ?_
      refine zr_aload_n zi238_572 rfl ?_
      refine zr_iload zi238_573 rfl ?_
      refine zr_iconst (v := zJ 1) zi238_575 rfl ?_
      refine zr_iaddN zi238_576 ?_
      refine zr_ialoadN zi238_577 Zs2 rfl (by omega) (by first | omega | (simp only [List.length_set, zpt_len]; omega)) ?_
      refine zr_aload_n zi238_578 rfl ?_
      refine zr_iload zi238_579 rfl ?_
      refine zr_iconst (v := zJ 2) zi238_581 rfl ?_
      refine zr_iaddN zi238_582 ?_
      refine zr_ialoadN zi238_583 Zs2 rfl (by omega) (by first | omega | (simp only [List.length_set, zpt_len]; omega)) ?_
      refine zr_virtual zi238_584 rfl rfl (HM2.at0 rfl) rfl rfl ?_
      refine zcall_dep (d := 6) (Nat.le_of_ble_eq_true rfl) (c196 R2_ S2_ (fun h584 v584 n584 le584 B584 ms584 N584 RR584 => zbk_v ?_))
      have Z584 := Z566.ref N584
      have t584 := N584.1.2
      have Rl584 : zRel L566 B584 := by first | exact zrel90 C1_ Rl cs566 e566 ms584 | contradiction
      refine zr_istore (L' := [some (.ref _), some (.ref _), some (.ref _), some (.ref _), some (.int (zJ _)), some (.int (zJ _)), some (.int _), _]) zi238_587 rfl rfl ?_
      refine zr_goto zi238_589 rfl ?_
      refine zr_iincN (z := 5) (L' := [some (.ref _), some (.ref _), some (.ref _), some (.ref _), some (.int (zJ _)), some (.int (zJ _)), some (.int _), _]) zi238_1302 rfl rfl rfl rfl ?_
      refine zr_goto zi238_1305 rfl ?_
      have e5 : 5 * (k + 1) = 5 * k + 5 := Nat.mul_succ 5 k
      have ihk := ih27 (by omega)
      rw [e5] at ihk
      exact ihk _ _ _ _ _ _ _ _ Z584 Rl584 (by omega) (by omega) (by omega)
    · refine zr_tableL zi238_43 (by decide) rfl rfl ?_
      refine zr_aload_n zi238_592 rfl ?_
      refine zr_aload_n zi238_593 rfl ?_
      refine zr_iload zi238_594 rfl ?_
      refine zr_iconst (v := zJ 1) zi238_596 rfl ?_
      refine zr_iaddN zi238_597 ?_
      refine zr_ialoadN zi238_598 Zs1 rfl (by omega) (by first | omega | (simp only [List.length_set, zpt_len]; omega)) ?_
      refine zr_aload_n zi238_599 rfl ?_
      refine zr_iload zi238_600 rfl ?_
      refine zr_iconst (v := zJ 2) zi238_602 rfl ?_
      refine zr_iaddN zi238_603 ?_
      refine zr_ialoadN zi238_604 Zs1 rfl (by omega) (by first | omega | (simp only [List.length_set, zpt_len]; omega)) ?_
      refine zr_aload_n zi238_605 rfl ?_
      refine zr_iload zi238_606 rfl ?_
      refine zr_iconst (v := zJ 3) zi238_608 rfl ?_
      refine zr_iaddN zi238_609 ?_
      refine zr_ialoadN zi238_610 Zs1 rfl (by omega) (by first | omega | (simp only [List.length_set, zpt_len]; omega)) ?_
      refine zr_aload_n zi238_611 rfl ?_
      refine zr_static zi238_612 rfl rfl rfl rfl ?_
      refine zcall_dep (d := 3) (Nat.le_of_ble_eq_true rfl) (c94 S1_ C1_ O1_ d1_ I1_ (fun h612 kc612 vv612 LN612 L612 cs612 hk612 e612 T612 U612 => zbk_v ?_))
      have Z612 := Z.cls T612
      have t612 := T612.1.2
      obtain ⟨⟨Zs2, Zb2⟩, S2_, ⟨τ2_, α2_, C2_⟩, O2_, I2_, ⟨n02_, R2_⟩, d2_, f2_⟩ := id Z612
      have HM2 := R2_.1
      have HH2 := C2_.1
      refine zr_istore (L' := [some (.ref _), some (.ref _), some (.ref _), some (.ref _), some (.int (zJ _)), some (.int (zJ _)), _, _]) zi238_615 rfl rfl ?_
      refine zr_aload_n zi238_617 rfl ?_
      refine zr_aload_n zi238_618 rfl ?_
      refine zr_iload zi238_619 rfl ?_
      refine zr_iconst (v := zJ 1) zi238_621 rfl ?_
      refine zr_iaddN zi238_622 ?_
      refine zr_ialoadN zi238_623 Zs2 rfl (by omega) (by first | omega | (simp only [List.length_set, zpt_len]; omega)) ?_
      refine zr_aload_n zi238_624 rfl ?_
      refine zr_iload zi238_625 rfl ?_
      refine zr_iconst (v := zJ 2) zi238_627 rfl ?_
      refine zr_iaddN zi238_628 ?_
      refine zr_ialoadN zi238_629 Zs2 rfl (by omega) (by first | omega | (simp only [List.length_set, zpt_len]; omega)) ?_
      refine zr_aload_n zi238_630 rfl ?_
      refine zr_iload zi238_631 rfl ?_
      refine zr_iconst (v := zJ 3) zi238_633 rfl ?_
      refine zr_iaddN zi238_634 ?_
      refine zr_ialoadN zi238_635 Zs2 rfl (by omega) (by first | omega | (simp only [List.length_set, zpt_len]; omega)) ?_
      refine zr_virtual zi238_636 rfl rfl (HM2.at0 rfl) rfl rfl ?_
      refine zcall_dep (d := 3) (Nat.le_of_ble_eq_true rfl) (c201 R2_ (fun h636 v636 n636 le636 B636 ms636 N636 RR636 => zbk_v ?_))
      have Z636 := Z612.ref N636
      have t636 := N636.1.2
      have Rl636 : zRel L612 B636 := by first | exact zrel95 C1_ Rl cs612 e612 ms636 | contradiction
      refine zr_istore (L' := [some (.ref _), some (.ref _), some (.ref _), some (.ref _), some (.int (zJ _)), some (.int (zJ _)), some (.int _), _]) zi238_639 rfl rfl ?_
      refine zr_goto zi238_641 rfl ?_
      refine zr_iincN (z := 5) (L' := [some (.ref _), some (.ref _), some (.ref _), some (.ref _), some (.int (zJ _)), some (.int (zJ _)), some (.int _), _]) zi238_1302 rfl rfl rfl rfl ?_
      refine zr_goto zi238_1305 rfl ?_
      have e5 : 5 * (k + 1) = 5 * k + 5 := Nat.mul_succ 5 k
      have ihk := ih27 (by omega)
      rw [e5] at ihk
      exact ihk _ _ _ _ _ _ _ _ Z636 Rl636 (by omega) (by omega) (by omega)
    · refine zr_tableL zi238_43 (by decide) rfl rfl ?_
      refine zr_aload_n zi238_644 rfl ?_
      refine zr_aload_n zi238_645 rfl ?_
      refine zr_iload zi238_646 rfl ?_
      refine zr_iconst (v := zJ 1) zi238_648 rfl ?_
      refine zr_iaddN zi238_649 ?_
      refine zr_ialoadN zi238_650 Zs1 rfl (by omega) (by first | omega | (simp only [List.length_set, zpt_len]; omega)) ?_
      refine zr_aload_n zi238_651 rfl ?_
      refine zr_static zi238_652 rfl rfl rfl rfl ?_
      refine zcall_dep (d := 4) (Nat.le_of_ble_eq_true rfl) (c97 S1_ C1_ O1_ d1_ I1_ (fun h652 kc652 vv652 LN652 L652 cs652 hk652 e652 T652 U652 => zbk_v ?_))
      have Z652 := Z.cls T652
      have t652 := T652.1.2
      obtain ⟨⟨Zs2, Zb2⟩, S2_, ⟨τ2_, α2_, C2_⟩, O2_, I2_, ⟨n02_, R2_⟩, d2_, f2_⟩ := id Z652
      have HM2 := R2_.1
      have HH2 := C2_.1
      refine zr_istore (L' := [some (.ref _), some (.ref _), some (.ref _), some (.ref _), some (.int (zJ _)), some (.int (zJ _)), _, _]) zi238_655 rfl rfl ?_
      refine zr_aload_n zi238_657 rfl ?_
      refine zr_aload_n zi238_658 rfl ?_
      refine zr_iload zi238_659 rfl ?_
      refine zr_iconst (v := zJ 1) zi238_661 rfl ?_
      refine zr_iaddN zi238_662 ?_
      refine zr_ialoadN zi238_663 Zs2 rfl (by omega) (by first | omega | (simp only [List.length_set, zpt_len]; omega)) ?_
      refine zr_virtual zi238_664 rfl rfl (HM2.at0 rfl) rfl rfl ?_
      refine zcall_dep (d := 3) (Nat.le_of_ble_eq_true rfl) (c203 R2_ (fun h664 v664 n664 le664 B664 ms664 N664 RR664 => zbk_v ?_))
      have Z664 := Z652.ref N664
      have t664 := N664.1.2
      have Rl664 : zRel L652 B664 := by first | exact zrel98 C1_ Rl cs652 e652 ms664 | contradiction
      refine zr_istore (L' := [some (.ref _), some (.ref _), some (.ref _), some (.ref _), some (.int (zJ _)), some (.int (zJ _)), some (.int _), _]) zi238_667 rfl rfl ?_
      refine zr_goto zi238_669 rfl ?_
      refine zr_iincN (z := 5) (L' := [some (.ref _), some (.ref _), some (.ref _), some (.ref _), some (.int (zJ _)), some (.int (zJ _)), some (.int _), _]) zi238_1302 rfl rfl rfl rfl ?_
      refine zr_goto zi238_1305 rfl ?_
      have e5 : 5 * (k + 1) = 5 * k + 5 := Nat.mul_succ 5 k
      have ihk := ih27 (by omega)
      rw [e5] at ihk
      exact ihk _ _ _ _ _ _ _ _ Z664 Rl664 (by omega) (by omega) (by omega)
    · refine zr_tableL zi238_43 (by decide) rfl rfl ?_
      refine zr_aload_n zi238_672 rfl ?_
      refine zr_aload_n zi238_673 rfl ?_
      refine zr_iload zi238_674 rfl ?_
      refine zr_iconst (v := zJ 1) zi238_676 rfl ?_
      refine zr_iaddN zi238_677 ?_
      refine zr_ialoadN zi238_678 Zs1 rfl (by omega) (by first | omega | (simp only [List.length_set, zpt_len]; omega)) ?_
      refine zr_aload_n zi238_679 rfl ?_
      refine zr_static zi238_680 rfl rfl rfl rfl ?_
      refine zcall_dep (d := 3) (Nat.le_of_ble_eq_true rfl) (c102 S1_ C1_ O1_ d1_ I1_ (fun h680 kc680 vv680 LN680 L680 cs680 hk680 e680 T680 U680 => zbk_v ?_))
      have Z680 := Z.cls T680
      have t680 := T680.1.2
      obtain ⟨⟨Zs2, Zb2⟩, S2_, ⟨τ2_, α2_, C2_⟩, O2_, I2_, ⟨n02_, R2_⟩, d2_, f2_⟩ := id Z680
      have HM2 := R2_.1
      have HH2 := C2_.1
      refine zr_istore (L' := [some (.ref _), some (.ref _), some (.ref _), some (.ref _), some (.int (zJ _)), some (.int (zJ _)), _, _]) zi238_683 rfl rfl ?_
      refine zr_aload_n zi238_685 rfl ?_
      refine zr_aload_n zi238_686 rfl ?_
      refine zr_iload zi238_687 rfl ?_
      refine zr_iconst (v := zJ 1) zi238_689 rfl ?_
      refine zr_iaddN zi238_690 ?_
      refine zr_ialoadN zi238_691 Zs2 rfl (by omega) (by first | omega | (simp only [List.length_set, zpt_len]; omega)) ?_
      refine zr_virtual zi238_692 rfl rfl (HM2.at0 rfl) rfl rfl ?_
      refine zcall_dep (d := 3) (Nat.le_of_ble_eq_true rfl) (c204 R2_ S2_ (fun h692 v692 n692 le692 B692 ms692 N692 RR692 => zbk_v ?_))
      have Z692 := Z680.ref N692
      have t692 := N692.1.2
      have Rl692 : zRel L680 B692 := by first | exact zrel103 C1_ Rl cs680 e680 ms692 | contradiction
      refine zr_istore (L' := [some (.ref _), some (.ref _), some (.ref _), some (.ref _), some (.int (zJ _)), some (.int (zJ _)), some (.int _), _]) zi238_695 rfl rfl ?_
      refine zr_goto zi238_697 rfl ?_
      refine zr_iincN (z := 5) (L' := [some (.ref _), some (.ref _), some (.ref _), some (.ref _), some (.int (zJ _)), some (.int (zJ _)), some (.int _), _]) zi238_1302 rfl rfl rfl rfl ?_
      refine zr_goto zi238_1305 rfl ?_
      have e5 : 5 * (k + 1) = 5 * k + 5 := Nat.mul_succ 5 k
      have ihk := ih27 (by omega)
      rw [e5] at ihk
      exact ihk _ _ _ _ _ _ _ _ Z692 Rl692 (by omega) (by omega) (by omega)
    · refine zr_tableL zi238_43 (by decide) rfl rfl ?_
      refine zr_aload_n zi238_700 rfl ?_
      refine zr_virtual zi238_701 rfl rfl (HH1.1.at0 rfl) rfl rfl ?_
      refine zcall_dep (d := 0) (Nat.le_of_ble_eq_true rfl) (c9 C1_ (fun h701 L701 τx αx E701 F701 C701 => zbk_v ?_))
      have Z701 := Z.cls (yT.ofK Z E701 F701 C701)
      have t701 := F701.2
      obtain ⟨⟨Zs2, Zb2⟩, S2_, ⟨τ2_, α2_, C2_⟩, O2_, I2_, ⟨n02_, R2_⟩, d2_, f2_⟩ := id Z701
      have HM2 := R2_.1
      have HH2 := C2_.1
      have Rl701 := zrel_eqA Rl E701
      refine zr_pop zi238_704 rfl ?_
      refine zr_aload_n zi238_705 rfl ?_
      refine zr_virtual zi238_706 rfl rfl (HM2.at0 rfl) rfl rfl ?_
      refine zcall_dep (d := 0) (Nat.le_of_ble_eq_true rfl) (c205 R2_ (fun h706 N706 RR706 => zbk_v ?_))
      have Z706 := Z701.ref N706
      have t706 := N706.1.2
      refine zr_pop zi238_709 rfl ?_
      refine zr_goto zi238_710 rfl ?_
      refine zr_iincN (z := 5) (L' := [some (.ref _), some (.ref _), some (.ref _), some (.ref _), some (.int (zJ _)), _, _, _]) zi238_1302 rfl rfl rfl rfl ?_
      refine zr_goto zi238_1305 rfl ?_
      have e5 : 5 * (k + 1) = 5 * k + 5 := Nat.mul_succ 5 k
      have ihk := ih27 (by omega)
      rw [e5] at ihk
      exact ihk _ _ _ _ _ _ _ _ Z706 Rl701 (by omega) (by omega) (by omega)
    · refine zr_tableL zi238_43 (by decide) rfl rfl ?_
      refine zr_aload_n zi238_713 rfl ?_
      refine zr_aload_n zi238_714 rfl ?_
      refine zr_iload zi238_715 rfl ?_
      refine zr_iconst (v := zJ 1) zi238_717 rfl ?_
      refine zr_iaddN zi238_718 ?_
      refine zr_ialoadN zi238_719 Zs1 rfl (by omega) (by first | omega | (simp only [List.length_set, zpt_len]; omega)) ?_
      refine zr_aload_n zi238_720 rfl ?_
      refine zr_iload zi238_721 rfl ?_
      refine zr_iconst (v := zJ 2) zi238_723 rfl ?_
      refine zr_iaddN zi238_724 ?_
      refine zr_ialoadN zi238_725 Zs1 rfl (by omega) (by first | omega | (simp only [List.length_set, zpt_len]; omega)) ?_
      refine zr_aload_n zi238_726 rfl ?_
      refine zr_iload zi238_727 rfl ?_
      refine zr_iconst (v := zJ 3) zi238_729 rfl ?_
      refine zr_iaddN zi238_730 ?_
      refine zr_ialoadN zi238_731 Zs1 rfl (by omega) (by first | omega | (simp only [List.length_set, zpt_len]; omega)) ?_
      refine zr_aload_n zi238_732 rfl ?_
      refine zr_static zi238_733 rfl rfl rfl rfl ?_
      refine zcall_dep (d := 3) (Nat.le_of_ble_eq_true rfl) (c104 S1_ C1_ O1_ d1_ I1_ (fun h733 kc733 vv733 LN733 L733 cs733 hk733 e733 T733 U733 => zbk_v ?_))
      have Z733 := Z.cls T733
      have t733 := T733.1.2
      obtain ⟨⟨Zs2, Zb2⟩, S2_, ⟨τ2_, α2_, C2_⟩, O2_, I2_, ⟨n02_, R2_⟩, d2_, f2_⟩ := id Z733
      have HM2 := R2_.1
      have HH2 := C2_.1
      refine zr_istore (L' := [some (.ref _), some (.ref _), some (.ref _), some (.ref _), some (.int (zJ _)), some (.int (zJ _)), _, _]) zi238_736 rfl rfl ?_
      refine zr_aload_n zi238_738 rfl ?_
      refine zr_aload_n zi238_739 rfl ?_
      refine zr_iload zi238_740 rfl ?_
      refine zr_iconst (v := zJ 1) zi238_742 rfl ?_
      refine zr_iaddN zi238_743 ?_
      refine zr_ialoadN zi238_744 Zs2 rfl (by omega) (by first | omega | (simp only [List.length_set, zpt_len]; omega)) ?_
      refine zr_aload_n zi238_745 rfl ?_
      refine zr_iload zi238_746 rfl ?_
      refine zr_iconst (v := zJ 2) zi238_748 rfl ?_
      refine zr_iaddN zi238_749 ?_
      refine zr_ialoadN zi238_750 Zs2 rfl (by omega) (by first | omega | (simp only [List.length_set, zpt_len]; omega)) ?_
      refine zr_aload_n zi238_751 rfl ?_
      refine zr_iload zi238_752 rfl ?_
      refine zr_iconst (v := zJ 3) zi238_754 rfl ?_
      refine zr_iaddN zi238_755 ?_
      refine zr_ialoadN zi238_756 Zs2 rfl (by omega) (by first | omega | (simp only [List.length_set, zpt_len]; omega)) ?_
      refine zr_virtual zi238_757 rfl rfl (HM2.at0 rfl) rfl rfl ?_
      refine zcall_dep (d := 4) (Nat.le_of_ble_eq_true rfl) (c206 R2_ (fun h757 v757 n757 le757 B757 ms757 N757 RR757 => zbk_v ?_))
      have Z757 := Z733.ref N757
      have t757 := N757.1.2
      have Rl757 : zRel L733 B757 := by first | exact zrel39 C1_ Rl cs733 e733 ms757 | contradiction
      refine zr_istore (L' := [some (.ref _), some (.ref _), some (.ref _), some (.ref _), some (.int (zJ _)), some (.int (zJ _)), some (.int _), _]) zi238_760 rfl rfl ?_
      refine zr_goto zi238_762 rfl ?_
      refine zr_iincN (z := 5) (L' := [some (.ref _), some (.ref _), some (.ref _), some (.ref _), some (.int (zJ _)), some (.int (zJ _)), some (.int _), _]) zi238_1302 rfl rfl rfl rfl ?_
      refine zr_goto zi238_1305 rfl ?_
      have e5 : 5 * (k + 1) = 5 * k + 5 := Nat.mul_succ 5 k
      have ihk := ih27 (by omega)
      rw [e5] at ihk
      exact ihk _ _ _ _ _ _ _ _ Z757 Rl757 (by omega) (by omega) (by omega)
    · refine zr_tableL zi238_43 (by decide) rfl rfl ?_
      refine zr_aload_n zi238_765 rfl ?_
      refine zr_aload_n zi238_766 rfl ?_
      refine zr_iload zi238_767 rfl ?_
      refine zr_iconst (v := zJ 1) zi238_769 rfl ?_
      refine zr_iaddN zi238_770 ?_
      refine zr_ialoadN zi238_771 Zs1 rfl (by omega) (by first | omega | (simp only [List.length_set, zpt_len]; omega)) ?_
      refine zr_aload_n zi238_772 rfl ?_
      refine zr_iload zi238_773 rfl ?_
      refine zr_iconst (v := zJ 2) zi238_775 rfl ?_
      refine zr_iaddN zi238_776 ?_
      refine zr_ialoadN zi238_777 Zs1 rfl (by omega) (by first | omega | (simp only [List.length_set, zpt_len]; omega)) ?_
      refine zr_aload_n zi238_778 rfl ?_
      refine zr_iload zi238_779 rfl ?_
      refine zr_iconst (v := zJ 3) zi238_781 rfl ?_
      refine zr_iaddN zi238_782 ?_
      refine zr_ialoadN zi238_783 Zs1 rfl (by omega) (by first | omega | (simp only [List.length_set, zpt_len]; omega)) ?_
      refine zr_aload_n zi238_784 rfl ?_
      refine zr_static zi238_785 rfl rfl rfl rfl ?_
      refine zcall_dep (d := 4) (Nat.le_of_ble_eq_true rfl) (c105 S1_ C1_ O1_ d1_ I1_ (fun h785 kc785 vv785 LN785 L785 cs785 hk785 e785 T785 U785 => zbk_v ?_))
      have Z785 := Z.cls T785
      have t785 := T785.1.2
      obtain ⟨⟨Zs2, Zb2⟩, S2_, ⟨τ2_, α2_, C2_⟩, O2_, I2_, ⟨n02_, R2_⟩, d2_, f2_⟩ := id Z785
      have HM2 := R2_.1
      have HH2 := C2_.1
      refine zr_istore (L' := [some (.ref _), some (.ref _), some (.ref _), some (.ref _), some (.int (zJ _)), some (.int (zJ _)), _, _]) zi238_788 rfl rfl ?_
      refine zr_aload_n zi238_790 rfl ?_
      refine zr_aload_n zi238_791 rfl ?_
      refine zr_iload zi238_792 rfl ?_
      refine zr_iconst (v := zJ 1) zi238_794 rfl ?_
      refine zr_iaddN zi238_795 ?_
      refine zr_ialoadN zi238_796 Zs2 rfl (by omega) (by first | omega | (simp only [List.length_set, zpt_len]; omega)) ?_
      refine zr_aload_n zi238_797 rfl ?_
      refine zr_iload zi238_798 rfl ?_
      refine zr_iconst (v := zJ 2) zi238_800 rfl ?_
      refine zr_iaddN zi238_801 ?_
      refine zr_ialoadN zi238_802 Zs2 rfl (by omega) (by first | omega | (simp only [List.length_set, zpt_len]; omega)) ?_
      refine zr_aload_n zi238_803 rfl ?_
      refine zr_iload zi238_804 rfl ?_
      refine zr_iconst (v := zJ 3) zi238_806 rfl ?_
      refine zr_iaddN zi238_807 ?_
      refine zr_ialoadN zi238_808 Zs2 rfl (by omega) (by first | omega | (simp only [List.length_set, zpt_len]; omega)) ?_
      refine zr_virtual zi238_809 rfl rfl (HM2.at0 rfl) rfl rfl ?_
      refine zcall_dep (d := 5) (Nat.le_of_ble_eq_true rfl) (c207 R2_ (fun h809 v809 n809 le809 B809 ms809 N809 RR809 => zbk_v ?_))
      have Z809 := Z785.ref N809
      have t809 := N809.1.2
      have Rl809 : zRel L785 B809 := by first | exact zrel42 C1_ Rl cs785 e785 ms809 | contradiction
      refine zr_istore (L' := [some (.ref _), some (.ref _), some (.ref _), some (.ref _), some (.int (zJ _)), some (.int (zJ _)), some (.int _), _]) zi238_812 rfl rfl ?_
      refine zr_goto zi238_814 rfl ?_
      refine zr_iincN (z := 5) (L' := [some (.ref _), some (.ref _), some (.ref _), some (.ref _), some (.int (zJ _)), some (.int (zJ _)), some (.int _), _]) zi238_1302 rfl rfl rfl rfl ?_
      refine zr_goto zi238_1305 rfl ?_
      have e5 : 5 * (k + 1) = 5 * k + 5 := Nat.mul_succ 5 k
      have ihk := ih27 (by omega)
      rw [e5] at ihk
      exact ihk _ _ _ _ _ _ _ _ Z809 Rl809 (by omega) (by omega) (by omega)
    · refine zr_tableL zi238_43 (by decide) rfl rfl ?_
      refine zr_aload_n zi238_817 rfl ?_
      refine zr_aload_n zi238_818 rfl ?_
      refine zr_iload zi238_819 rfl ?_
      refine zr_iconst (v := zJ 1) zi238_821 rfl ?_
      refine zr_iaddN zi238_822 ?_
      refine zr_ialoadN zi238_823 Zs1 rfl (by omega) (by first | omega | (simp only [List.length_set, zpt_len]; omega)) ?_
      refine zr_aload_n zi238_824 rfl ?_
      refine zr_iload zi238_825 rfl ?_
      refine zr_iconst (v := zJ 2) zi238_827 rfl ?_
      refine zr_iaddN zi238_828 ?_
      refine zr_ialoadN zi238_829 Zs1 rfl (by omega) (by first | omega | (simp only [List.length_set, zpt_len]; omega)) ?_
      refine zr_aload_n zi238_830 rfl ?_
      refine zr_iload zi238_831 rfl ?_
      refine zr_iconst (v := zJ 3) zi238_833 rfl ?_
      refine zr_iaddN zi238_834 ?_
      refine zr_ialoadN zi238_835 Zs1 rfl (by omega) (by first | omega | (simp only [List.length_set, zpt_len]; omega)) ?_
      refine zr_aload_n zi238_836 rfl ?_
      refine zr_static zi238_837 rfl rfl rfl rfl ?_
      refine zcall_dep (d := 3) (Nat.le_of_ble_eq_true rfl) (c106 S1_ C1_ O1_ d1_ I1_ (fun h837 kc837 vv837 LN837 L837 cs837 hk837 e837 T837 U837 => zbk_v ?_))
      have Z837 := Z.cls T837
      have t837 := T837.1.2
      obtain ⟨⟨Zs2, Zb2⟩, S2_, ⟨τ2_, α2_, C2_⟩, O2_, I2_, ⟨n02_, R2_⟩, d2_, f2_⟩ := id Z837
      have HM2 := R2_.1
      have HH2 := C2_.1
      refine zr_istore (L' := [some (.ref _), some (.ref _), some (.ref _), some (.ref _), some (.int (zJ _)), some (.int (zJ _)), _, _]) zi238_840 rfl rfl ?_
      refine zr_aload_n zi238_842 rfl ?_
      refine zr_aload_n zi238_843 rfl ?_
      refine zr_iload zi238_844 rfl ?_
      refine zr_iconst (v := zJ 1) zi238_846 rfl ?_
      refine zr_iaddN zi238_847 ?_
      refine zr_ialoadN zi238_848 Zs2 rfl (by omega) (by first | omega | (simp only [List.length_set, zpt_len]; omega)) ?_
      refine zr_aload_n zi238_849 rfl ?_
      refine zr_iload zi238_850 rfl ?_
      refine zr_iconst (v := zJ 2) zi238_852 rfl ?_
      refine zr_iaddN zi238_853 ?_
      refine zr_ialoadN zi238_854 Zs2 rfl (by omega) (by first | omega | (simp only [List.length_set, zpt_len]; omega)) ?_
      refine zr_aload_n zi238_855 rfl ?_
      refine zr_iload zi238_856 rfl ?_
      refine zr_iconst (v := zJ 3) zi238_858 rfl ?_
      refine zr_iaddN zi238_859 ?_
      refine zr_ialoadN zi238_860 Zs2 rfl (by omega) (by first | omega | (simp only [List.length_set, zpt_len]; omega)) ?_
      refine zr_virtual zi238_861 rfl rfl (HM2.at0 rfl) rfl rfl ?_
      refine zcall_dep (d := 4) (Nat.le_of_ble_eq_true rfl) (c209 R2_ (fun h861 v861 n861 le861 B861 ms861 N861 RR861 => zbk_v ?_))
      have Z861 := Z837.ref N861
      have t861 := N861.1.2
      have Rl861 : zRel L837 B861 := by first | exact zrel46 C1_ Rl cs837 e837 ms861 | contradiction
      refine zr_istore (L' := [some (.ref _), some (.ref _), some (.ref _), some (.ref _), some (.int (zJ _)), some (.int (zJ _)), some (.int _), _]) zi238_864 rfl rfl ?_
      refine zr_goto zi238_866 rfl ?_
      refine zr_iincN (z := 5) (L' := [some (.ref _), some (.ref _), some (.ref _), some (.ref _), some (.int (zJ _)), some (.int (zJ _)), some (.int _), _]) zi238_1302 rfl rfl rfl rfl ?_
      refine zr_goto zi238_1305 rfl ?_
      have e5 : 5 * (k + 1) = 5 * k + 5 := Nat.mul_succ 5 k
      have ihk := ih27 (by omega)
      rw [e5] at ihk
      exact ihk _ _ _ _ _ _ _ _ Z861 Rl861 (by omega) (by omega) (by omega)
    · refine zr_tableL zi238_43 (by decide) rfl rfl ?_
      refine zr_aload_n zi238_869 rfl ?_
      refine zr_aload_n zi238_870 rfl ?_
      refine zr_iload zi238_871 rfl ?_
      refine zr_iconst (v := zJ 1) zi238_873 rfl ?_
      refine zr_iaddN zi238_874 ?_
      refine zr_ialoadN zi238_875 Zs1 rfl (by omega) (by first | omega | (simp only [List.length_set, zpt_len]; omega)) ?_
      refine zr_aload_n zi238_876 rfl ?_
      refine zr_iload zi238_877 rfl ?_
      refine zr_iconst (v := zJ 2) zi238_879 rfl ?_
      refine zr_iaddN zi238_880 ?_
      refine zr_ialoadN zi238_881 Zs1 rfl (by omega) (by first | omega | (simp only [List.length_set, zpt_len]; omega)) ?_
      refine zr_aload_n zi238_882 rfl ?_
      refine zr_static zi238_883 rfl rfl rfl rfl ?_
      refine zcall_dep (d := 17) (Nat.le_of_ble_eq_true rfl) (c107 S1_ C1_ O1_ d1_ I1_ (fun h883 kc883 vv883 LN883 L883 cs883 hk883 e883 T883 U883 => zbk_v ?_))
      have Z883 := Z.cls T883
      have t883 := T883.1.2
      obtain ⟨⟨Zs2, Zb2⟩, S2_, ⟨τ2_, α2_, C2_⟩, O2_, I2_, ⟨n02_, R2_⟩, d2_, f2_⟩ := id Z883
      have HM2 := R2_.1
      have HH2 := C2_.1
      refine zr_istore (L' := [some (.ref _), some (.ref _), some (.ref _), some (.ref _), some (.int (zJ _)), some (.int (zJ _)), _, _]) zi238_886 rfl rfl ?_
      refine zr_aload_n zi238_888 rfl ?_
      refine zr_aload_n zi238_889 rfl ?_
      refine zr_iload zi238_890 rfl ?_
      refine zr_iconst (v := zJ 1) zi238_892 rfl ?_
      refine zr_iaddN zi238_893 ?_
      refine zr_ialoadN zi238_894 Zs2 rfl (by omega) (by first | omega | (simp only [List.length_set, zpt_len]; omega)) ?_
      refine zr_aload_n zi238_895 rfl ?_
      refine zr_iload zi238_896 rfl ?_
      refine zr_iconst (v := zJ 2) zi238_898 rfl ?_
      refine zr_iaddN zi238_899 ?_
      refine zr_ialoadN zi238_900 Zs2 rfl (by omega) (by first | omega | (simp only [List.length_set, zpt_len]; omega)) ?_
      refine zr_virtual zi238_901 rfl rfl (HM2.at0 rfl) rfl rfl ?_
      refine zcall_dep (d := 15) (Nat.le_of_ble_eq_true rfl) (c211 R2_ (fun h901 v901 n901 le901 B901 ms901 N901 RR901 => zbk_v ?_))
      have Z901 := Z883.ref N901
      have t901 := N901.1.2
      have Rl901 : zRel L883 B901 := by first | exact zrel18 C1_ Rl cs883 e883 ms901 | contradiction
      refine zr_istore (L' := [some (.ref _), some (.ref _), some (.ref _), some (.ref _), some (.int (zJ _)), some (.int (zJ _)), some (.int _), _]) zi238_904 rfl rfl ?_
      refine zr_goto zi238_906 rfl ?_
      refine zr_iincN (z := 5) (L' := [some (.ref _), some (.ref _), some (.ref _), some (.ref _), some (.int (zJ _)), some (.int (zJ _)), some (.int _), _]) zi238_1302 rfl rfl rfl rfl ?_
      refine zr_goto zi238_1305 rfl ?_
      have e5 : 5 * (k + 1) = 5 * k + 5 := Nat.mul_succ 5 k
      have ihk := ih27 (by omega)
      rw [e5] at ihk
      exact ihk _ _ _ _ _ _ _ _ Z901 Rl901 (by omega) (by omega) (by omega)
    · refine zr_tableL zi238_43 (by decide) rfl rfl ?_
      refine zr_aload_n zi238_909 rfl ?_
      refine zr_aload_n zi238_910 rfl ?_
      refine zr_iload zi238_911 rfl ?_
      refine zr_iconst (v := zJ 1) zi238_913 rfl ?_
      refine zr_iaddN zi238_914 ?_
      refine zr_ialoadN zi238_915 Zs1 rfl (by omega) (by first | omega | (simp only [List.length_set, zpt_len]; omega)) ?_
      refine zr_aload_n zi238_916 rfl ?_
      refine zr_static zi238_917 rfl rfl rfl rfl ?_
      refine zcall_dep (d := 9) (Nat.le_of_ble_eq_true rfl) (c108 S1_ C1_ O1_ d1_ I1_ (fun h917 kc917 vv917 LN917 L917 cs917 hk917 e917 T917 U917 => zbk_v ?_))
      have Z917 := Z.cls T917
      have t917 := T917.1.2
      obtain ⟨⟨Zs2, Zb2⟩, S2_, ⟨τ2_, α2_, C2_⟩, O2_, I2_, ⟨n02_, R2_⟩, d2_, f2_⟩ := id Z917
      have HM2 := R2_.1
      have HH2 := C2_.1
      refine zr_istore (L' := [some (.ref _), some (.ref _), some (.ref _), some (.ref _), some (.int (zJ _)), some (.int (zJ _)), _, _]) zi238_920 rfl rfl ?_
      refine zr_aload_n zi238_922 rfl ?_
      refine zr_aload_n zi238_923 rfl ?_
      refine zr_iload zi238_924 rfl ?_
      refine zr_iconst (v := zJ 1) zi238_926 rfl ?_
      refine zr_iaddN zi238_927 ?_
      refine zr_ialoadN zi238_928 Zs2 rfl (by omega) (by first | omega | (simp only [List.length_set, zpt_len]; omega)) ?_
      refine zr_virtual zi238_929 rfl rfl (HM2.at0 rfl) rfl rfl ?_
      refine zcall_dep (d := 8) (Nat.le_of_ble_eq_true rfl) (c215 R2_ S2_ (fun h929 v929 n929 le929 B929 ms929 N929 RR929 => zbk_v ?_))
      have Z929 := Z917.ref N929
      have t929 := N929.1.2
      have Rl929 : zRel L917 B929 := by first | exact zrel109 C1_ Rl cs917 e917 ms929 | contradiction
      refine zr_astore (L' := [some (.ref _), some (.ref _), some (.ref _), some (.ref _), some (.int (zJ _)), some (.int (zJ _)), some (.ref _), _]) zi238_932 rfl rfl ?_
      refine zr_goto zi238_934 rfl ?_
      refine zr_iincN (z := 5) (L' := [some (.ref _), some (.ref _), some (.ref _), some (.ref _), some (.int (zJ _)), some (.int (zJ _)), some (.ref _), _]) zi238_1302 rfl rfl rfl rfl ?_
      refine zr_goto zi238_1305 rfl ?_
      have e5 : 5 * (k + 1) = 5 * k + 5 := Nat.mul_succ 5 k
      have ihk := ih27 (by omega)
      rw [e5] at ihk
      exact ihk _ _ _ _ _ _ _ _ Z929 Rl929 (by omega) (by omega) (by omega)
    · refine zr_tableL zi238_43 (by decide) rfl rfl ?_
      refine zr_aload_n zi238_937 rfl ?_
      refine zr_aload_n zi238_938 rfl ?_
      refine zr_iload zi238_939 rfl ?_
      refine zr_iconst (v := zJ 1) zi238_941 rfl ?_
      refine zr_iaddN zi238_942 ?_
      refine zr_ialoadN zi238_943 Zs1 rfl (by omega) (by first | omega | (simp only [List.length_set, zpt_len]; omega)) ?_
      refine zr_aload_n zi238_944 rfl ?_
      refine zr_iload zi238_945 rfl ?_
      refine zr_iconst (v := zJ 2) zi238_947 rfl ?_
      refine zr_iaddN zi238_948 ?_
      refine zr_ialoadN zi238_949 Zs1 rfl (by omega) (by first | omega | (simp only [List.length_set, zpt_len]; omega)) ?_
      refine zr_aload_n zi238_950 rfl ?_
      refine zr_static zi238_951 rfl rfl rfl rfl ?_
      refine zcall_dep (d := 17) (Nat.le_of_ble_eq_true rfl) (c135 S1_ C1_ O1_ d1_ I1_ (fun h951 kc951 vv951 LN951 L951 cs951 hk951 e951 T951 U951 => zbk_v ?_))
      have Z951 := Z.cls T951
      have t951 := T951.1.2
      obtain ⟨⟨Zs2, Zb2⟩, S2_, ⟨τ2_, α2_, C2_⟩, O2_, I2_, ⟨n02_, R2_⟩, d2_, f2_⟩ := id Z951
      have HM2 := R2_.1
      have HH2 := C2_.1
      refine zr_istore (L' := [some (.ref _), some (.ref _), some (.ref _), some (.ref _), some (.int (zJ _)), some (.int (zJ _)), _, _]) zi238_954 rfl rfl ?_
      refine zr_aload_n zi238_956 rfl ?_
      refine zr_aload_n zi238_957 rfl ?_
      refine zr_iload zi238_958 rfl ?_
      refine zr_iconst (v := zJ 1) zi238_960 rfl ?_
      refine zr_iaddN zi238_961 ?_
      refine zr_ialoadN zi238_962 Zs2 rfl (by omega) (by first | omega | (simp only [List.length_set, zpt_len]; omega)) ?_
      refine zr_aload_n zi238_963 rfl ?_
      refine zr_iload zi238_964 rfl ?_
      refine zr_iconst (v := zJ 2) zi238_966 rfl ?_
      refine zr_iaddN zi238_967 ?_
      refine zr_ialoadN zi238_968 Zs2 rfl (by omega) (by first | omega | (simp only [List.length_set, zpt_len]; omega)) ?_
      refine zr_virtual zi238_969 rfl rfl (HM2.at0 rfl) rfl rfl ?_
      refine zcall_dep (d := 15) (Nat.le_of_ble_eq_true rfl) (c216 R2_ (fun h969 v969 n969 le969 B969 ms969 N969 RR969 => zbk_v ?_))
      have Z969 := Z951.ref N969
      have t969 := N969.1.2
      have Rl969 : zRel L951 B969 := by first | exact zrel47 C1_ Rl cs951 e951 ms969 | contradiction
      refine zr_istore (L' := [some (.ref _), some (.ref _), some (.ref _), some (.ref _), some (.int (zJ _)), some (.int (zJ _)), some (.int _), _]) zi238_972 rfl rfl ?_
      refine zr_goto zi238_974 rfl ?_
      refine zr_iincN (z := 5) (L' := [some (.ref _), some (.ref _), some (.ref _), some (.ref _), some (.int (zJ _)), some (.int (zJ _)), some (.int _), _]) zi238_1302 rfl rfl rfl rfl ?_
      refine zr_goto zi238_1305 rfl ?_
      have e5 : 5 * (k + 1) = 5 * k + 5 := Nat.mul_succ 5 k
      have ihk := ih27 (by omega)
      rw [e5] at ihk
      exact ihk _ _ _ _ _ _ _ _ Z969 Rl969 (by omega) (by omega) (by omega)
    · refine zr_tableL zi238_43 (by decide) rfl rfl ?_
      refine zr_aload_n zi238_977 rfl ?_
      refine zr_aload_n zi238_978 rfl ?_
      refine zr_iload zi238_979 rfl ?_
      refine zr_iconst (v := zJ 1) zi238_981 rfl ?_
      refine zr_iaddN zi238_982 ?_
      refine zr_ialoadN zi238_983 Zs1 rfl (by omega) (by first | omega | (simp only [List.length_set, zpt_len]; omega)) ?_
      refine zr_aload_n zi238_984 rfl ?_
      refine zr_iload zi238_985 rfl ?_
      refine zr_iconst (v := zJ 2) zi238_987 rfl ?_
      refine zr_iaddN zi238_988 ?_
      refine zr_ialoadN zi238_989 Zs1 rfl (by omega) (by first | omega | (simp only [List.length_set, zpt_len]; omega)) ?_
      refine zr_aload_n zi238_990 rfl ?_
      refine zr_static zi238_991 rfl rfl rfl rfl ?_
      refine zcall_dep (d := 17) (Nat.le_of_ble_eq_true rfl) (c136 S1_ C1_ O1_ d1_ I1_ (fun h991 kc991 vv991 LN991 L991 cs991 hk991 e991 T991 U991 => zbk_v ?_))
      have Z991 := Z.cls T991
      have t991 := T991.1.2
      obtain ⟨⟨Zs2, Zb2⟩, S2_, ⟨τ2_, α2_, C2_⟩, O2_, I2_, ⟨n02_, R2_⟩, d2_, f2_⟩ := id Z991
      have HM2 := R2_.1
      have HH2 := C2_.1
      refine zr_istore (L' := [some (.ref _), some (.ref _), some (.ref _), some (.ref _), some (.int (zJ _)), some (.int (zJ _)), _, _]) zi238_994 rfl rfl ?_
      refine zr_aload_n zi238_996 rfl ?_
      refine zr_aload_n zi238_997 rfl ?_
      refine zr_iload zi238_998 rfl ?_
      refine zr_iconst (v := zJ 1) zi238_1000 rfl ?_
      refine zr_iaddN zi238_1001 ?_
      refine zr_ialoadN zi238_1002 Zs2 rfl (by omega) (by first | omega | (simp only [List.length_set, zpt_len]; omega)) ?_
      refine zr_aload_n zi238_1003 rfl ?_
      refine zr_iload zi238_1004 rfl ?_
      refine zr_iconst (v := zJ 2) zi238_1006 rfl ?_
      refine zr_iaddN zi238_1007 ?_
      refine zr_ialoadN zi238_1008 Zs2 rfl (by omega) (by first | omega | (simp only [List.length_set, zpt_len]; omega)) ?_
      refine zr_virtual zi238_1009 rfl rfl (HM2.at0 rfl) rfl rfl ?_
      refine zcall_dep (d := 15) (Nat.le_of_ble_eq_true rfl) (c217 R2_ (fun h1009 v1009 n1009 le1009 B1009 M1009 ms1009 N1009 RR1009 => zbk_v ?_))
      have Z1009 := Z991.ref N1009
      have t1009 := N1009.1.2
      have Rl1009 : zRel L991 B1009 := by first | exact zrel137 C1_ Rl cs991 e991 ms1009 | contradiction
      refine zr_dstore (L' := [some (.ref _), some (.ref _), some (.ref _), some (.ref _), some (.int (zJ _)), some (.int (zJ _)), some (.double _), none]) zi238_1012 rfl rfl ?_
      refine zr_goto zi238_1014 rfl ?_
      refine zr_iincN (z := 5) (L' := [some (.ref _), some (.ref _), some (.ref _), some (.ref _), some (.int (zJ _)), some (.int (zJ _)), some (.double _), none]) zi238_1302 rfl rfl rfl rfl ?_
      refine zr_goto zi238_1305 rfl ?_
      have e5 : 5 * (k + 1) = 5 * k + 5 := Nat.mul_succ 5 k
      have ihk := ih27 (by omega)
      rw [e5] at ihk
      exact ihk _ _ _ _ _ _ _ _ Z1009 Rl1009 (by omega) (by omega) (by omega)
    · refine zr_tableL zi238_43 (by decide) rfl rfl ?_
      refine zr_aload_n zi238_1017 rfl ?_
      refine zr_aload_n zi238_1018 rfl ?_
      refine zr_iload zi238_1019 rfl ?_
      refine zr_iconst (v := zJ 1) zi238_1021 rfl ?_
      refine zr_iaddN zi238_1022 ?_
      refine zr_ialoadN zi238_1023 Zs1 rfl (by omega) (by first | omega | (simp only [List.length_set, zpt_len]; omega)) ?_
      refine zr_aload_n zi238_1024 rfl ?_
      refine zr_iload zi238_1025 rfl ?_
      refine zr_iconst (v := zJ 2) zi238_1027 rfl ?_
      refine zr_iaddN zi238_1028 ?_
      refine zr_ialoadN zi238_1029 Zs1 rfl (by omega) (by first | omega | (simp only [List.length_set, zpt_len]; omega)) ?_
      refine zr_aload_n zi238_1030 rfl ?_
      refine zr_static zi238_1031 rfl rfl rfl rfl ?_
      refine zcall_dep (d := 17) (Nat.le_of_ble_eq_true rfl) (c138 S1_ C1_ O1_ d1_ I1_ (fun h1031 kc1031 vv1031 LN1031 L1031 cs1031 hk1031 e1031 T1031 U1031 => zbk_v ?_))
      have Z1031 := Z.cls T1031
      have t1031 := T1031.1.2
      obtain ⟨⟨Zs2, Zb2⟩, S2_, ⟨τ2_, α2_, C2_⟩, O2_, I2_, ⟨n02_, R2_⟩, d2_, f2_⟩ := id Z1031
      have HM2 := R2_.1
      have HH2 := C2_.1
      refine zr_istore (L' := [some (.ref _), some (.ref _), some (.ref _), some (.ref _), some (.int (zJ _)), some (.int (zJ _)), _, _]) zi238_1034 rfl rfl ?_
      refine zr_aload_n zi238_1036 rfl ?_
      refine zr_aload_n zi238_1037 rfl ?_
      refine zr_iload zi238_1038 rfl ?_
      refine zr_iconst (v := zJ 1) zi238_1040 rfl ?_
      refine zr_iaddN zi238_1041 ?_
      refine zr_ialoadN zi238_1042 Zs2 rfl (by omega) (by first | omega | (simp only [List.length_set, zpt_len]; omega)) ?_
      refine zr_aload_n zi238_1043 rfl ?_
      refine zr_iload zi238_1044 rfl ?_
      refine zr_iconst (v := zJ 2) zi238_1046 rfl ?_
      refine zr_iaddN zi238_1047 ?_
      refine zr_ialoadN zi238_1048 Zs2 rfl (by omega) (by first | omega | (simp only [List.length_set, zpt_len]; omega)) ?_
      refine zr_virtual zi238_1049 rfl rfl (HM2.at0 rfl) rfl rfl ?_
      refine zcall_dep (d := 15) (Nat.le_of_ble_eq_true rfl) (c220 R2_ (fun h1049 v1049 n1049 le1049 B1049 M1049 ms1049 N1049 RR1049 => zbk_v ?_))
      have Z1049 := Z1031.ref N1049
      have t1049 := N1049.1.2
      have Rl1049 : zRel L1031 B1049 := by first | exact zrel49 C1_ Rl cs1031 e1031 ms1049 | contradiction
      refine zr_dstore (L' := [some (.ref _), some (.ref _), some (.ref _), some (.ref _), some (.int (zJ _)), some (.int (zJ _)), some (.double _), none]) zi238_1052 rfl rfl ?_
      refine zr_goto zi238_1054 rfl ?_
      refine zr_iincN (z := 5) (L' := [some (.ref _), some (.ref _), some (.ref _), some (.ref _), some (.int (zJ _)), some (.int (zJ _)), some (.double _), none]) zi238_1302 rfl rfl rfl rfl ?_
      refine zr_goto zi238_1305 rfl ?_
      have e5 : 5 * (k + 1) = 5 * k + 5 := Nat.mul_succ 5 k
      have ihk := ih27 (by omega)
      rw [e5] at ihk
      exact ihk _ _ _ _ _ _ _ _ Z1049 Rl1049 (by omega) (by omega) (by omega)
    · refine zr_tableL zi238_43 (by decide) rfl rfl ?_
      refine zr_aload_n zi238_1057 rfl ?_
      refine zr_aload_n zi238_1058 rfl ?_
      refine zr_iload zi238_1059 rfl ?_
      refine zr_iconst (v := zJ 1) zi238_1061 rfl ?_
      refine zr_iaddN zi238_1062 ?_
      refine zr_ialoadN zi238_1063 Zs1 rfl (by omega) (by first | omega | (simp only [List.length_set, zpt_len]; omega)) ?_
      refine zr_aload_n zi238_1064 rfl ?_
      refine zr_static zi238_1065 rfl rfl rfl rfl ?_
      refine zcall_dep (d := 3) (Nat.le_of_ble_eq_true rfl) (c139 S1_ C1_ O1_ d1_ I1_ (fun h1065 kc1065 vv1065 LN1065 L1065 cs1065 hk1065 e1065 T1065 U1065 => zbk_v ?_))
      have Z1065 := Z.cls T1065
      have t1065 := T1065.1.2
      obtain ⟨⟨Zs2, Zb2⟩, S2_, ⟨τ2_, α2_, C2_⟩, O2_, I2_, ⟨n02_, R2_⟩, d2_, f2_⟩ := id Z1065
      have HM2 := R2_.1
      have HH2 := C2_.1
      refine zr_istore (L' := [some (.ref _), some (.ref _), some (.ref _), some (.ref _), some (.int (zJ _)), some (.int (zJ _)), _, _]) zi238_1068 rfl rfl ?_
      refine zr_aload_n zi238_1070 rfl ?_
      refine zr_aload_n zi238_1071 rfl ?_
      refine zr_iload zi238_1072 rfl ?_
      refine zr_iconst (v := zJ 1) zi238_1074 rfl ?_
      refine zr_iaddN zi238_1075 ?_
      refine zr_ialoadN zi238_1076 Zs2 rfl (by omega) (by first | omega | (simp only [List.length_set, zpt_len]; omega)) ?_
      refine zr_virtual zi238_1077 rfl rfl (HM2.at0 rfl) rfl rfl ?_
      refine zcall_dep (d := 4) (Nat.le_of_ble_eq_true rfl) (c223 R2_ (fun h1077 v1077 n1077 le1077 B1077 ms1077 N1077 RR1077 => zbk_v ?_))
      have Z1077 := Z1065.ref N1077
      have t1077 := N1077.1.2
      have Rl1077 : zRel L1065 B1077 := by first | exact zrel11 C1_ Rl cs1065 e1065 ms1077 | contradiction
      refine zr_istore (L' := [some (.ref _), some (.ref _), some (.ref _), some (.ref _), some (.int (zJ _)), some (.int (zJ _)), some (.int _), _]) zi238_1080 rfl rfl ?_
      refine zr_goto zi238_1082 rfl ?_
      refine zr_iincN (z := 5) (L' := [some (.ref _), some (.ref _), some (.ref _), some (.ref _), some (.int (zJ _)), some (.int (zJ _)), some (.int _), _]) zi238_1302 rfl rfl rfl rfl ?_
      refine zr_goto zi238_1305 rfl ?_
      have e5 : 5 * (k + 1) = 5 * k + 5 := Nat.mul_succ 5 k
      have ihk := ih27 (by omega)
      rw [e5] at ihk
      exact ihk _ _ _ _ _ _ _ _ Z1077 Rl1077 (by omega) (by omega) (by omega)
    · refine zr_tableL zi238_43 (by decide) rfl rfl ?_
      refine zr_aload_n zi238_1085 rfl ?_
      refine zr_aload_n zi238_1086 rfl ?_
      refine zr_iload zi238_1087 rfl ?_
      refine zr_iconst (v := zJ 1) zi238_1089 rfl ?_
      refine zr_iaddN zi238_1090 ?_
      refine zr_ialoadN zi238_1091 Zs1 rfl (by omega) (by first | omega | (simp only [List.length_set, zpt_len]; omega)) ?_
      refine zr_aload_n zi238_1092 rfl ?_
      refine zr_static zi238_1093 rfl rfl rfl rfl ?_
      refine zcall_dep (d := 4) (Nat.le_of_ble_eq_true rfl) (c140 S1_ C1_ O1_ d1_ I1_ (fun h1093 kc1093 vv1093 LN1093 L1093 cs1093 hk1093 e1093 T1093 U1093 => zbk_v ?_))
      have Z1093 := Z.cls T1093
      have t1093 := T1093.1.2
      obtain ⟨⟨Zs2, Zb2⟩, S2_, ⟨τ2_, α2_, C2_⟩, O2_, I2_, ⟨n02_, R2_⟩, d2_, f2_⟩ := id Z1093
      have HM2 := R2_.1
      have HH2 := C2_.1
      refine zr_istore (L' := [some (.ref _), some (.ref _), some (.ref _), some (.ref _), some (.int (zJ _)), some (.int (zJ _)), _, _]) zi238_1096 rfl rfl ?_
      refine zr_aload_n zi238_1098 rfl ?_
      refine zr_aload_n zi238_1099 rfl ?_
      refine zr_iload zi238_1100 rfl ?_
      refine zr_iconst (v := zJ 1) zi238_1102 rfl ?_
      refine zr_iaddN zi238_1103 ?_
      refine zr_ialoadN zi238_1104 Zs2 rfl (by omega) (by first | omega | (simp only [List.length_set, zpt_len]; omega)) ?_
      refine zr_virtual zi238_1105 rfl rfl (HM2.at0 rfl) rfl rfl ?_
      refine zcall_dep (d := 5) (Nat.le_of_ble_eq_true rfl) (c225 R2_ (fun h1105 v1105 n1105 le1105 B1105 ms1105 N1105 RR1105 => zbk_v ?_))
      have Z1105 := Z1093.ref N1105
      have t1105 := N1105.1.2
      have Rl1105 : zRel L1093 B1105 := by first | exact zrel55 C1_ Rl cs1093 e1093 ms1105 | contradiction
      refine zr_istore (L' := [some (.ref _), some (.ref _), some (.ref _), some (.ref _), some (.int (zJ _)), some (.int (zJ _)), some (.int _), _]) zi238_1108 rfl rfl ?_
      refine zr_goto zi238_1110 rfl ?_
      refine zr_iincN (z := 5) (L' := [some (.ref _), some (.ref _), some (.ref _), some (.ref _), some (.int (zJ _)), some (.int (zJ _)), some (.int _), _]) zi238_1302 rfl rfl rfl rfl ?_
      refine zr_goto zi238_1305 rfl ?_
      have e5 : 5 * (k + 1) = 5 * k + 5 := Nat.mul_succ 5 k
      have ihk := ih27 (by omega)
      rw [e5] at ihk
      exact ihk _ _ _ _ _ _ _ _ Z1105 Rl1105 (by omega) (by omega) (by omega)
    · refine zr_tableL zi238_43 (by decide) rfl rfl ?_
      refine zr_aload_n zi238_1113 rfl ?_
      refine zr_aload_n zi238_1114 rfl ?_
      refine zr_iload zi238_1115 rfl ?_
      refine zr_iconst (v := zJ 1) zi238_1117 rfl ?_
      refine zr_iaddN zi238_1118 ?_
      refine zr_ialoadN zi238_1119 Zs1 rfl (by omega) (by first | omega | (simp only [List.length_set, zpt_len]; omega)) ?_
      refine zr_aload_n zi238_1120 rfl ?_
      refine zr_static zi238_1121 rfl rfl rfl rfl ?_
      refine zcall_dep (d := 17) (Nat.le_of_ble_eq_true rfl) (c141 S1_ C1_ O1_ d1_ I1_ (fun h1121 kc1121 vv1121 LN1121 L1121 cs1121 hk1121 e1121 T1121 U1121 => zbk_v ?_))
      have Z1121 := Z.cls T1121
      have t1121 := T1121.1.2
      obtain ⟨⟨Zs2, Zb2⟩, S2_, ⟨τ2_, α2_, C2_⟩, O2_, I2_, ⟨n02_, R2_⟩, d2_, f2_⟩ := id Z1121
      have HM2 := R2_.1
      have HH2 := C2_.1
      refine zr_istore (L' := [some (.ref _), some (.ref _), some (.ref _), some (.ref _), some (.int (zJ _)), some (.int (zJ _)), _, _]) zi238_1124 rfl rfl ?_
      refine zr_aload_n zi238_1126 rfl ?_
      refine zr_aload_n zi238_1127 rfl ?_
      refine zr_iload zi238_1128 rfl ?_
      refine zr_iconst (v := zJ 1) zi238_1130 rfl ?_
      refine zr_iaddN zi238_1131 ?_
      refine zr_ialoadN zi238_1132 Zs2 rfl (by omega) (by first | omega | (simp only [List.length_set, zpt_len]; omega)) ?_
      refine zr_virtual zi238_1133 rfl rfl (HM2.at0 rfl) rfl rfl ?_
      refine zcall_dep (d := 15) (Nat.le_of_ble_eq_true rfl) (c227 R2_ (fun h1133 v1133 n1133 le1133 B1133 ms1133 N1133 RR1133 => zbk_v ?_))
      have Z1133 := Z1121.ref N1133
      have t1133 := N1133.1.2
      have Rl1133 : zRel L1121 B1133 := by first | exact zrel56 C1_ Rl cs1121 e1121 ms1133 | contradiction
      refine zr_istore (L' := [some (.ref _), some (.ref _), some (.ref _), some (.ref _), some (.int (zJ _)), some (.int (zJ _)), some (.int _), _]) zi238_1136 rfl rfl ?_
      refine zr_goto zi238_1138 rfl ?_
      refine zr_iincN (z := 5) (L' := [some (.ref _), some (.ref _), some (.ref _), some (.ref _), some (.int (zJ _)), some (.int (zJ _)), some (.int _), _]) zi238_1302 rfl rfl rfl rfl ?_
      refine zr_goto zi238_1305 rfl ?_
      have e5 : 5 * (k + 1) = 5 * k + 5 := Nat.mul_succ 5 k
      have ihk := ih27 (by omega)
      rw [e5] at ihk
      exact ihk _ _ _ _ _ _ _ _ Z1133 Rl1133 (by omega) (by omega) (by omega)
    · refine zr_tableL zi238_43 (by decide) rfl rfl ?_
      refine zr_aload_n zi238_1141 rfl ?_
      refine zr_aload_n zi238_1142 rfl ?_
      refine zr_iload zi238_1143 rfl ?_
      refine zr_iconst (v := zJ 1) zi238_1145 rfl ?_
      refine zr_iaddN zi238_1146 ?_
      refine zr_ialoadN zi238_1147 Zs1 rfl (by omega) (by first | omega | (simp only [List.length_set, zpt_len]; omega)) ?_
      refine zr_aload_n zi238_1148 rfl ?_
      refine zr_iload zi238_1149 rfl ?_
      refine zr_iconst (v := zJ 2) zi238_1151 rfl ?_
      refine zr_iaddN zi238_1152 ?_
      refine zr_ialoadN zi238_1153 Zs1 rfl (by omega) (by first | omega | (simp only [List.length_set, zpt_len]; omega)) ?_
      refine zr_aload_n zi238_1154 rfl ?_
      refine zr_iload zi238_1155 rfl ?_
      refine zr_iconst (v := zJ 3) zi238_1157 rfl ?_
      refine zr_iaddN zi238_1158 ?_
      refine zr_ialoadN zi238_1159 Zs1 rfl (by omega) (by first | omega | (simp only [List.length_set, zpt_len]; omega)) ?_
      refine zr_if_eq zi238_1160 rfl (fun q1160 => ?_) (fun q1160 => ?_)
      · refine zr_iconst (v := zB false) zi238_1167 rfl ?_
        refine zr_aload_n zi238_1168 rfl ?_
        refine zr_iload zi238_1169 rfl ?_
        refine zr_iconst (v := zJ 4) zi238_1171 rfl ?_
        refine zr_iaddN zi238_1172 ?_
        refine zr_ialoadN zi238_1173 Zs1 rfl (by omega) (by first | omega | (simp only [List.length_set, zpt_len]; omega)) ?_
        refine zr_aload_n zi238_1174 rfl ?_
        refine zr_static zi238_1175 rfl rfl rfl rfl ?_
        refine zcall_dep (d := 17) (Nat.le_of_ble_eq_true rfl) (c142 S1_ C1_ O1_ d1_ I1_ (fun h1175 kc1175 vv1175 LN1175 L1175 cs1175 hk1175 e1175 T1175 U1175 => zbk_v ?_))
        have Z1175 := Z.cls T1175
        have t1175 := T1175.1.2
        obtain ⟨⟨Zs2, Zb2⟩, S2_, ⟨τ2_, α2_, C2_⟩, O2_, I2_, ⟨n02_, R2_⟩, d2_, f2_⟩ := id Z1175
        have HM2 := R2_.1
        have HH2 := C2_.1
        refine zr_istore (L' := [some (.ref _), some (.ref _), some (.ref _), some (.ref _), some (.int (zJ _)), some (.int (zJ _)), _, _]) zi238_1178 rfl rfl ?_
        refine zr_aload_n zi238_1180 rfl ?_
        refine zr_aload_n zi238_1181 rfl ?_
        refine zr_iload zi238_1182 rfl ?_
        refine zr_iconst (v := zJ 1) zi238_1184 rfl ?_
        refine zr_iaddN zi238_1185 ?_
        refine zr_ialoadN zi238_1186 Zs2 rfl (by omega) (by first | omega | (simp only [List.length_set, zpt_len]; omega)) ?_
        refine zr_aload_n zi238_1187 rfl ?_
        refine zr_iload zi238_1188 rfl ?_
        refine zr_iconst (v := zJ 2) zi238_1190 rfl ?_
        refine zr_iaddN zi238_1191 ?_
        refine zr_ialoadN zi238_1192 Zs2 rfl (by omega) (by first | omega | (simp only [List.length_set, zpt_len]; omega)) ?_
        refine zr_aload_n zi238_1193 rfl ?_
        refine zr_iload zi238_1194 rfl ?_
        refine zr_iconst (v := zJ 3) zi238_1196 rfl ?_
        refine zr_iaddN zi238_1197 ?_
        refine zr_ialoadN zi238_1198 Zs2 rfl (by omega) (by first | omega | (simp only [List.length_set, zpt_len]; omega)) ?_
        refine zr_if_eq zi238_1199 rfl (fun q1199 => ?_) (fun q1199 => ?_)
        · refine zr_iconst (v := zB false) zi238_1206 rfl ?_
          refine zr_aload_n zi238_1207 rfl ?_
          refine zr_iload zi238_1208 rfl ?_
          refine zr_iconst (v := zJ 4) zi238_1210 rfl ?_
          refine zr_iaddN zi238_1211 ?_
          refine zr_ialoadN zi238_1212 Zs2 rfl (by omega) (by first | omega | (simp only [List.length_set, zpt_len]; omega)) ?_
          refine zr_virtual zi238_1213 rfl rfl (HM2.at0 rfl) rfl rfl ?_
          refine zcall_dep (d := 16) (Nat.le_of_ble_eq_true rfl) (c229 R2_ S2_ (fun h1213 v1213 n1213 le1213 B1213 ms1213 N1213 RR1213 => zbk_v ?_))
          have Z1213 := Z1175.ref N1213
          have t1213 := N1213.1.2
          have Rl1213 : zRel L1175 B1213 := by first | exact zrel143 C1_ Rl cs1175 e1175 ms1213 | contradiction
          refine zr_istore (L' := [some (.ref _), some (.ref _), some (.ref _), some (.ref _), some (.int (zJ _)), some (.int (zJ _)), some (.int _), _]) zi238_1216 rfl rfl ?_
          refine zr_goto zi238_1218 rfl ?_
          refine zr_iincN (z := 5) (L' := [some (.ref _), some (.ref _), some (.ref _), some (.ref _), some (.int (zJ _)), some (.int (zJ _)), some (.int _), _]) zi238_1302 rfl rfl rfl rfl ?_
          refine zr_goto zi238_1305 rfl ?_
          have e5 : 5 * (k + 1) = 5 * k + 5 := Nat.mul_succ 5 k
          have ihk := ih27 (by omega)
          rw [e5] at ihk
          exact ihk _ _ _ _ _ _ _ _ Z1213 Rl1213 (by omega) (by omega) (by omega)
        · refine zr_iconst (v := zB true) zi238_1202 rfl ?_
          refine zr_goto zi238_1203 rfl ?_
          refine zr_aload_n zi238_1207 rfl ?_
          refine zr_iload zi238_1208 rfl ?_
          refine zr_iconst (v := zJ 4) zi238_1210 rfl ?_
          refine zr_iaddN zi238_1211 ?_
          refine zr_ialoadN zi238_1212 Zs2 rfl (by omega) (by first | omega | (simp only [List.length_set, zpt_len]; omega)) ?_
          refine zr_virtual zi238_1213 rfl rfl (HM2.at0 rfl) rfl rfl ?_
          refine zcall_dep (d := 16) (Nat.le_of_ble_eq_true rfl) (c229 R2_ S2_ (fun h1213 v1213 n1213 le1213 B1213 ms1213 N1213 RR1213 => zbk_v ?_))
          have Z1213 := Z1175.ref N1213
          have t1213 := N1213.1.2
          have Rl1213 : zRel L1175 B1213 := by first | exact zrel143 C1_ Rl cs1175 e1175 ms1213 | contradiction
          refine zr_istore (L' := [some (.ref _), some (.ref _), some (.ref _), some (.ref _), some (.int (zJ _)), some (.int (zJ _)), some (.int _), _]) zi238_1216 rfl rfl ?_
          refine zr_goto zi238_1218 rfl ?_
          refine zr_iincN (z := 5) (L' := [some (.ref _), some (.ref _), some (.ref _), some (.ref _), some (.int (zJ _)), some (.int (zJ _)), some (.int _), _]) zi238_1302 rfl rfl rfl rfl ?_
          refine zr_goto zi238_1305 rfl ?_
          have e5 : 5 * (k + 1) = 5 * k + 5 := Nat.mul_succ 5 k
          have ihk := ih27 (by omega)
          rw [e5] at ihk
          exact ihk _ _ _ _ _ _ _ _ Z1213 Rl1213 (by omega) (by omega) (by omega)
      · refine zr_iconst (v := zB true) zi238_1163 rfl ?_
        refine zr_goto zi238_1164 rfl ?_
        refine zr_aload_n zi238_1168 rfl ?_
        refine zr_iload zi238_1169 rfl ?_
        refine zr_iconst (v := zJ 4) zi238_1171 rfl ?_
        refine zr_iaddN zi238_1172 ?_
        refine zr_ialoadN zi238_1173 Zs1 rfl (by omega) (by first | omega | (simp only [List.length_set, zpt_len]; omega)) ?_
        refine zr_aload_n zi238_1174 rfl ?_
        refine zr_static zi238_1175 rfl rfl rfl rfl ?_
        refine zcall_dep (d := 17) (Nat.le_of_ble_eq_true rfl) (c142 S1_ C1_ O1_ d1_ I1_ (fun h1175 kc1175 vv1175 LN1175 L1175 cs1175 hk1175 e1175 T1175 U1175 => zbk_v ?_))
        have Z1175 := Z.cls T1175
        have t1175 := T1175.1.2
        obtain ⟨⟨Zs2, Zb2⟩, S2_, ⟨τ2_, α2_, C2_⟩, O2_, I2_, ⟨n02_, R2_⟩, d2_, f2_⟩ := id Z1175
        have HM2 := R2_.1
        have HH2 := C2_.1
        refine zr_istore (L' := [some (.ref _), some (.ref _), some (.ref _), some (.ref _), some (.int (zJ _)), some (.int (zJ _)), _, _]) zi238_1178 rfl rfl ?_
        refine zr_aload_n zi238_1180 rfl ?_
        refine zr_aload_n zi238_1181 rfl ?_
        refine zr_iload zi238_1182 rfl ?_
        refine zr_iconst (v := zJ 1) zi238_1184 rfl ?_
        refine zr_iaddN zi238_1185 ?_
        refine zr_ialoadN zi238_1186 Zs2 rfl (by omega) (by first | omega | (simp only [List.length_set, zpt_len]; omega)) ?_
        refine zr_aload_n zi238_1187 rfl ?_
        refine zr_iload zi238_1188 rfl ?_
        refine zr_iconst (v := zJ 2) zi238_1190 rfl ?_
        refine zr_iaddN zi238_1191 ?_
        refine zr_ialoadN zi238_1192 Zs2 rfl (by omega) (by first | omega | (simp only [List.length_set, zpt_len]; omega)) ?_
        refine zr_aload_n zi238_1193 rfl ?_
        refine zr_iload zi238_1194 rfl ?_
        refine zr_iconst (v := zJ 3) zi238_1196 rfl ?_
        refine zr_iaddN zi238_1197 ?_
        refine zr_ialoadN zi238_1198 Zs2 rfl (by omega) (by first | omega | (simp only [List.length_set, zpt_len]; omega)) ?_
        refine zr_if_eq zi238_1199 rfl (fun q1199 => ?_) (fun q1199 => ?_)
        · refine zr_iconst (v := zB false) zi238_1206 rfl ?_
          refine zr_aload_n zi238_1207 rfl ?_
          refine zr_iload zi238_1208 rfl ?_
          refine zr_iconst (v := zJ 4) zi238_1210 rfl ?_
          refine zr_iaddN zi238_1211 ?_
          refine zr_ialoadN zi238_1212 Zs2 rfl (by omega) (by first | omega | (simp only [List.length_set, zpt_len]; omega)) ?_
          refine zr_virtual zi238_1213 rfl rfl (HM2.at0 rfl) rfl rfl ?_
          refine zcall_dep (d := 16) (Nat.le_of_ble_eq_true rfl) (c229 R2_ S2_ (fun h1213 v1213 n1213 le1213 B1213 ms1213 N1213 RR1213 => zbk_v ?_))
          have Z1213 := Z1175.ref N1213
          have t1213 := N1213.1.2
          have Rl1213 : zRel L1175 B1213 := by first | exact zrel143 C1_ Rl cs1175 e1175 ms1213 | contradiction
          refine zr_istore (L' := [some (.ref _), some (.ref _), some (.ref _), some (.ref _), some (.int (zJ _)), some (.int (zJ _)), some (.int _), _]) zi238_1216 rfl rfl ?_
          refine zr_goto zi238_1218 rfl ?_
          refine zr_iincN (z := 5) (L' := [some (.ref _), some (.ref _), some (.ref _), some (.ref _), some (.int (zJ _)), some (.int (zJ _)), some (.int _), _]) zi238_1302 rfl rfl rfl rfl ?_
          refine zr_goto zi238_1305 rfl ?_
          have e5 : 5 * (k + 1) = 5 * k + 5 := Nat.mul_succ 5 k
          have ihk := ih27 (by omega)
          rw [e5] at ihk
          exact ihk _ _ _ _ _ _ _ _ Z1213 Rl1213 (by omega) (by omega) (by omega)
        · refine zr_iconst (v := zB true) zi238_1202 rfl ?_
          refine zr_goto zi238_1203 rfl ?_
          refine zr_aload_n zi238_1207 rfl ?_
          refine zr_iload zi238_1208 rfl ?_
          refine zr_iconst (v := zJ 4) zi238_1210 rfl ?_
          refine zr_iaddN zi238_1211 ?_
          refine zr_ialoadN zi238_1212 Zs2 rfl (by omega) (by first | omega | (simp only [List.length_set, zpt_len]; omega)) ?_
          refine zr_virtual zi238_1213 rfl rfl (HM2.at0 rfl) rfl rfl ?_
          refine zcall_dep (d := 16) (Nat.le_of_ble_eq_true rfl) (c229 R2_ S2_ (fun h1213 v1213 n1213 le1213 B1213 ms1213 N1213 RR1213 => zbk_v ?_))
          have Z1213 := Z1175.ref N1213
          have t1213 := N1213.1.2
          have Rl1213 : zRel L1175 B1213 := by first | exact zrel143 C1_ Rl cs1175 e1175 ms1213 | contradiction
          refine zr_istore (L' := [some (.ref _), some (.ref _), some (.ref _), some (.ref _), some (.int (zJ _)), some (.int (zJ _)), some (.int _), _]) zi238_1216 rfl rfl ?_
          refine zr_goto zi238_1218 rfl ?_
          refine zr_iincN (z := 5) (L' := [some (.ref _), some (.ref _), some (.ref _), some (.ref _), some (.int (zJ _)), some (.int (zJ _)), some (.int _), _]) zi238_1302 rfl rfl rfl rfl ?_
          refine zr_goto zi238_1305 rfl ?_
          have e5 : 5 * (k + 1) = 5 * k + 5 := Nat.mul_succ 5 k
          have ihk := ih27 (by omega)
          rw [e5] at ihk
          exact ihk _ _ _ _ _ _ _ _ Z1213 Rl1213 (by omega) (by omega) (by omega)
    · refine zr_tableL zi238_43 (by decide) rfl rfl ?_
      refine zr_aload_n zi238_1221 rfl ?_
      refine zr_aload_n zi238_1222 rfl ?_
      refine zr_iload zi238_1223 rfl ?_
      refine zr_iconst (v := zJ 1) zi238_1225 rfl ?_
      refine zr_iaddN zi238_1226 ?_
      refine zr_ialoadN zi238_1227 Zs1 rfl (by omega) (by first | omega | (simp only [List.length_set, zpt_len]; omega)) ?_
      refine zr_aload_n zi238_1228 rfl ?_
      refine zr_static zi238_1229 rfl rfl rfl rfl ?_
      refine zcall_dep (d := 17) (Nat.le_of_ble_eq_true rfl) (c144 S1_ C1_ O1_ d1_ I1_ (fun h1229 kc1229 vv1229 LN1229 L1229 cs1229 hk1229 e1229 T1229 U1229 => zbk_v ?_))
      have Z1229 := Z.cls T1229
      have t1229 := T1229.1.2
      obtain ⟨⟨Zs2, Zb2⟩, S2_, ⟨τ2_, α2_, C2_⟩, O2_, I2_, ⟨n02_, R2_⟩, d2_, f2_⟩ := id Z1229
      have HM2 := R2_.1
      have HH2 := C2_.1
      refine zr_istore (L' := [some (.ref _), some (.ref _), some (.ref _), some (.ref _), some (.int (zJ _)), some (.int (zJ _)), _, _]) zi238_1232 rfl rfl ?_
      refine zr_aload_n zi238_1234 rfl ?_
      refine zr_aload_n zi238_1235 rfl ?_
      refine zr_iload zi238_1236 rfl ?_
      refine zr_iconst (v := zJ 1) zi238_1238 rfl ?_
      refine zr_iaddN zi238_1239 ?_
      refine zr_ialoadN zi238_1240 Zs2 rfl (by omega) (by first | omega | (simp only [List.length_set, zpt_len]; omega)) ?_
      refine zr_virtual zi238_1241 rfl rfl (HM2.at0 rfl) rfl rfl ?_
      refine zcall_dep (d := 15) (Nat.le_of_ble_eq_true rfl) (c230 R2_ (fun h1241 v1241 n1241 le1241 B1241 ms1241 N1241 RR1241 => zbk_v ?_))
      have Z1241 := Z1229.ref N1241
      have t1241 := N1241.1.2
      have Rl1241 : zRel L1229 B1241 := by first | exact zrel58 C1_ Rl cs1229 e1229 ms1241 | contradiction
      refine zr_istore (L' := [some (.ref _), some (.ref _), some (.ref _), some (.ref _), some (.int (zJ _)), some (.int (zJ _)), some (.int _), _]) zi238_1244 rfl rfl ?_
      refine zr_goto zi238_1246 rfl ?_
      refine zr_iincN (z := 5) (L' := [some (.ref _), some (.ref _), some (.ref _), some (.ref _), some (.int (zJ _)), some (.int (zJ _)), some (.int _), _]) zi238_1302 rfl rfl rfl rfl ?_
      refine zr_goto zi238_1305 rfl ?_
      have e5 : 5 * (k + 1) = 5 * k + 5 := Nat.mul_succ 5 k
      have ihk := ih27 (by omega)
      rw [e5] at ihk
      exact ihk _ _ _ _ _ _ _ _ Z1241 Rl1241 (by omega) (by omega) (by omega)
    · refine zr_tableL zi238_43 (by decide) rfl rfl ?_
      refine zr_aload_n zi238_1249 rfl ?_
      refine zr_aload_n zi238_1250 rfl ?_
      refine zr_iload zi238_1251 rfl ?_
      refine zr_iconst (v := zJ 1) zi238_1253 rfl ?_
      refine zr_iaddN zi238_1254 ?_
      refine zr_ialoadN zi238_1255 Zs1 rfl (by omega) (by first | omega | (simp only [List.length_set, zpt_len]; omega)) ?_
      refine zr_aload_n zi238_1256 rfl ?_
      refine zr_iload zi238_1257 rfl ?_
      refine zr_iconst (v := zJ 2) zi238_1259 rfl ?_
      refine zr_iaddN zi238_1260 ?_
      refine zr_ialoadN zi238_1261 Zs1 rfl (by omega) (by first | omega | (simp only [List.length_set, zpt_len]; omega)) ?_
      refine zr_aload_n zi238_1262 rfl ?_
      refine zr_static zi238_1263 rfl rfl rfl rfl ?_
      refine zcall_dep (d := 3) (Nat.le_of_ble_eq_true rfl) (c145 S1_ C1_ O1_ d1_ I1_ (fun h1263 kc1263 vv1263 LN1263 L1263 cs1263 hk1263 e1263 T1263 U1263 => zbk_v ?_))
      have Z1263 := Z.cls T1263
      have t1263 := T1263.1.2
      obtain ⟨⟨Zs2, Zb2⟩, S2_, ⟨τ2_, α2_, C2_⟩, O2_, I2_, ⟨n02_, R2_⟩, d2_, f2_⟩ := id Z1263
      have HM2 := R2_.1
      have HH2 := C2_.1
      refine zr_istore (L' := [some (.ref _), some (.ref _), some (.ref _), some (.ref _), some (.int (zJ _)), some (.int (zJ _)), _, _]) zi238_1266 rfl rfl ?_
      refine zr_aload_n zi238_1268 rfl ?_
      refine zr_aload_n zi238_1269 rfl ?_
      refine zr_iload zi238_1270 rfl ?_
      refine zr_iconst (v := zJ 1) zi238_1272 rfl ?_
      refine zr_iaddN zi238_1273 ?_
      refine zr_ialoadN zi238_1274 Zs2 rfl (by omega) (by first | omega | (simp only [List.length_set, zpt_len]; omega)) ?_
      refine zr_aload_n zi238_1275 rfl ?_
      refine zr_iload zi238_1276 rfl ?_
      refine zr_iconst (v := zJ 2) zi238_1278 rfl ?_
      refine zr_iaddN zi238_1279 ?_
      refine zr_ialoadN zi238_1280 Zs2 rfl (by omega) (by first | omega | (simp only [List.length_set, zpt_len]; omega)) ?_
      refine zr_virtual zi238_1281 rfl rfl (HM2.at0 rfl) rfl rfl ?_
      refine zcall_dep (d := 7) (Nat.le_of_ble_eq_true rfl) (c233 R2_ S2_ (fun h1281 v1281 n1281 le1281 B1281 ms1281 N1281 RR1281 => zbk_v ?_))
      have Z1281 := Z1263.ref N1281
      have t1281 := N1281.1.2
      have Rl1281 : zRel L1263 B1281 := by first | exact zrel61 C1_ Rl cs1263 e1263 ms1281 | contradiction
      refine zr_istore (L' := [some (.ref _), some (.ref _), some (.ref _), some (.ref _), some (.int (zJ _)), some (.int (zJ _)), some (.int _), _]) zi238_1284 rfl rfl ?_
      refine zr_goto zi238_1286 rfl ?_
      refine zr_iincN (z := 5) (L' := [some (.ref _), some (.ref _), some (.ref _), some (.ref _), some (.int (zJ _)), some (.int (zJ _)), some (.int _), _]) zi238_1302 rfl rfl rfl rfl ?_
      refine zr_goto zi238_1305 rfl ?_
      have e5 : 5 * (k + 1) = 5 * k + 5 := Nat.mul_succ 5 k
      have ihk := ih27 (by omega)
      rw [e5] at ihk
      exact ihk _ _ _ _ _ _ _ _ Z1281 Rl1281 (by omega) (by omega) (by omega)
    · refine zr_tableL zi238_43 (by decide) rfl rfl ?_
      refine zr_aload_n zi238_1289 rfl ?_
      refine zr_virtual zi238_1290 rfl rfl (HH1.1.at0 rfl) rfl rfl ?_
      refine zcall_dep (d := 18) (Nat.le_of_ble_eq_true rfl) (c10 S1_ C1_ (fun v1290 h1290 L1290 τx αx E1290 F1290 C1290 => zbk_v ?_))
      have Z1290 := Z.cls (yT.ofK Z E1290 F1290 C1290)
      have t1290 := F1290.2
      obtain ⟨⟨Zs2, Zb2⟩, S2_, ⟨τ2_, α2_, C2_⟩, O2_, I2_, ⟨n02_, R2_⟩, d2_, f2_⟩ := id Z1290
      have HM2 := R2_.1
      have HH2 := C2_.1
      have Rl1290 := zrel_eqA Rl E1290
      refine zr_pop2 zi238_1293 rfl ?_
      refine zr_aload_n zi238_1294 rfl ?_
      refine zr_virtual zi238_1295 rfl rfl (HM2.at0 rfl) rfl rfl ?_
      refine zcall_dep (d := 15) (Nat.le_of_ble_eq_true rfl) (c236 R2_ S2_ (fun h1295 v1295 n1295 le1295 B1295 ms1295 N1295 RR1295 => zbk_v ?_))
      have Z1295 := Z1290.ref N1295
      have t1295 := N1295.1.2
      have Rl1295 := zrel_ref Rl1290 ms1295
      refine zr_pop2 zi238_1298 rfl ?_
      refine zr_goto zi238_1299 rfl ?_
      refine zr_iincN (z := 5) (L' := [some (.ref _), some (.ref _), some (.ref _), some (.ref _), some (.int (zJ _)), _, _, _]) zi238_1302 rfl rfl rfl rfl ?_
      refine zr_goto zi238_1305 rfl ?_
      have e5 : 5 * (k + 1) = 5 * k + 5 := Nat.mul_succ 5 k
      have ihk := ih27 (by omega)
      rw [e5] at ihk
      exact ihk _ _ _ _ _ _ _ _ Z1295 Rl1295 (by omega) (by omega) (by omega)
    · refine zr_tableD zi238_43 (by decide) rfl ?_
      refine zr_iincN (z := 5) (L' := [some (.ref _), some (.ref _), some (.ref _), some (.ref _), some (.int (zJ _)), _, _, _]) zi238_1302 rfl rfl rfl rfl ?_
      refine zr_goto zi238_1305 rfl ?_
      have e5 : 5 * (k + 1) = 5 * k + 5 := Nat.mul_succ 5 k
      have ihk := ih27 (by omega)
      rw [e5] at ihk
      exact ihk _ _ _ _ _ _ _ _ Z Rl (by omega) (by omega) (by omega)
    · refine zr_tableD zi238_43 (by decide) rfl ?_
      refine zr_iincN (z := 5) (L' := [some (.ref _), some (.ref _), some (.ref _), some (.ref _), some (.int (zJ _)), _, _, _]) zi238_1302 rfl rfl rfl rfl ?_
      refine zr_goto zi238_1305 rfl ?_
      have e5 : 5 * (k + 1) = 5 * k + 5 := Nat.mul_succ 5 k
      have ihk := ih27 (by omega)
      rw [e5] at ihk
      exact ihk _ _ _ _ _ _ _ _ Z Rl (by omega) (by omega) (by omega)
    · refine zr_tableD zi238_43 (by decide) rfl ?_
      refine zr_iincN (z := 5) (L' := [some (.ref _), some (.ref _), some (.ref _), some (.ref _), some (.int (zJ _)), _, _, _]) zi238_1302 rfl rfl rfl rfl ?_
      refine zr_goto zi238_1305 rfl ?_
      have e5 : 5 * (k + 1) = 5 * k + 5 := Nat.mul_succ 5 k
      have ihk := ih27 (by omega)
      rw [e5] at ihk
      exact ihk _ _ _ _ _ _ _ _ Z Rl (by omega) (by omega) (by omega)
    · refine zr_tableD zi238_43 (by decide) rfl ?_
      refine zr_iincN (z := 5) (L' := [some (.ref _), some (.ref _), some (.ref _), some (.ref _), some (.int (zJ _)), _, _, _]) zi238_1302 rfl rfl rfl rfl ?_
      refine zr_goto zi238_1305 rfl ?_
      have e5 : 5 * (k + 1) = 5 * k + 5 := Nat.mul_succ 5 k
      have ihk := ih27 (by omega)
      rw [e5] at ihk
      exact ihk _ _ _ _ _ _ _ _ Z Rl (by omega) (by omega) (by omega)
    · refine zr_tableD zi238_43 (by decide) rfl ?_
      refine zr_iincN (z := 5) (L' := [some (.ref _), some (.ref _), some (.ref _), some (.ref _), some (.int (zJ _)), _, _, _]) zi238_1302 rfl rfl rfl rfl ?_
      refine zr_goto zi238_1305 rfl ?_
      have e5 : 5 * (k + 1) = 5 * k + 5 := Nat.mul_succ 5 k
      have ihk := ih27 (by omega)
      rw [e5] at ihk
      exact ihk _ _ _ _ _ _ _ _ Z Rl (by omega) (by omega) (by omega)
