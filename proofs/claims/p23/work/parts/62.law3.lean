/-! ===== the law ===== -/
theorem c66 {E : zEnv} {h : zPH} {Q : zOut → zPH → Prop} {o : Nat} (K : Q (.inl none) h) : zcall E 0 66 [.ref o] h Q := by
  show zwp E _ 66 (0, [some (.ref _)], [], _) Q
  refine zr_aload_n zi66_0 rfl ?_
  refine zr_obj zi66_1 rfl ?_
  refine zr_return zi66_4 rfl ?_
  exact K
theorem c0 {E : zEnv} {h : zPH} {Q : zOut → zPH → Prop} (S : ySs E h) {a : Nat} (X : yBk h a [(0, [.null, .null, .null, .int 0, .int 0])]) (e : h.2.1 = a + 1) (K : ∀ h1 τ α, yFr (yIv a 16) h h1 15 834 → h1.2.1 = a + 16 → yC h1 a [] (zJ 0) τ α → Q (.inl none) h1) : zcall E 4 0 [.ref a] h Q := by
  show zwp E _ 0 (0, [some (.ref _)], [], _) Q
  refine zr_aload_n zi0_0 rfl ?_
  refine zr_obj zi0_1 rfl ?_
  refine zr_aload_n zi0_4 rfl ?_
  refine zr_iconst (v := zJ 3) zi0_5 rfl ?_
  refine zr_anewarrayN zi0_6 (by omega) ?_
  refine zw_app (k := 1) X e rfl (fun h6 F6 X6 e6 => ?_)
  have S_6 := (F6 (fun _ => True)).ss S
  refine zr_putfield zi0_9 (X6.at0 rfl) rfl rfl ?_
  refine zw_bkX0 (N := 16) X6 rfl (by omega) (Nat.le_of_ble_eq_true rfl) (fun h9 F9 X9 d9 => ?_)
  have e9 := d9.trans e6
  have S_9 := F9.ss S_6
  refine zr_aload_n zi0_12 rfl ?_
  refine zr_new zi0_13 rfl rfl ?_
  refine zw_app (k := 2) X9 e9 rfl (fun h13 F13 X13 e13 => ?_)
  have S_13 := (F13 (fun _ => True)).ss S_9
  refine zr_dup zi0_16 rfl ?_
  refine zr_iconst (v := zJ 2) zi0_17 rfl ?_
  refine zr_iconst (v := zJ 2) zi0_18 rfl ?_
  refine zr_special zi0_19 rfl rfl rfl rfl ?_
  refine zcall_dep (d := 2) (Nat.le_of_ble_eq_true rfl) (c1 S_13 (X13.sub 2 [(1, [.null, .null, .null, .int 0, .int 0])] rfl (Nat.le_of_ble_eq_true rfl)) e13 (by omega) (fun h19 F19 e19 G19 => zbk_0 ?_))
  have X19 := yBk.grow (k := 2) (n := 4) X13 F19 G19.1 rfl
  have S_19 := F19.ss S_13
  refine zr_putfield zi0_22 (X19.at0 rfl) rfl rfl ?_
  refine zw_bkX0 (N := 16) X19 rfl (by omega) (Nat.le_of_ble_eq_true rfl) (fun h22 F22 X22 d22 => ?_)
  have e22 := d22.trans e19
  have S_22 := F22.ss S_19
  refine zr_aload_n zi0_25 rfl ?_
  refine zr_new zi0_26 rfl rfl ?_
  refine zw_app (k := 6) X22 e22 rfl (fun h26 F26 X26 e26 => ?_)
  have S_26 := (F26 (fun _ => True)).ss S_22
  refine zr_dup zi0_29 rfl ?_
  refine zr_special zi0_30 rfl rfl rfl rfl ?_
  refine zcall_dep (d := 3) (Nat.le_of_ble_eq_true rfl) (c8 S_26 (X26.sub 6 [(2, [.null, .null, .null, .null, .null, .null, .int 0, .int 0, .int 0, .int 0, .int 0])] rfl (Nat.le_of_ble_eq_true rfl)) e26 (fun h30 F30 e30 A30 => zbk_0 ?_))
  have X30 := yBk.grow (k := 6) (n := 10) X26 F30 A30.1 rfl
  have S_30 := F30.ss S_26
  refine zr_putfield zi0_33 (X30.at0 rfl) rfl rfl ?_
  refine zw_bkX0 (N := 16) X30 rfl (by omega) (Nat.le_of_ble_eq_true rfl) (fun h33 F33 X33 d33 => ?_)
  have e33 := d33.trans e30
  have S_33 := F33.ss S_30
  refine zr_aload_n zi0_36 rfl ?_
  refine zr_iconst (v := zJ 0) zi0_37 rfl ?_
  refine zr_putfield zi0_38 (X33.at0 rfl) rfl rfl ?_
  refine zw_bkX0 (N := 16) X33 rfl (by omega) (Nat.le_of_ble_eq_true rfl) (fun h38 F38 X38 d38 => ?_)
  have e38 := d38.trans e33
  have S_38 := F38.ss S_33
  refine zr_aload_n zi0_41 rfl ?_
  refine zr_iconst (v := zJ 0) zi0_42 rfl ?_
  refine zr_putfield zi0_43 (X38.at0 rfl) rfl rfl ?_
  refine zw_bkX0 (N := 16) X38 rfl (by omega) (Nat.le_of_ble_eq_true rfl) (fun h43 F43 X43 d43 => ?_)
  have e43 := d43.trans e38
  have S_43 := F43.ss S_38
  refine zr_return zi0_46 rfl ?_
  have XX := X43
  refine K _ (2, 2, yZ0, (yTi 2 2 4).1, (yTi 2 2 4).2) yA0 (((((((((((F6 (yIv a 16)).trans F9).trans (F13 (yIv a 16))).trans (F19.up (N := 16) (by omega))).trans F22).trans (F26 (yIv a 16))).trans (F30.up (N := 16) (by omega))).trans F33).trans F38).trans F43).fit (by omega) (by omega)) (e43) ⟨⟨XX.sub 0 [(0, [.ref (a + 1), .ref (a + 2), .ref (a + 6), .int (zJ 0), .int (zJ 0)]), (68, [.null, .null, .null])] rfl (Nat.le_of_ble_eq_true rfl), ⟨XX.sub 2 (gC (a + 2) 2 2 yZ0 (yTi 2 2 4).1 (yTi 2 2 4).2) rfl (Nat.le_of_ble_eq_true rfl), G19.2⟩, ⟨XX.sub 6 (aC (a + 6) (List.replicate 500 0) (List.replicate 10 0) (List.replicate 5 0) (List.replicate 30 0) (List.replicate 25 0) 2 2 yZ0 (yTi 2 2 4).1 (yTi 2 2 4).2 false 0 0 0 0) rfl (Nat.le_of_ble_eq_true rfl), A30.2⟩, Nat.zero_le _⟩, fun β z => (by cases z), fun β z => (by cases z), List.Pairwise.nil, fun β z => (by cases z), Or.inl rfl⟩
theorem c146 {E : zEnv} {h : zPH} {Q : zOut → zPH → Prop} (S : ySs E h) {m : Nat} (X : yBk h m [(7, [.int 0, .null, .int 0])]) (e : h.2.1 = m + 1) (K : ∀ h1, yFr (yIv m 2) h h1 1 3 → h1.2.1 = m + 2 → rC h1 E m (m + 1) (zJ 0) (zJ 0) [] → Q (.inl none) h1) : zcall E 3 146 [.ref m] h Q := by
  show zwp E _ 146 (0, [some (.ref _)], [], _) Q
  refine zr_aload_n zi146_0 rfl ?_
  refine zr_obj zi146_1 rfl ?_
  refine zr_aload_n zi146_4 rfl ?_
  refine zr_new zi146_5 rfl rfl ?_
  refine zw_app (k := 1) X e rfl (fun h5 F5 X5 e5 => ?_)
  have S_5 := (F5 (fun _ => True)).ss S
  refine zr_dup zi146_8 rfl ?_
  refine zr_special zi146_9 rfl rfl rfl rfl ?_
  refine zcall_dep (d := 2) (Nat.le_of_ble_eq_true rfl) (c147 S_5 (X5.sub 1 [(8, [.null, .int 0, .int 0])] rfl (Nat.le_of_ble_eq_true rfl)) (fun h9 F9 d9 L9 => zbk_0 ?_))
  obtain ⟨eg, eEL, XL⟩ := L9
  have X9 := yBk.grow (k := 1) (n := 1) X5 F9 XL rfl
  have e9 := d9.trans e5
  have S_9 := F9.ss S_5
  refine zr_putfield zi146_12 (X9.at0 rfl) rfl rfl ?_
  refine zw_bkX0 (N := 2) X9 rfl (by omega) (Nat.le_of_ble_eq_true rfl) (fun h12 F12 X12 d12 => ?_)
  have e12 := d12.trans e9
  have S_12 := F12.ss S_9
  refine zr_return zi146_15 rfl ?_
  have XX := X12
  exact K _ ((((F5 (yIv m 2)).trans (F9.up (N := 2) (by omega))).trans F12).fit (by omega) (by omega)) (e12) ⟨XX.sub 0 [(7, [.int 0, .ref (m + 1), .int 0])] rfl (Nat.le_of_ble_eq_true rfl), ⟨Nat.zero_le _, eg, zJ 0, XX.sub 1 [(8, [.ref eg, .int (zJ 0), .int (zJ 0)])] rfl (Nat.le_of_ble_eq_true rfl), Or.inl ⟨rfl, rfl, eEL⟩⟩, Nat.zero_le _, Or.inl rfl, fun i β z => (by cases i <;> cases z), fun i j β γ z => (by cases i <;> cases z)⟩
theorem cthr {E : zEnv} {h : zPH} {Q : zOut → zPH → Prop} {m le : Nat} {n0 n2 : Int32} {B : List rBS} (C : rC h E m le n0 n2 B) (K : Q (.inl (some (.int n0))) h) : zcall E 0 237 [.ref m] h Q := by
  show zwp E _ 237 (0, [some (.ref _)], [], _) Q
  refine zr_aload_n zi237_0 rfl ?_
  refine zr_getfield zi237_1 (C.1.at0 rfl) rfl ?_
  refine zr_ireturn zi237_4 rfl ?_
  exact K
theorem claw {E : zEnv} {h : zPH} {Q : zOut → zPH → Prop} (S : ySs E h) {b : Nat} {l : List Int32} (Xs : h.1 b = some (96, zis l)) (hb : b < h.2.1) (hl : l.length ≤ 2560) (K : ∀ h1, h1.2.1 ≤ h.2.1 + 601024 → h1.2.2 ≤ h.2.2 + 7293034 → Q (.inl (some (.int (zB true)))) h1) : zcall E 19 238 [.ref b] h Q := by
  show zwp E _ 238 (0, [some (.ref _), none, none, none, none, none, none, none], [], _) Q
  refine zr_new zi238_0 rfl rfl ?_
  refine zw_new (a := h.2.1) (by omega) (fun h0 F0 X0 e0 => ?_)
  refine zr_dup zi238_3 rfl ?_
  refine zr_special zi238_4 rfl rfl rfl rfl ?_
  have S0 := (F0 (fun _ => True)).ss S
  refine zcall_dep (d := 4) (Nat.le_of_ble_eq_true rfl) (c0 S0 X0 e0 (fun h4 τ4 α4 F4 e4 C4 => zbk_0 ?_))
  have S4 := F4.ss S0
  refine zr_astore_n (L' := [some (.ref _), some (.ref _), none, none, none, none, none, none]) zi238_7 rfl rfl ?_
  refine zr_new zi238_8 rfl rfl ?_
  refine zw_new (a := (h.2.1 + 16)) (by omega) (fun h8 F8 X8 e8 => ?_)
  refine zr_dup zi238_11 rfl ?_
  refine zr_special zi238_12 rfl rfl rfl rfl ?_
  have S8 := (F8 (fun _ => True)).ss S4
  refine zcall_dep (d := 3) (Nat.le_of_ble_eq_true rfl) (c146 (m := h.2.1 + 16) S8 X8 (by omega) (fun h12 F12 e12 R12 => zbk_0 ?_))
  have S12 := F12.ss S8
  refine zr_astore_n (L' := [some (.ref _), some (.ref _), some (.ref _), none, none, none, none, none]) zi238_15 rfl rfl ?_
  refine zr_new zi238_16 rfl rfl ?_
  refine zw_new (a := (h.2.1 + 18)) (by omega) (fun h16 F16 X16 e16 => ?_)
  refine zr_dup zi238_19 rfl ?_
  refine zr_special zi238_20 rfl rfl rfl rfl ?_
  refine zcall_dep (d := 0) (Nat.le_of_ble_eq_true rfl) (c66 (zbk_0 ?_))
  have C8 := C4.fr (F8 (fun _ => False)) (fun _ _ y => y) (fun _ _ _ _ y => y)
  have C12 := C8.fr F12 (fun x z y => by have := z.2; have := y.1; omega) (fun β hm => by cases hm)
  have C16 := C12.fr (F16 (fun _ => False)) (fun _ _ y => y) (fun _ _ _ _ y => y)
  have R16 := R12.nw (F16 _)
  have S16 := (F16 (fun _ => True)).ss S12
  have G0 := (F0 (fun x => h.2.1 ≤ x)).lo F4 (fun x z => z.1)
  have G1 := (G0.lo (F8 (fun x => h.2.1 ≤ x)) (fun x z => z)).lo F12 (fun x z => by have := z.1; omega)
  have G2 := (G1.lo (F16 (fun x => h.2.1 ≤ x)) (fun x z => z)).fit (m' := 19) (s' := 848) (by omega) (by omega)
  have Z0 : zL1 E h16 b l h.2.1 (h.2.1 + 18) (h.2.1 + 16) [] (zJ 0) (h.2.1 + 16 + 1) (zJ 0) [] := by
    refine ⟨⟨G2.c hb (fun z => by have z : h.2.1 ≤ b := z; omega) Xs, by omega⟩, S16, ⟨_, _, C16⟩, ⟨_, _, _, X16⟩, fun k β z => (by cases k <;> cases z), ⟨_, R16⟩, fun x z e => ?_, fun x z => ?_⟩
    · rcases z with z | ⟨β, hm, z⟩
      · have := z.2; omega
      · cases hm
    · have hx : h.2.1 + 16 ≤ x ∧ x < h.2.1 + 18 := by
        rcases z with z | z | z | ⟨i, β, hm, z⟩
        · omega
        · omega
        · omega
        · cases i <;> cases hm
      refine ⟨fun y => ?_, by omega⟩
      rcases y with y | ⟨β, hm, y⟩
      · have := y.2; omega
      · cases hm
  refine zr_astore_n (L' := [some (.ref _), some (.ref _), some (.ref _), some (.ref _), none, none, none, none]) zi238_23 rfl rfl ?_
  refine zr_iconst (v := zJ 0) zi238_24 rfl ?_
  refine zr_istore (L' := [some (.ref _), some (.ref _), some (.ref _), some (.ref _), some (.int (zJ _)), none, none, none]) zi238_25 rfl rfl ?_
  suffices key27 : ∀ h1 L rf le B x5 x6 x7, (zL1 E h1 b l h.2.1 (h.2.1 + 18) (h.2.1 + 16) L rf le rf B) → (zRel L B) → (h1.2.1 ≤ h.2.1 + 19 + 1173 * 0) → (h1.2.2 ≤ h.2.2 + 848 + 14200 * 0) → (5 * 0 ≤ l.length) → zwp E 19 238 (27, [some (.ref b), some (.ref h.2.1), some (.ref (h.2.1 + 16)), some (.ref (h.2.1 + 18)), some (.int (zJ (5 * 0))), x5, x6, x7], [], h1) Q from key27 _ _ _ _ _ _ _ _ Z0 zRel0 (by have := G2.2; omega) (by have := G2.2; omega) (by omega)
  refine zloop (P := fun k => ∀ h1 L rf le B x5 x6 x7, (zL1 E h1 b l h.2.1 (h.2.1 + 18) (h.2.1 + 16) L rf le rf B) → (zRel L B) → (h1.2.1 ≤ h.2.1 + 19 + 1173 * k) → (h1.2.2 ≤ h.2.2 + 848 + 14200 * k) → (5 * k ≤ l.length) → zwp E 19 238 (27, [some (.ref b), some (.ref h.2.1), some (.ref (h.2.1 + 16)), some (.ref (h.2.1 + 18)), some (.int (zJ (5 * k))), x5, x6, x7], [], h1) Q) (n := l.length) fun k hk27 ih27 => ?_
  intro h1 L rf le B x5 x6 x7 Z Rl r1 r2 r3
  obtain ⟨⟨Zs1, Zb1⟩, S1_, ⟨τ1_, α1_, C1_⟩, O1_, I1_, ⟨n01_, R1_⟩, d1_, f1_⟩ := id Z
  have HM1 := R1_.1
  have HH1 := C1_.1
  skip
  refine zr_iload zi238_27 rfl ?_
  refine zr_aload_n zi238_29 rfl ?_
  refine zr_arraylength (v := zJ l.length) zi238_30 Zs1 rfl (zlenJ rfl) ?_
  refine zr_iconst (v := zJ 5) zi238_31 rfl ?_
  refine zr_isub zi238_32 ?_
  refine zr_icmp_gt zi238_33 rfl (fun q33 => ?_) (fun q33 => ?_)
  · refine zr_iconst (v := zB true) zi238_1301 rfl ?_
    refine zr_zreturnB zi238_1302 rfl ?_
    exact K _ (by omega) (by omega)
  · have r5 := zle_sub (by omega) (by omega) q33
    refine zr_aload_n zi238_36 rfl ?_
    refine zr_iload zi238_37 rfl ?_
    refine zr_ialoadN zi238_39 Zs1 rfl (by omega) (by first | omega | (simp only [List.length_set, zpt_len]; omega)) ?_
    refine zr_bipush (v := zJ 31) zi238_40 rfl ?_
    refine zr_iand zi238_42 ?_
    have r5 := zle_sub (by omega) (by omega) q33
    obtain ⟨t, ht, et⟩ := zband31 (l.getD (5 * k) 0)
    rw [et]
    rcases (show t = 0 ∨ t = 1 ∨ t = 2 ∨ t = 3 ∨ t = 4 ∨ t = 5 ∨ t = 6 ∨ t = 7 ∨ t = 8 ∨ t = 9 ∨ t = 10 ∨ t = 11 ∨ t = 12 ∨ t = 13 ∨ t = 14 ∨ t = 15 ∨ t = 16 ∨ t = 17 ∨ t = 18 ∨ t = 19 ∨ t = 20 ∨ t = 21 ∨ t = 22 ∨ t = 23 ∨ t = 24 ∨ t = 25 ∨ t = 26 ∨ t = 27 ∨ t = 28 ∨ t = 29 ∨ t = 30 ∨ t = 31 by omega) with rfl | rfl | rfl | rfl | rfl | rfl | rfl | rfl | rfl | rfl | rfl | rfl | rfl | rfl | rfl | rfl | rfl | rfl | rfl | rfl | rfl | rfl | rfl | rfl | rfl | rfl | rfl | rfl | rfl | rfl | rfl | rfl
    · refine zr_tableL zi238_43 (by decide) rfl rfl ?_
      refine zr_aload_n zi238_164 rfl ?_
      refine zr_aload_n zi238_165 rfl ?_
      refine zr_iload zi238_166 rfl ?_
      refine zr_iconst (v := zJ 1) zi238_168 rfl ?_
      refine zr_iaddN zi238_169 ?_
      refine zr_ialoadN zi238_170 Zs1 rfl (by omega) (by first | omega | (simp only [List.length_set, zpt_len]; omega)) ?_
      refine zr_aload_n zi238_171 rfl ?_
      refine zr_iload zi238_172 rfl ?_
      refine zr_iconst (v := zJ 2) zi238_174 rfl ?_
      refine zr_iaddN zi238_175 ?_
      refine zr_ialoadN zi238_176 Zs1 rfl (by omega) (by first | omega | (simp only [List.length_set, zpt_len]; omega)) ?_
      refine zr_aload_n zi238_177 rfl ?_
      refine zr_static zi238_178 rfl rfl rfl rfl ?_
      refine zcall_dep (d := 6) (Nat.le_of_ble_eq_true rfl) (c67 S1_ C1_ O1_ d1_ I1_ (fun h178 kc178 vv178 LN178 L178 cs178 hk178 e178 T178 U178 => zbk_v ?_))
      have Z178 := Z.cls T178
      have t178 := T178.1.2
      obtain ⟨⟨Zs2, Zb2⟩, S2_, ⟨τ2_, α2_, C2_⟩, O2_, I2_, ⟨n02_, R2_⟩, d2_, f2_⟩ := id Z178
      have HM2 := R2_.1
      have HH2 := C2_.1
      refine zr_istore (L' := [some (.ref _), some (.ref _), some (.ref _), some (.ref _), some (.int (zJ _)), some (.int (zJ _)), _, _]) zi238_181 rfl rfl ?_
      refine zr_aload_n zi238_183 rfl ?_
      refine zr_aload_n zi238_184 rfl ?_
      refine zr_iload zi238_185 rfl ?_
      refine zr_iconst (v := zJ 1) zi238_187 rfl ?_
      refine zr_iaddN zi238_188 ?_
      refine zr_ialoadN zi238_189 Zs2 rfl (by omega) (by first | omega | (simp only [List.length_set, zpt_len]; omega)) ?_
      refine zr_aload_n zi238_190 rfl ?_
      refine zr_iload zi238_191 rfl ?_
      refine zr_iconst (v := zJ 2) zi238_193 rfl ?_
      refine zr_iaddN zi238_194 ?_
      refine zr_ialoadN zi238_195 Zs2 rfl (by omega) (by first | omega | (simp only [List.length_set, zpt_len]; omega)) ?_
      refine zr_virtual zi238_196 rfl rfl (HM2.at0 rfl) rfl rfl ?_
      refine zcall_dep (d := 6) (Nat.le_of_ble_eq_true rfl) (c150 R2_ S2_ (fun h196 v196 n196 le196 B196 ms196 N196 RR196 => zbk_v ?_))
      have Z196 := Z178.ref N196
      have t196 := N196.1.2
      have Rl196 : zRel L178 B196 := by first | exact zrel68 C1_ Rl cs178 e178 ms196 | contradiction
      refine zr_istore (L' := [some (.ref _), some (.ref _), some (.ref _), some (.ref _), some (.int (zJ _)), some (.int (zJ _)), some (.int _), _]) zi238_199 rfl rfl ?_
      refine zr_goto zi238_201 rfl ?_
      refine zr_iincN (z := 5) (L' := [some (.ref _), some (.ref _), some (.ref _), some (.ref _), some (.int (zJ _)), some (.int (zJ _)), some (.int _), _]) zi238_1295 rfl rfl rfl rfl ?_
      refine zr_goto zi238_1298 rfl ?_
      have e5 : 5 * (k + 1) = 5 * k + 5 := Nat.mul_succ 5 k
      have ihk := ih27 (by omega)
      rw [e5] at ihk
      exact ihk _ _ _ _ _ _ _ _ Z196 Rl196 (by omega) (by omega) (by omega)
    · refine zr_tableL zi238_43 (by decide) rfl rfl ?_
      refine zr_aload_n zi238_204 rfl ?_
      refine zr_aload_n zi238_205 rfl ?_
      refine zr_iload zi238_206 rfl ?_
      refine zr_iconst (v := zJ 1) zi238_208 rfl ?_
      refine zr_iaddN zi238_209 ?_
      refine zr_ialoadN zi238_210 Zs1 rfl (by omega) (by first | omega | (simp only [List.length_set, zpt_len]; omega)) ?_
      refine zr_aload_n zi238_211 rfl ?_
      refine zr_iload zi238_212 rfl ?_
      refine zr_iconst (v := zJ 2) zi238_214 rfl ?_
      refine zr_iaddN zi238_215 ?_
      refine zr_ialoadN zi238_216 Zs1 rfl (by omega) (by first | omega | (simp only [List.length_set, zpt_len]; omega)) ?_
      refine zr_aload_n zi238_217 rfl ?_
      refine zr_iload zi238_218 rfl ?_
      refine zr_iconst (v := zJ 3) zi238_220 rfl ?_
      refine zr_iaddN zi238_221 ?_
      refine zr_ialoadN zi238_222 Zs1 rfl (by omega) (by first | omega | (simp only [List.length_set, zpt_len]; omega)) ?_
      refine zr_aload_n zi238_223 rfl ?_
      refine zr_static zi238_224 rfl rfl rfl rfl ?_
      refine zcall_dep (d := 3) (Nat.le_of_ble_eq_true rfl) (c70 S1_ C1_ O1_ d1_ I1_ (fun h224 kc224 vv224 LN224 L224 cs224 hk224 e224 T224 U224 => zbk_v ?_))
      have Z224 := Z.cls T224
      have t224 := T224.1.2
      obtain ⟨⟨Zs2, Zb2⟩, S2_, ⟨τ2_, α2_, C2_⟩, O2_, I2_, ⟨n02_, R2_⟩, d2_, f2_⟩ := id Z224
      have HM2 := R2_.1
      have HH2 := C2_.1
      refine zr_istore (L' := [some (.ref _), some (.ref _), some (.ref _), some (.ref _), some (.int (zJ _)), some (.int (zJ _)), _, _]) zi238_227 rfl rfl ?_
      refine zr_aload_n zi238_229 rfl ?_
      refine zr_aload_n zi238_230 rfl ?_
      refine zr_iload zi238_231 rfl ?_
      refine zr_iconst (v := zJ 1) zi238_233 rfl ?_
      refine zr_iaddN zi238_234 ?_
      refine zr_ialoadN zi238_235 Zs2 rfl (by omega) (by first | omega | (simp only [List.length_set, zpt_len]; omega)) ?_
      refine zr_aload_n zi238_236 rfl ?_
      refine zr_iload zi238_237 rfl ?_
      refine zr_iconst (v := zJ 2) zi238_239 rfl ?_
      refine zr_iaddN zi238_240 ?_
      refine zr_ialoadN zi238_241 Zs2 rfl (by omega) (by first | omega | (simp only [List.length_set, zpt_len]; omega)) ?_
      refine zr_aload_n zi238_242 rfl ?_
      refine zr_iload zi238_243 rfl ?_
      refine zr_iconst (v := zJ 3) zi238_245 rfl ?_
      refine zr_iaddN zi238_246 ?_
      refine zr_ialoadN zi238_247 Zs2 rfl (by omega) (by first | omega | (simp only [List.length_set, zpt_len]; omega)) ?_
      refine zr_virtual zi238_248 rfl rfl (HM2.at0 rfl) rfl rfl ?_
      refine zcall_dep (d := 4) (Nat.le_of_ble_eq_true rfl) (c161 R2_ (fun h248 v248 n248 le248 B248 ms248 N248 RR248 => zbk_v ?_))
      have Z248 := Z224.ref N248
      have t248 := N248.1.2
      have Rl248 : zRel L224 B248 := by first | exact zrel71 C1_ Rl cs224 e224 ms248 | contradiction
      refine zr_istore (L' := [some (.ref _), some (.ref _), some (.ref _), some (.ref _), some (.int (zJ _)), some (.int (zJ _)), some (.int _), _]) zi238_251 rfl rfl ?_
      refine zr_goto zi238_253 rfl ?_
      refine zr_iincN (z := 5) (L' := [some (.ref _), some (.ref _), some (.ref _), some (.ref _), some (.int (zJ _)), some (.int (zJ _)), some (.int _), _]) zi238_1295 rfl rfl rfl rfl ?_
      refine zr_goto zi238_1298 rfl ?_
      have e5 : 5 * (k + 1) = 5 * k + 5 := Nat.mul_succ 5 k
      have ihk := ih27 (by omega)
      rw [e5] at ihk
      exact ihk _ _ _ _ _ _ _ _ Z248 Rl248 (by omega) (by omega) (by omega)
    · refine zr_tableL zi238_43 (by decide) rfl rfl ?_
      refine zr_aload_n zi238_256 rfl ?_
      refine zr_aload_n zi238_257 rfl ?_
      refine zr_iload zi238_258 rfl ?_
      refine zr_iconst (v := zJ 1) zi238_260 rfl ?_
      refine zr_iaddN zi238_261 ?_
      refine zr_ialoadN zi238_262 Zs1 rfl (by omega) (by first | omega | (simp only [List.length_set, zpt_len]; omega)) ?_
      refine zr_aload_n zi238_263 rfl ?_
      refine zr_iload zi238_264 rfl ?_
      refine zr_iconst (v := zJ 2) zi238_266 rfl ?_
      refine zr_iaddN zi238_267 ?_
      refine zr_ialoadN zi238_268 Zs1 rfl (by omega) (by first | omega | (simp only [List.length_set, zpt_len]; omega)) ?_
      refine zr_aload_n zi238_269 rfl ?_
      refine zr_static zi238_270 rfl rfl rfl rfl ?_
      refine zcall_dep (d := 3) (Nat.le_of_ble_eq_true rfl) (c73 S1_ C1_ O1_ d1_ I1_ (fun h270 kc270 vv270 LN270 L270 cs270 hk270 e270 T270 U270 => zbk_v ?_))
      have Z270 := Z.cls T270
      have t270 := T270.1.2
      obtain ⟨⟨Zs2, Zb2⟩, S2_, ⟨τ2_, α2_, C2_⟩, O2_, I2_, ⟨n02_, R2_⟩, d2_, f2_⟩ := id Z270
      have HM2 := R2_.1
      have HH2 := C2_.1
      refine zr_istore (L' := [some (.ref _), some (.ref _), some (.ref _), some (.ref _), some (.int (zJ _)), some (.int (zJ _)), _, _]) zi238_273 rfl rfl ?_
      refine zr_aload_n zi238_275 rfl ?_
      refine zr_aload_n zi238_276 rfl ?_
      refine zr_iload zi238_277 rfl ?_
      refine zr_iconst (v := zJ 1) zi238_279 rfl ?_
      refine zr_iaddN zi238_280 ?_
      refine zr_ialoadN zi238_281 Zs2 rfl (by omega) (by first | omega | (simp only [List.length_set, zpt_len]; omega)) ?_
      refine zr_aload_n zi238_282 rfl ?_
      refine zr_iload zi238_283 rfl ?_
      refine zr_iconst (v := zJ 2) zi238_285 rfl ?_
      refine zr_iaddN zi238_286 ?_
      refine zr_ialoadN zi238_287 Zs2 rfl (by omega) (by first | omega | (simp only [List.length_set, zpt_len]; omega)) ?_
      refine zr_virtual zi238_288 rfl rfl (HM2.at0 rfl) rfl rfl ?_
      refine zcall_dep (d := 4) (Nat.le_of_ble_eq_true rfl) (c177 R2_ (fun h288 v288 n288 le288 B288 ms288 N288 RR288 => zbk_v ?_))
      have Z288 := Z270.ref N288
      have t288 := N288.1.2
      have Rl288 : zRel L270 B288 := by first | exact zrel74 C1_ Rl cs270 e270 ms288 | contradiction
      refine zr_istore (L' := [some (.ref _), some (.ref _), some (.ref _), some (.ref _), some (.int (zJ _)), some (.int (zJ _)), some (.int _), _]) zi238_291 rfl rfl ?_
      refine zr_goto zi238_293 rfl ?_
      refine zr_iincN (z := 5) (L' := [some (.ref _), some (.ref _), some (.ref _), some (.ref _), some (.int (zJ _)), some (.int (zJ _)), some (.int _), _]) zi238_1295 rfl rfl rfl rfl ?_
      refine zr_goto zi238_1298 rfl ?_
      have e5 : 5 * (k + 1) = 5 * k + 5 := Nat.mul_succ 5 k
      have ihk := ih27 (by omega)
      rw [e5] at ihk
      exact ihk _ _ _ _ _ _ _ _ Z288 Rl288 (by omega) (by omega) (by omega)
    · refine zr_tableL zi238_43 (by decide) rfl rfl ?_
      refine zr_aload_n zi238_296 rfl ?_
      refine zr_aload_n zi238_297 rfl ?_
      refine zr_iload zi238_298 rfl ?_
      refine zr_iconst (v := zJ 1) zi238_300 rfl ?_
      refine zr_iaddN zi238_301 ?_
      refine zr_ialoadN zi238_302 Zs1 rfl (by omega) (by first | omega | (simp only [List.length_set, zpt_len]; omega)) ?_
      refine zr_aload_n zi238_303 rfl ?_
      refine zr_iload zi238_304 rfl ?_
      refine zr_iconst (v := zJ 2) zi238_306 rfl ?_
      refine zr_iaddN zi238_307 ?_
      refine zr_ialoadN zi238_308 Zs1 rfl (by omega) (by first | omega | (simp only [List.length_set, zpt_len]; omega)) ?_
      refine zr_aload_n zi238_309 rfl ?_
      refine zr_iload zi238_310 rfl ?_
      refine zr_iconst (v := zJ 3) zi238_312 rfl ?_
      refine zr_iaddN zi238_313 ?_
      refine zr_ialoadN zi238_314 Zs1 rfl (by omega) (by first | omega | (simp only [List.length_set, zpt_len]; omega)) ?_
      refine zr_if_eq zi238_315 rfl (fun q315 => ?_) (fun q315 => ?_)
      · refine zr_iconst (v := zB false) zi238_322 rfl ?_
        refine zr_aload_n zi238_323 rfl ?_
        refine zr_static zi238_324 rfl rfl rfl rfl ?_
        refine zcall_dep (d := 17) (Nat.le_of_ble_eq_true rfl) (c75 S1_ C1_ O1_ d1_ I1_ (fun h324 kc324 vv324 LN324 L324 cs324 hk324 e324 T324 U324 => zbk_v ?_))
        have Z324 := Z.cls T324
        have t324 := T324.1.2
        obtain ⟨⟨Zs2, Zb2⟩, S2_, ⟨τ2_, α2_, C2_⟩, O2_, I2_, ⟨n02_, R2_⟩, d2_, f2_⟩ := id Z324
        have HM2 := R2_.1
        have HH2 := C2_.1
        refine zr_istore (L' := [some (.ref _), some (.ref _), some (.ref _), some (.ref _), some (.int (zJ _)), some (.int (zJ _)), _, _]) zi238_327 rfl rfl ?_
        refine zr_aload_n zi238_329 rfl ?_
        refine zr_aload_n zi238_330 rfl ?_
        refine zr_iload zi238_331 rfl ?_
        refine zr_iconst (v := zJ 1) zi238_333 rfl ?_
        refine zr_iaddN zi238_334 ?_
        refine zr_ialoadN zi238_335 Zs2 rfl (by omega) (by first | omega | (simp only [List.length_set, zpt_len]; omega)) ?_
        refine zr_aload_n zi238_336 rfl ?_
        refine zr_iload zi238_337 rfl ?_
        refine zr_iconst (v := zJ 2) zi238_339 rfl ?_
        refine zr_iaddN zi238_340 ?_
        refine zr_ialoadN zi238_341 Zs2 rfl (by omega) (by first | omega | (simp only [List.length_set, zpt_len]; omega)) ?_
        refine zr_aload_n zi238_342 rfl ?_
        refine zr_iload zi238_343 rfl ?_
        refine zr_iconst (v := zJ 3) zi238_345 rfl ?_
        refine zr_iaddN zi238_346 ?_
        refine zr_ialoadN zi238_347 Zs2 rfl (by omega) (by first | omega | (simp only [List.length_set, zpt_len]; omega)) ?_
        refine zr_if_eq zi238_348 rfl (fun q348 => ?_) (fun q348 => ?_)
        · refine zr_iconst (v := zB false) zi238_355 rfl ?_
          refine zr_virtual zi238_356 rfl rfl (HM2.at0 rfl) rfl rfl ?_
          refine zcall_dep (d := 16) (Nat.le_of_ble_eq_true rfl) (c178 R2_ (fun h356 v356 n356 le356 B356 ms356 N356 RR356 => zbk_v ?_))
          have Z356 := Z324.ref N356
          have t356 := N356.1.2
          have Rl356 : zRel L324 B356 := by first | exact zrel76 C1_ Rl cs324 e324 ms356 | contradiction
          refine zr_istore (L' := [some (.ref _), some (.ref _), some (.ref _), some (.ref _), some (.int (zJ _)), some (.int (zJ _)), some (.int _), _]) zi238_359 rfl rfl ?_
          refine zr_goto zi238_361 rfl ?_
          refine zr_iincN (z := 5) (L' := [some (.ref _), some (.ref _), some (.ref _), some (.ref _), some (.int (zJ _)), some (.int (zJ _)), some (.int _), _]) zi238_1295 rfl rfl rfl rfl ?_
          refine zr_goto zi238_1298 rfl ?_
          have e5 : 5 * (k + 1) = 5 * k + 5 := Nat.mul_succ 5 k
          have ihk := ih27 (by omega)
          rw [e5] at ihk
          exact ihk _ _ _ _ _ _ _ _ Z356 Rl356 (by omega) (by omega) (by omega)
        · refine zr_iconst (v := zB true) zi238_351 rfl ?_
          refine zr_goto zi238_352 rfl ?_
          refine zr_virtual zi238_356 rfl rfl (HM2.at0 rfl) rfl rfl ?_
          refine zcall_dep (d := 16) (Nat.le_of_ble_eq_true rfl) (c178 R2_ (fun h356 v356 n356 le356 B356 ms356 N356 RR356 => zbk_v ?_))
          have Z356 := Z324.ref N356
          have t356 := N356.1.2
          have Rl356 : zRel L324 B356 := by first | exact zrel76 C1_ Rl cs324 e324 ms356 | contradiction
          refine zr_istore (L' := [some (.ref _), some (.ref _), some (.ref _), some (.ref _), some (.int (zJ _)), some (.int (zJ _)), some (.int _), _]) zi238_359 rfl rfl ?_
          refine zr_goto zi238_361 rfl ?_
          refine zr_iincN (z := 5) (L' := [some (.ref _), some (.ref _), some (.ref _), some (.ref _), some (.int (zJ _)), some (.int (zJ _)), some (.int _), _]) zi238_1295 rfl rfl rfl rfl ?_
          refine zr_goto zi238_1298 rfl ?_
          have e5 : 5 * (k + 1) = 5 * k + 5 := Nat.mul_succ 5 k
          have ihk := ih27 (by omega)
          rw [e5] at ihk
          exact ihk _ _ _ _ _ _ _ _ Z356 Rl356 (by omega) (by omega) (by omega)
      · refine zr_iconst (v := zB true) zi238_318 rfl ?_
        refine zr_goto zi238_319 rfl ?_
        refine zr_aload_n zi238_323 rfl ?_
        refine zr_static zi238_324 rfl rfl rfl rfl ?_
        refine zcall_dep (d := 17) (Nat.le_of_ble_eq_true rfl) (c75 S1_ C1_ O1_ d1_ I1_ (fun h324 kc324 vv324 LN324 L324 cs324 hk324 e324 T324 U324 => zbk_v ?_))
        have Z324 := Z.cls T324
        have t324 := T324.1.2
        obtain ⟨⟨Zs2, Zb2⟩, S2_, ⟨τ2_, α2_, C2_⟩, O2_, I2_, ⟨n02_, R2_⟩, d2_, f2_⟩ := id Z324
        have HM2 := R2_.1
        have HH2 := C2_.1
        refine zr_istore (L' := [some (.ref _), some (.ref _), some (.ref _), some (.ref _), some (.int (zJ _)), some (.int (zJ _)), _, _]) zi238_327 rfl rfl ?_
        refine zr_aload_n zi238_329 rfl ?_
        refine zr_aload_n zi238_330 rfl ?_
        refine zr_iload zi238_331 rfl ?_
        refine zr_iconst (v := zJ 1) zi238_333 rfl ?_
        refine zr_iaddN zi238_334 ?_
        refine zr_ialoadN zi238_335 Zs2 rfl (by omega) (by first | omega | (simp only [List.length_set, zpt_len]; omega)) ?_
        refine zr_aload_n zi238_336 rfl ?_
        refine zr_iload zi238_337 rfl ?_
        refine zr_iconst (v := zJ 2) zi238_339 rfl ?_
        refine zr_iaddN zi238_340 ?_
        refine zr_ialoadN zi238_341 Zs2 rfl (by omega) (by first | omega | (simp only [List.length_set, zpt_len]; omega)) ?_
        refine zr_aload_n zi238_342 rfl ?_
        refine zr_iload zi238_343 rfl ?_
        refine zr_iconst (v := zJ 3) zi238_345 rfl ?_
        refine zr_iaddN zi238_346 ?_
        refine zr_ialoadN zi238_347 Zs2 rfl (by omega) (by first | omega | (simp only [List.length_set, zpt_len]; omega)) ?_
        refine zr_if_eq zi238_348 rfl (fun q348 => ?_) (fun q348 => ?_)
        · refine zr_iconst (v := zB false) zi238_355 rfl ?_
          refine zr_virtual zi238_356 rfl rfl (HM2.at0 rfl) rfl rfl ?_
          refine zcall_dep (d := 16) (Nat.le_of_ble_eq_true rfl) (c178 R2_ (fun h356 v356 n356 le356 B356 ms356 N356 RR356 => zbk_v ?_))
          have Z356 := Z324.ref N356
          have t356 := N356.1.2
          have Rl356 : zRel L324 B356 := by first | exact zrel76 C1_ Rl cs324 e324 ms356 | contradiction
          refine zr_istore (L' := [some (.ref _), some (.ref _), some (.ref _), some (.ref _), some (.int (zJ _)), some (.int (zJ _)), some (.int _), _]) zi238_359 rfl rfl ?_
          refine zr_goto zi238_361 rfl ?_
          refine zr_iincN (z := 5) (L' := [some (.ref _), some (.ref _), some (.ref _), some (.ref _), some (.int (zJ _)), some (.int (zJ _)), some (.int _), _]) zi238_1295 rfl rfl rfl rfl ?_
          refine zr_goto zi238_1298 rfl ?_
          have e5 : 5 * (k + 1) = 5 * k + 5 := Nat.mul_succ 5 k
          have ihk := ih27 (by omega)
          rw [e5] at ihk
          exact ihk _ _ _ _ _ _ _ _ Z356 Rl356 (by omega) (by omega) (by omega)
        · refine zr_iconst (v := zB true) zi238_351 rfl ?_
          refine zr_goto zi238_352 rfl ?_
          refine zr_virtual zi238_356 rfl rfl (HM2.at0 rfl) rfl rfl ?_
          refine zcall_dep (d := 16) (Nat.le_of_ble_eq_true rfl) (c178 R2_ (fun h356 v356 n356 le356 B356 ms356 N356 RR356 => zbk_v ?_))
          have Z356 := Z324.ref N356
          have t356 := N356.1.2
          have Rl356 : zRel L324 B356 := by first | exact zrel76 C1_ Rl cs324 e324 ms356 | contradiction
          refine zr_istore (L' := [some (.ref _), some (.ref _), some (.ref _), some (.ref _), some (.int (zJ _)), some (.int (zJ _)), some (.int _), _]) zi238_359 rfl rfl ?_
          refine zr_goto zi238_361 rfl ?_
          refine zr_iincN (z := 5) (L' := [some (.ref _), some (.ref _), some (.ref _), some (.ref _), some (.int (zJ _)), some (.int (zJ _)), some (.int _), _]) zi238_1295 rfl rfl rfl rfl ?_
          refine zr_goto zi238_1298 rfl ?_
          have e5 : 5 * (k + 1) = 5 * k + 5 := Nat.mul_succ 5 k
          have ihk := ih27 (by omega)
          rw [e5] at ihk
          exact ihk _ _ _ _ _ _ _ _ Z356 Rl356 (by omega) (by omega) (by omega)
    · refine zr_tableL zi238_43 (by decide) rfl rfl ?_
      refine zr_aload_n zi238_364 rfl ?_
      refine zr_aload_n zi238_365 rfl ?_
      refine zr_iload zi238_366 rfl ?_
      refine zr_iconst (v := zJ 1) zi238_368 rfl ?_
      refine zr_iaddN zi238_369 ?_
      refine zr_ialoadN zi238_370 Zs1 rfl (by omega) (by first | omega | (simp only [List.length_set, zpt_len]; omega)) ?_
      refine zr_aload_n zi238_371 rfl ?_
      refine zr_static zi238_372 rfl rfl rfl rfl ?_
      refine zcall_dep (d := 4) (Nat.le_of_ble_eq_true rfl) (c80 S1_ C1_ O1_ d1_ I1_ (fun h372 kc372 vv372 LN372 L372 cs372 hk372 e372 T372 U372 => zbk_v ?_))
      have Z372 := Z.cls T372
      have t372 := T372.1.2
      obtain ⟨⟨Zs2, Zb2⟩, S2_, ⟨τ2_, α2_, C2_⟩, O2_, I2_, ⟨n02_, R2_⟩, d2_, f2_⟩ := id Z372
      have HM2 := R2_.1
      have HH2 := C2_.1
      refine zr_istore (L' := [some (.ref _), some (.ref _), some (.ref _), some (.ref _), some (.int (zJ _)), some (.int (zJ _)), _, _]) zi238_375 rfl rfl ?_
      refine zr_aload_n zi238_377 rfl ?_
      refine zr_aload_n zi238_378 rfl ?_
      refine zr_iload zi238_379 rfl ?_
      refine zr_iconst (v := zJ 1) zi238_381 rfl ?_
      refine zr_iaddN zi238_382 ?_
      refine zr_ialoadN zi238_383 Zs2 rfl (by omega) (by first | omega | (simp only [List.length_set, zpt_len]; omega)) ?_
      refine zr_virtual zi238_384 rfl rfl (HM2.at0 rfl) rfl rfl ?_
      refine zcall_dep (d := 5) (Nat.le_of_ble_eq_true rfl) (c186 R2_ (fun h384 v384 n384 le384 B384 ms384 N384 RR384 => zbk_v ?_))
      have Z384 := Z372.ref N384
      have t384 := N384.1.2
      have Rl384 : zRel L372 B384 := by first | exact zrel81 C1_ Rl cs372 e372 ms384 | contradiction
      refine zr_istore (L' := [some (.ref _), some (.ref _), some (.ref _), some (.ref _), some (.int (zJ _)), some (.int (zJ _)), some (.int _), _]) zi238_387 rfl rfl ?_
      refine zr_goto zi238_389 rfl ?_
      refine zr_iincN (z := 5) (L' := [some (.ref _), some (.ref _), some (.ref _), some (.ref _), some (.int (zJ _)), some (.int (zJ _)), some (.int _), _]) zi238_1295 rfl rfl rfl rfl ?_
      refine zr_goto zi238_1298 rfl ?_
      have e5 : 5 * (k + 1) = 5 * k + 5 := Nat.mul_succ 5 k
      have ihk := ih27 (by omega)
      rw [e5] at ihk
      exact ihk _ _ _ _ _ _ _ _ Z384 Rl384 (by omega) (by omega) (by omega)
    · refine zr_tableL zi238_43 (by decide) rfl rfl ?_
      refine zr_aload_n zi238_392 rfl ?_
      refine zr_aload_n zi238_393 rfl ?_
      refine zr_iload zi238_394 rfl ?_
      refine zr_iconst (v := zJ 1) zi238_396 rfl ?_
      refine zr_iaddN zi238_397 ?_
      refine zr_ialoadN zi238_398 Zs1 rfl (by omega) (by first | omega | (simp only [List.length_set, zpt_len]; omega)) ?_
      refine zr_aload_n zi238_399 rfl ?_
      refine zr_iload zi238_400 rfl ?_
      refine zr_iconst (v := zJ 2) zi238_402 rfl ?_
      refine zr_iaddN zi238_403 ?_
      refine zr_ialoadN zi238_404 Zs1 rfl (by omega) (by first | omega | (simp only [List.length_set, zpt_len]; omega)) ?_
      refine zr_aload_n zi238_405 rfl ?_
      refine zr_iload zi238_406 rfl ?_
      refine zr_iconst (v := zJ 3) zi238_408 rfl ?_
      refine zr_iaddN zi238_409 ?_
      refine zr_ialoadN zi238_410 Zs1 rfl (by omega) (by first | omega | (simp only [List.length_set, zpt_len]; omega)) ?_
      refine zr_if_eq zi238_411 rfl (fun q411 => ?_) (fun q411 => ?_)
      · refine zr_iconst (v := zB false) zi238_418 rfl ?_
        refine zr_aload_n zi238_419 rfl ?_
        refine zr_static zi238_420 rfl rfl rfl rfl ?_
        refine zcall_dep (d := 3) (Nat.le_of_ble_eq_true rfl) (c82 S1_ C1_ O1_ d1_ I1_ (fun h420 kc420 vv420 LN420 L420 cs420 hk420 e420 T420 U420 => zbk_v ?_))
        have Z420 := Z.cls T420
        have t420 := T420.1.2
        obtain ⟨⟨Zs2, Zb2⟩, S2_, ⟨τ2_, α2_, C2_⟩, O2_, I2_, ⟨n02_, R2_⟩, d2_, f2_⟩ := id Z420
        have HM2 := R2_.1
        have HH2 := C2_.1
        refine zr_istore (L' := [some (.ref _), some (.ref _), some (.ref _), some (.ref _), some (.int (zJ _)), some (.int (zJ _)), _, _]) zi238_423 rfl rfl ?_
        refine zr_aload_n zi238_425 rfl ?_
        refine zr_aload_n zi238_426 rfl ?_
        refine zr_iload zi238_427 rfl ?_
        refine zr_iconst (v := zJ 1) zi238_429 rfl ?_
        refine zr_iaddN zi238_430 ?_
        refine zr_ialoadN zi238_431 Zs2 rfl (by omega) (by first | omega | (simp only [List.length_set, zpt_len]; omega)) ?_
        refine zr_aload_n zi238_432 rfl ?_
        refine zr_iload zi238_433 rfl ?_
        refine zr_iconst (v := zJ 2) zi238_435 rfl ?_
        refine zr_iaddN zi238_436 ?_
        refine zr_ialoadN zi238_437 Zs2 rfl (by omega) (by first | omega | (simp only [List.length_set, zpt_len]; omega)) ?_
        refine zr_aload_n zi238_438 rfl ?_
        refine zr_iload zi238_439 rfl ?_
        refine zr_iconst (v := zJ 3) zi238_441 rfl ?_
        refine zr_iaddN zi238_442 ?_
        refine zr_ialoadN zi238_443 Zs2 rfl (by omega) (by first | omega | (simp only [List.length_set, zpt_len]; omega)) ?_
        refine zr_if_eq zi238_444 rfl (fun q444 => ?_) (fun q444 => ?_)
        · refine zr_iconst (v := zB false) zi238_451 rfl ?_
          refine zr_virtual zi238_452 rfl rfl (HM2.at0 rfl) rfl rfl ?_
          refine zcall_dep (d := 6) (Nat.le_of_ble_eq_true rfl) (c190 R2_ S2_ (fun h452 v452 n452 le452 B452 ms452 N452 RR452 => zbk_v ?_))
          have Z452 := Z420.ref N452
          have t452 := N452.1.2
          have Rl452 : zRel L420 B452 := by first | exact zrel83 C1_ Rl cs420 e420 ms452 | contradiction
          refine zr_istore (L' := [some (.ref _), some (.ref _), some (.ref _), some (.ref _), some (.int (zJ _)), some (.int (zJ _)), some (.int _), _]) zi238_455 rfl rfl ?_
          refine zr_goto zi238_457 rfl ?_
          refine zr_iincN (z := 5) (L' := [some (.ref _), some (.ref _), some (.ref _), some (.ref _), some (.int (zJ _)), some (.int (zJ _)), some (.int _), _]) zi238_1295 rfl rfl rfl rfl ?_
          refine zr_goto zi238_1298 rfl ?_
          have e5 : 5 * (k + 1) = 5 * k + 5 := Nat.mul_succ 5 k
          have ihk := ih27 (by omega)
          rw [e5] at ihk
          exact ihk _ _ _ _ _ _ _ _ Z452 Rl452 (by omega) (by omega) (by omega)
        · refine zr_iconst (v := zB true) zi238_447 rfl ?_
          refine zr_goto zi238_448 rfl ?_
          refine zr_virtual zi238_452 rfl rfl (HM2.at0 rfl) rfl rfl ?_
          refine zcall_dep (d := 6) (Nat.le_of_ble_eq_true rfl) (c190 R2_ S2_ (fun h452 v452 n452 le452 B452 ms452 N452 RR452 => zbk_v ?_))
          have Z452 := Z420.ref N452
          have t452 := N452.1.2
          have Rl452 : zRel L420 B452 := by first | exact zrel83 C1_ Rl cs420 e420 ms452 | contradiction
          refine zr_istore (L' := [some (.ref _), some (.ref _), some (.ref _), some (.ref _), some (.int (zJ _)), some (.int (zJ _)), some (.int _), _]) zi238_455 rfl rfl ?_
          refine zr_goto zi238_457 rfl ?_
          refine zr_iincN (z := 5) (L' := [some (.ref _), some (.ref _), some (.ref _), some (.ref _), some (.int (zJ _)), some (.int (zJ _)), some (.int _), _]) zi238_1295 rfl rfl rfl rfl ?_
          refine zr_goto zi238_1298 rfl ?_
          have e5 : 5 * (k + 1) = 5 * k + 5 := Nat.mul_succ 5 k
          have ihk := ih27 (by omega)
          rw [e5] at ihk
          exact ihk _ _ _ _ _ _ _ _ Z452 Rl452 (by omega) (by omega) (by omega)
      · refine zr_iconst (v := zB true) zi238_414 rfl ?_
        refine zr_goto zi238_415 rfl ?_
        refine zr_aload_n zi238_419 rfl ?_
        refine zr_static zi238_420 rfl rfl rfl rfl ?_
        refine zcall_dep (d := 3) (Nat.le_of_ble_eq_true rfl) (c82 S1_ C1_ O1_ d1_ I1_ (fun h420 kc420 vv420 LN420 L420 cs420 hk420 e420 T420 U420 => zbk_v ?_))
        have Z420 := Z.cls T420
        have t420 := T420.1.2
        obtain ⟨⟨Zs2, Zb2⟩, S2_, ⟨τ2_, α2_, C2_⟩, O2_, I2_, ⟨n02_, R2_⟩, d2_, f2_⟩ := id Z420
        have HM2 := R2_.1
        have HH2 := C2_.1
        refine zr_istore (L' := [some (.ref _), some (.ref _), some (.ref _), some (.ref _), some (.int (zJ _)), some (.int (zJ _)), _, _]) zi238_423 rfl rfl ?_
        refine zr_aload_n zi238_425 rfl ?_
        refine zr_aload_n zi238_426 rfl ?_
        refine zr_iload zi238_427 rfl ?_
        refine zr_iconst (v := zJ 1) zi238_429 rfl ?_
        refine zr_iaddN zi238_430 ?_
        refine zr_ialoadN zi238_431 Zs2 rfl (by omega) (by first | omega | (simp only [List.length_set, zpt_len]; omega)) ?_
        refine zr_aload_n zi238_432 rfl ?_
        refine zr_iload zi238_433 rfl ?_
        refine zr_iconst (v := zJ 2) zi238_435 rfl ?_
        refine zr_iaddN zi238_436 ?_
        refine zr_ialoadN zi238_437 Zs2 rfl (by omega) (by first | omega | (simp only [List.length_set, zpt_len]; omega)) ?_
        refine zr_aload_n zi238_438 rfl ?_
        refine zr_iload zi238_439 rfl ?_
        refine zr_iconst (v := zJ 3) zi238_441 rfl ?_
        refine zr_iaddN zi238_442 ?_
        refine zr_ialoadN zi238_443 Zs2 rfl (by omega) (by first | omega | (simp only [List.length_set, zpt_len]; omega)) ?_
        refine zr_if_eq zi238_444 rfl (fun q444 => ?_) (fun q444 => ?_)
        · refine zr_iconst (v := zB false) zi238_451 rfl ?_
          refine zr_virtual zi238_452 rfl rfl (HM2.at0 rfl) rfl rfl ?_
          refine zcall_dep (d := 6) (Nat.le_of_ble_eq_true rfl) (c190 R2_ S2_ (fun h452 v452 n452 le452 B452 ms452 N452 RR452 => zbk_v ?_))
          have Z452 := Z420.ref N452
          have t452 := N452.1.2
          have Rl452 : zRel L420 B452 := by first | exact zrel83 C1_ Rl cs420 e420 ms452 | contradiction
          refine zr_istore (L' := [some (.ref _), some (.ref _), some (.ref _), some (.ref _), some (.int (zJ _)), some (.int (zJ _)), some (.int _), _]) zi238_455 rfl rfl ?_
          refine zr_goto zi238_457 rfl ?_
          refine zr_iincN (z := 5) (L' := [some (.ref _), some (.ref _), some (.ref _), some (.ref _), some (.int (zJ _)), some (.int (zJ _)), some (.int _), _]) zi238_1295 rfl rfl rfl rfl ?_
          refine zr_goto zi238_1298 rfl ?_
          have e5 : 5 * (k + 1) = 5 * k + 5 := Nat.mul_succ 5 k
          have ihk := ih27 (by omega)
          rw [e5] at ihk
          exact ihk _ _ _ _ _ _ _ _ Z452 Rl452 (by omega) (by omega) (by omega)
        · refine zr_iconst (v := zB true) zi238_447 rfl ?_
          refine zr_goto zi238_448 rfl ?_
          refine zr_virtual zi238_452 rfl rfl (HM2.at0 rfl) rfl rfl ?_
          refine zcall_dep (d := 6) (Nat.le_of_ble_eq_true rfl) (c190 R2_ S2_ (fun h452 v452 n452 le452 B452 ms452 N452 RR452 => zbk_v ?_))
          have Z452 := Z420.ref N452
          have t452 := N452.1.2
          have Rl452 : zRel L420 B452 := by first | exact zrel83 C1_ Rl cs420 e420 ms452 | contradiction
          refine zr_istore (L' := [some (.ref _), some (.ref _), some (.ref _), some (.ref _), some (.int (zJ _)), some (.int (zJ _)), some (.int _), _]) zi238_455 rfl rfl ?_
          refine zr_goto zi238_457 rfl ?_
          refine zr_iincN (z := 5) (L' := [some (.ref _), some (.ref _), some (.ref _), some (.ref _), some (.int (zJ _)), some (.int (zJ _)), some (.int _), _]) zi238_1295 rfl rfl rfl rfl ?_
          refine zr_goto zi238_1298 rfl ?_
          have e5 : 5 * (k + 1) = 5 * k + 5 := Nat.mul_succ 5 k
          have ihk := ih27 (by omega)
          rw [e5] at ihk
          exact ihk _ _ _ _ _ _ _ _ Z452 Rl452 (by omega) (by omega) (by omega)
    · refine zr_tableL zi238_43 (by decide) rfl rfl ?_
      refine zr_aload_n zi238_460 rfl ?_
      refine zr_aload_n zi238_461 rfl ?_
      refine zr_iload zi238_462 rfl ?_
      refine zr_iconst (v := zJ 1) zi238_464 rfl ?_
      refine zr_iaddN zi238_465 ?_
      refine zr_ialoadN zi238_466 Zs1 rfl (by omega) (by first | omega | (simp only [List.length_set, zpt_len]; omega)) ?_
      refine zr_aload_n zi238_467 rfl ?_
      refine zr_iload zi238_468 rfl ?_
      refine zr_iconst (v := zJ 2) zi238_470 rfl ?_
      refine zr_iaddN zi238_471 ?_
      refine zr_ialoadN zi238_472 Zs1 rfl (by omega) (by first | omega | (simp only [List.length_set, zpt_len]; omega)) ?_
      refine zr_if_eq zi238_473 rfl (fun q473 => ?_) (fun q473 => ?_)
      · refine zr_iconst (v := zB false) zi238_480 rfl ?_
        refine zr_aload_n zi238_481 rfl ?_
        refine zr_static zi238_482 rfl rfl rfl rfl ?_
        refine zcall_dep (d := 2) (Nat.le_of_ble_eq_true rfl) (c85 S1_ C1_ O1_ d1_ I1_ (fun h482 kc482 vv482 LN482 L482 cs482 hk482 e482 T482 U482 => zbk_v ?_))
        have Z482 := Z.cls T482
        have t482 := T482.1.2
        obtain ⟨⟨Zs2, Zb2⟩, S2_, ⟨τ2_, α2_, C2_⟩, O2_, I2_, ⟨n02_, R2_⟩, d2_, f2_⟩ := id Z482
        have HM2 := R2_.1
        have HH2 := C2_.1
        refine zr_istore (L' := [some (.ref _), some (.ref _), some (.ref _), some (.ref _), some (.int (zJ _)), some (.int (zJ _)), _, _]) zi238_485 rfl rfl ?_
        refine zr_aload_n zi238_487 rfl ?_
        refine zr_aload_n zi238_488 rfl ?_
        refine zr_iload zi238_489 rfl ?_
        refine zr_iconst (v := zJ 1) zi238_491 rfl ?_
        refine zr_iaddN zi238_492 ?_
        refine zr_ialoadN zi238_493 Zs2 rfl (by omega) (by first | omega | (simp only [List.length_set, zpt_len]; omega)) ?_
        refine zr_aload_n zi238_494 rfl ?_
        refine zr_iload zi238_495 rfl ?_
        refine zr_iconst (v := zJ 2) zi238_497 rfl ?_
        refine zr_iaddN zi238_498 ?_
        refine zr_ialoadN zi238_499 Zs2 rfl (by omega) (by first | omega | (simp only [List.length_set, zpt_len]; omega)) ?_
        refine zr_if_eq zi238_500 rfl (fun q500 => ?_) (fun q500 => ?_)
        · refine zr_iconst (v := zB false) zi238_507 rfl ?_
          refine zr_virtual zi238_508 rfl rfl (HM2.at0 rfl) rfl rfl ?_
          refine zcall_dep (d := 3) (Nat.le_of_ble_eq_true rfl) (c193 R2_ (fun h508 v508 n508 le508 B508 ms508 N508 RR508 => zbk_v ?_))
          have Z508 := Z482.ref N508
          have t508 := N508.1.2
          have Rl508 : zRel L482 B508 := by first | exact zrel86 C1_ Rl cs482 e482 ms508 | contradiction
          refine zr_istore (L' := [some (.ref _), some (.ref _), some (.ref _), some (.ref _), some (.int (zJ _)), some (.int (zJ _)), some (.int _), _]) zi238_511 rfl rfl ?_
          refine zr_goto zi238_513 rfl ?_
          refine zr_iincN (z := 5) (L' := [some (.ref _), some (.ref _), some (.ref _), some (.ref _), some (.int (zJ _)), some (.int (zJ _)), some (.int _), _]) zi238_1295 rfl rfl rfl rfl ?_
          refine zr_goto zi238_1298 rfl ?_
          have e5 : 5 * (k + 1) = 5 * k + 5 := Nat.mul_succ 5 k
          have ihk := ih27 (by omega)
          rw [e5] at ihk
          exact ihk _ _ _ _ _ _ _ _ Z508 Rl508 (by omega) (by omega) (by omega)
        · refine zr_iconst (v := zB true) zi238_503 rfl ?_
          refine zr_goto zi238_504 rfl ?_
          refine zr_virtual zi238_508 rfl rfl (HM2.at0 rfl) rfl rfl ?_
          refine zcall_dep (d := 3) (Nat.le_of_ble_eq_true rfl) (c193 R2_ (fun h508 v508 n508 le508 B508 ms508 N508 RR508 => zbk_v ?_))
          have Z508 := Z482.ref N508
          have t508 := N508.1.2
          have Rl508 : zRel L482 B508 := by first | exact zrel86 C1_ Rl cs482 e482 ms508 | contradiction
          refine zr_istore (L' := [some (.ref _), some (.ref _), some (.ref _), some (.ref _), some (.int (zJ _)), some (.int (zJ _)), some (.int _), _]) zi238_511 rfl rfl ?_
          refine zr_goto zi238_513 rfl ?_
          refine zr_iincN (z := 5) (L' := [some (.ref _), some (.ref _), some (.ref _), some (.ref _), some (.int (zJ _)), some (.int (zJ _)), some (.int _), _]) zi238_1295 rfl rfl rfl rfl ?_
          refine zr_goto zi238_1298 rfl ?_
          have e5 : 5 * (k + 1) = 5 * k + 5 := Nat.mul_succ 5 k
          have ihk := ih27 (by omega)
          rw [e5] at ihk
          exact ihk _ _ _ _ _ _ _ _ Z508 Rl508 (by omega) (by omega) (by omega)
      · refine zr_iconst (v := zB true) zi238_476 rfl ?_
        refine zr_goto zi238_477 rfl ?_
        refine zr_aload_n zi238_481 rfl ?_
        refine zr_static zi238_482 rfl rfl rfl rfl ?_
        refine zcall_dep (d := 2) (Nat.le_of_ble_eq_true rfl) (c85 S1_ C1_ O1_ d1_ I1_ (fun h482 kc482 vv482 LN482 L482 cs482 hk482 e482 T482 U482 => zbk_v ?_))
        have Z482 := Z.cls T482
        have t482 := T482.1.2
        obtain ⟨⟨Zs2, Zb2⟩, S2_, ⟨τ2_, α2_, C2_⟩, O2_, I2_, ⟨n02_, R2_⟩, d2_, f2_⟩ := id Z482
        have HM2 := R2_.1
        have HH2 := C2_.1
        refine zr_istore (L' := [some (.ref _), some (.ref _), some (.ref _), some (.ref _), some (.int (zJ _)), some (.int (zJ _)), _, _]) zi238_485 rfl rfl ?_
        refine zr_aload_n zi238_487 rfl ?_
        refine zr_aload_n zi238_488 rfl ?_
        refine zr_iload zi238_489 rfl ?_
        refine zr_iconst (v := zJ 1) zi238_491 rfl ?_
        refine zr_iaddN zi238_492 ?_
        refine zr_ialoadN zi238_493 Zs2 rfl (by omega) (by first | omega | (simp only [List.length_set, zpt_len]; omega)) ?_
        refine zr_aload_n zi238_494 rfl ?_
        refine zr_iload zi238_495 rfl ?_
        refine zr_iconst (v := zJ 2) zi238_497 rfl ?_
        refine zr_iaddN zi238_498 ?_
        refine zr_ialoadN zi238_499 Zs2 rfl (by omega) (by first | omega | (simp only [List.length_set, zpt_len]; omega)) ?_
        refine zr_if_eq zi238_500 rfl (fun q500 => ?_) (fun q500 => ?_)
        · refine zr_iconst (v := zB false) zi238_507 rfl ?_
          refine zr_virtual zi238_508 rfl rfl (HM2.at0 rfl) rfl rfl ?_
          refine zcall_dep (d := 3) (Nat.le_of_ble_eq_true rfl) (c193 R2_ (fun h508 v508 n508 le508 B508 ms508 N508 RR508 => zbk_v ?_))
          have Z508 := Z482.ref N508
          have t508 := N508.1.2
          have Rl508 : zRel L482 B508 := by first | exact zrel86 C1_ Rl cs482 e482 ms508 | contradiction
          refine zr_istore (L' := [some (.ref _), some (.ref _), some (.ref _), some (.ref _), some (.int (zJ _)), some (.int (zJ _)), some (.int _), _]) zi238_511 rfl rfl ?_
          refine zr_goto zi238_513 rfl ?_
          refine zr_iincN (z := 5) (L' := [some (.ref _), some (.ref _), some (.ref _), some (.ref _), some (.int (zJ _)), some (.int (zJ _)), some (.int _), _]) zi238_1295 rfl rfl rfl rfl ?_
          refine zr_goto zi238_1298 rfl ?_
          have e5 : 5 * (k + 1) = 5 * k + 5 := Nat.mul_succ 5 k
          have ihk := ih27 (by omega)
          rw [e5] at ihk
          exact ihk _ _ _ _ _ _ _ _ Z508 Rl508 (by omega) (by omega) (by omega)
        · refine zr_iconst (v := zB true) zi238_503 rfl ?_
          refine zr_goto zi238_504 rfl ?_
          refine zr_virtual zi238_508 rfl rfl (HM2.at0 rfl) rfl rfl ?_
          refine zcall_dep (d := 3) (Nat.le_of_ble_eq_true rfl) (c193 R2_ (fun h508 v508 n508 le508 B508 ms508 N508 RR508 => zbk_v ?_))
          have Z508 := Z482.ref N508
          have t508 := N508.1.2
          have Rl508 : zRel L482 B508 := by first | exact zrel86 C1_ Rl cs482 e482 ms508 | contradiction
          refine zr_istore (L' := [some (.ref _), some (.ref _), some (.ref _), some (.ref _), some (.int (zJ _)), some (.int (zJ _)), some (.int _), _]) zi238_511 rfl rfl ?_
          refine zr_goto zi238_513 rfl ?_
          refine zr_iincN (z := 5) (L' := [some (.ref _), some (.ref _), some (.ref _), some (.ref _), some (.int (zJ _)), some (.int (zJ _)), some (.int _), _]) zi238_1295 rfl rfl rfl rfl ?_
          refine zr_goto zi238_1298 rfl ?_
          have e5 : 5 * (k + 1) = 5 * k + 5 := Nat.mul_succ 5 k
          have ihk := ih27 (by omega)
          rw [e5] at ihk
          exact ihk _ _ _ _ _ _ _ _ Z508 Rl508 (by omega) (by omega) (by omega)
    · refine zr_tableL zi238_43 (by decide) rfl rfl ?_
      refine zr_aload_n zi238_516 rfl ?_
      refine zr_aload_n zi238_517 rfl ?_
      refine zr_iload zi238_518 rfl ?_
      refine zr_iconst (v := zJ 1) zi238_520 rfl ?_
      refine zr_iaddN zi238_521 ?_
      refine zr_ialoadN zi238_522 Zs1 rfl (by omega) (by first | omega | (simp only [List.length_set, zpt_len]; omega)) ?_
      refine zr_aload_n zi238_523 rfl ?_
      refine zr_iload zi238_524 rfl ?_
      refine zr_iconst (v := zJ 2) zi238_526 rfl ?_
      refine zr_iaddN zi238_527 ?_
      refine zr_ialoadN zi238_528 Zs1 rfl (by omega) (by first | omega | (simp only [List.length_set, zpt_len]; omega)) ?_
      refine zr_aload_n zi238_529 rfl ?_
      refine zr_static zi238_530 rfl rfl rfl rfl ?_
      refine zcall_dep (d := 4) (Nat.le_of_ble_eq_true rfl) (c89 S1_ C1_ O1_ d1_ I1_ (fun h530 kc530 vv530 LN530 L530 cs530 hk530 e530 T530 U530 => zbk_v ?_))
      have Z530 := Z.cls T530
      have t530 := T530.1.2
      obtain ⟨⟨Zs2, Zb2⟩, S2_, ⟨τ2_, α2_, C2_⟩, O2_, I2_, ⟨n02_, R2_⟩, d2_, f2_⟩ := id Z530
      have HM2 := R2_.1
      have HH2 := C2_.1
      refine zr_istore (L' := [some (.ref _), some (.ref _), some (.ref _), some (.ref _), some (.int (zJ _)), some (.int (zJ _)), _, _]) zi238_533 rfl rfl ?_
      refine zr_aload_n zi238_535 rfl ?_
      refine zr_aload_n zi238_536 rfl ?_
      refine zr_iload zi238_537 rfl ?_
      refine zr_iconst (v := zJ 1) zi238_539 rfl ?_
      refine zr_iaddN zi238_540 ?_
      refine zr_ialoadN zi238_541 Zs2 rfl (by omega) (by first | omega | (simp only [List.length_set, zpt_len]; omega)) ?_
      refine zr_aload_n zi238_542 rfl ?_
      refine zr_iload zi238_543 rfl ?_
      refine zr_iconst (v := zJ 2) zi238_545 rfl ?_
      refine zr_iaddN zi238_546 ?_
      refine zr_ialoadN zi238_547 Zs2 rfl (by omega) (by first | omega | (simp only [List.length_set, zpt_len]; omega)) ?_
      refine zr_virtual zi238_548 rfl rfl (HM2.at0 rfl) rfl rfl ?_
      refine zcall_dep (d := 6) (Nat.le_of_ble_eq_true rfl) (c196 R2_ S2_ (fun h548 v548 n548 le548 B548 ms548 N548 RR548 => zbk_v ?_))
      have Z548 := Z530.ref N548
      have t548 := N548.1.2
      have Rl548 : zRel L530 B548 := by first | exact zrel90 C1_ Rl cs530 e530 ms548 | contradiction
      refine zr_istore (L' := [some (.ref _), some (.ref _), some (.ref _), some (.ref _), some (.int (zJ _)), some (.int (zJ _)), some (.int _), _]) zi238_551 rfl rfl ?_
      refine zr_goto zi238_553 rfl ?_
      refine zr_iincN (z := 5) (L' := [some (.ref _), some (.ref _), some (.ref _), some (.ref _), some (.int (zJ _)), some (.int (zJ _)), some (.int _), _]) zi238_1295 rfl rfl rfl rfl ?_
      refine zr_goto zi238_1298 rfl ?_
      have e5 : 5 * (k + 1) = 5 * k + 5 := Nat.mul_succ 5 k
      have ihk := ih27 (by omega)
      rw [e5] at ihk
      exact ihk _ _ _ _ _ _ _ _ Z548 Rl548 (by omega) (by omega) (by omega)
    · refine zr_tableL zi238_43 (by decide) rfl rfl ?_
      refine zr_aload_n zi238_556 rfl ?_
      refine zr_aload_n zi238_557 rfl ?_
      refine zr_iload zi238_558 rfl ?_
      refine zr_iconst (v := zJ 1) zi238_560 rfl ?_
      refine zr_iaddN zi238_561 ?_
      refine zr_ialoadN zi238_562 Zs1 rfl (by omega) (by first | omega | (simp only [List.length_set, zpt_len]; omega)) ?_
      refine zr_aload_n zi238_563 rfl ?_
      refine zr_iload zi238_564 rfl ?_
      refine zr_iconst (v := zJ 2) zi238_566 rfl ?_
      refine zr_iaddN zi238_567 ?_
      refine zr_ialoadN zi238_568 Zs1 rfl (by omega) (by first | omega | (simp only [List.length_set, zpt_len]; omega)) ?_
      refine zr_aload_n zi238_569 rfl ?_
      refine zr_iload zi238_570 rfl ?_
      refine zr_iconst (v := zJ 3) zi238_572 rfl ?_
      refine zr_iaddN zi238_573 ?_
      refine zr_ialoadN zi238_574 Zs1 rfl (by omega) (by first | omega | (simp only [List.length_set, zpt_len]; omega)) ?_
      refine zr_aload_n zi238_575 rfl ?_
      refine zr_static zi238_576 rfl rfl rfl rfl ?_
      refine zcall_dep (d := 3) (Nat.le_of_ble_eq_true rfl) (c94 S1_ C1_ O1_ d1_ I1_ (fun h576 kc576 vv576 LN576 L576 cs576 hk576 e576 T576 U576 => zbk_v ?_))
      have Z576 := Z.cls T576
      have t576 := T576.1.2
      obtain ⟨⟨Zs2, Zb2⟩, S2_, ⟨τ2_, α2_, C2_⟩, O2_, I2_, ⟨n02_, R2_⟩, d2_, f2_⟩ := id Z576
      have HM2 := R2_.1
      have HH2 := C2_.1
      refine zr_istore (L' := [some (.ref _), some (.ref _), some (.ref _), some (.ref _), some (.int (zJ _)), some (.int (zJ _)), _, _]) zi238_579 rfl rfl ?_
      refine zr_aload_n zi238_581 rfl ?_
      refine zr_aload_n zi238_582 rfl ?_
      refine zr_iload zi238_583 rfl ?_
      refine zr_iconst (v := zJ 1) zi238_585 rfl ?_
      refine zr_iaddN zi238_586 ?_
      refine zr_ialoadN zi238_587 Zs2 rfl (by omega) (by first | omega | (simp only [List.length_set, zpt_len]; omega)) ?_
      refine zr_aload_n zi238_588 rfl ?_
      refine zr_iload zi238_589 rfl ?_
      refine zr_iconst (v := zJ 2) zi238_591 rfl ?_
      refine zr_iaddN zi238_592 ?_
      refine zr_ialoadN zi238_593 Zs2 rfl (by omega) (by first | omega | (simp only [List.length_set, zpt_len]; omega)) ?_
      refine zr_aload_n zi238_594 rfl ?_
      refine zr_iload zi238_595 rfl ?_
      refine zr_iconst (v := zJ 3) zi238_597 rfl ?_
      refine zr_iaddN zi238_598 ?_
      refine zr_ialoadN zi238_599 Zs2 rfl (by omega) (by first | omega | (simp only [List.length_set, zpt_len]; omega)) ?_
      refine zr_virtual zi238_600 rfl rfl (HM2.at0 rfl) rfl rfl ?_
      refine zcall_dep (d := 3) (Nat.le_of_ble_eq_true rfl) (c201 R2_ (fun h600 v600 n600 le600 B600 ms600 N600 RR600 => zbk_v ?_))
      have Z600 := Z576.ref N600
      have t600 := N600.1.2
      have Rl600 : zRel L576 B600 := by first | exact zrel95 C1_ Rl cs576 e576 ms600 | contradiction
      refine zr_istore (L' := [some (.ref _), some (.ref _), some (.ref _), some (.ref _), some (.int (zJ _)), some (.int (zJ _)), some (.int _), _]) zi238_603 rfl rfl ?_
      refine zr_goto zi238_605 rfl ?_
      refine zr_iincN (z := 5) (L' := [some (.ref _), some (.ref _), some (.ref _), some (.ref _), some (.int (zJ _)), some (.int (zJ _)), some (.int _), _]) zi238_1295 rfl rfl rfl rfl ?_
      refine zr_goto zi238_1298 rfl ?_
      have e5 : 5 * (k + 1) = 5 * k + 5 := Nat.mul_succ 5 k
      have ihk := ih27 (by omega)
      rw [e5] at ihk
      exact ihk _ _ _ _ _ _ _ _ Z600 Rl600 (by omega) (by omega) (by omega)
    · refine zr_tableL zi238_43 (by decide) rfl rfl ?_
      refine zr_aload_n zi238_608 rfl ?_
      refine zr_aload_n zi238_609 rfl ?_
      refine zr_iload zi238_610 rfl ?_
      refine zr_iconst (v := zJ 1) zi238_612 rfl ?_
      refine zr_iaddN zi238_613 ?_
      refine zr_ialoadN zi238_614 Zs1 rfl (by omega) (by first | omega | (simp only [List.length_set, zpt_len]; omega)) ?_
      refine zr_aload_n zi238_615 rfl ?_
      refine zr_static zi238_616 rfl rfl rfl rfl ?_
      refine zcall_dep (d := 4) (Nat.le_of_ble_eq_true rfl) (c97 S1_ C1_ O1_ d1_ I1_ (fun h616 kc616 vv616 LN616 L616 cs616 hk616 e616 T616 U616 => zbk_v ?_))
      have Z616 := Z.cls T616
      have t616 := T616.1.2
      obtain ⟨⟨Zs2, Zb2⟩, S2_, ⟨τ2_, α2_, C2_⟩, O2_, I2_, ⟨n02_, R2_⟩, d2_, f2_⟩ := id Z616
      have HM2 := R2_.1
      have HH2 := C2_.1
      refine zr_istore (L' := [some (.ref _), some (.ref _), some (.ref _), some (.ref _), some (.int (zJ _)), some (.int (zJ _)), _, _]) zi238_619 rfl rfl ?_
      refine zr_aload_n zi238_621 rfl ?_
      refine zr_aload_n zi238_622 rfl ?_
      refine zr_iload zi238_623 rfl ?_
      refine zr_iconst (v := zJ 1) zi238_625 rfl ?_
      refine zr_iaddN zi238_626 ?_
      refine zr_ialoadN zi238_627 Zs2 rfl (by omega) (by first | omega | (simp only [List.length_set, zpt_len]; omega)) ?_
      refine zr_virtual zi238_628 rfl rfl (HM2.at0 rfl) rfl rfl ?_
      refine zcall_dep (d := 3) (Nat.le_of_ble_eq_true rfl) (c203 R2_ (fun h628 v628 n628 le628 B628 ms628 N628 RR628 => zbk_v ?_))
      have Z628 := Z616.ref N628
      have t628 := N628.1.2
      have Rl628 : zRel L616 B628 := by first | exact zrel98 C1_ Rl cs616 e616 ms628 | contradiction
      refine zr_istore (L' := [some (.ref _), some (.ref _), some (.ref _), some (.ref _), some (.int (zJ _)), some (.int (zJ _)), some (.int _), _]) zi238_631 rfl rfl ?_
      refine zr_goto zi238_633 rfl ?_
      refine zr_iincN (z := 5) (L' := [some (.ref _), some (.ref _), some (.ref _), some (.ref _), some (.int (zJ _)), some (.int (zJ _)), some (.int _), _]) zi238_1295 rfl rfl rfl rfl ?_
      refine zr_goto zi238_1298 rfl ?_
      have e5 : 5 * (k + 1) = 5 * k + 5 := Nat.mul_succ 5 k
      have ihk := ih27 (by omega)
      rw [e5] at ihk
      exact ihk _ _ _ _ _ _ _ _ Z628 Rl628 (by omega) (by omega) (by omega)
    · refine zr_tableL zi238_43 (by decide) rfl rfl ?_
      refine zr_aload_n zi238_636 rfl ?_
      refine zr_aload_n zi238_637 rfl ?_
      refine zr_iload zi238_638 rfl ?_
      refine zr_iconst (v := zJ 1) zi238_640 rfl ?_
      refine zr_iaddN zi238_641 ?_
      refine zr_ialoadN zi238_642 Zs1 rfl (by omega) (by first | omega | (simp only [List.length_set, zpt_len]; omega)) ?_
      refine zr_aload_n zi238_643 rfl ?_
      refine zr_static zi238_644 rfl rfl rfl rfl ?_
      refine zcall_dep (d := 3) (Nat.le_of_ble_eq_true rfl) (c102 S1_ C1_ O1_ d1_ I1_ (fun h644 kc644 vv644 LN644 L644 cs644 hk644 e644 T644 U644 => zbk_v ?_))
      have Z644 := Z.cls T644
      have t644 := T644.1.2
      obtain ⟨⟨Zs2, Zb2⟩, S2_, ⟨τ2_, α2_, C2_⟩, O2_, I2_, ⟨n02_, R2_⟩, d2_, f2_⟩ := id Z644
      have HM2 := R2_.1
      have HH2 := C2_.1
      refine zr_istore (L' := [some (.ref _), some (.ref _), some (.ref _), some (.ref _), some (.int (zJ _)), some (.int (zJ _)), _, _]) zi238_647 rfl rfl ?_
      refine zr_aload_n zi238_649 rfl ?_
      refine zr_aload_n zi238_650 rfl ?_
      refine zr_iload zi238_651 rfl ?_
      refine zr_iconst (v := zJ 1) zi238_653 rfl ?_
      refine zr_iaddN zi238_654 ?_
      refine zr_ialoadN zi238_655 Zs2 rfl (by omega) (by first | omega | (simp only [List.length_set, zpt_len]; omega)) ?_
      refine zr_virtual zi238_656 rfl rfl (HM2.at0 rfl) rfl rfl ?_
      refine zcall_dep (d := 3) (Nat.le_of_ble_eq_true rfl) (c204 R2_ S2_ (fun h656 v656 n656 le656 B656 ms656 N656 RR656 => zbk_v ?_))
      have Z656 := Z644.ref N656
      have t656 := N656.1.2
      have Rl656 : zRel L644 B656 := by first | exact zrel103 C1_ Rl cs644 e644 ms656 | contradiction
      refine zr_istore (L' := [some (.ref _), some (.ref _), some (.ref _), some (.ref _), some (.int (zJ _)), some (.int (zJ _)), some (.int _), _]) zi238_659 rfl rfl ?_
      refine zr_goto zi238_661 rfl ?_
      refine zr_iincN (z := 5) (L' := [some (.ref _), some (.ref _), some (.ref _), some (.ref _), some (.int (zJ _)), some (.int (zJ _)), some (.int _), _]) zi238_1295 rfl rfl rfl rfl ?_
      refine zr_goto zi238_1298 rfl ?_
      have e5 : 5 * (k + 1) = 5 * k + 5 := Nat.mul_succ 5 k
      have ihk := ih27 (by omega)
      rw [e5] at ihk
      exact ihk _ _ _ _ _ _ _ _ Z656 Rl656 (by omega) (by omega) (by omega)
    · refine zr_tableL zi238_43 (by decide) rfl rfl ?_
      refine zr_aload_n zi238_664 rfl ?_
      refine zr_virtual zi238_665 rfl rfl (HH1.1.at0 rfl) rfl rfl ?_
      refine zcall_dep (d := 0) (Nat.le_of_ble_eq_true rfl) (c9 C1_ (fun h665 L665 τx αx E665 F665 C665 => zbk_v ?_))
      have Z665 := Z.cls (yT.ofK Z E665 F665 C665)
      have t665 := F665.2
      obtain ⟨⟨Zs2, Zb2⟩, S2_, ⟨τ2_, α2_, C2_⟩, O2_, I2_, ⟨n02_, R2_⟩, d2_, f2_⟩ := id Z665
      have HM2 := R2_.1
      have HH2 := C2_.1
      have Rl665 := zrel_eqA Rl E665
      refine zr_pop zi238_668 rfl ?_
      refine zr_aload_n zi238_669 rfl ?_
      refine zr_virtual zi238_670 rfl rfl (HM2.at0 rfl) rfl rfl ?_
      refine zcall_dep (d := 0) (Nat.le_of_ble_eq_true rfl) (c205 R2_ (fun h670 N670 RR670 => zbk_v ?_))
      have Z670 := Z665.ref N670
      have t670 := N670.1.2
      refine zr_pop zi238_673 rfl ?_
      refine zr_goto zi238_674 rfl ?_
      refine zr_iincN (z := 5) (L' := [some (.ref _), some (.ref _), some (.ref _), some (.ref _), some (.int (zJ _)), _, _, _]) zi238_1295 rfl rfl rfl rfl ?_
      refine zr_goto zi238_1298 rfl ?_
      have e5 : 5 * (k + 1) = 5 * k + 5 := Nat.mul_succ 5 k
      have ihk := ih27 (by omega)
      rw [e5] at ihk
      exact ihk _ _ _ _ _ _ _ _ Z670 Rl665 (by omega) (by omega) (by omega)
    · refine zr_tableL zi238_43 (by decide) rfl rfl ?_
      refine zr_aload_n zi238_677 rfl ?_
      refine zr_aload_n zi238_678 rfl ?_
      refine zr_iload zi238_679 rfl ?_
      refine zr_iconst (v := zJ 1) zi238_681 rfl ?_
      refine zr_iaddN zi238_682 ?_
      refine zr_ialoadN zi238_683 Zs1 rfl (by omega) (by first | omega | (simp only [List.length_set, zpt_len]; omega)) ?_
      refine zr_aload_n zi238_684 rfl ?_
      refine zr_iload zi238_685 rfl ?_
      refine zr_iconst (v := zJ 2) zi238_687 rfl ?_
      refine zr_iaddN zi238_688 ?_
      refine zr_ialoadN zi238_689 Zs1 rfl (by omega) (by first | omega | (simp only [List.length_set, zpt_len]; omega)) ?_
      refine zr_aload_n zi238_690 rfl ?_
      refine zr_iload zi238_691 rfl ?_
      refine zr_iconst (v := zJ 3) zi238_693 rfl ?_
      refine zr_iaddN zi238_694 ?_
      refine zr_ialoadN zi238_695 Zs1 rfl (by omega) (by first | omega | (simp only [List.length_set, zpt_len]; omega)) ?_
      refine zr_aload_n zi238_696 rfl ?_
      refine zr_static zi238_697 rfl rfl rfl rfl ?_
      refine zcall_dep (d := 3) (Nat.le_of_ble_eq_true rfl) (c104 S1_ C1_ O1_ d1_ I1_ (fun h697 kc697 vv697 LN697 L697 cs697 hk697 e697 T697 U697 => zbk_v ?_))
      have Z697 := Z.cls T697
      have t697 := T697.1.2
      obtain ⟨⟨Zs2, Zb2⟩, S2_, ⟨τ2_, α2_, C2_⟩, O2_, I2_, ⟨n02_, R2_⟩, d2_, f2_⟩ := id Z697
      have HM2 := R2_.1
      have HH2 := C2_.1
      refine zr_istore (L' := [some (.ref _), some (.ref _), some (.ref _), some (.ref _), some (.int (zJ _)), some (.int (zJ _)), _, _]) zi238_700 rfl rfl ?_
      refine zr_aload_n zi238_702 rfl ?_
      refine zr_aload_n zi238_703 rfl ?_
      refine zr_iload zi238_704 rfl ?_
      refine zr_iconst (v := zJ 1) zi238_706 rfl ?_
      refine zr_iaddN zi238_707 ?_
      refine zr_ialoadN zi238_708 Zs2 rfl (by omega) (by first | omega | (simp only [List.length_set, zpt_len]; omega)) ?_
      refine zr_aload_n zi238_709 rfl ?_
      refine zr_iload zi238_710 rfl ?_
      refine zr_iconst (v := zJ 2) zi238_712 rfl ?_
      refine zr_iaddN zi238_713 ?_
      refine zr_ialoadN zi238_714 Zs2 rfl (by omega) (by first | omega | (simp only [List.length_set, zpt_len]; omega)) ?_
      refine zr_aload_n zi238_715 rfl ?_
      refine zr_iload zi238_716 rfl ?_
      refine zr_iconst (v := zJ 3) zi238_718 rfl ?_
      refine zr_iaddN zi238_719 ?_
      refine zr_ialoadN zi238_720 Zs2 rfl (by omega) (by first | omega | (simp only [List.length_set, zpt_len]; omega)) ?_
      refine zr_virtual zi238_721 rfl rfl (HM2.at0 rfl) rfl rfl ?_
      refine zcall_dep (d := 4) (Nat.le_of_ble_eq_true rfl) (c206 R2_ (fun h721 v721 n721 le721 B721 ms721 N721 RR721 => zbk_v ?_))
      have Z721 := Z697.ref N721
      have t721 := N721.1.2
      have Rl721 : zRel L697 B721 := by first | exact zrel39 C1_ Rl cs697 e697 ms721 | contradiction
      refine zr_istore (L' := [some (.ref _), some (.ref _), some (.ref _), some (.ref _), some (.int (zJ _)), some (.int (zJ _)), some (.int _), _]) zi238_724 rfl rfl ?_
      refine zr_goto zi238_726 rfl ?_
      refine zr_iincN (z := 5) (L' := [some (.ref _), some (.ref _), some (.ref _), some (.ref _), some (.int (zJ _)), some (.int (zJ _)), some (.int _), _]) zi238_1295 rfl rfl rfl rfl ?_
      refine zr_goto zi238_1298 rfl ?_
      have e5 : 5 * (k + 1) = 5 * k + 5 := Nat.mul_succ 5 k
      have ihk := ih27 (by omega)
      rw [e5] at ihk
      exact ihk _ _ _ _ _ _ _ _ Z721 Rl721 (by omega) (by omega) (by omega)
    · refine zr_tableL zi238_43 (by decide) rfl rfl ?_
      refine zr_aload_n zi238_729 rfl ?_
      refine zr_aload_n zi238_730 rfl ?_
      refine zr_iload zi238_731 rfl ?_
      refine zr_iconst (v := zJ 1) zi238_733 rfl ?_
      refine zr_iaddN zi238_734 ?_
      refine zr_ialoadN zi238_735 Zs1 rfl (by omega) (by first | omega | (simp only [List.length_set, zpt_len]; omega)) ?_
      refine zr_aload_n zi238_736 rfl ?_
      refine zr_iload zi238_737 rfl ?_
      refine zr_iconst (v := zJ 2) zi238_739 rfl ?_
      refine zr_iaddN zi238_740 ?_
      refine zr_ialoadN zi238_741 Zs1 rfl (by omega) (by first | omega | (simp only [List.length_set, zpt_len]; omega)) ?_
      refine zr_aload_n zi238_742 rfl ?_
      refine zr_iload zi238_743 rfl ?_
      refine zr_iconst (v := zJ 3) zi238_745 rfl ?_
      refine zr_iaddN zi238_746 ?_
      refine zr_ialoadN zi238_747 Zs1 rfl (by omega) (by first | omega | (simp only [List.length_set, zpt_len]; omega)) ?_
      refine zr_aload_n zi238_748 rfl ?_
      refine zr_static zi238_749 rfl rfl rfl rfl ?_
      refine zcall_dep (d := 4) (Nat.le_of_ble_eq_true rfl) (c105 S1_ C1_ O1_ d1_ I1_ (fun h749 kc749 vv749 LN749 L749 cs749 hk749 e749 T749 U749 => zbk_v ?_))
      have Z749 := Z.cls T749
      have t749 := T749.1.2
      obtain ⟨⟨Zs2, Zb2⟩, S2_, ⟨τ2_, α2_, C2_⟩, O2_, I2_, ⟨n02_, R2_⟩, d2_, f2_⟩ := id Z749
      have HM2 := R2_.1
      have HH2 := C2_.1
      refine zr_istore (L' := [some (.ref _), some (.ref _), some (.ref _), some (.ref _), some (.int (zJ _)), some (.int (zJ _)), _, _]) zi238_752 rfl rfl ?_
      refine zr_aload_n zi238_754 rfl ?_
      refine zr_aload_n zi238_755 rfl ?_
      refine zr_iload zi238_756 rfl ?_
      refine zr_iconst (v := zJ 1) zi238_758 rfl ?_
      refine zr_iaddN zi238_759 ?_
      refine zr_ialoadN zi238_760 Zs2 rfl (by omega) (by first | omega | (simp only [List.length_set, zpt_len]; omega)) ?_
      refine zr_aload_n zi238_761 rfl ?_
      refine zr_iload zi238_762 rfl ?_
      refine zr_iconst (v := zJ 2) zi238_764 rfl ?_
      refine zr_iaddN zi238_765 ?_
      refine zr_ialoadN zi238_766 Zs2 rfl (by omega) (by first | omega | (simp only [List.length_set, zpt_len]; omega)) ?_
      refine zr_aload_n zi238_767 rfl ?_
      refine zr_iload zi238_768 rfl ?_
      refine zr_iconst (v := zJ 3) zi238_770 rfl ?_
      refine zr_iaddN zi238_771 ?_
      refine zr_ialoadN zi238_772 Zs2 rfl (by omega) (by first | omega | (simp only [List.length_set, zpt_len]; omega)) ?_
      refine zr_virtual zi238_773 rfl rfl (HM2.at0 rfl) rfl rfl ?_
      refine zcall_dep (d := 5) (Nat.le_of_ble_eq_true rfl) (c207 R2_ (fun h773 v773 n773 le773 B773 ms773 N773 RR773 => zbk_v ?_))
      have Z773 := Z749.ref N773
      have t773 := N773.1.2
      have Rl773 : zRel L749 B773 := by first | exact zrel42 C1_ Rl cs749 e749 ms773 | contradiction
      refine zr_istore (L' := [some (.ref _), some (.ref _), some (.ref _), some (.ref _), some (.int (zJ _)), some (.int (zJ _)), some (.int _), _]) zi238_776 rfl rfl ?_
      refine zr_goto zi238_778 rfl ?_
      refine zr_iincN (z := 5) (L' := [some (.ref _), some (.ref _), some (.ref _), some (.ref _), some (.int (zJ _)), some (.int (zJ _)), some (.int _), _]) zi238_1295 rfl rfl rfl rfl ?_
      refine zr_goto zi238_1298 rfl ?_
      have e5 : 5 * (k + 1) = 5 * k + 5 := Nat.mul_succ 5 k
      have ihk := ih27 (by omega)
      rw [e5] at ihk
      exact ihk _ _ _ _ _ _ _ _ Z773 Rl773 (by omega) (by omega) (by omega)
    · refine zr_tableL zi238_43 (by decide) rfl rfl ?_
      refine zr_aload_n zi238_781 rfl ?_
      refine zr_aload_n zi238_782 rfl ?_
      refine zr_iload zi238_783 rfl ?_
      refine zr_iconst (v := zJ 1) zi238_785 rfl ?_
      refine zr_iaddN zi238_786 ?_
      refine zr_ialoadN zi238_787 Zs1 rfl (by omega) (by first | omega | (simp only [List.length_set, zpt_len]; omega)) ?_
      refine zr_aload_n zi238_788 rfl ?_
      refine zr_iload zi238_789 rfl ?_
      refine zr_iconst (v := zJ 2) zi238_791 rfl ?_
      refine zr_iaddN zi238_792 ?_
      refine zr_ialoadN zi238_793 Zs1 rfl (by omega) (by first | omega | (simp only [List.length_set, zpt_len]; omega)) ?_
      refine zr_aload_n zi238_794 rfl ?_
      refine zr_iload zi238_795 rfl ?_
      refine zr_iconst (v := zJ 3) zi238_797 rfl ?_
      refine zr_iaddN zi238_798 ?_
      refine zr_ialoadN zi238_799 Zs1 rfl (by omega) (by first | omega | (simp only [List.length_set, zpt_len]; omega)) ?_
      refine zr_aload_n zi238_800 rfl ?_
      refine zr_static zi238_801 rfl rfl rfl rfl ?_
      refine zcall_dep (d := 3) (Nat.le_of_ble_eq_true rfl) (c106 S1_ C1_ O1_ d1_ I1_ (fun h801 kc801 vv801 LN801 L801 cs801 hk801 e801 T801 U801 => zbk_v ?_))
      have Z801 := Z.cls T801
      have t801 := T801.1.2
      obtain ⟨⟨Zs2, Zb2⟩, S2_, ⟨τ2_, α2_, C2_⟩, O2_, I2_, ⟨n02_, R2_⟩, d2_, f2_⟩ := id Z801
      have HM2 := R2_.1
      have HH2 := C2_.1
      refine zr_istore (L' := [some (.ref _), some (.ref _), some (.ref _), some (.ref _), some (.int (zJ _)), some (.int (zJ _)), _, _]) zi238_804 rfl rfl ?_
      refine zr_aload_n zi238_806 rfl ?_
      refine zr_aload_n zi238_807 rfl ?_
      refine zr_iload zi238_808 rfl ?_
      refine zr_iconst (v := zJ 1) zi238_810 rfl ?_
      refine zr_iaddN zi238_811 ?_
      refine zr_ialoadN zi238_812 Zs2 rfl (by omega) (by first | omega | (simp only [List.length_set, zpt_len]; omega)) ?_
      refine zr_aload_n zi238_813 rfl ?_
      refine zr_iload zi238_814 rfl ?_
      refine zr_iconst (v := zJ 2) zi238_816 rfl ?_
      refine zr_iaddN zi238_817 ?_
      refine zr_ialoadN zi238_818 Zs2 rfl (by omega) (by first | omega | (simp only [List.length_set, zpt_len]; omega)) ?_
      refine zr_aload_n zi238_819 rfl ?_
      refine zr_iload zi238_820 rfl ?_
      refine zr_iconst (v := zJ 3) zi238_822 rfl ?_
      refine zr_iaddN zi238_823 ?_
      refine zr_ialoadN zi238_824 Zs2 rfl (by omega) (by first | omega | (simp only [List.length_set, zpt_len]; omega)) ?_
      refine zr_virtual zi238_825 rfl rfl (HM2.at0 rfl) rfl rfl ?_
      refine zcall_dep (d := 4) (Nat.le_of_ble_eq_true rfl) (c209 R2_ (fun h825 v825 n825 le825 B825 ms825 N825 RR825 => zbk_v ?_))
      have Z825 := Z801.ref N825
      have t825 := N825.1.2
      have Rl825 : zRel L801 B825 := by first | exact zrel46 C1_ Rl cs801 e801 ms825 | contradiction
      refine zr_istore (L' := [some (.ref _), some (.ref _), some (.ref _), some (.ref _), some (.int (zJ _)), some (.int (zJ _)), some (.int _), _]) zi238_828 rfl rfl ?_
      refine zr_goto zi238_830 rfl ?_
      refine zr_iincN (z := 5) (L' := [some (.ref _), some (.ref _), some (.ref _), some (.ref _), some (.int (zJ _)), some (.int (zJ _)), some (.int _), _]) zi238_1295 rfl rfl rfl rfl ?_
      refine zr_goto zi238_1298 rfl ?_
      have e5 : 5 * (k + 1) = 5 * k + 5 := Nat.mul_succ 5 k
      have ihk := ih27 (by omega)
      rw [e5] at ihk
      exact ihk _ _ _ _ _ _ _ _ Z825 Rl825 (by omega) (by omega) (by omega)
    · refine zr_tableL zi238_43 (by decide) rfl rfl ?_
      refine zr_aload_n zi238_833 rfl ?_
      refine zr_aload_n zi238_834 rfl ?_
      refine zr_iload zi238_835 rfl ?_
      refine zr_iconst (v := zJ 1) zi238_837 rfl ?_
      refine zr_iaddN zi238_838 ?_
      refine zr_ialoadN zi238_839 Zs1 rfl (by omega) (by first | omega | (simp only [List.length_set, zpt_len]; omega)) ?_
      refine zr_aload_n zi238_840 rfl ?_
      refine zr_iload zi238_841 rfl ?_
      refine zr_iconst (v := zJ 2) zi238_843 rfl ?_
      refine zr_iaddN zi238_844 ?_
      refine zr_ialoadN zi238_845 Zs1 rfl (by omega) (by first | omega | (simp only [List.length_set, zpt_len]; omega)) ?_
      refine zr_aload_n zi238_846 rfl ?_
      refine zr_static zi238_847 rfl rfl rfl rfl ?_
      refine zcall_dep (d := 17) (Nat.le_of_ble_eq_true rfl) (c107 S1_ C1_ O1_ d1_ I1_ (fun h847 kc847 vv847 LN847 L847 cs847 hk847 e847 T847 U847 => zbk_v ?_))
      have Z847 := Z.cls T847
      have t847 := T847.1.2
      obtain ⟨⟨Zs2, Zb2⟩, S2_, ⟨τ2_, α2_, C2_⟩, O2_, I2_, ⟨n02_, R2_⟩, d2_, f2_⟩ := id Z847
      have HM2 := R2_.1
      have HH2 := C2_.1
      refine zr_istore (L' := [some (.ref _), some (.ref _), some (.ref _), some (.ref _), some (.int (zJ _)), some (.int (zJ _)), _, _]) zi238_850 rfl rfl ?_
      refine zr_aload_n zi238_852 rfl ?_
      refine zr_aload_n zi238_853 rfl ?_
      refine zr_iload zi238_854 rfl ?_
      refine zr_iconst (v := zJ 1) zi238_856 rfl ?_
      refine zr_iaddN zi238_857 ?_
      refine zr_ialoadN zi238_858 Zs2 rfl (by omega) (by first | omega | (simp only [List.length_set, zpt_len]; omega)) ?_
      refine zr_aload_n zi238_859 rfl ?_
      refine zr_iload zi238_860 rfl ?_
      refine zr_iconst (v := zJ 2) zi238_862 rfl ?_
      refine zr_iaddN zi238_863 ?_
      refine zr_ialoadN zi238_864 Zs2 rfl (by omega) (by first | omega | (simp only [List.length_set, zpt_len]; omega)) ?_
      refine zr_virtual zi238_865 rfl rfl (HM2.at0 rfl) rfl rfl ?_
      refine zcall_dep (d := 15) (Nat.le_of_ble_eq_true rfl) (c211 R2_ (fun h865 v865 n865 le865 B865 ms865 N865 RR865 => zbk_v ?_))
      have Z865 := Z847.ref N865
      have t865 := N865.1.2
      have Rl865 : zRel L847 B865 := by first | exact zrel18 C1_ Rl cs847 e847 ms865 | contradiction
      refine zr_istore (L' := [some (.ref _), some (.ref _), some (.ref _), some (.ref _), some (.int (zJ _)), some (.int (zJ _)), some (.int _), _]) zi238_868 rfl rfl ?_
      refine zr_goto zi238_870 rfl ?_
      refine zr_iincN (z := 5) (L' := [some (.ref _), some (.ref _), some (.ref _), some (.ref _), some (.int (zJ _)), some (.int (zJ _)), some (.int _), _]) zi238_1295 rfl rfl rfl rfl ?_
      refine zr_goto zi238_1298 rfl ?_
      have e5 : 5 * (k + 1) = 5 * k + 5 := Nat.mul_succ 5 k
      have ihk := ih27 (by omega)
      rw [e5] at ihk
      exact ihk _ _ _ _ _ _ _ _ Z865 Rl865 (by omega) (by omega) (by omega)
    · refine zr_tableL zi238_43 (by decide) rfl rfl ?_
      refine zr_aload_n zi238_873 rfl ?_
      refine zr_aload_n zi238_874 rfl ?_
      refine zr_iload zi238_875 rfl ?_
      refine zr_iconst (v := zJ 1) zi238_877 rfl ?_
      refine zr_iaddN zi238_878 ?_
      refine zr_ialoadN zi238_879 Zs1 rfl (by omega) (by first | omega | (simp only [List.length_set, zpt_len]; omega)) ?_
      refine zr_aload_n zi238_880 rfl ?_
      refine zr_static zi238_881 rfl rfl rfl rfl ?_
      refine zcall_dep (d := 9) (Nat.le_of_ble_eq_true rfl) (c108 S1_ C1_ O1_ d1_ I1_ (fun h881 kc881 vv881 LN881 L881 cs881 hk881 e881 T881 U881 => zbk_v ?_))
      have Z881 := Z.cls T881
      have t881 := T881.1.2
      obtain ⟨⟨Zs2, Zb2⟩, S2_, ⟨τ2_, α2_, C2_⟩, O2_, I2_, ⟨n02_, R2_⟩, d2_, f2_⟩ := id Z881
      have HM2 := R2_.1
      have HH2 := C2_.1
      refine zr_istore (L' := [some (.ref _), some (.ref _), some (.ref _), some (.ref _), some (.int (zJ _)), some (.int (zJ _)), _, _]) zi238_884 rfl rfl ?_
      refine zr_aload_n zi238_886 rfl ?_
      refine zr_aload_n zi238_887 rfl ?_
      refine zr_iload zi238_888 rfl ?_
      refine zr_iconst (v := zJ 1) zi238_890 rfl ?_
      refine zr_iaddN zi238_891 ?_
      refine zr_ialoadN zi238_892 Zs2 rfl (by omega) (by first | omega | (simp only [List.length_set, zpt_len]; omega)) ?_
      refine zr_virtual zi238_893 rfl rfl (HM2.at0 rfl) rfl rfl ?_
      refine zcall_dep (d := 8) (Nat.le_of_ble_eq_true rfl) (c215 R2_ S2_ (fun h893 v893 n893 le893 B893 ms893 N893 RR893 => zbk_v ?_))
      have Z893 := Z881.ref N893
      have t893 := N893.1.2
      have Rl893 : zRel L881 B893 := by first | exact zrel109 C1_ Rl cs881 e881 ms893 | contradiction
      refine zr_astore (L' := [some (.ref _), some (.ref _), some (.ref _), some (.ref _), some (.int (zJ _)), some (.int (zJ _)), some (.ref _), _]) zi238_896 rfl rfl ?_
      refine zr_goto zi238_898 rfl ?_
      refine zr_iincN (z := 5) (L' := [some (.ref _), some (.ref _), some (.ref _), some (.ref _), some (.int (zJ _)), some (.int (zJ _)), some (.ref _), _]) zi238_1295 rfl rfl rfl rfl ?_
      refine zr_goto zi238_1298 rfl ?_
      have e5 : 5 * (k + 1) = 5 * k + 5 := Nat.mul_succ 5 k
      have ihk := ih27 (by omega)
      rw [e5] at ihk
      exact ihk _ _ _ _ _ _ _ _ Z893 Rl893 (by omega) (by omega) (by omega)
    · refine zr_tableL zi238_43 (by decide) rfl rfl ?_
      refine zr_aload_n zi238_901 rfl ?_
      refine zr_aload_n zi238_902 rfl ?_
      refine zr_iload zi238_903 rfl ?_
      refine zr_iconst (v := zJ 1) zi238_905 rfl ?_
      refine zr_iaddN zi238_906 ?_
      refine zr_ialoadN zi238_907 Zs1 rfl (by omega) (by first | omega | (simp only [List.length_set, zpt_len]; omega)) ?_
      refine zr_aload_n zi238_908 rfl ?_
      refine zr_iload zi238_909 rfl ?_
      refine zr_iconst (v := zJ 2) zi238_911 rfl ?_
      refine zr_iaddN zi238_912 ?_
      refine zr_ialoadN zi238_913 Zs1 rfl (by omega) (by first | omega | (simp only [List.length_set, zpt_len]; omega)) ?_
      refine zr_aload_n zi238_914 rfl ?_
      refine zr_static zi238_915 rfl rfl rfl rfl ?_
      refine zcall_dep (d := 17) (Nat.le_of_ble_eq_true rfl) (c135 S1_ C1_ O1_ d1_ I1_ (fun h915 kc915 vv915 LN915 L915 cs915 hk915 e915 T915 U915 => zbk_v ?_))
      have Z915 := Z.cls T915
      have t915 := T915.1.2
      obtain ⟨⟨Zs2, Zb2⟩, S2_, ⟨τ2_, α2_, C2_⟩, O2_, I2_, ⟨n02_, R2_⟩, d2_, f2_⟩ := id Z915
      have HM2 := R2_.1
      have HH2 := C2_.1
      refine zr_istore (L' := [some (.ref _), some (.ref _), some (.ref _), some (.ref _), some (.int (zJ _)), some (.int (zJ _)), _, _]) zi238_918 rfl rfl ?_
      refine zr_aload_n zi238_920 rfl ?_
      refine zr_aload_n zi238_921 rfl ?_
      refine zr_iload zi238_922 rfl ?_
      refine zr_iconst (v := zJ 1) zi238_924 rfl ?_
      refine zr_iaddN zi238_925 ?_
      refine zr_ialoadN zi238_926 Zs2 rfl (by omega) (by first | omega | (simp only [List.length_set, zpt_len]; omega)) ?_
      refine zr_aload_n zi238_927 rfl ?_
      refine zr_iload zi238_928 rfl ?_
      refine zr_iconst (v := zJ 2) zi238_930 rfl ?_
      refine zr_iaddN zi238_931 ?_
      refine zr_ialoadN zi238_932 Zs2 rfl (by omega) (by first | omega | (simp only [List.length_set, zpt_len]; omega)) ?_
      refine zr_virtual zi238_933 rfl rfl (HM2.at0 rfl) rfl rfl ?_
      refine zcall_dep (d := 15) (Nat.le_of_ble_eq_true rfl) (c216 R2_ (fun h933 v933 n933 le933 B933 ms933 N933 RR933 => zbk_v ?_))
      have Z933 := Z915.ref N933
      have t933 := N933.1.2
      have Rl933 : zRel L915 B933 := by first | exact zrel47 C1_ Rl cs915 e915 ms933 | contradiction
      refine zr_istore (L' := [some (.ref _), some (.ref _), some (.ref _), some (.ref _), some (.int (zJ _)), some (.int (zJ _)), some (.int _), _]) zi238_936 rfl rfl ?_
      refine zr_goto zi238_938 rfl ?_
      refine zr_iincN (z := 5) (L' := [some (.ref _), some (.ref _), some (.ref _), some (.ref _), some (.int (zJ _)), some (.int (zJ _)), some (.int _), _]) zi238_1295 rfl rfl rfl rfl ?_
      refine zr_goto zi238_1298 rfl ?_
      have e5 : 5 * (k + 1) = 5 * k + 5 := Nat.mul_succ 5 k
      have ihk := ih27 (by omega)
      rw [e5] at ihk
      exact ihk _ _ _ _ _ _ _ _ Z933 Rl933 (by omega) (by omega) (by omega)
    · refine zr_tableL zi238_43 (by decide) rfl rfl ?_
      refine zr_aload_n zi238_941 rfl ?_
      refine zr_aload_n zi238_942 rfl ?_
      refine zr_iload zi238_943 rfl ?_
      refine zr_iconst (v := zJ 1) zi238_945 rfl ?_
      refine zr_iaddN zi238_946 ?_
      refine zr_ialoadN zi238_947 Zs1 rfl (by omega) (by first | omega | (simp only [List.length_set, zpt_len]; omega)) ?_
      refine zr_aload_n zi238_948 rfl ?_
      refine zr_iload zi238_949 rfl ?_
      refine zr_iconst (v := zJ 2) zi238_951 rfl ?_
      refine zr_iaddN zi238_952 ?_
      refine zr_ialoadN zi238_953 Zs1 rfl (by omega) (by first | omega | (simp only [List.length_set, zpt_len]; omega)) ?_
      refine zr_aload_n zi238_954 rfl ?_
      refine zr_static zi238_955 rfl rfl rfl rfl ?_
      refine zcall_dep (d := 17) (Nat.le_of_ble_eq_true rfl) (c136 S1_ C1_ O1_ d1_ I1_ (fun h955 kc955 vv955 LN955 L955 cs955 hk955 e955 T955 U955 => zbk_v ?_))
      have Z955 := Z.cls T955
      have t955 := T955.1.2
      obtain ⟨⟨Zs2, Zb2⟩, S2_, ⟨τ2_, α2_, C2_⟩, O2_, I2_, ⟨n02_, R2_⟩, d2_, f2_⟩ := id Z955
      have HM2 := R2_.1
      have HH2 := C2_.1
      refine zr_istore (L' := [some (.ref _), some (.ref _), some (.ref _), some (.ref _), some (.int (zJ _)), some (.int (zJ _)), _, _]) zi238_958 rfl rfl ?_
      refine zr_aload_n zi238_960 rfl ?_
      refine zr_aload_n zi238_961 rfl ?_
      refine zr_iload zi238_962 rfl ?_
      refine zr_iconst (v := zJ 1) zi238_964 rfl ?_
      refine zr_iaddN zi238_965 ?_
      refine zr_ialoadN zi238_966 Zs2 rfl (by omega) (by first | omega | (simp only [List.length_set, zpt_len]; omega)) ?_
      refine zr_aload_n zi238_967 rfl ?_
      refine zr_iload zi238_968 rfl ?_
      refine zr_iconst (v := zJ 2) zi238_970 rfl ?_
      refine zr_iaddN zi238_971 ?_
      refine zr_ialoadN zi238_972 Zs2 rfl (by omega) (by first | omega | (simp only [List.length_set, zpt_len]; omega)) ?_
      refine zr_virtual zi238_973 rfl rfl (HM2.at0 rfl) rfl rfl ?_
      refine zcall_dep (d := 15) (Nat.le_of_ble_eq_true rfl) (c217 R2_ (fun h973 v973 n973 le973 B973 M973 ms973 N973 RR973 => zbk_v ?_))
      have Z973 := Z955.ref N973
      have t973 := N973.1.2
      have Rl973 : zRel L955 B973 := by first | exact zrel137 C1_ Rl cs955 e955 ms973 | contradiction
      refine zr_dstore (L' := [some (.ref _), some (.ref _), some (.ref _), some (.ref _), some (.int (zJ _)), some (.int (zJ _)), some (.double _), none]) zi238_976 rfl rfl ?_
      refine zr_goto zi238_978 rfl ?_
      refine zr_iincN (z := 5) (L' := [some (.ref _), some (.ref _), some (.ref _), some (.ref _), some (.int (zJ _)), some (.int (zJ _)), some (.double _), none]) zi238_1295 rfl rfl rfl rfl ?_
      refine zr_goto zi238_1298 rfl ?_
      have e5 : 5 * (k + 1) = 5 * k + 5 := Nat.mul_succ 5 k
      have ihk := ih27 (by omega)
      rw [e5] at ihk
      exact ihk _ _ _ _ _ _ _ _ Z973 Rl973 (by omega) (by omega) (by omega)
    · refine zr_tableL zi238_43 (by decide) rfl rfl ?_
      refine zr_aload_n zi238_981 rfl ?_
      refine zr_aload_n zi238_982 rfl ?_
      refine zr_iload zi238_983 rfl ?_
      refine zr_iconst (v := zJ 1) zi238_985 rfl ?_
      refine zr_iaddN zi238_986 ?_
      refine zr_ialoadN zi238_987 Zs1 rfl (by omega) (by first | omega | (simp only [List.length_set, zpt_len]; omega)) ?_
      refine zr_aload_n zi238_988 rfl ?_
      refine zr_iload zi238_989 rfl ?_
      refine zr_iconst (v := zJ 2) zi238_991 rfl ?_
      refine zr_iaddN zi238_992 ?_
      refine zr_ialoadN zi238_993 Zs1 rfl (by omega) (by first | omega | (simp only [List.length_set, zpt_len]; omega)) ?_
      refine zr_aload_n zi238_994 rfl ?_
      refine zr_static zi238_995 rfl rfl rfl rfl ?_
      refine zcall_dep (d := 17) (Nat.le_of_ble_eq_true rfl) (c138 S1_ C1_ O1_ d1_ I1_ (fun h995 kc995 vv995 LN995 L995 cs995 hk995 e995 T995 U995 => zbk_v ?_))
      have Z995 := Z.cls T995
      have t995 := T995.1.2
      obtain ⟨⟨Zs2, Zb2⟩, S2_, ⟨τ2_, α2_, C2_⟩, O2_, I2_, ⟨n02_, R2_⟩, d2_, f2_⟩ := id Z995
      have HM2 := R2_.1
      have HH2 := C2_.1
      refine zr_istore (L' := [some (.ref _), some (.ref _), some (.ref _), some (.ref _), some (.int (zJ _)), some (.int (zJ _)), _, _]) zi238_998 rfl rfl ?_
      refine zr_aload_n zi238_1000 rfl ?_
      refine zr_aload_n zi238_1001 rfl ?_
      refine zr_iload zi238_1002 rfl ?_
      refine zr_iconst (v := zJ 1) zi238_1004 rfl ?_
      refine zr_iaddN zi238_1005 ?_
      refine zr_ialoadN zi238_1006 Zs2 rfl (by omega) (by first | omega | (simp only [List.length_set, zpt_len]; omega)) ?_
      refine zr_aload_n zi238_1007 rfl ?_
      refine zr_iload zi238_1008 rfl ?_
      refine zr_iconst (v := zJ 2) zi238_1010 rfl ?_
      refine zr_iaddN zi238_1011 ?_
      refine zr_ialoadN zi238_1012 Zs2 rfl (by omega) (by first | omega | (simp only [List.length_set, zpt_len]; omega)) ?_
      refine zr_virtual zi238_1013 rfl rfl (HM2.at0 rfl) rfl rfl ?_
      refine zcall_dep (d := 15) (Nat.le_of_ble_eq_true rfl) (c220 R2_ (fun h1013 v1013 n1013 le1013 B1013 M1013 ms1013 N1013 RR1013 => zbk_v ?_))
      have Z1013 := Z995.ref N1013
      have t1013 := N1013.1.2
      have Rl1013 : zRel L995 B1013 := by first | exact zrel49 C1_ Rl cs995 e995 ms1013 | contradiction
      refine zr_dstore (L' := [some (.ref _), some (.ref _), some (.ref _), some (.ref _), some (.int (zJ _)), some (.int (zJ _)), some (.double _), none]) zi238_1016 rfl rfl ?_
      refine zr_goto zi238_1018 rfl ?_
      refine zr_iincN (z := 5) (L' := [some (.ref _), some (.ref _), some (.ref _), some (.ref _), some (.int (zJ _)), some (.int (zJ _)), some (.double _), none]) zi238_1295 rfl rfl rfl rfl ?_
      refine zr_goto zi238_1298 rfl ?_
      have e5 : 5 * (k + 1) = 5 * k + 5 := Nat.mul_succ 5 k
      have ihk := ih27 (by omega)
      rw [e5] at ihk
      exact ihk _ _ _ _ _ _ _ _ Z1013 Rl1013 (by omega) (by omega) (by omega)
    · refine zr_tableL zi238_43 (by decide) rfl rfl ?_
      refine zr_aload_n zi238_1021 rfl ?_
      refine zr_aload_n zi238_1022 rfl ?_
      refine zr_iload zi238_1023 rfl ?_
      refine zr_iconst (v := zJ 1) zi238_1025 rfl ?_
      refine zr_iaddN zi238_1026 ?_
      refine zr_ialoadN zi238_1027 Zs1 rfl (by omega) (by first | omega | (simp only [List.length_set, zpt_len]; omega)) ?_
      refine zr_aload_n zi238_1028 rfl ?_
      refine zr_static zi238_1029 rfl rfl rfl rfl ?_
      refine zcall_dep (d := 3) (Nat.le_of_ble_eq_true rfl) (c139 S1_ C1_ O1_ d1_ I1_ (fun h1029 kc1029 vv1029 LN1029 L1029 cs1029 hk1029 e1029 T1029 U1029 => zbk_v ?_))
      have Z1029 := Z.cls T1029
      have t1029 := T1029.1.2
      obtain ⟨⟨Zs2, Zb2⟩, S2_, ⟨τ2_, α2_, C2_⟩, O2_, I2_, ⟨n02_, R2_⟩, d2_, f2_⟩ := id Z1029
      have HM2 := R2_.1
      have HH2 := C2_.1
      refine zr_istore (L' := [some (.ref _), some (.ref _), some (.ref _), some (.ref _), some (.int (zJ _)), some (.int (zJ _)), _, _]) zi238_1032 rfl rfl ?_
      refine zr_aload_n zi238_1034 rfl ?_
      refine zr_aload_n zi238_1035 rfl ?_
      refine zr_iload zi238_1036 rfl ?_
      refine zr_iconst (v := zJ 1) zi238_1038 rfl ?_
      refine zr_iaddN zi238_1039 ?_
      refine zr_ialoadN zi238_1040 Zs2 rfl (by omega) (by first | omega | (simp only [List.length_set, zpt_len]; omega)) ?_
      refine zr_virtual zi238_1041 rfl rfl (HM2.at0 rfl) rfl rfl ?_
      refine zcall_dep (d := 4) (Nat.le_of_ble_eq_true rfl) (c223 R2_ (fun h1041 v1041 n1041 le1041 B1041 ms1041 N1041 RR1041 => zbk_v ?_))
      have Z1041 := Z1029.ref N1041
      have t1041 := N1041.1.2
      have Rl1041 : zRel L1029 B1041 := by first | exact zrel11 C1_ Rl cs1029 e1029 ms1041 | contradiction
      refine zr_istore (L' := [some (.ref _), some (.ref _), some (.ref _), some (.ref _), some (.int (zJ _)), some (.int (zJ _)), some (.int _), _]) zi238_1044 rfl rfl ?_
      refine zr_goto zi238_1046 rfl ?_
      refine zr_iincN (z := 5) (L' := [some (.ref _), some (.ref _), some (.ref _), some (.ref _), some (.int (zJ _)), some (.int (zJ _)), some (.int _), _]) zi238_1295 rfl rfl rfl rfl ?_
      refine zr_goto zi238_1298 rfl ?_
      have e5 : 5 * (k + 1) = 5 * k + 5 := Nat.mul_succ 5 k
      have ihk := ih27 (by omega)
      rw [e5] at ihk
      exact ihk _ _ _ _ _ _ _ _ Z1041 Rl1041 (by omega) (by omega) (by omega)
    · refine zr_tableL zi238_43 (by decide) rfl rfl ?_
      refine zr_aload_n zi238_1049 rfl ?_
      refine zr_aload_n zi238_1050 rfl ?_
      refine zr_iload zi238_1051 rfl ?_
      refine zr_iconst (v := zJ 1) zi238_1053 rfl ?_
      refine zr_iaddN zi238_1054 ?_
      refine zr_ialoadN zi238_1055 Zs1 rfl (by omega) (by first | omega | (simp only [List.length_set, zpt_len]; omega)) ?_
      refine zr_aload_n zi238_1056 rfl ?_
      refine zr_static zi238_1057 rfl rfl rfl rfl ?_
      refine zcall_dep (d := 4) (Nat.le_of_ble_eq_true rfl) (c140 S1_ C1_ O1_ d1_ I1_ (fun h1057 kc1057 vv1057 LN1057 L1057 cs1057 hk1057 e1057 T1057 U1057 => zbk_v ?_))
      have Z1057 := Z.cls T1057
      have t1057 := T1057.1.2
      obtain ⟨⟨Zs2, Zb2⟩, S2_, ⟨τ2_, α2_, C2_⟩, O2_, I2_, ⟨n02_, R2_⟩, d2_, f2_⟩ := id Z1057
      have HM2 := R2_.1
      have HH2 := C2_.1
      refine zr_istore (L' := [some (.ref _), some (.ref _), some (.ref _), some (.ref _), some (.int (zJ _)), some (.int (zJ _)), _, _]) zi238_1060 rfl rfl ?_
      refine zr_aload_n zi238_1062 rfl ?_
      refine zr_aload_n zi238_1063 rfl ?_
      refine zr_iload zi238_1064 rfl ?_
      refine zr_iconst (v := zJ 1) zi238_1066 rfl ?_
      refine zr_iaddN zi238_1067 ?_
      refine zr_ialoadN zi238_1068 Zs2 rfl (by omega) (by first | omega | (simp only [List.length_set, zpt_len]; omega)) ?_
      refine zr_virtual zi238_1069 rfl rfl (HM2.at0 rfl) rfl rfl ?_
      refine zcall_dep (d := 5) (Nat.le_of_ble_eq_true rfl) (c225 R2_ (fun h1069 v1069 n1069 le1069 B1069 ms1069 N1069 RR1069 => zbk_v ?_))
      have Z1069 := Z1057.ref N1069
      have t1069 := N1069.1.2
      obtain ⟨Rl1069, rfl, hv1069⟩ : zRel L1057 B1069 ∧ n1069 = zJ kc1057 ∧ (kc1057 = 0 → vv1057 = v1069) := by first | exact zrelC55 C1_ Rl cs1057 e1057 ms1069 | contradiction
      have HM1069 := RR1069.1
      refine zr_istore (L' := [some (.ref _), some (.ref _), some (.ref _), some (.ref _), some (.int (zJ _)), some (.int (zJ _)), some (.int _), _]) zi238_1072 rfl rfl ?_
      refine zr_aload_n zi238_1074 rfl ?_
      refine zr_virtual zi238_1075 rfl rfl (HM1069.at0 rfl) rfl rfl ?_
      refine zcall_dep (d := 0) (Nat.le_of_ble_eq_true rfl) (cthr RR1069 (zbk_v ?_))
      refine zr_iload zi238_1078 rfl ?_
      refine zr_icmp_eqN zi238_1080 rfl (by omega) (by omega) (fun q1080 => ?_) (fun q1080 => absurd q1080 (fun z => z rfl))
      refine zr_iload zi238_1085 rfl ?_
      refine zr_if_neN zi238_1087 rfl (by omega) (fun q1087 => ?_) (fun q1087 => ?_)
      · refine zr_goto zi238_1103 rfl ?_
        refine zr_iincN (z := 5) (L' := [some (.ref _), some (.ref _), some (.ref _), some (.ref _), some (.int (zJ _)), some (.int (zJ _)), some (.int _), _]) zi238_1295 rfl rfl rfl rfl ?_
        refine zr_goto zi238_1298 rfl ?_
        have e5 : 5 * (k + 1) = 5 * k + 5 := Nat.mul_succ 5 k
        have ihk := ih27 (by omega)
        rw [e5] at ihk
        exact ihk _ _ _ _ _ _ _ _ Z1069 Rl1069 (by omega) (by omega) (by omega)
      · obtain ⟨u1c, u2c, Uc⟩ := U1057 q1087
        have Ud := Z1057.keepO N1069 Uc
        refine zr_aload_n zi238_1090 rfl ?_
        refine zr_getfield zi238_1091 Ud rfl ?_
        refine zr_iload zi238_1094 rfl ?_
        refine zr_i2l zi238_1096 ?_
        refine zr_lcmp zi238_1097 ?_
        refine zr_if_eq zi238_1098 rfl (fun q1098 => ?_) (fun q1098 => absurd q1098 (fun z => z (by rw [hv1069 q1087]; exact zlgc _)))
        refine zr_goto zi238_1103 rfl ?_
        refine zr_iincN (z := 5) (L' := [some (.ref _), some (.ref _), some (.ref _), some (.ref _), some (.int (zJ _)), some (.int (zJ _)), some (.int _), _]) zi238_1295 rfl rfl rfl rfl ?_
        refine zr_goto zi238_1298 rfl ?_
        have e5 : 5 * (k + 1) = 5 * k + 5 := Nat.mul_succ 5 k
        have ihk := ih27 (by omega)
        rw [e5] at ihk
        exact ihk _ _ _ _ _ _ _ _ Z1069 Rl1069 (by omega) (by omega) (by omega)
    · refine zr_tableL zi238_43 (by decide) rfl rfl ?_
      refine zr_aload_n zi238_1106 rfl ?_
      refine zr_aload_n zi238_1107 rfl ?_
      refine zr_iload zi238_1108 rfl ?_
      refine zr_iconst (v := zJ 1) zi238_1110 rfl ?_
      refine zr_iaddN zi238_1111 ?_
      refine zr_ialoadN zi238_1112 Zs1 rfl (by omega) (by first | omega | (simp only [List.length_set, zpt_len]; omega)) ?_
      refine zr_aload_n zi238_1113 rfl ?_
      refine zr_static zi238_1114 rfl rfl rfl rfl ?_
      refine zcall_dep (d := 17) (Nat.le_of_ble_eq_true rfl) (c141 S1_ C1_ O1_ d1_ I1_ (fun h1114 kc1114 vv1114 LN1114 L1114 cs1114 hk1114 e1114 T1114 U1114 => zbk_v ?_))
      have Z1114 := Z.cls T1114
      have t1114 := T1114.1.2
      obtain ⟨⟨Zs2, Zb2⟩, S2_, ⟨τ2_, α2_, C2_⟩, O2_, I2_, ⟨n02_, R2_⟩, d2_, f2_⟩ := id Z1114
      have HM2 := R2_.1
      have HH2 := C2_.1
      refine zr_istore (L' := [some (.ref _), some (.ref _), some (.ref _), some (.ref _), some (.int (zJ _)), some (.int (zJ _)), _, _]) zi238_1117 rfl rfl ?_
      refine zr_aload_n zi238_1119 rfl ?_
      refine zr_aload_n zi238_1120 rfl ?_
      refine zr_iload zi238_1121 rfl ?_
      refine zr_iconst (v := zJ 1) zi238_1123 rfl ?_
      refine zr_iaddN zi238_1124 ?_
      refine zr_ialoadN zi238_1125 Zs2 rfl (by omega) (by first | omega | (simp only [List.length_set, zpt_len]; omega)) ?_
      refine zr_virtual zi238_1126 rfl rfl (HM2.at0 rfl) rfl rfl ?_
      refine zcall_dep (d := 15) (Nat.le_of_ble_eq_true rfl) (c227 R2_ (fun h1126 v1126 n1126 le1126 B1126 ms1126 N1126 RR1126 => zbk_v ?_))
      have Z1126 := Z1114.ref N1126
      have t1126 := N1126.1.2
      have Rl1126 : zRel L1114 B1126 := by first | exact zrel56 C1_ Rl cs1114 e1114 ms1126 | contradiction
      refine zr_istore (L' := [some (.ref _), some (.ref _), some (.ref _), some (.ref _), some (.int (zJ _)), some (.int (zJ _)), some (.int _), _]) zi238_1129 rfl rfl ?_
      refine zr_goto zi238_1131 rfl ?_
      refine zr_iincN (z := 5) (L' := [some (.ref _), some (.ref _), some (.ref _), some (.ref _), some (.int (zJ _)), some (.int (zJ _)), some (.int _), _]) zi238_1295 rfl rfl rfl rfl ?_
      refine zr_goto zi238_1298 rfl ?_
      have e5 : 5 * (k + 1) = 5 * k + 5 := Nat.mul_succ 5 k
      have ihk := ih27 (by omega)
      rw [e5] at ihk
      exact ihk _ _ _ _ _ _ _ _ Z1126 Rl1126 (by omega) (by omega) (by omega)
    · refine zr_tableL zi238_43 (by decide) rfl rfl ?_
      refine zr_aload_n zi238_1134 rfl ?_
      refine zr_aload_n zi238_1135 rfl ?_
      refine zr_iload zi238_1136 rfl ?_
      refine zr_iconst (v := zJ 1) zi238_1138 rfl ?_
      refine zr_iaddN zi238_1139 ?_
      refine zr_ialoadN zi238_1140 Zs1 rfl (by omega) (by first | omega | (simp only [List.length_set, zpt_len]; omega)) ?_
      refine zr_aload_n zi238_1141 rfl ?_
      refine zr_iload zi238_1142 rfl ?_
      refine zr_iconst (v := zJ 2) zi238_1144 rfl ?_
      refine zr_iaddN zi238_1145 ?_
      refine zr_ialoadN zi238_1146 Zs1 rfl (by omega) (by first | omega | (simp only [List.length_set, zpt_len]; omega)) ?_
      refine zr_aload_n zi238_1147 rfl ?_
      refine zr_iload zi238_1148 rfl ?_
      refine zr_iconst (v := zJ 3) zi238_1150 rfl ?_
      refine zr_iaddN zi238_1151 ?_
      refine zr_ialoadN zi238_1152 Zs1 rfl (by omega) (by first | omega | (simp only [List.length_set, zpt_len]; omega)) ?_
      refine zr_if_eq zi238_1153 rfl (fun q1153 => ?_) (fun q1153 => ?_)
      · refine zr_iconst (v := zB false) zi238_1160 rfl ?_
        refine zr_aload_n zi238_1161 rfl ?_
        refine zr_iload zi238_1162 rfl ?_
        refine zr_iconst (v := zJ 4) zi238_1164 rfl ?_
        refine zr_iaddN zi238_1165 ?_
        refine zr_ialoadN zi238_1166 Zs1 rfl (by omega) (by first | omega | (simp only [List.length_set, zpt_len]; omega)) ?_
        refine zr_aload_n zi238_1167 rfl ?_
        refine zr_static zi238_1168 rfl rfl rfl rfl ?_
        refine zcall_dep (d := 17) (Nat.le_of_ble_eq_true rfl) (c142 S1_ C1_ O1_ d1_ I1_ (fun h1168 kc1168 vv1168 LN1168 L1168 cs1168 hk1168 e1168 T1168 U1168 => zbk_v ?_))
        have Z1168 := Z.cls T1168
        have t1168 := T1168.1.2
        obtain ⟨⟨Zs2, Zb2⟩, S2_, ⟨τ2_, α2_, C2_⟩, O2_, I2_, ⟨n02_, R2_⟩, d2_, f2_⟩ := id Z1168
        have HM2 := R2_.1
        have HH2 := C2_.1
        refine zr_istore (L' := [some (.ref _), some (.ref _), some (.ref _), some (.ref _), some (.int (zJ _)), some (.int (zJ _)), _, _]) zi238_1171 rfl rfl ?_
        refine zr_aload_n zi238_1173 rfl ?_
        refine zr_aload_n zi238_1174 rfl ?_
        refine zr_iload zi238_1175 rfl ?_
        refine zr_iconst (v := zJ 1) zi238_1177 rfl ?_
        refine zr_iaddN zi238_1178 ?_
        refine zr_ialoadN zi238_1179 Zs2 rfl (by omega) (by first | omega | (simp only [List.length_set, zpt_len]; omega)) ?_
        refine zr_aload_n zi238_1180 rfl ?_
        refine zr_iload zi238_1181 rfl ?_
        refine zr_iconst (v := zJ 2) zi238_1183 rfl ?_
        refine zr_iaddN zi238_1184 ?_
        refine zr_ialoadN zi238_1185 Zs2 rfl (by omega) (by first | omega | (simp only [List.length_set, zpt_len]; omega)) ?_
        refine zr_aload_n zi238_1186 rfl ?_
        refine zr_iload zi238_1187 rfl ?_
        refine zr_iconst (v := zJ 3) zi238_1189 rfl ?_
        refine zr_iaddN zi238_1190 ?_
        refine zr_ialoadN zi238_1191 Zs2 rfl (by omega) (by first | omega | (simp only [List.length_set, zpt_len]; omega)) ?_
        refine zr_if_eq zi238_1192 rfl (fun q1192 => ?_) (fun q1192 => ?_)
        · refine zr_iconst (v := zB false) zi238_1199 rfl ?_
          refine zr_aload_n zi238_1200 rfl ?_
          refine zr_iload zi238_1201 rfl ?_
          refine zr_iconst (v := zJ 4) zi238_1203 rfl ?_
          refine zr_iaddN zi238_1204 ?_
          refine zr_ialoadN zi238_1205 Zs2 rfl (by omega) (by first | omega | (simp only [List.length_set, zpt_len]; omega)) ?_
          refine zr_virtual zi238_1206 rfl rfl (HM2.at0 rfl) rfl rfl ?_
          refine zcall_dep (d := 16) (Nat.le_of_ble_eq_true rfl) (c229 R2_ S2_ (fun h1206 v1206 n1206 le1206 B1206 ms1206 N1206 RR1206 => zbk_v ?_))
          have Z1206 := Z1168.ref N1206
          have t1206 := N1206.1.2
          have Rl1206 : zRel L1168 B1206 := by first | exact zrel143 C1_ Rl cs1168 e1168 ms1206 | contradiction
          refine zr_istore (L' := [some (.ref _), some (.ref _), some (.ref _), some (.ref _), some (.int (zJ _)), some (.int (zJ _)), some (.int _), _]) zi238_1209 rfl rfl ?_
          refine zr_goto zi238_1211 rfl ?_
          refine zr_iincN (z := 5) (L' := [some (.ref _), some (.ref _), some (.ref _), some (.ref _), some (.int (zJ _)), some (.int (zJ _)), some (.int _), _]) zi238_1295 rfl rfl rfl rfl ?_
          refine zr_goto zi238_1298 rfl ?_
          have e5 : 5 * (k + 1) = 5 * k + 5 := Nat.mul_succ 5 k
          have ihk := ih27 (by omega)
          rw [e5] at ihk
          exact ihk _ _ _ _ _ _ _ _ Z1206 Rl1206 (by omega) (by omega) (by omega)
        · refine zr_iconst (v := zB true) zi238_1195 rfl ?_
          refine zr_goto zi238_1196 rfl ?_
          refine zr_aload_n zi238_1200 rfl ?_
          refine zr_iload zi238_1201 rfl ?_
          refine zr_iconst (v := zJ 4) zi238_1203 rfl ?_
          refine zr_iaddN zi238_1204 ?_
          refine zr_ialoadN zi238_1205 Zs2 rfl (by omega) (by first | omega | (simp only [List.length_set, zpt_len]; omega)) ?_
          refine zr_virtual zi238_1206 rfl rfl (HM2.at0 rfl) rfl rfl ?_
          refine zcall_dep (d := 16) (Nat.le_of_ble_eq_true rfl) (c229 R2_ S2_ (fun h1206 v1206 n1206 le1206 B1206 ms1206 N1206 RR1206 => zbk_v ?_))
          have Z1206 := Z1168.ref N1206
          have t1206 := N1206.1.2
          have Rl1206 : zRel L1168 B1206 := by first | exact zrel143 C1_ Rl cs1168 e1168 ms1206 | contradiction
          refine zr_istore (L' := [some (.ref _), some (.ref _), some (.ref _), some (.ref _), some (.int (zJ _)), some (.int (zJ _)), some (.int _), _]) zi238_1209 rfl rfl ?_
          refine zr_goto zi238_1211 rfl ?_
          refine zr_iincN (z := 5) (L' := [some (.ref _), some (.ref _), some (.ref _), some (.ref _), some (.int (zJ _)), some (.int (zJ _)), some (.int _), _]) zi238_1295 rfl rfl rfl rfl ?_
          refine zr_goto zi238_1298 rfl ?_
          have e5 : 5 * (k + 1) = 5 * k + 5 := Nat.mul_succ 5 k
          have ihk := ih27 (by omega)
          rw [e5] at ihk
          exact ihk _ _ _ _ _ _ _ _ Z1206 Rl1206 (by omega) (by omega) (by omega)
      · refine zr_iconst (v := zB true) zi238_1156 rfl ?_
        refine zr_goto zi238_1157 rfl ?_
        refine zr_aload_n zi238_1161 rfl ?_
        refine zr_iload zi238_1162 rfl ?_
        refine zr_iconst (v := zJ 4) zi238_1164 rfl ?_
        refine zr_iaddN zi238_1165 ?_
        refine zr_ialoadN zi238_1166 Zs1 rfl (by omega) (by first | omega | (simp only [List.length_set, zpt_len]; omega)) ?_
        refine zr_aload_n zi238_1167 rfl ?_
        refine zr_static zi238_1168 rfl rfl rfl rfl ?_
        refine zcall_dep (d := 17) (Nat.le_of_ble_eq_true rfl) (c142 S1_ C1_ O1_ d1_ I1_ (fun h1168 kc1168 vv1168 LN1168 L1168 cs1168 hk1168 e1168 T1168 U1168 => zbk_v ?_))
        have Z1168 := Z.cls T1168
        have t1168 := T1168.1.2
        obtain ⟨⟨Zs2, Zb2⟩, S2_, ⟨τ2_, α2_, C2_⟩, O2_, I2_, ⟨n02_, R2_⟩, d2_, f2_⟩ := id Z1168
        have HM2 := R2_.1
        have HH2 := C2_.1
        refine zr_istore (L' := [some (.ref _), some (.ref _), some (.ref _), some (.ref _), some (.int (zJ _)), some (.int (zJ _)), _, _]) zi238_1171 rfl rfl ?_
        refine zr_aload_n zi238_1173 rfl ?_
        refine zr_aload_n zi238_1174 rfl ?_
        refine zr_iload zi238_1175 rfl ?_
        refine zr_iconst (v := zJ 1) zi238_1177 rfl ?_
        refine zr_iaddN zi238_1178 ?_
        refine zr_ialoadN zi238_1179 Zs2 rfl (by omega) (by first | omega | (simp only [List.length_set, zpt_len]; omega)) ?_
        refine zr_aload_n zi238_1180 rfl ?_
        refine zr_iload zi238_1181 rfl ?_
        refine zr_iconst (v := zJ 2) zi238_1183 rfl ?_
        refine zr_iaddN zi238_1184 ?_
        refine zr_ialoadN zi238_1185 Zs2 rfl (by omega) (by first | omega | (simp only [List.length_set, zpt_len]; omega)) ?_
        refine zr_aload_n zi238_1186 rfl ?_
        refine zr_iload zi238_1187 rfl ?_
        refine zr_iconst (v := zJ 3) zi238_1189 rfl ?_
        refine zr_iaddN zi238_1190 ?_
        refine zr_ialoadN zi238_1191 Zs2 rfl (by omega) (by first | omega | (simp only [List.length_set, zpt_len]; omega)) ?_
        refine zr_if_eq zi238_1192 rfl (fun q1192 => ?_) (fun q1192 => ?_)
        · refine zr_iconst (v := zB false) zi238_1199 rfl ?_
          refine zr_aload_n zi238_1200 rfl ?_
          refine zr_iload zi238_1201 rfl ?_
          refine zr_iconst (v := zJ 4) zi238_1203 rfl ?_
          refine zr_iaddN zi238_1204 ?_
          refine zr_ialoadN zi238_1205 Zs2 rfl (by omega) (by first | omega | (simp only [List.length_set, zpt_len]; omega)) ?_
          refine zr_virtual zi238_1206 rfl rfl (HM2.at0 rfl) rfl rfl ?_
          refine zcall_dep (d := 16) (Nat.le_of_ble_eq_true rfl) (c229 R2_ S2_ (fun h1206 v1206 n1206 le1206 B1206 ms1206 N1206 RR1206 => zbk_v ?_))
          have Z1206 := Z1168.ref N1206
          have t1206 := N1206.1.2
          have Rl1206 : zRel L1168 B1206 := by first | exact zrel143 C1_ Rl cs1168 e1168 ms1206 | contradiction
          refine zr_istore (L' := [some (.ref _), some (.ref _), some (.ref _), some (.ref _), some (.int (zJ _)), some (.int (zJ _)), some (.int _), _]) zi238_1209 rfl rfl ?_
          refine zr_goto zi238_1211 rfl ?_
          refine zr_iincN (z := 5) (L' := [some (.ref _), some (.ref _), some (.ref _), some (.ref _), some (.int (zJ _)), some (.int (zJ _)), some (.int _), _]) zi238_1295 rfl rfl rfl rfl ?_
          refine zr_goto zi238_1298 rfl ?_
          have e5 : 5 * (k + 1) = 5 * k + 5 := Nat.mul_succ 5 k
          have ihk := ih27 (by omega)
          rw [e5] at ihk
          exact ihk _ _ _ _ _ _ _ _ Z1206 Rl1206 (by omega) (by omega) (by omega)
        · refine zr_iconst (v := zB true) zi238_1195 rfl ?_
          refine zr_goto zi238_1196 rfl ?_
          refine zr_aload_n zi238_1200 rfl ?_
          refine zr_iload zi238_1201 rfl ?_
          refine zr_iconst (v := zJ 4) zi238_1203 rfl ?_
          refine zr_iaddN zi238_1204 ?_
          refine zr_ialoadN zi238_1205 Zs2 rfl (by omega) (by first | omega | (simp only [List.length_set, zpt_len]; omega)) ?_
          refine zr_virtual zi238_1206 rfl rfl (HM2.at0 rfl) rfl rfl ?_
          refine zcall_dep (d := 16) (Nat.le_of_ble_eq_true rfl) (c229 R2_ S2_ (fun h1206 v1206 n1206 le1206 B1206 ms1206 N1206 RR1206 => zbk_v ?_))
          have Z1206 := Z1168.ref N1206
          have t1206 := N1206.1.2
          have Rl1206 : zRel L1168 B1206 := by first | exact zrel143 C1_ Rl cs1168 e1168 ms1206 | contradiction
          refine zr_istore (L' := [some (.ref _), some (.ref _), some (.ref _), some (.ref _), some (.int (zJ _)), some (.int (zJ _)), some (.int _), _]) zi238_1209 rfl rfl ?_
          refine zr_goto zi238_1211 rfl ?_
          refine zr_iincN (z := 5) (L' := [some (.ref _), some (.ref _), some (.ref _), some (.ref _), some (.int (zJ _)), some (.int (zJ _)), some (.int _), _]) zi238_1295 rfl rfl rfl rfl ?_
          refine zr_goto zi238_1298 rfl ?_
          have e5 : 5 * (k + 1) = 5 * k + 5 := Nat.mul_succ 5 k
          have ihk := ih27 (by omega)
          rw [e5] at ihk
          exact ihk _ _ _ _ _ _ _ _ Z1206 Rl1206 (by omega) (by omega) (by omega)
    · refine zr_tableL zi238_43 (by decide) rfl rfl ?_
      refine zr_aload_n zi238_1214 rfl ?_
      refine zr_aload_n zi238_1215 rfl ?_
      refine zr_iload zi238_1216 rfl ?_
      refine zr_iconst (v := zJ 1) zi238_1218 rfl ?_
      refine zr_iaddN zi238_1219 ?_
      refine zr_ialoadN zi238_1220 Zs1 rfl (by omega) (by first | omega | (simp only [List.length_set, zpt_len]; omega)) ?_
      refine zr_aload_n zi238_1221 rfl ?_
      refine zr_static zi238_1222 rfl rfl rfl rfl ?_
      refine zcall_dep (d := 17) (Nat.le_of_ble_eq_true rfl) (c144 S1_ C1_ O1_ d1_ I1_ (fun h1222 kc1222 vv1222 LN1222 L1222 cs1222 hk1222 e1222 T1222 U1222 => zbk_v ?_))
      have Z1222 := Z.cls T1222
      have t1222 := T1222.1.2
      obtain ⟨⟨Zs2, Zb2⟩, S2_, ⟨τ2_, α2_, C2_⟩, O2_, I2_, ⟨n02_, R2_⟩, d2_, f2_⟩ := id Z1222
      have HM2 := R2_.1
      have HH2 := C2_.1
      refine zr_istore (L' := [some (.ref _), some (.ref _), some (.ref _), some (.ref _), some (.int (zJ _)), some (.int (zJ _)), _, _]) zi238_1225 rfl rfl ?_
      refine zr_aload_n zi238_1227 rfl ?_
      refine zr_aload_n zi238_1228 rfl ?_
      refine zr_iload zi238_1229 rfl ?_
      refine zr_iconst (v := zJ 1) zi238_1231 rfl ?_
      refine zr_iaddN zi238_1232 ?_
      refine zr_ialoadN zi238_1233 Zs2 rfl (by omega) (by first | omega | (simp only [List.length_set, zpt_len]; omega)) ?_
      refine zr_virtual zi238_1234 rfl rfl (HM2.at0 rfl) rfl rfl ?_
      refine zcall_dep (d := 15) (Nat.le_of_ble_eq_true rfl) (c230 R2_ (fun h1234 v1234 n1234 le1234 B1234 ms1234 N1234 RR1234 => zbk_v ?_))
      have Z1234 := Z1222.ref N1234
      have t1234 := N1234.1.2
      have Rl1234 : zRel L1222 B1234 := by first | exact zrel58 C1_ Rl cs1222 e1222 ms1234 | contradiction
      refine zr_istore (L' := [some (.ref _), some (.ref _), some (.ref _), some (.ref _), some (.int (zJ _)), some (.int (zJ _)), some (.int _), _]) zi238_1237 rfl rfl ?_
      refine zr_goto zi238_1239 rfl ?_
      refine zr_iincN (z := 5) (L' := [some (.ref _), some (.ref _), some (.ref _), some (.ref _), some (.int (zJ _)), some (.int (zJ _)), some (.int _), _]) zi238_1295 rfl rfl rfl rfl ?_
      refine zr_goto zi238_1298 rfl ?_
      have e5 : 5 * (k + 1) = 5 * k + 5 := Nat.mul_succ 5 k
      have ihk := ih27 (by omega)
      rw [e5] at ihk
      exact ihk _ _ _ _ _ _ _ _ Z1234 Rl1234 (by omega) (by omega) (by omega)
    · refine zr_tableL zi238_43 (by decide) rfl rfl ?_
      refine zr_aload_n zi238_1242 rfl ?_
      refine zr_aload_n zi238_1243 rfl ?_
      refine zr_iload zi238_1244 rfl ?_
      refine zr_iconst (v := zJ 1) zi238_1246 rfl ?_
      refine zr_iaddN zi238_1247 ?_
      refine zr_ialoadN zi238_1248 Zs1 rfl (by omega) (by first | omega | (simp only [List.length_set, zpt_len]; omega)) ?_
      refine zr_aload_n zi238_1249 rfl ?_
      refine zr_iload zi238_1250 rfl ?_
      refine zr_iconst (v := zJ 2) zi238_1252 rfl ?_
      refine zr_iaddN zi238_1253 ?_
      refine zr_ialoadN zi238_1254 Zs1 rfl (by omega) (by first | omega | (simp only [List.length_set, zpt_len]; omega)) ?_
      refine zr_aload_n zi238_1255 rfl ?_
      refine zr_static zi238_1256 rfl rfl rfl rfl ?_
      refine zcall_dep (d := 3) (Nat.le_of_ble_eq_true rfl) (c145 S1_ C1_ O1_ d1_ I1_ (fun h1256 kc1256 vv1256 LN1256 L1256 cs1256 hk1256 e1256 T1256 U1256 => zbk_v ?_))
      have Z1256 := Z.cls T1256
      have t1256 := T1256.1.2
      obtain ⟨⟨Zs2, Zb2⟩, S2_, ⟨τ2_, α2_, C2_⟩, O2_, I2_, ⟨n02_, R2_⟩, d2_, f2_⟩ := id Z1256
      have HM2 := R2_.1
      have HH2 := C2_.1
      refine zr_istore (L' := [some (.ref _), some (.ref _), some (.ref _), some (.ref _), some (.int (zJ _)), some (.int (zJ _)), _, _]) zi238_1259 rfl rfl ?_
      refine zr_aload_n zi238_1261 rfl ?_
      refine zr_aload_n zi238_1262 rfl ?_
      refine zr_iload zi238_1263 rfl ?_
      refine zr_iconst (v := zJ 1) zi238_1265 rfl ?_
      refine zr_iaddN zi238_1266 ?_
      refine zr_ialoadN zi238_1267 Zs2 rfl (by omega) (by first | omega | (simp only [List.length_set, zpt_len]; omega)) ?_
      refine zr_aload_n zi238_1268 rfl ?_
      refine zr_iload zi238_1269 rfl ?_
      refine zr_iconst (v := zJ 2) zi238_1271 rfl ?_
      refine zr_iaddN zi238_1272 ?_
      refine zr_ialoadN zi238_1273 Zs2 rfl (by omega) (by first | omega | (simp only [List.length_set, zpt_len]; omega)) ?_
      refine zr_virtual zi238_1274 rfl rfl (HM2.at0 rfl) rfl rfl ?_
      refine zcall_dep (d := 7) (Nat.le_of_ble_eq_true rfl) (c233 R2_ S2_ (fun h1274 v1274 n1274 le1274 B1274 ms1274 N1274 RR1274 => zbk_v ?_))
      have Z1274 := Z1256.ref N1274
      have t1274 := N1274.1.2
      have Rl1274 : zRel L1256 B1274 := by first | exact zrel61 C1_ Rl cs1256 e1256 ms1274 | contradiction
      refine zr_istore (L' := [some (.ref _), some (.ref _), some (.ref _), some (.ref _), some (.int (zJ _)), some (.int (zJ _)), some (.int _), _]) zi238_1277 rfl rfl ?_
      refine zr_goto zi238_1279 rfl ?_
      refine zr_iincN (z := 5) (L' := [some (.ref _), some (.ref _), some (.ref _), some (.ref _), some (.int (zJ _)), some (.int (zJ _)), some (.int _), _]) zi238_1295 rfl rfl rfl rfl ?_
      refine zr_goto zi238_1298 rfl ?_
      have e5 : 5 * (k + 1) = 5 * k + 5 := Nat.mul_succ 5 k
      have ihk := ih27 (by omega)
      rw [e5] at ihk
      exact ihk _ _ _ _ _ _ _ _ Z1274 Rl1274 (by omega) (by omega) (by omega)
    · refine zr_tableL zi238_43 (by decide) rfl rfl ?_
      refine zr_aload_n zi238_1282 rfl ?_
      refine zr_virtual zi238_1283 rfl rfl (HH1.1.at0 rfl) rfl rfl ?_
      refine zcall_dep (d := 18) (Nat.le_of_ble_eq_true rfl) (c10 S1_ C1_ (fun v1283 dv1283 h1283 L1283 τx αx E1283 F1283 C1283 => zbk_v ?_))
      have Z1283 := Z.cls (yT.ofK Z E1283 F1283 C1283)
      have t1283 := F1283.2
      obtain ⟨⟨Zs2, Zb2⟩, S2_, ⟨τ2_, α2_, C2_⟩, O2_, I2_, ⟨n02_, R2_⟩, d2_, f2_⟩ := id Z1283
      have HM2 := R2_.1
      have HH2 := C2_.1
      have Rl1283 := zrel_eqA Rl E1283
      refine zr_pop2 zi238_1286 rfl ?_
      refine zr_aload_n zi238_1287 rfl ?_
      refine zr_virtual zi238_1288 rfl rfl (HM2.at0 rfl) rfl rfl ?_
      refine zcall_dep (d := 15) (Nat.le_of_ble_eq_true rfl) (c236 R2_ S2_ (fun h1288 v1288 n1288 le1288 B1288 ms1288 N1288 RR1288 => zbk_v ?_))
      have Z1288 := Z1283.ref N1288
      have t1288 := N1288.1.2
      have Rl1288 := zrel_ref Rl1283 ms1288.1
      refine zr_pop2 zi238_1291 rfl ?_
      refine zr_goto zi238_1292 rfl ?_
      refine zr_iincN (z := 5) (L' := [some (.ref _), some (.ref _), some (.ref _), some (.ref _), some (.int (zJ _)), _, _, _]) zi238_1295 rfl rfl rfl rfl ?_
      refine zr_goto zi238_1298 rfl ?_
      have e5 : 5 * (k + 1) = 5 * k + 5 := Nat.mul_succ 5 k
      have ihk := ih27 (by omega)
      rw [e5] at ihk
      exact ihk _ _ _ _ _ _ _ _ Z1288 Rl1288 (by omega) (by omega) (by omega)
    · refine zr_tableD zi238_43 (by decide) rfl ?_
      refine zr_iincN (z := 5) (L' := [some (.ref _), some (.ref _), some (.ref _), some (.ref _), some (.int (zJ _)), _, _, _]) zi238_1295 rfl rfl rfl rfl ?_
      refine zr_goto zi238_1298 rfl ?_
      have e5 : 5 * (k + 1) = 5 * k + 5 := Nat.mul_succ 5 k
      have ihk := ih27 (by omega)
      rw [e5] at ihk
      exact ihk _ _ _ _ _ _ _ _ Z Rl (by omega) (by omega) (by omega)
    · refine zr_tableD zi238_43 (by decide) rfl ?_
      refine zr_iincN (z := 5) (L' := [some (.ref _), some (.ref _), some (.ref _), some (.ref _), some (.int (zJ _)), _, _, _]) zi238_1295 rfl rfl rfl rfl ?_
      refine zr_goto zi238_1298 rfl ?_
      have e5 : 5 * (k + 1) = 5 * k + 5 := Nat.mul_succ 5 k
      have ihk := ih27 (by omega)
      rw [e5] at ihk
      exact ihk _ _ _ _ _ _ _ _ Z Rl (by omega) (by omega) (by omega)
    · refine zr_tableD zi238_43 (by decide) rfl ?_
      refine zr_iincN (z := 5) (L' := [some (.ref _), some (.ref _), some (.ref _), some (.ref _), some (.int (zJ _)), _, _, _]) zi238_1295 rfl rfl rfl rfl ?_
      refine zr_goto zi238_1298 rfl ?_
      have e5 : 5 * (k + 1) = 5 * k + 5 := Nat.mul_succ 5 k
      have ihk := ih27 (by omega)
      rw [e5] at ihk
      exact ihk _ _ _ _ _ _ _ _ Z Rl (by omega) (by omega) (by omega)
    · refine zr_tableD zi238_43 (by decide) rfl ?_
      refine zr_iincN (z := 5) (L' := [some (.ref _), some (.ref _), some (.ref _), some (.ref _), some (.int (zJ _)), _, _, _]) zi238_1295 rfl rfl rfl rfl ?_
      refine zr_goto zi238_1298 rfl ?_
      have e5 : 5 * (k + 1) = 5 * k + 5 := Nat.mul_succ 5 k
      have ihk := ih27 (by omega)
      rw [e5] at ihk
      exact ihk _ _ _ _ _ _ _ _ Z Rl (by omega) (by omega) (by omega)
    · refine zr_tableD zi238_43 (by decide) rfl ?_
      refine zr_iincN (z := 5) (L' := [some (.ref _), some (.ref _), some (.ref _), some (.ref _), some (.int (zJ _)), _, _, _]) zi238_1295 rfl rfl rfl rfl ?_
      refine zr_goto zi238_1298 rfl ?_
      have e5 : 5 * (k + 1) = 5 * k + 5 := Nat.mul_succ 5 k
      have ihk := ih27 (by omega)
      rw [e5] at ihk
      exact ihk _ _ _ _ _ _ _ _ Z Rl (by omega) (by omega) (by omega)
