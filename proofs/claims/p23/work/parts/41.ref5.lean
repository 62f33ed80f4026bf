/-! ===== the reference: copies, sweeps, turns ===== -/
theorem c191 {E : zEnv} {h : zPH} {Q : zOut → zPH → Prop} {r n : Nat} {x0 x1 x2 x3 : List Int32} (R0 : yBk h r (rRows r x0 x1 x2 x3)) (hl : x0.length = n ∧ x1.length = n ∧ x2.length = n ∧ x3.length = n) (hn : n ≤ 25) (K : ∀ h1 q, yFr (fun x => h.2.1 ≤ x) h h1 5 (4 + 4 * n) → q = h.2.1 → h1.2.1 = h.2.1 + 5 → yBk h1 q (rRows q x0 x1 x2 x3) → Q (.inl (some (.ref q))) h1) : zcall E 0 191 [.ref r] h Q := by
  obtain ⟨l0, l1, l2, l3⟩ := hl
  show zwp E _ 191 (0, [some (.ref _), none, none], [], _) Q
  refine zr_iconst (v := zJ 4) zi191_0 rfl ?_
  refine zr_aload_n zi191_1 rfl ?_
  refine zr_iconst (v := zJ 0) zi191_2 rfl ?_
  refine zr_aaloadN zi191_3 (R0.at0 rfl) rfl (by omega) rfl ?_
  refine zr_arraylength (v := zJ n) zi191_4 (R0.at 1 rfl) rfl (zlenJ l0) ?_
  refine zr_mul2N zi191_5 (by omega) (by omega) ?_
  refine zw_new4 (fun h5 q F5 eq5 Z5 n5 => ?_)
  have R5 := (F5 (fun _ => False)).bk R0 (fun _ _ _ z => z)
  have hr : r + 5 ≤ h.2.1 := R0.1
  refine zr_astore_n (L' := [some (.ref _), some (.ref _), none]) zi191_9 rfl rfl ?_
  refine zr_iconst (v := zJ 0) zi191_10 rfl ?_
  refine zr_istore_n (L' := [some (.ref _), some (.ref _), some (.int (zJ _))]) zi191_11 rfl rfl ?_
  refine zr_iload_n zi191_12 rfl ?_
  refine zr_iconst (v := zJ 4) zi191_13 rfl ?_
  refine zr_icmp_geN zi191_14 rfl (by omega) (by omega) (fun q14 => absurd q14 (by omega)) (fun q14 => ?_)
  refine zr_aload_n zi191_17 rfl ?_
  refine zr_iload_n zi191_18 rfl ?_
  refine zr_aaloadN zi191_19 (R5.at0 rfl) rfl (by omega) rfl ?_
  refine zr_iconst (v := zJ 0) zi191_20 rfl ?_
  refine zr_aload_n zi191_21 rfl ?_
  refine zr_iload_n zi191_22 rfl ?_
  refine zr_aaloadN zi191_23 (Z5.at0 rfl) rfl (by omega) rfl ?_
  refine zr_iconst (v := zJ 0) zi191_24 rfl ?_
  refine zr_aload_n zi191_25 rfl ?_
  refine zr_iload_n zi191_26 rfl ?_
  refine zr_aaloadN zi191_27 (Z5.at0 rfl) rfl (by omega) rfl ?_
  refine zr_arraylength (v := zJ n) zi191_28 (Z5.at 1 rfl) rfl (zlenJ List.length_replicate) ?_
  refine zr_copyN (q := n) zi191_29 (R5.at 1 rfl) (Z5.at 1 rfl) ⟨by omega, by omega, by omega⟩ (by omega) (by rw [List.length_replicate]; omega) rfl ?_
  rw [show zcpi x0 (List.replicate n 0) 0 0 n = x0 by have := zcpi_all (f := x0) (g := List.replicate n 0) (by rw [List.length_replicate]; omega); rw [List.length_replicate] at this; exact this]
  refine zw_bkX (N := 5) Z5 (k := 1) rfl (by decide) (Nat.le_of_ble_eq_true rfl) (fun h29a F29a Z29a d29a => ?_)
  have R29a := F29a.bk R5 (fun x z1 z2 z3 => by have z2 : x < r + 5 := z2; have := z3.1; omega)
  have e29a := d29a.trans n5
  refine zr_iincN (z := 1) (L' := [some (.ref _), some (.ref _), some (.int (zJ _))]) zi191_32 rfl rfl rfl rfl ?_
  refine zr_goto zi191_35 rfl ?_
  refine zr_iload_n zi191_12 rfl ?_
  refine zr_iconst (v := zJ 4) zi191_13 rfl ?_
  refine zr_icmp_geN zi191_14 rfl (by omega) (by omega) (fun q14 => absurd q14 (by omega)) (fun q14 => ?_)
  refine zr_aload_n zi191_17 rfl ?_
  refine zr_iload_n zi191_18 rfl ?_
  refine zr_aaloadN zi191_19 (R29a.at0 rfl) rfl (by omega) rfl ?_
  refine zr_iconst (v := zJ 0) zi191_20 rfl ?_
  refine zr_aload_n zi191_21 rfl ?_
  refine zr_iload_n zi191_22 rfl ?_
  refine zr_aaloadN zi191_23 (Z29a.at0 rfl) rfl (by omega) rfl ?_
  refine zr_iconst (v := zJ 0) zi191_24 rfl ?_
  refine zr_aload_n zi191_25 rfl ?_
  refine zr_iload_n zi191_26 rfl ?_
  refine zr_aaloadN zi191_27 (Z29a.at0 rfl) rfl (by omega) rfl ?_
  refine zr_arraylength (v := zJ n) zi191_28 (Z29a.at 2 rfl) rfl (zlenJ List.length_replicate) ?_
  refine zr_copyN (q := n) zi191_29 (R29a.at 2 rfl) (Z29a.at 2 rfl) ⟨by omega, by omega, by omega⟩ (by omega) (by rw [List.length_replicate]; omega) rfl ?_
  rw [show zcpi x1 (List.replicate n 0) 0 0 n = x1 by have := zcpi_all (f := x1) (g := List.replicate n 0) (by rw [List.length_replicate]; omega); rw [List.length_replicate] at this; exact this]
  refine zw_bkX (N := 5) Z29a (k := 2) rfl (by decide) (Nat.le_of_ble_eq_true rfl) (fun h29b F29b Z29b d29b => ?_)
  have R29b := F29b.bk R29a (fun x z1 z2 z3 => by have z2 : x < r + 5 := z2; have := z3.1; omega)
  have e29b := d29b.trans e29a
  refine zr_iincN (z := 1) (L' := [some (.ref _), some (.ref _), some (.int (zJ _))]) zi191_32 rfl rfl rfl rfl ?_
  refine zr_goto zi191_35 rfl ?_
  refine zr_iload_n zi191_12 rfl ?_
  refine zr_iconst (v := zJ 4) zi191_13 rfl ?_
  refine zr_icmp_geN zi191_14 rfl (by omega) (by omega) (fun q14 => absurd q14 (by omega)) (fun q14 => ?_)
  refine zr_aload_n zi191_17 rfl ?_
  refine zr_iload_n zi191_18 rfl ?_
  refine zr_aaloadN zi191_19 (R29b.at0 rfl) rfl (by omega) rfl ?_
  refine zr_iconst (v := zJ 0) zi191_20 rfl ?_
  refine zr_aload_n zi191_21 rfl ?_
  refine zr_iload_n zi191_22 rfl ?_
  refine zr_aaloadN zi191_23 (Z29b.at0 rfl) rfl (by omega) rfl ?_
  refine zr_iconst (v := zJ 0) zi191_24 rfl ?_
  refine zr_aload_n zi191_25 rfl ?_
  refine zr_iload_n zi191_26 rfl ?_
  refine zr_aaloadN zi191_27 (Z29b.at0 rfl) rfl (by omega) rfl ?_
  refine zr_arraylength (v := zJ n) zi191_28 (Z29b.at 3 rfl) rfl (zlenJ List.length_replicate) ?_
  refine zr_copyN (q := n) zi191_29 (R29b.at 3 rfl) (Z29b.at 3 rfl) ⟨by omega, by omega, by omega⟩ (by omega) (by rw [List.length_replicate]; omega) rfl ?_
  rw [show zcpi x2 (List.replicate n 0) 0 0 n = x2 by have := zcpi_all (f := x2) (g := List.replicate n 0) (by rw [List.length_replicate]; omega); rw [List.length_replicate] at this; exact this]
  refine zw_bkX (N := 5) Z29b (k := 3) rfl (by decide) (Nat.le_of_ble_eq_true rfl) (fun h29c F29c Z29c d29c => ?_)
  have R29c := F29c.bk R29b (fun x z1 z2 z3 => by have z2 : x < r + 5 := z2; have := z3.1; omega)
  have e29c := d29c.trans e29b
  refine zr_iincN (z := 1) (L' := [some (.ref _), some (.ref _), some (.int (zJ _))]) zi191_32 rfl rfl rfl rfl ?_
  refine zr_goto zi191_35 rfl ?_
  refine zr_iload_n zi191_12 rfl ?_
  refine zr_iconst (v := zJ 4) zi191_13 rfl ?_
  refine zr_icmp_geN zi191_14 rfl (by omega) (by omega) (fun q14 => absurd q14 (by omega)) (fun q14 => ?_)
  refine zr_aload_n zi191_17 rfl ?_
  refine zr_iload_n zi191_18 rfl ?_
  refine zr_aaloadN zi191_19 (R29c.at0 rfl) rfl (by omega) rfl ?_
  refine zr_iconst (v := zJ 0) zi191_20 rfl ?_
  refine zr_aload_n zi191_21 rfl ?_
  refine zr_iload_n zi191_22 rfl ?_
  refine zr_aaloadN zi191_23 (Z29c.at0 rfl) rfl (by omega) rfl ?_
  refine zr_iconst (v := zJ 0) zi191_24 rfl ?_
  refine zr_aload_n zi191_25 rfl ?_
  refine zr_iload_n zi191_26 rfl ?_
  refine zr_aaloadN zi191_27 (Z29c.at0 rfl) rfl (by omega) rfl ?_
  refine zr_arraylength (v := zJ n) zi191_28 (Z29c.at 4 rfl) rfl (zlenJ List.length_replicate) ?_
  refine zr_copyN (q := n) zi191_29 (R29c.at 4 rfl) (Z29c.at 4 rfl) ⟨by omega, by omega, by omega⟩ (by omega) (by rw [List.length_replicate]; omega) rfl ?_
  rw [show zcpi x3 (List.replicate n 0) 0 0 n = x3 by have := zcpi_all (f := x3) (g := List.replicate n 0) (by rw [List.length_replicate]; omega); rw [List.length_replicate] at this; exact this]
  refine zw_bkX (N := 5) Z29c (k := 4) rfl (by decide) (Nat.le_of_ble_eq_true rfl) (fun h29d F29d Z29d d29d => ?_)
  have R29d := F29d.bk R29c (fun x z1 z2 z3 => by have z2 : x < r + 5 := z2; have := z3.1; omega)
  have e29d := d29d.trans e29c
  refine zr_iincN (z := 1) (L' := [some (.ref _), some (.ref _), some (.int (zJ _))]) zi191_32 rfl rfl rfl rfl ?_
  refine zr_goto zi191_35 rfl ?_
  refine zr_iload_n zi191_12 rfl ?_
  refine zr_iconst (v := zJ 4) zi191_13 rfl ?_
  refine zr_icmp_geN zi191_14 rfl (by omega) (by omega) (fun q14 => ?_) (fun q14 => absurd q14 (by omega))
  refine zr_aload_n zi191_38 rfl ?_
  refine zr_areturn zi191_39 rfl ?_
  exact K _ q (((((F5 (fun x => h.2.1 ≤ x)).trans (F29a.mono (fun x _ z => by have := z.1; show h.2.1 ≤ x; omega) (Nat.le_refl _) (Nat.le_refl _))).trans (F29b.mono (fun x _ z => by have := z.1; show h.2.1 ≤ x; omega) (Nat.le_refl _) (Nat.le_refl _))).trans (F29c.mono (fun x _ z => by have := z.1; show h.2.1 ≤ x; omega) (Nat.le_refl _) (Nat.le_refl _))).trans (F29d.mono (fun x _ z => by have := z.1; show h.2.1 ≤ x; omega) (Nat.le_refl _) (Nat.le_refl _))) eq5 e29d Z29d
theorem c198 {E : zEnv} {h : zPH} {Q : zOut → zPH → Prop} (S : ySs E h) {b r c g w hh : Nat} {x0 x1 x2 x3 cl : List Int32} {mi sp : Int32} (P : rB h b r c g w hh x0 x1 x2 x3 cl mi sp) (K : ∀ h1 b1, yFr (fun x => h.2.1 ≤ x) h h1 13 (7 + (3 + (w + hh) + (4 + 4 * (w * hh))) + (4 + 4 * (w * hh))) → b1 = h.2.1 → h1.2.1 = h.2.1 + 13 → rB h1 b1 (b1 + 8) (b1 + 2) (b1 + 1) w hh x0 x1 x2 x3 cl 0 0 → rL0 h1 E (b1 + 1) (zJ 0) → Q (.inl (some (.ref b1))) h1) : zcall E 4 198 [.ref b] h Q := by
  obtain ⟨⟨gw1, gw2, gh1, gh2⟩, ⟨l0, l1, l2, l3, lcl⟩, d1, d2, d3⟩ := P.2.2.2
  have hwh := zwh_b (w := w) (hh := hh) ⟨gw1, gw2, gh1, gh2⟩
  show zwp E _ 198 (0, [some (.ref _), none], [], _) Q
  refine zr_new zi198_0 rfl rfl ?_
  refine zw_new (a := h.2.1) rfl (fun h0 F0 X0 e0 => ?_)
  have P0 := P.fr (F0 (fun _ => False)) (fun _ _ z => z)
  have S0 := (F0 (fun _ => True)).ss S
  have hPl := P.lt
  refine zr_dup zi198_3 rfl ?_
  refine zr_aload_n zi198_4 rfl ?_
  refine zr_getfield zi198_5 (P0.1.at0 rfl) rfl ?_
  refine zr_aload_n zi198_8 rfl ?_
  refine zr_getfield zi198_9 (P0.1.at0 rfl) rfl ?_
  refine zr_special zi198_12 rfl rfl rfl rfl ?_
  refine zcall_dep (d := 3) (Nat.le_of_ble_eq_true rfl) (c154 S0 X0 e0 gw1 gw2 gh1 gh2 (fun h12 F12 e12 M12 G12 => zbk_0 ?_))
  have P12 := P0.fr F12 (fun x z1 z2 => by have := z2.1; rcases z1 with z | z | z <;> (have := z.2; omega))
  refine zr_astore_n (L' := [some (.ref _), some (.ref _)]) zi198_15 rfl rfl ?_
  refine zr_aload_n zi198_16 rfl ?_
  refine zr_aload_n zi198_17 rfl ?_
  refine zr_getfield zi198_18 (P12.1.at0 rfl) rfl ?_
  refine zr_static zi198_21 rfl rfl rfl rfl ?_
  refine zcall_dep (d := 0) (Nat.le_of_ble_eq_true rfl) (c191 P12.rw ⟨l0, l1, l2, l3⟩ hwh.2 (fun h21 q F21 eq21 e21 R21 => zbk_v ?_))
  have hM := M12.lt
  have P21 := P12.fr F21 (fun x z1 z2 => by rcases z1 with z | z | z <;> (have := z.2; omega))
  have M21 := M12.fr F21 (fun x z1 z2 => by rcases z1 with z | z | z <;> (have := z.2; omega))
  obtain ⟨el, eEL, G12⟩ := G12
  have G21 := F21.bk G12 (fun x z1 z2 z3 => by have z2 : x < _ + 1 := z2; omega)
  refine zr_putfield zi198_24 (M21.1.at0 rfl) rfl rfl ?_
  refine rB.wrw M21 R21 ⟨l0, l1, l2, l3⟩ (by omega) (by omega) (fun h24 F24 M24 => ?_)
  have P24 := P21.fr F24 (fun x z1 z2 => by have := z2.1; have := z2.2; rcases z1 with z | z | z <;> (have := z.1; have := z.2; omega))
  have G24 := F24.bk G21 (fun x z1 z2 z3 => by have z2 : x < _ + 1 := z2; have := z3.1; have : x < _ + 1 := z3.2; omega)
  refine zr_aload_n zi198_27 rfl ?_
  refine zr_getfield zi198_28 (P24.1.at0 rfl) rfl ?_
  refine zr_iconst (v := zJ 0) zi198_31 rfl ?_
  refine zr_aload_n zi198_32 rfl ?_
  refine zr_getfield zi198_33 (M24.1.at0 rfl) rfl ?_
  refine zr_iconst (v := zJ 0) zi198_36 rfl ?_
  refine zr_aload_n zi198_37 rfl ?_
  refine zr_getfield zi198_38 (P24.1.at0 rfl) rfl ?_
  refine zr_arraylength (v := zJ (w + hh)) zi198_41 (P24.ca.at0 rfl) rfl (zlenJ lcl) ?_
  refine zr_copyN (q := w + hh) zi198_42 (P24.ca.at0 rfl) (M24.ca.at0 rfl) ⟨by omega, by omega, by omega⟩ (by omega) (by rw [rnc_len]; omega) rfl ?_
  rw [show zcpi cl (rnc (w + hh) (w + hh)) 0 0 (w + hh) = cl by have := zcpi_all (f := cl) (g := rnc (w + hh) (w + hh)) (by rw [rnc_len]; omega); rw [rnc_len] at this; exact this]
  refine rB.wca M24 lcl (fun h42 F42 M42 => ?_)
  have G42 := F42.bk G24 (fun x z1 z2 z3 => by have z2 : x < _ + 1 := z2; have := z3.1; have : x < _ + 1 := z3.2; omega)
  refine zr_aload_n zi198_45 rfl ?_
  refine zr_areturn zi198_46 rfl ?_
  have hq : q = h.2.1 + 8 := by omega
  subst hq
  have mo : ∀ {A : Nat → Prop} {h1 h2 : zPH}, yFr A h1 h2 0 0 → (∀ x, A x → h.2.1 ≤ x) → yFr (fun x => h.2.1 ≤ x) h1 h2 0 0 := fun F hA => F.mono (fun x _ z => hA x z) (Nat.le_refl _) (Nat.le_refl _)
  have n24 := F24.2; have n42 := F42.2
  exact K _ h.2.1 (((((F0 _).trans (F12.mono (fun x _ z => z.1) (Nat.le_refl _) (Nat.le_refl _))).trans (F21.mono (fun x _ z => by show h.2.1 ≤ x; omega) (Nat.le_refl _) (Nat.le_refl _))).trans (mo F24 (fun x z => z.1))).trans (mo F42 (fun x z => by have := z.1; omega))) rfl (by omega) M42 ⟨el, eEL, G42⟩
