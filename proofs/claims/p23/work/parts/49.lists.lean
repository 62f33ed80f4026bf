/-! ===== the reference: lists ===== -/
theorem c122 {E : zEnv} {h : zPH} {Q : zOut → zPH → Prop} {i n : Nat} (hi : i < n) (hn : n < 1000) (K : Q (.inl (some (.int (zJ i)))) h) : zcall E 0 122 [.int (zJ i), .int (zJ n), .null] h Q := by
  show zwp E _ 122 (0, [some (.int (zJ _)), some (.int (zJ _)), some .null], [], _) Q
  refine zr_iload_n zi122_0 rfl ?_
  refine zr_if_ltN zi122_1 rfl (by omega) ?_
  refine zr_iload_n zi122_4 rfl ?_
  refine zr_iload_n zi122_5 rfl ?_
  refine zr_icmp_ltN zi122_6 rfl (by omega) (by omega) (fun q6 => ?_) (fun q6 => absurd q6 (by omega))
  refine zr_iload_n zi122_16 rfl ?_
  refine zr_ireturn zi122_17 rfl ?_
  exact K
theorem c165 {E : zEnv} {h : zPH} {Q : zOut → zPH → Prop} {i n : Nat} (hi : i < n) (hn : n < 1000) (K : Q (.inl (some (.int (zJ i)))) h) : zcall E 1 165 [.int (zJ i), .int (zJ n)] h Q := by
  show zwp E _ 165 (0, [some (.int (zJ _)), some (.int (zJ _))], [], _) Q
  refine zr_iload_n zi165_0 rfl ?_
  refine zr_iload_n zi165_1 rfl ?_
  refine zr_null zi165_2 ?_
  refine zr_static zi165_3 rfl rfl rfl rfl ?_
  refine zcall_dep (d := 0) (Nat.le_of_ble_eq_true rfl) (c122 (by omega) (by omega) (zbk_v ?_))
  refine zr_ireturn zi165_6 rfl ?_
  exact K
theorem c166 {E : zEnv} {h : zPH} {Q : zOut → zPH → Prop} {g e n i t : Nat} {mc : Int32} {ws : List Value} (Lg : yBk h g [(8, [.ref e, .int (zJ n), .int mc])]) (Xe : h.1 e = some (69, ws)) (hi : i < n) (hn : n < 1000) (hv : ws[i]? = some (.ref t)) (K : Q (.inl (some (.ref t))) h) : zcall E 0 166 [.ref g, .int (zJ i)] h Q := by
  show zwp E _ 166 (0, [some (.ref _), some (.int (zJ _))], [], _) Q
  refine zr_aload_n zi166_0 rfl ?_
  refine zr_getfield zi166_1 (Lg.at0 rfl) rfl ?_
  refine zr_iload_n zi166_4 rfl ?_
  refine zr_aaloadN zi166_5 Xe rfl (by omega) hv ?_
  refine zr_areturn zi166_6 rfl ?_
  exact K
theorem c164r {E : zEnv} {h : zPH} {Q : zOut → zPH → Prop} {g e n i t : Nat} {mc : Int32} {ws : List Value} (Lg : yBk h g [(8, [.ref e, .int (zJ n), .int mc])]) (Xe : h.1 e = some (69, ws)) (hi : i < n) (hn : n < 1000) (hv : ws[i]? = some (.ref t)) (K : Q (.inl (some (.ref t))) h) : zcall E 2 164 [.ref g, .int (zJ i)] h Q := by
  show zwp E _ 164 (0, [some (.ref _), some (.int (zJ _))], [], _) Q
  refine zr_iload_n zi164_0 rfl ?_
  refine zr_aload_n zi164_1 rfl ?_
  refine zr_getfield zi164_2 (Lg.at0 rfl) rfl ?_
  refine zr_static zi164_5 rfl rfl rfl rfl ?_
  refine zcall_dep (d := 1) (Nat.le_of_ble_eq_true rfl) (c165 (by omega) (by omega) (zbk_v ?_))
  refine zr_pop zi164_8 rfl ?_
  refine zr_aload_n zi164_9 rfl ?_
  refine zr_iload_n zi164_10 rfl ?_
  refine zr_virtual zi164_11 rfl rfl (Lg.at0 rfl) rfl rfl ?_
  refine zcall_dep (d := 0) (Nat.le_of_ble_eq_true rfl) (c166 Lg Xe hi hn hv (zbk_v ?_))
  refine zr_areturn zi164_14 rfl ?_
  exact K
theorem c164 {E : zEnv} {h : zPH} {Q : zOut → zPH → Prop} {g e i t : Nat} {vs : List Value} (H : rL h E g e vs) (hv : vs[i]? = some (.ref t)) (K : Q (.inl (some (.ref t))) h) : zcall E 2 164 [.ref g, .int (zJ i)] h Q := by
  obtain ⟨hl, q, mc, G, Y⟩ := H
  have hi : i < vs.length := by
    rcases Nat.lt_or_ge i vs.length with z | z
    · exact z
    · rw [List.getElem?_eq_none z] at hv; cases hv
  rcases Y with ⟨rfl, -, -⟩ | ⟨rfl, -, Y⟩
  · cases hv
  · exact c164r G (Y.at0 rfl) hi (by omega) (by rw [List.getElem?_append_left hi]; exact hv) K
theorem c160 {E : zEnv} {h : zPH} {Q : zOut → zPH → Prop} {g q0 : Nat} {mc : Int32} (Lg : yBk h g [(8, [.ref q0, .int (zJ 0), .int mc])]) (hE : E.1 3 = .ref q0) (Xq : h.1 q0 = some (101, [])) (hql : q0 < h.2.1) (heg : q0 ≠ g) (hgl : g < h.2.1) (K : ∀ h1 e, yFr (fun x => h.2.1 ≤ x ∨ x = g) h h1 1 10 → e = h.2.1 → h1.2.1 = h.2.1 + 1 → yBk h1 g [(8, [.ref e, .int (zJ 0), .int mc])] → h1.1 e = some (69, List.replicate 10 .null) → Q (.inl (some (.ref e))) h1) : zcall E 2 160 [.ref g, .int (zJ 1)] h Q := by
  show zwp E _ 160 (0, [some (.ref _), some (.int (zJ _)), none, none], [], _) Q
  refine zr_aload_n zi160_0 rfl ?_
  refine zr_getfield zi160_1 (Lg.at0 rfl) rfl ?_
  refine zr_arraylength (v := zJ 0) zi160_4 Xq rfl rfl ?_
  refine zr_istore_n (L' := [some (.ref _), some (.int (zJ _)), some (.int (zJ _)), none]) zi160_5 rfl rfl ?_
  refine zr_iload_n zi160_6 rfl ?_
  refine zr_if_gtN zi160_7 rfl (by omega) (fun q7 => absurd q7 (by omega)) (fun q7 => ?_)
  refine zr_aload_n zi160_10 rfl ?_
  refine zr_getfield zi160_11 (Lg.at0 rfl) rfl ?_
  refine zr_getstatic zi160_14 rfl hE ?_
  refine zr_acmp_eq zi160_17 rfl (fun q17 => ?_) (fun q17 => absurd q17 (fun z => z rfl))
  refine zr_aload_n zi160_45 rfl ?_
  refine zr_bipush (v := zJ 10) zi160_46 rfl ?_
  refine zr_iload_n zi160_48 rfl ?_
  refine zr_static zi160_49 rfl rfl rfl rfl ?_
  refine zcall_dep (d := 0) (Nat.le_of_ble_eq_true rfl) (c117 (by omega) (by omega) (zbk_v ?_))
  refine zr_anewarrayN zi160_52 (by omega) ?_
  refine zw_n (fun h52 e F52 ee Xe N52 n52 => ?_)
  have L52 := Lg.f1 (F52 (fun _ => False)) (fun z => z)
  refine zr_dup_x1 zi160_55 rfl rfl ?_
  refine zr_putfield zi160_56 (L52.at0 rfl) rfl rfl ?_
  refine zw_bkX0 (N := 1) L52 rfl (by decide) (Nat.le_refl _) (fun h56 F56 L56 d56 => ?_)
  have Xe56 := F56.c (by omega) (fun z => by have := z.1; have := z.2; omega) Xe
  refine zr_areturn zi160_59 rfl ?_
  exact K _ e ((F52 _).trans (F56.mono (fun x _ z => Or.inr (by have z1 := z.1; have z2 := z.2; omega)) (Nat.le_refl _) (Nat.le_refl _))) ee (by omega) L56 Xe56
theorem c159 {E : zEnv} {h : zPH} {Q : zOut → zPH → Prop} {g q0 : Nat} {mc : Int32} (Lg : yBk h g [(8, [.ref q0, .int (zJ 0), .int mc])]) (hE : E.1 3 = .ref q0) (Xq : h.1 q0 = some (101, [])) (hql : q0 < h.2.1) (heg : q0 ≠ g) (hgl : g < h.2.1) (K : ∀ h1 e, yFr (fun x => h.2.1 ≤ x ∨ x = g) h h1 1 10 → e = h.2.1 → h1.2.1 = h.2.1 + 1 → yBk h1 g [(8, [.ref e, .int (zJ 0), .int mc])] → h1.1 e = some (69, List.replicate 10 .null) → Q (.inl (some (.ref e))) h1) : zcall E 3 159 [.ref g] h Q := by
  show zwp E _ 159 (0, [some (.ref _)], [], _) Q
  refine zr_aload_n zi159_0 rfl ?_
  refine zr_aload_n zi159_1 rfl ?_
  refine zr_getfield zi159_2 (Lg.at0 rfl) rfl ?_
  refine zr_iconst (v := zJ 1) zi159_5 rfl ?_
  refine zr_iaddN zi159_6 ?_
  refine zr_virtual zi159_7 rfl rfl (Lg.at0 rfl) rfl rfl ?_
  refine zcall_dep (d := 2) (Nat.le_of_ble_eq_true rfl) (c160 Lg hE Xq hql heg hgl (fun h7 e F7 e7 n7 L7 Xe7 => zbk_v ?_))
  refine zr_areturn zi159_10 rfl ?_
  exact K _ e F7 e7 n7 L7 Xe7
theorem c158a {E : zEnv} {h : zPH} {Q : zOut → zPH → Prop} {g q0 t : Nat} {mc : Int32} {ct : zCel} (Lg : yBk h g [(8, [.ref q0, .int (zJ 0), .int mc])]) (hE : E.1 3 = .ref q0) (Xq : h.1 q0 = some (101, [])) (hql : q0 < h.2.1) (heg : q0 ≠ g) (hgl : g < h.2.1) (Xt : h.1 t = some ct) (htl : t < h.2.1) (htg : t ≠ g) (hz : zasg 69 ct.1 = true) (K : ∀ h1 e, yFr (fun x => h.2.1 ≤ x ∨ x = g) h h1 1 10 → e = h.2.1 → h1.2.1 = h.2.1 + 1 → (∃ mc1, yBk h1 g [(8, [.ref e, .int (zJ 1), .int mc1])]) → yBk h1 e [(69, [.ref t] ++ List.replicate 9 .null)] → Q (.inl none) h1) : zcall E 4 158 [.ref g, .ref t, .ref q0, .int (zJ 0)] h Q := by
  obtain ⟨tt, tv⟩ := ct
  show zwp E _ 158 (0, [some (.ref _), some (.ref _), some (.ref _), some (.int (zJ _))], [], _) Q
  refine zr_iload_n zi158_0 rfl ?_
  refine zr_aload_n zi158_1 rfl ?_
  refine zr_arraylength (v := zJ 0) zi158_2 Xq rfl rfl ?_
  refine zr_icmp_neN zi158_3 rfl (by omega) (by omega) (fun q3 => absurd q3 (fun z => z rfl)) (fun q3 => ?_)
  refine zr_aload_n zi158_6 rfl ?_
  refine zr_virtual zi158_7 rfl rfl (Lg.at0 rfl) rfl rfl ?_
  refine zcall_dep (d := 3) (Nat.le_of_ble_eq_true rfl) (c159 Lg hE Xq hql heg hgl (fun h7 e F7 e7 n7 L7 Xe7 => zbk_v ?_))
  have Xt7 := F7.c htl (fun z => by rcases z with z | z; omega; exact htg z) Xt
  refine zr_astore_n (L' := [some (.ref _), some (.ref _), some (.ref _), some (.int (zJ _))]) zi158_10 rfl rfl ?_
  refine zr_aload_n zi158_11 rfl ?_
  refine zr_iload_n zi158_12 rfl ?_
  refine zr_aload_n zi158_13 rfl ?_
  refine zr_aastoreN zi158_14 Xe7 Xt7 hz (by omega) rfl ?_
  refine zw_c (N := h.2.1) Xe7 (by decide) (by omega) (fun h14 F14 Xe14 N14 d14 => ?_)
  have L14 := L7.f1 F14 (fun z => by have z : _ ≤ g := z; omega)
  have dd : h14.2.1 = h7.2.1 := by rw [d14]
  refine zr_aload_n zi158_15 rfl ?_
  refine zr_iload_n zi158_16 rfl ?_
  refine zr_iconst (v := zJ 1) zi158_17 rfl ?_
  refine zr_iaddN zi158_18 ?_
  refine zr_putfield zi158_19 (L14.at0 rfl) rfl rfl ?_
  refine zw_bkX0 (N := 1) L14 rfl (by decide) (Nat.le_refl _) (fun h19 F19 L19 d19 => ?_)
  have Xe19 := F19.c (by omega) (fun z => by have := z.1; have := z.2; omega) Xe14
  refine zr_return zi158_22 rfl ?_
  exact K _ e ((F7.trans (F14.mono (fun x _ z => Or.inl z) (Nat.le_refl _) (Nat.le_refl _))).trans (F19.mono (fun x _ z => Or.inr (by have z1 := z.1; have z2 := z.2; omega)) (Nat.le_refl _) (Nat.le_refl _))) e7 (by omega) ⟨_, L19⟩ ⟨by show e + 1 ≤ _; omega, fun k cc hk => by match k, hk with | 0, hk => (rw [← Option.some.inj hk]; exact Xe19)⟩
theorem c157a {E : zEnv} {h : zPH} {Q : zOut → zPH → Prop} {g q0 t : Nat} {mc : Int32} {ct : zCel} (Lg : yBk h g [(8, [.ref q0, .int (zJ 0), .int mc])]) (hE : E.1 3 = .ref q0) (Xq : h.1 q0 = some (101, [])) (hql : q0 < h.2.1) (heg : q0 ≠ g) (hgl : g < h.2.1) (Xt : h.1 t = some ct) (htl : t < h.2.1) (htg : t ≠ g) (hz : zasg 69 ct.1 = true) (K : ∀ h1 e, yFr (fun x => h.2.1 ≤ x ∨ x = g) h h1 1 10 → e = h.2.1 → h1.2.1 = h.2.1 + 1 → (∃ mc1, yBk h1 g [(8, [.ref e, .int (zJ 1), .int mc1])]) → yBk h1 e [(69, [.ref t] ++ List.replicate 9 .null)] → Q (.inl (some (.int (zB true)))) h1) : zcall E 5 157 [.ref g, .ref t] h Q := by
  show zwp E _ 157 (0, [some (.ref _), some (.ref _)], [], _) Q
  refine zr_aload_n zi157_0 rfl ?_
  refine zr_dup zi157_1 rfl ?_
  refine zr_getfield zi157_2 (Lg.at0 rfl) rfl ?_
  refine zr_iconst (v := zJ 1) zi157_5 rfl ?_
  refine zr_iadd zi157_6 ?_
  refine zr_putfield zi157_7 (Lg.at0 rfl) rfl rfl ?_
  refine zw_bkX0 (N := 1) Lg rfl (by decide) (Nat.le_refl _) (fun h7 F7 L7 d7 => ?_)
  have Xt7 := F7.c (by omega) (fun z => htg (by have := z.1; have := z.2; omega)) Xt
  have Xel7 := F7.c (by omega) (fun z => heg (by have := z.1; have := z.2; omega)) Xq
  have L7_ := L7
  refine zr_aload_n zi157_10 rfl ?_
  refine zr_aload_n zi157_11 rfl ?_
  refine zr_aload_n zi157_12 rfl ?_
  refine zr_getfield zi157_13 (L7.at0 rfl) rfl ?_
  refine zr_aload_n zi157_16 rfl ?_
  refine zr_getfield zi157_17 (L7.at0 rfl) rfl ?_
  refine zr_virtual zi157_20 rfl rfl (L7.at0 rfl) rfl rfl ?_
  refine zcall_dep (d := 4) (Nat.le_of_ble_eq_true rfl) (c158a L7_ hE Xel7 (by omega) heg (by omega) Xt7 (by omega) htg hz (fun h20 e F20 e20 n20 L20 X20 => zbk_0 ?_))
  refine zr_iconst (v := zB true) zi157_23 rfl ?_
  refine zr_zreturnB zi157_24 rfl ?_
  exact K _ e (((F7.mono (fun x _ z => Or.inr (by have z1 := z.1; have z2 := z.2; omega)) (Nat.le_refl _) (Nat.le_refl _)).fit (Nat.le_refl _) (Nat.le_refl _)).trans (F20.mono (fun x _ z => by rcases z with z | z; exact Or.inl (by omega); exact Or.inr z) (Nat.le_refl _) (Nat.le_refl _)) |>.fit (by omega) (by omega)) (by omega) (by omega) L20 X20
theorem c158b {E : zEnv} {h : zPH} {Q : zOut → zPH → Prop} {g e n t : Nat} {mc : Int32} {ct : zCel} {vs : List Value} (Lg : yBk h g [(8, [.ref e, .int (zJ n), .int mc])]) (hn : vs.length = n) (hn10 : n < 10) (Xq : yBk h e [(69, vs ++ List.replicate (10 - n) .null)]) (heg : e ≠ g) (Xt : h.1 t = some ct) (htl : t < h.2.1) (htg : t ≠ g) (hz : zasg 69 ct.1 = true) (K : ∀ h1, yFr (fun x => x = e ∨ x = g) h h1 0 0 → (∃ mc1, yBk h1 g [(8, [.ref e, .int (zJ (n + 1)), .int mc1])]) → yBk h1 e [(69, (vs ++ [.ref t]) ++ List.replicate (10 - (n + 1)) .null)] → Q (.inl none) h1) : zcall E 4 158 [.ref g, .ref t, .ref e, .int (zJ n)] h Q := by
  obtain ⟨tt, tv⟩ := ct
  have h10 : (vs ++ List.replicate (10 - n) Value.null).length = 10 := by rw [List.length_append, List.length_replicate]; omega
  show zwp E _ 158 (0, [some (.ref _), some (.ref _), some (.ref _), some (.int (zJ _))], [], _) Q
  refine zr_iload_n zi158_0 rfl ?_
  refine zr_aload_n zi158_1 rfl ?_
  refine zr_arraylength (v := zJ 10) zi158_2 (Xq.at0 rfl) rfl (by rw [h10]; rfl) ?_
  refine zr_icmp_neN zi158_3 rfl (by omega) (by omega) (fun q3 => ?_) (fun q3 => absurd q3 (by omega))
  refine zr_aload_n zi158_11 rfl ?_
  refine zr_iload_n zi158_12 rfl ?_
  refine zr_aload_n zi158_13 rfl ?_
  refine zr_aastoreN zi158_14 (Xq.at0 rfl) Xt hz (by omega) (by rw [List.getElem?_append_right (by omega), hn, Nat.sub_self, show 10 - n = (9 - n) + 1 by omega]; rfl) ?_
  refine zw_bkX0 (N := 1) Xq rfl (by decide) (Nat.le_refl _) (fun h14 F14 Xe14 d14 => ?_)
  have L14 := Lg.f1 F14 (fun z => heg (by have := z.1; have := z.2; omega))
  have Xe14 : yBk h14 e [(69, (vs ++ List.replicate (10 - n) Value.null).set n (.ref t))] := Xe14
  rw [show 10 - n = (10 - (n + 1)) + 1 by omega, List.replicate_succ, ← hn, List.set_append_right _ _ (Nat.le_refl _), Nat.sub_self, List.set_cons_zero, hn] at Xe14
  rw [show vs ++ (Value.ref t :: List.replicate (10 - (n + 1)) Value.null) = (vs ++ [.ref t]) ++ List.replicate (10 - (n + 1)) Value.null by rw [List.append_assoc]; rfl] at Xe14
  refine zr_aload_n zi158_15 rfl ?_
  refine zr_iload_n zi158_16 rfl ?_
  refine zr_iconst (v := zJ 1) zi158_17 rfl ?_
  refine zr_iaddN zi158_18 ?_
  refine zr_putfield zi158_19 (L14.at0 rfl) rfl rfl ?_
  refine zw_bkX0 (N := 1) L14 rfl (by decide) (Nat.le_refl _) (fun h19 F19 L19 d19 => ?_)
  have Xe19 := Xe14.f1 F19 (fun z => heg (by have := z.1; have := z.2; omega))
  refine zr_return zi158_22 rfl ?_
  exact K _ ((F14.mono (fun x _ z => Or.inl (by have z1 := z.1; have z2 := z.2; omega)) (Nat.le_refl _) (Nat.le_refl _)).trans (F19.mono (fun x _ z => Or.inr (by have z1 := z.1; have z2 := z.2; omega)) (Nat.le_refl _) (Nat.le_refl _))) ⟨_, L19⟩ Xe19
theorem c157b {E : zEnv} {h : zPH} {Q : zOut → zPH → Prop} {g e n t : Nat} {mc : Int32} {ct : zCel} {vs : List Value} (Lg : yBk h g [(8, [.ref e, .int (zJ n), .int mc])]) (hn : vs.length = n) (hn10 : n < 10) (Xq : yBk h e [(69, vs ++ List.replicate (10 - n) .null)]) (heg : e ≠ g) (Xt : h.1 t = some ct) (htl : t < h.2.1) (htg : t ≠ g) (hz : zasg 69 ct.1 = true) (K : ∀ h1, yFr (fun x => x = e ∨ x = g) h h1 0 0 → (∃ mc1, yBk h1 g [(8, [.ref e, .int (zJ (n + 1)), .int mc1])]) → yBk h1 e [(69, (vs ++ [.ref t]) ++ List.replicate (10 - (n + 1)) .null)] → Q (.inl (some (.int (zB true)))) h1) : zcall E 5 157 [.ref g, .ref t] h Q := by
  show zwp E _ 157 (0, [some (.ref _), some (.ref _)], [], _) Q
  refine zr_aload_n zi157_0 rfl ?_
  refine zr_dup zi157_1 rfl ?_
  refine zr_getfield zi157_2 (Lg.at0 rfl) rfl ?_
  refine zr_iconst (v := zJ 1) zi157_5 rfl ?_
  refine zr_iadd zi157_6 ?_
  refine zr_putfield zi157_7 (Lg.at0 rfl) rfl rfl ?_
  refine zw_bkX0 (N := 1) Lg rfl (by decide) (Nat.le_refl _) (fun h7 F7 L7 d7 => ?_)
  have Xe7 := Xq.f1 F7 (fun z => heg (by have := z.1; have := z.2; omega))
  have Xt7 := F7.c htl (fun z => htg (by have := z.1; have := z.2; omega)) Xt
  refine zr_aload_n zi157_10 rfl ?_
  refine zr_aload_n zi157_11 rfl ?_
  refine zr_aload_n zi157_12 rfl ?_
  refine zr_getfield zi157_13 (L7.at0 rfl) rfl ?_
  refine zr_aload_n zi157_16 rfl ?_
  refine zr_getfield zi157_17 (L7.at0 rfl) rfl ?_
  refine zr_virtual zi157_20 rfl rfl (L7.at0 rfl) rfl rfl ?_
  refine zcall_dep (d := 4) (Nat.le_of_ble_eq_true rfl) (c158b L7 hn hn10 Xe7 heg Xt7 (by omega) htg hz (fun h20 F20 L20 X20 => zbk_0 ?_))
  refine zr_iconst (v := zB true) zi157_23 rfl ?_
  refine zr_zreturnB zi157_24 rfl ?_
  exact K _ ((F7.mono (fun x _ z => Or.inr (by have z1 := z.1; have z2 := z.2; omega)) (Nat.le_refl _) (Nat.le_refl _)).trans F20) L20 X20
theorem c157 {E : zEnv} {h : zPH} {Q : zOut → zPH → Prop} (S : ySs E h) {g e t : Nat} {ct : zCel} {vs : List Value} (H : rL h E g e vs) (hl : vs.length < 10) (Xt : h.1 t = some ct) (htl : t < h.2.1) (htg : t ≠ g) (hz : zasg 69 ct.1 = true) (K : ∀ h1 e1, yFr (fun x => h.2.1 ≤ x ∨ x = g ∨ x = e) h h1 1 10 → (e1 = e ∨ (e = g ∧ e1 = h.2.1)) → rL h1 E g e1 (vs ++ [.ref t]) → Q (.inl (some (.int (zB true)))) h1) : zcall E 5 157 [.ref g, .ref t] h Q := by
  have hgl := H.lt.1
  obtain ⟨hl10, q, mc, G, Y⟩ := H
  rcases Y with ⟨rfl, rfl, Y⟩ | ⟨rfl, y2, Y⟩
  · obtain ⟨-, -, -, ⟨el, e1, e2, e3⟩⟩ := S
    obtain rfl : q = el := Value.ref.inj (Y.symm.trans e1)
    have hqg : q ≠ e := fun z => by
      rw [z, G.at0 rfl] at e3
      have := congrArg Prod.fst (Option.some.inj e3)
      have : (8 : Nat) = 101 := this
      omega
    refine c157a G Y e3 e2 hqg hgl Xt htl htg hz (fun h1 e4 F e5 n5 L5 X5 => K h1 e4 (F.mono (fun x _ z => ?_) (Nat.le_refl _) (Nat.le_refl _)) (Or.inr ⟨rfl, e5⟩) ⟨Nat.le_of_ble_eq_true rfl, e4, ?_⟩)
    · rcases z with z | z
      · exact Or.inl z
      · exact Or.inr (Or.inl z)
    · obtain ⟨mc1, L5⟩ := L5
      exact ⟨mc1, L5, Or.inr ⟨rfl, by omega, X5⟩⟩
  · refine c157b G rfl hl Y y2 Xt htl htg hz (fun h1 F L5 X5 => K h1 q (F.mono (fun x _ z => ?_) (Nat.zero_le _) (Nat.zero_le _)) (Or.inl rfl) ⟨by rw [List.length_append]; exact hl, q, ?_⟩)
    · rcases z with z | z
      · exact Or.inr (Or.inr z)
      · exact Or.inr (Or.inl z)
    · obtain ⟨mc1, L5⟩ := L5
      refine ⟨mc1, by rw [List.length_append]; exact L5, Or.inr ⟨rfl, y2, by rw [List.length_append]; exact X5⟩⟩
theorem c195 {E : zEnv} {h : zPH} {Q : zOut → zPH → Prop} {g e n t : Nat} {mc : Int32} {vs : List Value} (Lg : yBk h g [(8, [.ref e, .int (zJ (n + 1)), .int mc])]) (hn : vs.length = n) (hn10 : n < 10) (Xq : yBk h e [(69, (vs ++ [.ref t]) ++ List.replicate (10 - (n + 1)) .null)]) (heg : e ≠ g) (K : ∀ h1, yFr (fun x => x = e ∨ x = g) h h1 0 0 → (∃ mc1, yBk h1 g [(8, [.ref e, .int (zJ n), .int mc1])]) → yBk h1 e [(69, vs ++ List.replicate (10 - n) .null)] → Q (.inl none) h1) : zcall E 0 195 [.ref g, .ref e, .int (zJ n)] h Q := by
  show zwp E _ 195 (0, [some (.ref _), some (.ref _), some (.int (zJ _)), none], [], _) Q
  refine zr_aload_n zi195_0 rfl ?_
  refine zr_dup zi195_1 rfl ?_
  refine zr_getfield zi195_2 (Lg.at0 rfl) rfl ?_
  refine zr_iconst (v := zJ 1) zi195_5 rfl ?_
  refine zr_iadd zi195_6 ?_
  refine zr_putfield zi195_7 (Lg.at0 rfl) rfl rfl ?_
  refine zw_bkX0 (N := 1) Lg rfl (by decide) (Nat.le_refl _) (fun h7 F7 L7 d7 => ?_)
  have Xe7 := Xq.f1 F7 (fun z => heg (by have := z.1; have := z.2; omega))
  refine zr_aload_n zi195_10 rfl ?_
  refine zr_getfield zi195_11 (L7.at0 rfl) rfl ?_
  refine zr_iconst (v := zJ 1) zi195_14 rfl ?_
  refine zr_isubN zi195_15 (by omega) ?_
  refine zr_dup zi195_16 rfl ?_
  refine zr_istore_n (L' := [some (.ref _), some (.ref _), some (.int (zJ _)), some (.int (zJ _))]) zi195_17 rfl rfl ?_
  refine zr_iload_n zi195_18 rfl ?_
  refine zr_icmp_leN zi195_19 rfl (by omega) (by omega) (fun q19 => ?_) (fun q19 => absurd q19 (by omega))
  refine zr_aload_n zi195_34 rfl ?_
  refine zr_aload_n zi195_35 rfl ?_
  refine zr_iload_n zi195_36 rfl ?_
  refine zr_dup_x1 zi195_37 rfl rfl ?_
  refine zr_putfield zi195_38 (L7.at0 rfl) rfl rfl ?_
  refine zw_bkX0 (N := 1) L7 rfl (by decide) (Nat.le_refl _) (fun h38 F38 L38 d38 => ?_)
  have Xe38 := Xe7.f1 F38 (fun z => heg (by have := z.1; have := z.2; omega))
  refine zr_null zi195_41 ?_
  refine zr_aastoreNN zi195_42 (Xe38.at0 rfl) rfl (by omega) (by rw [Nat.add_sub_cancel, List.append_assoc, List.getElem?_append_right (by omega), hn, Nat.sub_self]; rfl) ?_
  refine zw_bkX0 (N := 1) Xe38 rfl (by decide) (Nat.le_refl _) (fun h42 F42 Xe42 d42 => ?_)
  have L42 := L38.f1 F42 (fun z => heg (by have := z.1; have := z.2; omega))
  have Xe42 : yBk h42 e [(69, ((vs ++ [Value.ref t]) ++ List.replicate (10 - (n + 1)) Value.null).set n Value.null)] := Xe42
  rw [List.append_assoc, ← hn, List.set_append_right _ _ (Nat.le_refl _), Nat.sub_self] at Xe42
  have Xe42 : yBk h42 e [(69, vs ++ (Value.null :: List.replicate (10 - (vs.length + 1)) Value.null))] := Xe42
  rw [← List.replicate_succ, hn, show 10 - (n + 1) + 1 = 10 - n by omega] at Xe42
  refine zr_return zi195_43 rfl ?_
  exact K _ (((F7.mono (fun x _ z => Or.inr (by have z1 := z.1; have z2 := z.2; omega)) (Nat.le_refl _) (Nat.le_refl _)).trans (F38.mono (fun x _ z => Or.inr (by have z1 := z.1; have z2 := z.2; omega)) (Nat.le_refl _) (Nat.le_refl _))).trans (F42.mono (fun x _ z => Or.inl (by have z1 := z.1; have z2 := z.2; omega)) (Nat.le_refl _) (Nat.le_refl _))) ⟨_, L42⟩ Xe42
theorem c194r {E : zEnv} {h : zPH} {Q : zOut → zPH → Prop} {g e n t : Nat} {mc : Int32} {vs : List Value} (Lg : yBk h g [(8, [.ref e, .int (zJ (n + 1)), .int mc])]) (hn : vs.length = n) (hn10 : n < 10) (Xq : yBk h e [(69, (vs ++ [.ref t]) ++ List.replicate (10 - (n + 1)) .null)]) (heg : e ≠ g) (K : ∀ h1, yFr (fun x => x = e ∨ x = g) h h1 0 0 → (∃ mc1, yBk h1 g [(8, [.ref e, .int (zJ n), .int mc1])]) → yBk h1 e [(69, vs ++ List.replicate (10 - n) .null)] → Q (.inl (some (.ref t))) h1) : zcall E 2 194 [.ref g, .int (zJ n)] h Q := by
  show zwp E _ 194 (0, [some (.ref _), some (.int (zJ _)), none, none], [], _) Q
  refine zr_iload_n zi194_0 rfl ?_
  refine zr_aload_n zi194_1 rfl ?_
  refine zr_getfield zi194_2 (Lg.at0 rfl) rfl ?_
  refine zr_static zi194_5 rfl rfl rfl rfl ?_
  refine zcall_dep (d := 1) (Nat.le_of_ble_eq_true rfl) (c165 (by omega) (by omega) (zbk_v ?_))
  refine zr_pop zi194_8 rfl ?_
  refine zr_aload_n zi194_9 rfl ?_
  refine zr_getfield zi194_10 (Lg.at0 rfl) rfl ?_
  refine zr_astore_n (L' := [some (.ref _), some (.int (zJ _)), some (.ref _), none]) zi194_13 rfl rfl ?_
  refine zr_aload_n zi194_14 rfl ?_
  refine zr_iload_n zi194_15 rfl ?_
  refine zr_aaloadN zi194_16 (Xq.at0 rfl) rfl (by omega) (by rw [List.append_assoc, List.getElem?_append_right (by omega), hn, Nat.sub_self]; rfl) ?_
  refine zr_astore_n (L' := [some (.ref _), some (.int (zJ _)), some (.ref _), some (.ref _)]) zi194_17 rfl rfl ?_
  refine zr_aload_n zi194_18 rfl ?_
  refine zr_aload_n zi194_19 rfl ?_
  refine zr_iload_n zi194_20 rfl ?_
  refine zr_virtual zi194_21 rfl rfl (Lg.at0 rfl) rfl rfl ?_
  refine zcall_dep (d := 0) (Nat.le_of_ble_eq_true rfl) (c195 Lg hn hn10 Xq heg (fun h20 F20 L20 X20 => zbk_0 ?_))
  refine zr_aload_n zi194_24 rfl ?_
  refine zr_areturn zi194_25 rfl ?_
  exact K _ F20 L20 X20
theorem c194 {E : zEnv} {h : zPH} {Q : zOut → zPH → Prop} {g e n t : Nat} {vs : List Value} (H : rL h E g e (vs ++ [.ref t])) (hn : vs.length = n) (K : ∀ h1, yFr (fun x => x = g ∨ x = e) h h1 0 0 → rL h1 E g e vs → Q (.inl (some (.ref t))) h1) : zcall E 2 194 [.ref g, .int (zJ n)] h Q := by
  obtain ⟨hl, q, mc, G, Y⟩ := H
  have hle : (vs ++ [Value.ref t]).length = n + 1 := by rw [List.length_append, hn]; rfl
  rw [hle] at hl G Y
  rcases Y with ⟨y1, -, -⟩ | ⟨rfl, y2, Y⟩
  · rw [y1] at hle
    cases hle
  · refine c194r G hn (by omega) Y y2 (fun h1 F L5 X5 => K h1 (F.mono (fun x _ z => z.symm) (Nat.le_refl _) (Nat.le_refl _)) ⟨by omega, q, ?_⟩)
    obtain ⟨mc1, L5⟩ := L5
    rw [hn]
    exact ⟨mc1, L5, Or.inr ⟨rfl, y2, X5⟩⟩
theorem c192 {E : zEnv} {h : zPH} {Q : zOut → zPH → Prop} {k q : Nat} {v0 v1 v2 : Value} {c : Nat} {y : Bool} (X : yBk h k [(10, [v0, v1, v2])]) (K : ∀ h1, yFr (yIv k 1) h h1 0 0 → h1.2.1 = h.2.1 → yBk h1 k [(10, [.ref q, .int (zJ c), .int (zB y)])] → Q (.inl none) h1) : zcall E 0 192 [.ref k, .ref q, .int (zJ c), .int (zB y)] h Q := by
  show zwp E _ 192 (0, [some (.ref _), some (.ref _), some (.int (zJ _)), some (.int (zB _))], [], _) Q
  refine zr_aload_n zi192_0 rfl ?_
  refine zr_obj zi192_1 rfl ?_
  refine zr_aload_n zi192_4 rfl ?_
  refine zr_aload_n zi192_5 rfl ?_
  refine zr_putfield zi192_6 (X.at0 rfl) rfl rfl ?_
  refine zw_bkX0 (N := 1) X rfl (by decide) (Nat.le_refl _) (fun h6 F6 X6 d6 => ?_)
  refine zr_aload_n zi192_9 rfl ?_
  refine zr_iload_n zi192_10 rfl ?_
  refine zr_putfield zi192_11 (X6.at0 rfl) rfl rfl ?_
  refine zw_bkX0 (N := 1) X6 rfl (by decide) (Nat.le_refl _) (fun h11 F11 X11 d11 => ?_)
  refine zr_aload_n zi192_14 rfl ?_
  refine zr_iload_n zi192_15 rfl ?_
  refine zr_putfield zi192_16 (X11.at0 rfl) (by cases y <;> rfl) rfl ?_
  refine zw_bkX0 (N := 1) X11 rfl (by decide) (Nat.le_refl _) (fun h16 F16 X16 d16 => ?_)
  refine zr_return zi192_19 rfl ?_
  exact K _ ((F6.trans F11).trans F16) (d16.trans (d11.trans (d6))) X16
