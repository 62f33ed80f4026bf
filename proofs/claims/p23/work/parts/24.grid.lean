/-! ===== the grid: walks ===== -/
theorem c4 {E : zEnv} {h : zPH} {Q : zOut → zPH → Prop} {g w hh : Nat} {cs cl fs : List Int32} (G : yG h g w hh cs cl fs) (K : Q (.inl (some (.int (zJ (w + hh))))) h) : zcall E 0 4 [.ref g] h Q := by
  show zwp E _ 4 (0, [some (.ref _)], [], _) Q
  refine zr_aload_n zi4_0 rfl ?_
  refine zr_getfield zi4_1 (G.1.at0 rfl) rfl ?_
  refine zr_aload_n zi4_4 rfl ?_
  refine zr_getfield zi4_5 (G.1.at0 rfl) rfl ?_
  refine zr_iaddN zi4_8 ?_
  refine zr_ireturn zi4_9 rfl ?_
  exact K
theorem c15 {E : zEnv} {h : zPH} {Q : zOut → zPH → Prop} {g w hh : Nat} {cs cl fs : List Int32} (G : yG h g w hh cs cl fs) (K : Q (.inl (some (.int (zJ (w * hh))))) h) : zcall E 0 15 [.ref g] h Q := by
  show zwp E _ 15 (0, [some (.ref _)], [], _) Q
  refine zr_aload_n zi15_0 rfl ?_
  refine zr_getfield zi15_1 (G.1.at0 rfl) rfl ?_
  refine zr_aload_n zi15_4 rfl ?_
  refine zr_getfield zi15_5 (G.1.at0 rfl) rfl ?_
  refine zr_imulN zi15_8 ?_
  refine zr_ireturn zi15_9 rfl ?_
  exact K
theorem c6 {E : zEnv} {h : zPH} {Q : zOut → zPH → Prop} {g w hh : Nat} {cs cl fs : List Int32} (G : yG h g w hh cs cl fs) {i : Nat} (hi : i < 2147483648) (K : Q (.inl (some (.int (zJ (yln w hh i))))) h) : zcall E 0 6 [.ref g, .int (zJ i)] h Q := by
  obtain ⟨⟨gw1, gw2, gh1, gh2⟩, gcs, gcl, gfs⟩ := G.2
  show zwp E _ 6 (0, [some (.ref _), some (.int (zJ _))], [], _) Q
  refine zr_iload_n zi6_0 rfl ?_
  refine zr_aload_n zi6_1 rfl ?_
  refine zr_getfield zi6_2 (G.1.at0 rfl) rfl ?_
  refine zr_icmp_geN zi6_5 rfl (by omega) (by omega) (fun q5 => ?_) (fun q5 => ?_)
  · rw [yln, if_neg (by omega)] at K
    refine zr_aload_n zi6_15 rfl ?_
    refine zr_getfield zi6_16 (G.1.at0 rfl) rfl ?_
    refine zr_ireturn zi6_19 rfl ?_
    exact K
  · rw [yln, if_pos q5] at K
    refine zr_aload_n zi6_8 rfl ?_
    refine zr_getfield zi6_9 (G.1.at0 rfl) rfl ?_
    refine zr_goto zi6_12 rfl ?_
    refine zr_ireturn zi6_19 rfl ?_
    exact K
theorem c21 {E : zEnv} {h : zPH} {Q : zOut → zPH → Prop} {g w hh : Nat} {cs cl fs : List Int32} (G : yG h g w hh cs cl fs) {i p : Nat} (hi : i < 1000) (hp : p < 1000) (K : Q (.inl (some (.int (zJ (ycl w hh i p))))) h) : zcall E 0 21 [.ref g, .int (zJ i), .int (zJ p)] h Q := by
  obtain ⟨⟨gw1, gw2, gh1, gh2⟩, gcs, gcl, gfs⟩ := G.2
  show zwp E _ 21 (0, [some (.ref _), some (.int (zJ _)), some (.int (zJ _))], [], _) Q
  refine zr_iload_n zi21_0 rfl ?_
  refine zr_aload_n zi21_1 rfl ?_
  refine zr_getfield zi21_2 (G.1.at0 rfl) rfl ?_
  refine zr_icmp_geN zi21_5 rfl (by omega) (by omega) (fun q5 => ?_) (fun q5 => ?_)
  · rw [ycl, if_neg (by omega)] at K
    refine zr_iload_n zi21_19 rfl ?_
    refine zr_aload_n zi21_20 rfl ?_
    refine zr_getfield zi21_21 (G.1.at0 rfl) rfl ?_
    refine zr_imulN zi21_24 ?_
    refine zr_iload_n zi21_25 rfl ?_
    refine zr_iaddN zi21_26 ?_
    refine zr_aload_n zi21_27 rfl ?_
    refine zr_getfield zi21_28 (G.1.at0 rfl) rfl ?_
    refine zr_isubN zi21_31 (by omega) ?_
    refine zr_ireturn zi21_32 rfl ?_
    exact K
  · rw [ycl, if_pos q5] at K
    refine zr_iload_n zi21_8 rfl ?_
    refine zr_aload_n zi21_9 rfl ?_
    refine zr_getfield zi21_10 (G.1.at0 rfl) rfl ?_
    refine zr_imulN zi21_13 ?_
    refine zr_iload_n zi21_14 rfl ?_
    refine zr_iaddN zi21_15 ?_
    refine zr_goto zi21_16 rfl ?_
    refine zr_ireturn zi21_32 rfl ?_
    exact K
theorem c36 {E : zEnv} {h : zPH} {Q : zOut → zPH → Prop} {g w hh : Nat} {cs cl fs : List Int32} (G : yG h g w hh cs cl fs) {i : Nat} (hi : i < 10) (K : Q (.inl (some (.int (cl.getD i 0)))) h) : zcall E 0 36 [.ref g, .int (zJ i)] h Q := by
  obtain ⟨⟨gw1, gw2, gh1, gh2⟩, gcs, gcl, gfs⟩ := G.2
  show zwp E _ 36 (0, [some (.ref _), some (.int (zJ _))], [], _) Q
  refine zr_iload_n zi36_0 rfl ?_
  refine zr_if_ltN zi36_1 rfl (by omega) ?_
  refine zr_iload_n zi36_4 rfl ?_
  refine zr_aload_n zi36_5 rfl ?_
  refine zr_getfield zi36_6 (G.1.at0 rfl) rfl ?_
  refine zr_arraylength (v := zJ 10) zi36_9 (G.1.at 2 rfl) rfl (zlenJ gcl) ?_
  refine zr_icmp_geN zi36_10 rfl (by omega) (by omega) (fun q10 => absurd q10 (by omega)) (fun q10 => ?_)
  refine zr_aload_n zi36_13 rfl ?_
  refine zr_getfield zi36_14 (G.1.at0 rfl) rfl ?_
  refine zr_iload_n zi36_17 rfl ?_
  refine zr_ialoadN zi36_18 (G.1.at 2 rfl) rfl (by omega) (by first | omega | (simp only [List.length_set, zpt_len]; omega)) ?_
  refine zr_goto zi36_19 rfl ?_
  refine zr_ireturn zi36_23 rfl ?_
  exact K
theorem c16 {E : zEnv} {h : zPH} {Q : zOut → zPH → Prop} {g w hh : Nat} {cs cl fs : List Int32} (G : yG h g w hh cs cl fs) {c : Nat} (hc : c < 25) (K : Q (.inl (some (.int (zst cs c)))) h) : zcall E 0 16 [.ref g, .int (zJ c)] h Q := by
  obtain ⟨⟨gw1, gw2, gh1, gh2⟩, gcs, gcl, gfs⟩ := G.2
  show zwp E _ 16 (0, [some (.ref _), some (.int (zJ _))], [], _) Q
  refine zr_iload_n zi16_0 rfl ?_
  refine zr_if_ltN zi16_1 rfl (by omega) ?_
  refine zr_iload_n zi16_4 rfl ?_
  refine zr_bipush (v := zJ 25) zi16_5 rfl ?_
  refine zr_icmp_geN zi16_7 rfl (by omega) (by omega) (fun q7 => absurd q7 (by omega)) (fun q7 => ?_)
  refine zr_aload_n zi16_10 rfl ?_
  refine zr_getfield zi16_11 (G.1.at0 rfl) rfl ?_
  refine zr_iload_n zi16_14 rfl ?_
  refine zr_iconst (v := zJ 4) zi16_15 rfl ?_
  refine zr_imulN zi16_16 ?_
  refine zr_iconst (v := zJ 0) zi16_17 rfl ?_
  refine zr_iaddN zi16_18 ?_
  refine zr_ialoadN zi16_19 (G.1.at 1 rfl) rfl (by omega) (by first | omega | (simp only [List.length_set, zpt_len]; omega)) ?_
  refine zr_goto zi16_20 rfl ?_
  refine zr_ireturn zi16_24 rfl ?_
  exact K
theorem c41 {E : zEnv} {h : zPH} {Q : zOut → zPH → Prop} {g w hh : Nat} {cs cl fs : List Int32} (G : yG h g w hh cs cl fs) {c k : Nat} (hc : c < 25) (hk : k < 4) (K : Q (.inl (some (.int (cs.getD (c * 4 + k) 0)))) h) : zcall E 0 41 [.ref g, .int (zJ c), .int (zJ k)] h Q := by
  obtain ⟨⟨gw1, gw2, gh1, gh2⟩, gcs, gcl, gfs⟩ := G.2
  show zwp E _ 41 (0, [some (.ref _), some (.int (zJ _)), some (.int (zJ _))], [], _) Q
  refine zr_iload_n zi41_0 rfl ?_
  refine zr_if_ltN zi41_1 rfl (by omega) ?_
  refine zr_iload_n zi41_4 rfl ?_
  refine zr_bipush (v := zJ 25) zi41_5 rfl ?_
  refine zr_icmp_geN zi41_7 rfl (by omega) (by omega) (fun q7 => absurd q7 (by omega)) (fun q7 => ?_)
  refine zr_iload_n zi41_10 rfl ?_
  refine zr_if_ltN zi41_11 rfl (by omega) ?_
  refine zr_iload_n zi41_14 rfl ?_
  refine zr_iconst (v := zJ 3) zi41_15 rfl ?_
  refine zr_icmp_leN zi41_16 rfl (by omega) (by omega) (fun q16 => ?_) (fun q16 => absurd q16 (by omega))
  refine zr_aload_n zi41_21 rfl ?_
  refine zr_getfield zi41_22 (G.1.at0 rfl) rfl ?_
  refine zr_iload_n zi41_25 rfl ?_
  refine zr_iconst (v := zJ 4) zi41_26 rfl ?_
  refine zr_imulN zi41_27 ?_
  refine zr_iload_n zi41_28 rfl ?_
  refine zr_iaddN zi41_29 ?_
  refine zr_ialoadN zi41_30 (G.1.at 1 rfl) rfl (by omega) (by first | omega | (simp only [List.length_set, zpt_len]; omega)) ?_
  refine zr_ireturn zi41_31 rfl ?_
  exact K
theorem c3 {E : zEnv} {h : zPH} {Q : zOut → zPH → Prop} {g w hh : Nat} {cs cl fs : List Int32} (G : yG h g w hh cs cl fs) {c : Nat} {s r o e : Int32} (hc : c < 25) (K : ∀ h1, yFr (yIv g 4) h h1 0 0 → yG h1 g w hh (zpt cs c s r o e) cl fs → Q (.inl none) h1) : zcall E 0 3 [.ref g, .int (zJ c), .int s, .int r, .int o, .int e] h Q := by
  obtain ⟨⟨gw1, gw2, gh1, gh2⟩, gcs, gcl, gfs⟩ := G.2
  show zwp E _ 3 (0, [some (.ref _), some (.int (zJ _)), some (.int _), some (.int _), some (.int _), some (.int _), none], [], _) Q
  refine zr_iload_n zi3_0 rfl ?_
  refine zr_if_ltN zi3_1 rfl (by omega) ?_
  refine zr_iload_n zi3_4 rfl ?_
  refine zr_bipush (v := zJ 25) zi3_5 rfl ?_
  refine zr_icmp_ltN zi3_7 rfl (by omega) (by omega) (fun q7 => ?_) (fun q7 => absurd q7 (by omega))
  refine zr_iload_n zi3_11 rfl ?_
  refine zr_iconst (v := zJ 4) zi3_12 rfl ?_
  refine zr_imulN zi3_13 ?_
  refine zr_istore (L' := [some (.ref _), some (.int (zJ _)), some (.int _), some (.int _), some (.int _), some (.int _), some (.int (zJ _))]) zi3_14 rfl rfl ?_
  refine zr_aload_n zi3_16 rfl ?_
  refine zr_getfield zi3_17 (G.1.at0 rfl) rfl ?_
  refine zr_iload zi3_20 rfl ?_
  refine zr_iconst (v := zJ 0) zi3_22 rfl ?_
  refine zr_iaddN zi3_23 ?_
  refine zr_iload_n zi3_24 rfl ?_
  refine zr_iastoreN zi3_25 (G.1.at 1 rfl) (by omega) (by first | omega | (simp only [List.length_set, zpt_len]; omega)) ?_
  refine yG.wcs G (by first | omega | (simp only [List.length_set, zpt_len]; omega)) (fun h25 F25 G25 => ?_)
  refine zr_aload_n zi3_26 rfl ?_
  refine zr_getfield zi3_27 (G25.1.at0 rfl) rfl ?_
  refine zr_iload zi3_30 rfl ?_
  refine zr_iconst (v := zJ 1) zi3_32 rfl ?_
  refine zr_iaddN zi3_33 ?_
  refine zr_iload_n zi3_34 rfl ?_
  refine zr_iastoreN zi3_35 (G25.1.at 1 rfl) (by omega) (by first | omega | (simp only [List.length_set, zpt_len]; omega)) ?_
  refine yG.wcs G25 (by first | omega | (simp only [List.length_set, zpt_len]; omega)) (fun h35 F35 G35 => ?_)
  refine zr_aload_n zi3_36 rfl ?_
  refine zr_getfield zi3_37 (G35.1.at0 rfl) rfl ?_
  refine zr_iload zi3_40 rfl ?_
  refine zr_iconst (v := zJ 2) zi3_42 rfl ?_
  refine zr_iaddN zi3_43 ?_
  refine zr_iload zi3_44 rfl ?_
  refine zr_iastoreN zi3_46 (G35.1.at 1 rfl) (by omega) (by first | omega | (simp only [List.length_set, zpt_len]; omega)) ?_
  refine yG.wcs G35 (by first | omega | (simp only [List.length_set, zpt_len]; omega)) (fun h46 F46 G46 => ?_)
  refine zr_aload_n zi3_47 rfl ?_
  refine zr_getfield zi3_48 (G46.1.at0 rfl) rfl ?_
  refine zr_iload zi3_51 rfl ?_
  refine zr_iconst (v := zJ 3) zi3_53 rfl ?_
  refine zr_iaddN zi3_54 ?_
  refine zr_iload zi3_55 rfl ?_
  refine zr_iastoreN zi3_57 (G46.1.at 1 rfl) (by omega) (by first | omega | (simp only [List.length_set, zpt_len]; omega)) ?_
  refine yG.wcs G46 (by first | omega | (simp only [List.length_set, zpt_len]; omega)) (fun h57 F57 G57 => ?_)
  refine zr_return zi3_58 rfl ?_
  exact K _ (((F25.trans F35).trans F46).trans F57) G57
def zclr (cs : List Int32) : Nat → List Int32
  | 0 => cs
  | k + 1 => zpt (zclr cs k) k (zJ 0) (-1) (zJ 0) (zJ 0)
theorem zclr_len (cs : List Int32) (k : Nat) : (zclr cs k).length = cs.length := by
  induction k with
  | zero => rfl
  | succ k ih => rw [zclr, zpt_len, ih]
theorem c2 {E : zEnv} {h : zPH} {Q : zOut → zPH → Prop} {g w hh : Nat} {cs cl fs : List Int32} (G : yG h g w hh cs cl fs) (K : ∀ h1, yFr (yIv g 4) h h1 0 0 → yG h1 g w hh (zclr cs 25) cl fs → Q (.inl none) h1) : zcall E 1 2 [.ref g] h Q := by
  obtain ⟨⟨gw1, gw2, gh1, gh2⟩, gcs, gcl, gfs⟩ := G.2
  show zwp E _ 2 (0, [some (.ref _), none], [], _) Q
  refine zr_iconst (v := zJ 0) zi2_0 rfl ?_
  refine zr_istore_n (L' := [some (.ref _), some (.int (zJ _))]) zi2_1 rfl rfl ?_
  suffices key2 : ∀ h1, (yFr (yIv g 4) h h1 0 0) → (yG h1 g w hh (zclr cs 0) cl fs) → zwp E 1 2 (2, [some (.ref g), some (.int (zJ 0))], [], h1) Q from key2 h (yFr.refl _ _) G
  refine zloop (P := fun k => ∀ h1, (yFr (yIv g 4) h h1 0 0) → (yG h1 g w hh (zclr cs k) cl fs) → zwp E 1 2 (2, [some (.ref g), some (.int (zJ k))], [], h1) Q) (n := 25) fun k hk2 ih2 => ?_
  intro h1 F1 G1
  skip
  refine zr_iload_n zi2_2 rfl ?_
  refine zr_bipush (v := zJ 25) zi2_3 rfl ?_
  refine zr_icmp_geN zi2_5 rfl (by omega) (by omega) (fun q5 => ?_) (fun q5 => ?_)
  · refine zr_return zi2_23 rfl ?_
    obtain rfl : k = 25 := by omega
    exact K _ F1 G1
  · refine zr_aload_n zi2_8 rfl ?_
    refine zr_iload_n zi2_9 rfl ?_
    refine zr_iconst (v := zJ 0) zi2_10 rfl ?_
    refine zr_iconst (v := (-1)) zi2_11 rfl ?_
    refine zr_iconst (v := zJ 0) zi2_12 rfl ?_
    refine zr_iconst (v := zJ 0) zi2_13 rfl ?_
    refine zr_virtual zi2_14 rfl rfl (G1.1.at0 rfl) rfl rfl ?_
    refine zcall_dep (d := 0) (Nat.le_of_ble_eq_true rfl) (c3 G1 (by omega) (fun h14 F14 G14 => zbk_0 ?_))
    refine zr_iincN (z := 1) (L' := [some (.ref _), some (.int (zJ _))]) zi2_17 rfl rfl rfl rfl ?_
    refine zr_goto zi2_20 rfl ?_
    have en := ih2 (by omega) _ (F1.trans F14)
    skip
    exact en G14
theorem c28 {E : zEnv} {h : zPH} {Q : zOut → zPH → Prop} {x : Int32} {n : Nat} (hn : n < 32) (K : Q (.inl (some (.int (zB (zbit x n))))) h) : zcall E 0 28 [.int x, .int (zJ n)] h Q := by
  show zwp E _ 28 (0, [some (.int _), some (.int (zJ _))], [], _) Q
  refine zr_iload_n zi28_0 rfl ?_
  refine zr_iload_n zi28_1 rfl ?_
  refine zr_iushr zi28_2 ?_
  refine zr_iconst (v := zJ 1) zi28_3 rfl ?_
  refine zr_iand zi28_4 ?_
  refine zr_iconst (v := zJ 1) zi28_5 rfl ?_
  refine zr_icmp_ne zi28_6 rfl (fun q6 => ?_) (fun q6 => ?_)
  · rw [show zbit x n = false from by cases hb : zbit x n with | true => exact absurd ((zbit_iff x hn).mpr hb) q6 | false => rfl] at K
    refine zr_iconst (v := zJ 0) zi28_13 rfl ?_
    refine zr_zreturn zi28_14 rfl (by decide) ?_
    exact K
  · rw [(zbit_iff x hn).mp q6] at K
    refine zr_iconst (v := zJ 1) zi28_9 rfl ?_
    refine zr_goto zi28_10 rfl ?_
    refine zr_zreturn zi28_14 rfl (by decide) ?_
    exact K
def zbc (x : Int32) : Int32 :=
  let a := x - (zush x (zJ 1) &&& 1431655765)
  let b := (a &&& 858993459) + (zush a (zJ 2) &&& 858993459)
  let c := b + zush b (zJ 4) &&& 252645135
  let e := c + zush c (zJ 8)
  let f := e + zush e (zJ 16)
  f &&& zJ 63
theorem c29 {E : zEnv} {h : zPH} {Q : zOut → zPH → Prop} {x : Int32} (K : Q (.inl (some (.int (zbc x)))) h) : zcall E 0 29 [.int x] h Q := by
  show zwp E _ 29 (0, [some (.int _)], [], _) Q
  refine zr_iload_n zi29_0 rfl ?_
  refine zr_iload_n zi29_1 rfl ?_
  refine zr_iconst (v := zJ 1) zi29_2 rfl ?_
  refine zr_iushr zi29_3 ?_
  refine zr_ldcw zi29_4 ?_
  refine zr_iand zi29_7 ?_
  refine zr_isub zi29_8 ?_
  refine zr_istore_n (L' := [some (.int _)]) zi29_9 rfl rfl ?_
  refine zr_iload_n zi29_10 rfl ?_
  refine zr_ldcw zi29_11 ?_
  refine zr_iand zi29_14 ?_
  refine zr_iload_n zi29_15 rfl ?_
  refine zr_iconst (v := zJ 2) zi29_16 rfl ?_
  refine zr_iushr zi29_17 ?_
  refine zr_ldcw zi29_18 ?_
  refine zr_iand zi29_21 ?_
  refine zr_iadd zi29_22 ?_
  refine zr_istore_n (L' := [some (.int _)]) zi29_23 rfl rfl ?_
  refine zr_iload_n zi29_24 rfl ?_
  refine zr_iload_n zi29_25 rfl ?_
  refine zr_iconst (v := zJ 4) zi29_26 rfl ?_
  refine zr_iushr zi29_27 ?_
  refine zr_iadd zi29_28 ?_
  refine zr_ldcw zi29_29 ?_
  refine zr_iand zi29_32 ?_
  refine zr_istore_n (L' := [some (.int _)]) zi29_33 rfl rfl ?_
  refine zr_iload_n zi29_34 rfl ?_
  refine zr_iload_n zi29_35 rfl ?_
  refine zr_bipush (v := zJ 8) zi29_36 rfl ?_
  refine zr_iushr zi29_38 ?_
  refine zr_iadd zi29_39 ?_
  refine zr_istore_n (L' := [some (.int _)]) zi29_40 rfl rfl ?_
  refine zr_iload_n zi29_41 rfl ?_
  refine zr_iload_n zi29_42 rfl ?_
  refine zr_bipush (v := zJ 16) zi29_43 rfl ?_
  refine zr_iushr zi29_45 ?_
  refine zr_iadd zi29_46 ?_
  refine zr_istore_n (L' := [some (.int _)]) zi29_47 rfl rfl ?_
  refine zr_iload_n zi29_48 rfl ?_
  refine zr_bipush (v := zJ 63) zi29_49 rfl ?_
  refine zr_iand zi29_51 ?_
  refine zr_ireturn zi29_52 rfl ?_
  exact K
def zin (x : Int32) (n : Nat) : Prop := ∃ k, k < n ∧ x = zJ k
theorem zin_lt {x : Int32} {n k : Nat} (hn : n < 2147483648) (hx : x < zJ n) (hk : k < 2147483648) (e : x = zJ k) : k < n := by
  subst e
  exact (zJ_lt hk hn).mp hx
theorem zin_ck {x : Int32} {n : Nat} (h0 : ¬ x < 0) (hn : n < 2147483648) (hx : ¬ zJ n ≤ x) : x.toNatClampNeg < n := by
  obtain ⟨k, hk, rfl⟩ := zJ_of h0
  rw [zJ_c hk]
  exact Nat.lt_of_not_le fun q => hx ((zJ_le hn hk).mpr q)
theorem zin_no {x : Int32} {n : Nat} (hn : n < 2147483648) (hx : x < 0 ∨ ¬ x < zJ n) : ¬ zin x n := by
  rintro ⟨k, hk, rfl⟩
  rcases hx with hx | hx
  · exact zJ_nn (by omega) hx
  · exact hx ((zJ_lt (by omega) hn).mpr hk)
theorem zle_no {x y : Int32} (hx : y ≤ x) : ¬ x < y := by
  intro hq
  have h1 := Int32.lt_iff_toInt_lt.mp hq
  have h2 := Int32.le_iff_toInt_le.mp hx
  omega
theorem zgt_nn {x : Int32} (hx : 0 < x) : ¬ x < 0 := by
  intro hq
  have h1 := Int32.lt_iff_toInt_lt.mp hq
  have h2 := Int32.lt_iff_toInt_lt.mp hx
  omega
theorem zle_nl {x y : Int32} (hx : y ≤ x) : ¬ x < y := zle_no hx
theorem c40 {E : zEnv} {h : zPH} {Q : zOut → zPH → Prop} {g w hh : Nat} {cs cl fs : List Int32} (G : yG h g w hh cs cl fs) {x : Int32} (K : ∀ k, k < w * hh → x = zJ k → Q (.inl none) h) (X : ¬ zin x (w * hh) → Q (.inr 2) (zex h)) : zcall E 1 40 [.ref g, .int x] h Q := by
  obtain ⟨⟨gw1, gw2, gh1, gh2⟩, gcs, gcl, gfs⟩ := G.2
  have hwh := zwh_b G.2.1
  show zwp E _ 40 (0, [some (.ref _), some (.int _)], [], _) Q
  refine zr_iload_n zi40_0 rfl ?_
  refine zr_if_lt zi40_1 rfl (fun q1 => ?_) (fun q1 => ?_)
  · skip
    refine zr_throw zi40_12 rfl rfl rfl ?_
    exact X (zin_no (by omega) (by first | exact Or.inl q1 | exact Or.inr q9))
  · refine zr_iload_n zi40_4 rfl ?_
    refine zr_aload_n zi40_5 rfl ?_
    refine zr_virtual zi40_6 rfl rfl (G.1.at0 rfl) rfl rfl ?_
    refine zcall_dep (d := 0) (Nat.le_of_ble_eq_true rfl) (c15 G (zbk_v ?_))
    refine zr_icmp_lt zi40_9 rfl (fun q9 => ?_) (fun q9 => ?_)
    · refine zr_return zi40_23 rfl ?_
      obtain ⟨n, hn, rfl⟩ := zJ_of q1
      exact K n ((zJ_lt hn (by omega)).mp q9) rfl
    · skip
      refine zr_throw zi40_12 rfl rfl rfl ?_
      exact X (zin_no (by omega) (by first | exact Or.inl q1 | exact Or.inr q9))
theorem c43 {E : zEnv} {h : zPH} {Q : zOut → zPH → Prop} {g w hh : Nat} {cs cl fs : List Int32} (G : yG h g w hh cs cl fs) {x : Int32} (K : ∀ k, k < w + hh → x = zJ k → Q (.inl none) h) (X : ¬ zin x (w + hh) → Q (.inr 2) (zex h)) : zcall E 1 43 [.ref g, .int x] h Q := by
  obtain ⟨⟨gw1, gw2, gh1, gh2⟩, gcs, gcl, gfs⟩ := G.2
  have hwh := zwh_b G.2.1
  show zwp E _ 43 (0, [some (.ref _), some (.int _)], [], _) Q
  refine zr_iload_n zi43_0 rfl ?_
  refine zr_if_lt zi43_1 rfl (fun q1 => ?_) (fun q1 => ?_)
  · skip
    refine zr_throw zi43_12 rfl rfl rfl ?_
    exact X (zin_no (by omega) (by first | exact Or.inl q1 | exact Or.inr q9))
  · refine zr_iload_n zi43_4 rfl ?_
    refine zr_aload_n zi43_5 rfl ?_
    refine zr_virtual zi43_6 rfl rfl (G.1.at0 rfl) rfl rfl ?_
    refine zcall_dep (d := 0) (Nat.le_of_ble_eq_true rfl) (c4 G (zbk_v ?_))
    refine zr_icmp_lt zi43_9 rfl (fun q9 => ?_) (fun q9 => ?_)
    · refine zr_return zi43_23 rfl ?_
      obtain ⟨n, hn, rfl⟩ := zJ_of q1
      exact K n ((zJ_lt hn (by omega)).mp q9) rfl
    · skip
      refine zr_throw zi43_12 rfl rfl rfl ?_
      exact X (zin_no (by omega) (by first | exact Or.inl q1 | exact Or.inr q9))
theorem c12 {E : zEnv} {h : zPH} {Q : zOut → zPH → Prop} {x : Int32} {n : Nat} (hn : n < 1000) (K : ∀ k, k < n + 1 → x = zJ k → Q (.inl none) h) (X : ¬ zin x (n + 1) → Q (.inr 0) (zex h)) : zcall E 0 12 [.int x, .int (zJ n)] h Q := by
  show zwp E _ 12 (0, [some (.int _), some (.int (zJ _))], [], _) Q
  refine zr_iload_n zi12_0 rfl ?_
  refine zr_if_lt zi12_1 rfl (fun q1 => ?_) (fun q1 => ?_)
  · refine zr_throw zi12_9 rfl rfl rfl ?_
    exact X (zin_no (by omega) (by first | exact Or.inl q1 | (refine Or.inr (fun q => ?_); obtain ⟨k, hk, rfl⟩ := zJ_of q1; have h1 := (zJ_lt hk (by omega)).mp q; exact q6 ((zJ_le hk (by omega)).mpr (by omega)))))
  · refine zr_iload_n zi12_4 rfl ?_
    refine zr_iload_n zi12_5 rfl ?_
    refine zr_icmp_le zi12_6 rfl (fun q6 => ?_) (fun q6 => ?_)
    · refine zr_return zi12_20 rfl ?_
      obtain ⟨k, hk, rfl⟩ := zJ_of q1
      exact K k (by have := (zJ_le hk (by omega)).mp q6; omega) rfl
    · refine zr_throw zi12_9 rfl rfl rfl ?_
      exact X (zin_no (by omega) (by first | exact Or.inl q1 | (refine Or.inr (fun q => ?_); obtain ⟨k, hk, rfl⟩ := zJ_of q1; have h1 := (zJ_lt hk (by omega)).mp q; exact q6 ((zJ_le hk (by omega)).mpr (by omega)))))
theorem c77 {E : zEnv} {h : zPH} {Q : zOut → zPH → Prop} {g w hh : Nat} {cs cl fs : List Int32} (G : yG h g w hh cs cl fs) {c : Nat} (hc : c < 25) (K : zst cs c = 0 → Q (.inl none) h) (X : ¬ zst cs c = 0 → Q (.inr 1) (zex h)) : zcall E 1 77 [.ref g, .int (zJ c)] h Q := by
  obtain ⟨⟨gw1, gw2, gh1, gh2⟩, gcs, gcl, gfs⟩ := G.2
  show zwp E _ 77 (0, [some (.ref _), some (.int (zJ _))], [], _) Q
  refine zr_aload_n zi77_0 rfl ?_
  refine zr_iload_n zi77_1 rfl ?_
  refine zr_virtual zi77_2 rfl rfl (G.1.at0 rfl) rfl rfl ?_
  refine zcall_dep (d := 0) (Nat.le_of_ble_eq_true rfl) (c16 G (by omega) (zbk_v ?_))
  refine zr_if_eq zi77_5 rfl (fun q5 => ?_) (fun q5 => ?_)
  · refine zr_return zi77_19 rfl ?_
    exact K q5
  · refine zr_throw zi77_8 rfl rfl rfl ?_
    exact X q5
theorem c79 {E : zEnv} {h : zPH} {Q : zOut → zPH → Prop} {b : Bool} (K : Q (.inl (some (.int (if b = true then zJ 1 else zJ 2)))) h) : zcall E 0 79 [.int (zB b)] h Q := by
  show zwp E _ 79 (0, [some (.int (zB _))], [], _) Q
  refine zr_iload_n zi79_0 rfl ?_
  refine zr_if_eqB zi79_1 rfl (fun q1 => ?_) (fun q1 => ?_)
  · rw [if_neg (by rw [q1]; decide)] at K
    refine zr_iconst (v := zJ 2) zi79_8 rfl ?_
    refine zr_ireturn zi79_9 rfl ?_
    exact K
  · rw [if_pos q1] at K
    refine zr_iconst (v := zJ 1) zi79_4 rfl ?_
    refine zr_goto zi79_5 rfl ?_
    refine zr_ireturn zi79_9 rfl ?_
    exact K
theorem c101 {E : zEnv} {h : zPH} {Q : zOut → zPH → Prop} (S : ySs E h) {n : Nat} (hn : n < 32) (K : Q (.inl (some (.int (zSA n)))) h) : zcall E 0 101 [.int (zJ n)] h Q := by
  obtain ⟨⟨aSH, eSH, lSH, hSH⟩, ⟨aDK, eDK, lDK, hDK⟩, eCS, ⟨aEL, eEL, lEL, hEL⟩⟩ := S
  show zwp E _ 101 (0, [some (.int (zJ _))], [], _) Q
  refine zr_iload_n zi101_0 rfl ?_
  refine zr_if_ltN zi101_1 rfl (by omega) ?_
  refine zr_iload_n zi101_4 rfl ?_
  refine zr_getstatic zi101_5 rfl eSH ?_
  refine zr_arraylength (v := zJ 32) zi101_8 hSH rfl (zlenJ rfl) ?_
  refine zr_icmp_geN zi101_9 rfl (by omega) (by omega) (fun q9 => absurd q9 (by omega)) (fun q9 => ?_)
  refine zr_getstatic zi101_12 rfl eSH ?_
  refine zr_iload_n zi101_15 rfl ?_
  refine zr_ialoadN zi101_16 hSH rfl (by omega) (by show n < 32; omega) ?_
  refine zr_goto zi101_17 rfl ?_
  refine zr_ireturn zi101_21 rfl ?_
  exact K
/-- how many digits; the digits the other way round -/
def zrnF : Nat → Nat → Int32 → Int32
  | 0, _, acc => acc
  | f + 1, n, acc => if n = 0 then acc else zrnF f (n / 10) (acc + zJ 1)
def zrvF : Nat → Nat → Int32 → Int32
  | 0, _, acc => acc
  | f + 1, n, acc => if n = 0 then acc else zrvF f (n / 10) (acc * zJ 10 + zJ (n % 10))
def zrn (x : Int32) : Int32 := if 0 < x then zrnF 10 x.toNatClampNeg (zJ 0) else x
def zrv (x : Int32) : Int32 := if 0 < x then zrvF 10 x.toNatClampNeg (zJ 0) else x
theorem zrnF_0 (f : Nat) (acc : Int32) : zrnF f 0 acc = acc := by cases f <;> simp [zrnF]
theorem zrnF_s {f n : Nat} {acc : Int32} (h0 : 0 < n) (hf : n < 10 ^ f) : ∃ f', f = f' + 1 ∧ n / 10 < 10 ^ f' ∧ zrnF f n acc = zrnF f' (n / 10) (acc + zJ 1) := by
  cases f with
  | zero => exact absurd hf (by simp; omega)
  | succ f =>
    refine ⟨f, rfl, ?_, ?_⟩
    · rw [Nat.pow_succ] at hf
      omega
    · rw [zrnF, if_neg (by omega)]
theorem zrvF_0 (f : Nat) (acc : Int32) : zrvF f 0 acc = acc := by cases f <;> simp [zrvF]
theorem zrvF_s {f n : Nat} {acc : Int32} (h0 : 0 < n) (hf : n < 10 ^ f) : ∃ f', f = f' + 1 ∧ n / 10 < 10 ^ f' ∧ zrvF f n acc = zrvF f' (n / 10) (acc * zJ 10 + zJ (n % 10)) := by
  cases f with
  | zero => exact absurd hf (by simp; omega)
  | succ f =>
    refine ⟨f, rfl, ?_, ?_⟩
    · rw [Nat.pow_succ] at hf
      omega
    · rw [zrvF, if_neg (by omega)]
theorem c44 {E : zEnv} {h : zPH} {Q : zOut → zPH → Prop} {x : Int32} (K : Q (.inl (some (.int (zrn x)))) h) : zcall E 0 44 [.int x] h Q := by
  show zwp E _ 44 (0, [some (.int _), none, none], [], _) Q
  refine zr_iload_n zi44_0 rfl ?_
  refine zr_if_gt zi44_1 rfl (fun q1 => ?_) (fun q1 => ?_)
  · obtain ⟨n0, hn0, rfl⟩ := zJ_of (zgt_nn q1)
    rw [zrn, if_pos q1, zJ_c hn0] at K
    refine zr_iconst (v := zJ 0) zi44_6 rfl ?_
    refine zr_istore_n (L' := [some (.int (zJ _)), some (.int (zJ _)), none]) zi44_7 rfl rfl ?_
    refine zr_iload_n zi44_8 rfl ?_
    refine zr_istore_n (L' := [some (.int (zJ _)), some (.int (zJ _)), some (.int (zJ _))]) zi44_9 rfl rfl ?_
    suffices key10 : ∀ k, ∀ f acc, (k < 10 ^ f) → (k < 2147483648) → (zrnF f k acc = zrnF 10 n0 (zJ 0)) → zwp E 0 44 (10, [some (.int (zJ n0)), some (.int acc), some (.int (zJ k))], [], h) Q from key10 n0 10 (zJ 0) (by omega) hn0 rfl
    refine zfall fun k ih10 => ?_
    intro f acc hf hn hE
    refine zr_iload_n zi44_10 rfl ?_
    refine zr_if_leN zi44_11 rfl (by omega) (fun q11 => ?_) (fun q11 => ?_)
    · refine zr_iload_n zi44_25 rfl ?_
      refine zr_ireturn zi44_26 rfl ?_
      rw [q11, zrnF_0] at hE
      rw [hE]
      exact K
    · refine zr_iinc (z := zJ 1) (L' := [some (.int (zJ _)), some (.int _), some (.int (zJ _))]) zi44_14 rfl rfl rfl rfl ?_
      refine zr_iload_n zi44_17 rfl ?_
      refine zr_bipush (v := zJ 10) zi44_18 rfl ?_
      refine zr_idivN zi44_20 (by omega) (by omega) (by omega) ?_
      refine zr_istore_n (L' := [some (.int (zJ _)), some (.int _), some (.int (zJ _))]) zi44_21 rfl rfl ?_
      refine zr_goto zi44_22 rfl ?_
      obtain ⟨f1, e1, hn1, eq1⟩ := zrnF_s (acc := acc) q11 hf
      exact ih10 (k / 10) (by omega) f1 _ hn1 (by omega) (by rw [← eq1]; exact hE)
  · rw [zrn, if_neg q1] at K
    refine zr_iload_n zi44_4 rfl ?_
    refine zr_ireturn zi44_5 rfl ?_
    exact K
theorem c65 {E : zEnv} {h : zPH} {Q : zOut → zPH → Prop} {x : Int32} (K : Q (.inl (some (.int (zrv x)))) h) : zcall E 0 65 [.int x] h Q := by
  show zwp E _ 65 (0, [some (.int _), none, none], [], _) Q
  refine zr_iload_n zi65_0 rfl ?_
  refine zr_if_gt zi65_1 rfl (fun q1 => ?_) (fun q1 => ?_)
  · obtain ⟨n0, hn0, rfl⟩ := zJ_of (zgt_nn q1)
    rw [zrv, if_pos q1, zJ_c hn0] at K
    refine zr_iconst (v := zJ 0) zi65_6 rfl ?_
    refine zr_istore_n (L' := [some (.int (zJ _)), some (.int (zJ _)), none]) zi65_7 rfl rfl ?_
    refine zr_iload_n zi65_8 rfl ?_
    refine zr_istore_n (L' := [some (.int (zJ _)), some (.int (zJ _)), some (.int (zJ _))]) zi65_9 rfl rfl ?_
    suffices key10 : ∀ k, ∀ f acc, (k < 10 ^ f) → (k < 2147483648) → (zrvF f k acc = zrvF 10 n0 (zJ 0)) → zwp E 0 65 (10, [some (.int (zJ n0)), some (.int acc), some (.int (zJ k))], [], h) Q from key10 n0 10 (zJ 0) (by omega) hn0 rfl
    refine zfall fun k ih10 => ?_
    intro f acc hf hn hE
    refine zr_iload_n zi65_10 rfl ?_
    refine zr_if_leN zi65_11 rfl (by omega) (fun q11 => ?_) (fun q11 => ?_)
    · refine zr_iload_n zi65_32 rfl ?_
      refine zr_ireturn zi65_33 rfl ?_
      rw [q11, zrvF_0] at hE
      rw [hE]
      exact K
    · refine zr_iload_n zi65_14 rfl ?_
      refine zr_bipush (v := zJ 10) zi65_15 rfl ?_
      refine zr_imul zi65_17 ?_
      refine zr_iload_n zi65_18 rfl ?_
      refine zr_bipush (v := zJ 10) zi65_19 rfl ?_
      refine zr_iremN zi65_21 (by omega) (by omega) (by omega) ?_
      refine zr_iadd zi65_22 ?_
      refine zr_istore_n (L' := [some (.int (zJ _)), some (.int _), some (.int (zJ _))]) zi65_23 rfl rfl ?_
      refine zr_iload_n zi65_24 rfl ?_
      refine zr_bipush (v := zJ 10) zi65_25 rfl ?_
      refine zr_idivN zi65_27 (by omega) (by omega) (by omega) ?_
      refine zr_istore_n (L' := [some (.int (zJ _)), some (.int _), some (.int (zJ _))]) zi65_28 rfl rfl ?_
      refine zr_goto zi65_29 rfl ?_
      obtain ⟨f1, e1, hn1, eq1⟩ := zrvF_s (acc := acc) q11 hf
      exact ih10 (k / 10) (by omega) f1 _ hn1 (by omega) (by rw [← eq1]; exact hE)
  · rw [zrv, if_neg q1] at K
    refine zr_iload_n zi65_4 rfl ?_
    refine zr_ireturn zi65_5 rfl ?_
    exact K
abbrev ysh1 (k : Nat) : Int32 := zJ 1 <<< (zJ k &&& 31)
def zfgL (x : Int32) : Nat → Int32
  | 0 => zJ 0
  | k + 1 => if zSA k = x then zfgL x k ||| ysh1 k else zfgL x k
def zfg (x : Int32) (n : Nat) : Int32 := if x = -1 then zush (-1) (zJ 32 - ysh1 n) else zfgL x (2 ^ n)
theorem zpow5 {n : Nat} (h : n ≤ 5) : 2 ^ n ≤ 32 := Nat.pow_le_pow_right (n := 2) (by omega) h
theorem c7 {E : zEnv} {h : zPH} {Q : zOut → zPH → Prop} (S : ySs E h) {x : Int32} {n : Nat} (hn : n ≤ 5) (K : Q (.inl (some (.int (zfg x n)))) h) : zcall E 0 7 [.int x, .int (zJ n)] h Q := by
  obtain ⟨⟨aSH, eSH, lSH, hSH⟩, ⟨aDK, eDK, lDK, hDK⟩, eCS, ⟨aEL, eEL, lEL, hEL⟩⟩ := S
  have hp := zpow5 hn
  show zwp E _ 7 (0, [some (.int _), some (.int (zJ _)), none, none], [], _) Q
  refine zr_iload_n zi7_0 rfl ?_
  refine zr_iconst (v := (-1)) zi7_1 rfl ?_
  refine zr_icmp_ne zi7_2 rfl (fun q2 => ?_) (fun q2 => ?_)
  · rw [zfg, if_neg q2] at K
    refine zr_iconst (v := zJ 0) zi7_14 rfl ?_
    refine zr_istore_n (L' := [some (.int _), some (.int (zJ _)), some (.int (zJ _)), none]) zi7_15 rfl rfl ?_
    refine zr_iconst (v := zJ 0) zi7_16 rfl ?_
    refine zr_istore_n (L' := [some (.int _), some (.int (zJ _)), some (.int (zJ _)), some (.int (zJ _))]) zi7_17 rfl rfl ?_
    suffices key18 : zwp E 0 7 (18, [some (.int x), some (.int (zJ n)), some (.int (zfgL x 0)), some (.int (zJ 0))], [], h) Q from key18 
    refine zloop (P := fun k => zwp E 0 7 (18, [some (.int x), some (.int (zJ n)), some (.int (zfgL x k)), some (.int (zJ k))], [], h) Q) (n := 2 ^ n) fun k hk18 ih18 => ?_
    refine zr_iload_n zi7_18 rfl ?_
    refine zr_getstatic zi7_19 rfl eSH ?_
    refine zr_arraylength (v := zJ 32) zi7_22 hSH rfl (zlenJ rfl) ?_
    refine zr_icmp_geN zi7_23 rfl (by omega) (by omega) (fun q23 => ?_) (fun q23 => ?_)
    · refine zr_iload_n zi7_54 rfl ?_
      refine zr_ireturn zi7_55 rfl ?_
      obtain rfl : k = 2 ^ n := by omega
      exact K
    · refine zr_iload_n zi7_26 rfl ?_
      refine zr_iconst (v := zJ 1) zi7_27 rfl ?_
      refine zr_iload_n zi7_28 rfl ?_
      refine zr_ishlN zi7_29 (by omega) ?_
      refine zr_icmp_geN zi7_30 rfl (by omega) (by omega) (fun q30 => ?_) (fun q30 => ?_)
      · refine zr_iload_n zi7_54 rfl ?_
        refine zr_ireturn zi7_55 rfl ?_
        obtain rfl : k = 2 ^ n := by omega
        exact K
      · refine zr_getstatic zi7_33 rfl eSH ?_
        refine zr_iload_n zi7_36 rfl ?_
        refine zr_ialoadN zi7_37 hSH rfl (by omega) (by show k < 32; omega) ?_
        refine zr_iload_n zi7_38 rfl ?_
        refine zr_icmp_ne zi7_39 rfl (fun q39 => ?_) (fun q39 => ?_)
        · refine zr_iincN (z := 1) (L' := [some (.int _), some (.int (zJ _)), some (.int _), some (.int (zJ _))]) zi7_48 rfl rfl rfl rfl ?_
          refine zr_goto zi7_51 rfl ?_
          have e := ih18 (by omega)
          rw [zfgL] at e
          first | rw [if_pos q39] at e | rw [if_neg q39] at e
          exact e
        · refine zr_iload_n zi7_42 rfl ?_
          refine zr_iconst (v := zJ 1) zi7_43 rfl ?_
          refine zr_iload_n zi7_44 rfl ?_
          refine zr_ishl zi7_45 ?_
          refine zr_ior zi7_46 ?_
          refine zr_istore_n (L' := [some (.int _), some (.int (zJ _)), some (.int _), some (.int (zJ _))]) zi7_47 rfl rfl ?_
          refine zr_iincN (z := 1) (L' := [some (.int _), some (.int (zJ _)), some (.int _), some (.int (zJ _))]) zi7_48 rfl rfl rfl rfl ?_
          refine zr_goto zi7_51 rfl ?_
          have e := ih18 (by omega)
          rw [zfgL] at e
          first | rw [if_pos q39] at e | rw [if_neg q39] at e
          exact e
  · rw [zfg, if_pos q2] at K
    refine zr_iconst (v := (-1)) zi7_5 rfl ?_
    refine zr_bipush (v := (32)) zi7_6 rfl ?_
    refine zr_iconst (v := (1)) zi7_8 rfl ?_
    refine zr_iload_n zi7_9 rfl ?_
    refine zr_ishl zi7_10 ?_
    refine zr_isub zi7_11 ?_
    refine zr_iushr zi7_12 ?_
    refine zr_ireturn zi7_13 rfl ?_
    exact K
theorem c5 {E : zEnv} {h : zPH} {Q : zOut → zPH → Prop} (S : ySs E h) {g w hh : Nat} {cs cl fs : List Int32} (G : yG h g w hh cs cl fs) {i : Nat} {x : Int32} (hi : i < 10) (K : ∀ h1, yFr (yIv g 4) h h1 0 0 → yG h1 g w hh cs (cl.set i x) (fs.set i (zfg x (yln w hh i))) → Q (.inl none) h1) : zcall E 1 5 [.ref g, .int (zJ i), .int x] h Q := by
  obtain ⟨⟨gw1, gw2, gh1, gh2⟩, gcs, gcl, gfs⟩ := G.2
  have hln := yln_b i G.2.1
  show zwp E _ 5 (0, [some (.ref _), some (.int (zJ _)), some (.int _)], [], _) Q
  refine zr_iload_n zi5_0 rfl ?_
  refine zr_if_ltN zi5_1 rfl (by omega) ?_
  refine zr_iload_n zi5_4 rfl ?_
  refine zr_bipush (v := zJ 10) zi5_5 rfl ?_
  refine zr_icmp_geN zi5_7 rfl (by omega) (by omega) (fun q7 => absurd q7 (by omega)) (fun q7 => ?_)
  refine zr_aload_n zi5_10 rfl ?_
  refine zr_getfield zi5_11 (G.1.at0 rfl) rfl ?_
  refine zr_iload_n zi5_14 rfl ?_
  refine zr_iload_n zi5_15 rfl ?_
  refine zr_iastoreN zi5_16 (G.1.at 2 rfl) (by omega) (by first | omega | (simp only [List.length_set, zpt_len]; omega)) ?_
  refine yG.wcl G (by first | omega | (simp only [List.length_set, zpt_len]; omega)) (fun h16 F16 G16 => ?_)
  have S_16 := F16.ss S
  refine zr_aload_n zi5_17 rfl ?_
  refine zr_getfield zi5_18 (G16.1.at0 rfl) rfl ?_
  refine zr_iload_n zi5_21 rfl ?_
  refine zr_iload_n zi5_22 rfl ?_
  refine zr_aload_n zi5_23 rfl ?_
  refine zr_iload_n zi5_24 rfl ?_
  refine zr_virtual zi5_25 rfl rfl (G16.1.at0 rfl) rfl rfl ?_
  refine zcall_dep (d := 0) (Nat.le_of_ble_eq_true rfl) (c6 G16 (by omega) (zbk_v ?_))
  refine zr_static zi5_28 rfl rfl rfl rfl ?_
  refine zcall_dep (d := 0) (Nat.le_of_ble_eq_true rfl) (c7 S_16 (by omega) (zbk_v ?_))
  refine zr_iastoreN zi5_31 (G16.1.at 3 rfl) (by omega) (by first | omega | (simp only [List.length_set, zpt_len]; omega)) ?_
  refine yG.wfs G16 (by first | omega | (simp only [List.length_set, zpt_len]; omega)) (fun h31 F31 G31 => ?_)
  have S_31 := F31.ss S_16
  refine zr_return zi5_32 rfl ?_
  exact K _ (F16.trans F31) G31
def zwy (w hh : Nat) (cs : List Int32) (i : Nat) (v : Int32) : Nat → Int32
  | 0 => v
  | k + 1 => if zst cs (ycl w hh i k) = zJ 1 then zwy w hh cs i v k &&& zDA k else if zst cs (ycl w hh i k) = zJ 2 then zwy w hh cs i v k &&& (zDA k ^^^ (-1)) else zwy w hh cs i v k
def zws (w hh : Nat) (cs fs : List Int32) (i : Nat) : Int32 := zwy w hh cs i (fs.getD i 0) (yln w hh i)
theorem c20 {E : zEnv} {h : zPH} {Q : zOut → zPH → Prop} (S : ySs E h) {g w hh : Nat} {cs cl fs : List Int32} (G : yG h g w hh cs cl fs) {i : Nat} (hi : i < w + hh) (K : Q (.inl (some (.int (zws w hh cs fs i)))) h) : zcall E 1 20 [.ref g, .int (zJ i)] h Q := by
  obtain ⟨⟨gw1, gw2, gh1, gh2⟩, gcs, gcl, gfs⟩ := G.2
  obtain ⟨⟨aSH, eSH, lSH, hSH⟩, ⟨aDK, eDK, lDK, hDK⟩, eCS, ⟨aEL, eEL, lEL, hEL⟩⟩ := S
  have hln := yln_b i G.2.1
  have hwh := zwh_b G.2.1
  show zwp E _ 20 (0, [some (.ref _), some (.int (zJ _)), none, none, none, none], [], _) Q
  refine zr_iload_n zi20_0 rfl ?_
  refine zr_if_ltN zi20_1 rfl (by omega) ?_
  refine zr_iload_n zi20_4 rfl ?_
  refine zr_aload_n zi20_5 rfl ?_
  refine zr_getfield zi20_6 (G.1.at0 rfl) rfl ?_
  refine zr_arraylength (v := zJ 10) zi20_9 (G.1.at 3 rfl) rfl (zlenJ G.2.2.2.2) ?_
  refine zr_icmp_geN zi20_10 rfl (by omega) (by omega) (fun q10 => absurd q10 (by omega)) (fun q10 => ?_)
  refine zr_aload_n zi20_13 rfl ?_
  refine zr_getfield zi20_14 (G.1.at0 rfl) rfl ?_
  refine zr_iload_n zi20_17 rfl ?_
  refine zr_ialoadN zi20_18 (G.1.at 3 rfl) rfl (by omega) (by first | omega | (simp only [List.length_set, zpt_len]; omega)) ?_
  refine zr_goto zi20_19 rfl ?_
  refine zr_istore_n (L' := [some (.ref _), some (.int (zJ _)), some (.int _), none, none, none]) zi20_23 rfl rfl ?_
  refine zr_aload_n zi20_24 rfl ?_
  refine zr_iload_n zi20_25 rfl ?_
  refine zr_virtual zi20_26 rfl rfl (G.1.at0 rfl) rfl rfl ?_
  refine zcall_dep (d := 0) (Nat.le_of_ble_eq_true rfl) (c6 G (by omega) (zbk_v ?_))
  refine zr_istore_n (L' := [some (.ref _), some (.int (zJ _)), some (.int _), some (.int (zJ _)), none, none]) zi20_29 rfl rfl ?_
  refine zr_iconst (v := zJ 0) zi20_30 rfl ?_
  refine zr_istore (L' := [some (.ref _), some (.int (zJ _)), some (.int _), some (.int (zJ _)), some (.int (zJ _)), none]) zi20_31 rfl rfl ?_
  suffices key33 : ∀ x5, zwp E 1 20 (33, [some (.ref g), some (.int (zJ i)), some (.int (zwy w hh cs i (fs.getD i 0) 0)), some (.int (zJ (yln w hh i))), some (.int (zJ 0)), x5], [], h) Q from key33 _
  refine zloop (P := fun k => ∀ x5, zwp E 1 20 (33, [some (.ref g), some (.int (zJ i)), some (.int (zwy w hh cs i (fs.getD i 0) k)), some (.int (zJ (yln w hh i))), some (.int (zJ k)), x5], [], h) Q) (n := yln w hh i) fun k hk33 ih33 => ?_
  intro x5
  refine zr_iload zi20_33 rfl ?_
  refine zr_iload_n zi20_35 rfl ?_
  refine zr_icmp_geN zi20_36 rfl (by omega) (by omega) (fun q36 => ?_) (fun q36 => ?_)
  · refine zr_iload_n zi20_102 rfl ?_
    refine zr_ireturn zi20_103 rfl ?_
    obtain rfl : k = yln w hh i := by omega
    exact K
  · refine zr_iload zi20_39 rfl ?_
    refine zr_getstatic zi20_41 rfl eDK ?_
    refine zr_arraylength (v := zJ 5) zi20_44 hDK rfl (zlenJ rfl) ?_
    refine zr_icmp_geN zi20_45 rfl (by omega) (by omega) (fun q45 => ?_) (fun q45 => ?_)
    · refine zr_iload_n zi20_102 rfl ?_
      refine zr_ireturn zi20_103 rfl ?_
      obtain rfl : k = yln w hh i := by omega
      exact K
    · have hc := ycl_b hi q36
      refine zr_aload_n zi20_48 rfl ?_
      refine zr_aload_n zi20_49 rfl ?_
      refine zr_iload_n zi20_50 rfl ?_
      refine zr_iload zi20_51 rfl ?_
      refine zr_virtual zi20_53 rfl rfl (G.1.at0 rfl) rfl rfl ?_
      refine zcall_dep (d := 0) (Nat.le_of_ble_eq_true rfl) (c21 G (by omega) (by omega) (zbk_v ?_))
      refine zr_virtual zi20_56 rfl rfl (G.1.at0 rfl) rfl rfl ?_
      refine zcall_dep (d := 0) (Nat.le_of_ble_eq_true rfl) (c16 G (by omega) (zbk_v ?_))
      refine zr_istore (L' := [some (.ref _), some (.int (zJ _)), some (.int _), some (.int (zJ _)), some (.int (zJ _)), some (.int _)]) zi20_59 rfl rfl ?_
      refine zr_iload zi20_61 rfl ?_
      refine zr_iconst (v := zJ 1) zi20_63 rfl ?_
      refine zr_icmp_ne zi20_64 rfl (fun q64 => ?_) (fun q64 => ?_)
      · refine zr_iload zi20_79 rfl ?_
        refine zr_iconst (v := zJ 2) zi20_81 rfl ?_
        refine zr_icmp_ne zi20_82 rfl (fun q82 => ?_) (fun q82 => ?_)
        · refine zr_iincN (z := 1) (L' := [some (.ref _), some (.int (zJ _)), some (.int _), some (.int (zJ _)), some (.int (zJ _)), some (.int _)]) zi20_96 rfl rfl rfl rfl ?_
          refine zr_goto zi20_99 rfl ?_
          have e := ih33 (by omega)
          rw [zwy] at e
          first | rw [if_pos q64] at e | rw [if_neg q64, if_pos q82] at e | rw [if_neg q64, if_neg q82] at e
          exact e _
        · refine zr_iload_n zi20_85 rfl ?_
          refine zr_getstatic zi20_86 rfl eDK ?_
          refine zr_iload zi20_89 rfl ?_
          refine zr_ialoadN zi20_91 hDK rfl (by omega) (by show k < 5; omega) ?_
          refine zr_iconst (v := (-1)) zi20_92 rfl ?_
          refine zr_ixor zi20_93 ?_
          refine zr_iand zi20_94 ?_
          refine zr_istore_n (L' := [some (.ref _), some (.int (zJ _)), some (.int _), some (.int (zJ _)), some (.int (zJ _)), some (.int _)]) zi20_95 rfl rfl ?_
          refine zr_iincN (z := 1) (L' := [some (.ref _), some (.int (zJ _)), some (.int _), some (.int (zJ _)), some (.int (zJ _)), some (.int _)]) zi20_96 rfl rfl rfl rfl ?_
          refine zr_goto zi20_99 rfl ?_
          have e := ih33 (by omega)
          rw [zwy] at e
          first | rw [if_pos q64] at e | rw [if_neg q64, if_pos q82] at e | rw [if_neg q64, if_neg q82] at e
          exact e _
      · refine zr_iload_n zi20_67 rfl ?_
        refine zr_getstatic zi20_68 rfl eDK ?_
        refine zr_iload zi20_71 rfl ?_
        refine zr_ialoadN zi20_73 hDK rfl (by omega) (by show k < 5; omega) ?_
        refine zr_iand zi20_74 ?_
        refine zr_istore_n (L' := [some (.ref _), some (.int (zJ _)), some (.int _), some (.int (zJ _)), some (.int (zJ _)), some (.int _)]) zi20_75 rfl rfl ?_
        refine zr_goto zi20_76 rfl ?_
        refine zr_iincN (z := 1) (L' := [some (.ref _), some (.int (zJ _)), some (.int _), some (.int (zJ _)), some (.int (zJ _)), some (.int _)]) zi20_96 rfl rfl rfl rfl ?_
        refine zr_goto zi20_99 rfl ?_
        have e := ih33 (by omega)
        rw [zwy] at e
        first | rw [if_pos q64] at e | rw [if_neg q64, if_pos q82] at e | rw [if_neg q64, if_neg q82] at e
        exact e _
def zag (ways s : Int32) (k : Nat) : Int32 := if s = zJ 1 then ways &&& (zDA k ^^^ (-1)) else ways &&& zDA k
def zfo (w hh : Nat) (cs : List Int32) (ways : Int32) (i : Nat) (s : Int32) : Nat → Int32
  | 0 => zJ 0
  | k + 1 => if zag ways s k = 0 then (if zst cs (ycl w hh i k) = 0 then zfo w hh cs ways i s k ||| ysh1 k else zfo w hh cs ways i s k) else zfo w hh cs ways i s k
def yfl (w hh : Nat) (cs : List Int32) (ways : Int32) (i : Nat) (s : Int32) : Int32 := if ways = 0 then zJ 0 else zfo w hh cs ways i s (yln w hh i)
theorem c26 {E : zEnv} {h : zPH} {Q : zOut → zPH → Prop} (S : ySs E h) {g w hh : Nat} {cs cl fs : List Int32} (G : yG h g w hh cs cl fs) {i : Nat} {v s : Int32} (hi : i < w + hh) (K : Q (.inl (some (.int (yfl w hh cs v i s)))) h) : zcall E 1 26 [.ref g, .int v, .int (zJ i), .int s] h Q := by
  obtain ⟨⟨gw1, gw2, gh1, gh2⟩, gcs, gcl, gfs⟩ := G.2
  obtain ⟨⟨aSH, eSH, lSH, hSH⟩, ⟨aDK, eDK, lDK, hDK⟩, eCS, ⟨aEL, eEL, lEL, hEL⟩⟩ := S
  have hln := yln_b i G.2.1
  have hwh := zwh_b G.2.1
  show zwp E _ 26 (0, [some (.ref _), some (.int _), some (.int (zJ _)), some (.int _), none, none, none], [], _) Q
  refine zr_iconst (v := zJ 0) zi26_0 rfl ?_
  refine zr_istore (L' := [some (.ref _), some (.int _), some (.int (zJ _)), some (.int _), some (.int (zJ _)), none, none]) zi26_1 rfl rfl ?_
  refine zr_iload_n zi26_3 rfl ?_
  refine zr_if_ne zi26_4 rfl (fun q4 => ?_) (fun q4 => ?_)
  · rw [yfl, if_neg q4] at K
    refine zr_iconst (v := zJ 0) zi26_10 rfl ?_
    refine zr_istore (L' := [some (.ref _), some (.int _), some (.int (zJ _)), some (.int _), some (.int (zJ _)), some (.int (zJ _)), none]) zi26_11 rfl rfl ?_
    suffices key13 : ∀ x6, zwp E 1 26 (13, [some (.ref g), some (.int v), some (.int (zJ i)), some (.int s), some (.int (zfo w hh cs v i s 0)), some (.int (zJ 0)), x6], [], h) Q from key13 _
    refine zloop (P := fun k => ∀ x6, zwp E 1 26 (13, [some (.ref g), some (.int v), some (.int (zJ i)), some (.int s), some (.int (zfo w hh cs v i s k)), some (.int (zJ k)), x6], [], h) Q) (n := yln w hh i) fun k hk13 ih13 => ?_
    intro x6
    refine zr_iload zi26_13 rfl ?_
    refine zr_aload_n zi26_15 rfl ?_
    refine zr_iload_n zi26_16 rfl ?_
    refine zr_virtual zi26_17 rfl rfl (G.1.at0 rfl) rfl rfl ?_
    refine zcall_dep (d := 0) (Nat.le_of_ble_eq_true rfl) (c6 G (by omega) (zbk_v ?_))
    refine zr_icmp_geN zi26_20 rfl (by omega) (by omega) (fun q20 => ?_) (fun q20 => ?_)
    · refine zr_iload zi26_94 rfl ?_
      refine zr_ireturn zi26_96 rfl ?_
      obtain rfl : k = yln w hh i := by omega
      exact K
    · refine zr_iload zi26_23 rfl ?_
      refine zr_getstatic zi26_25 rfl eDK ?_
      refine zr_arraylength (v := zJ 5) zi26_28 hDK rfl (zlenJ rfl) ?_
      refine zr_icmp_geN zi26_29 rfl (by omega) (by omega) (fun q29 => ?_) (fun q29 => ?_)
      · refine zr_iload zi26_94 rfl ?_
        refine zr_ireturn zi26_96 rfl ?_
        obtain rfl : k = yln w hh i := by omega
        exact K
      · have hc := ycl_b hi q20
        refine zr_iload_n zi26_32 rfl ?_
        refine zr_iconst (v := zJ 1) zi26_33 rfl ?_
        refine zr_icmp_ne zi26_34 rfl (fun q34 => ?_) (fun q34 => ?_)
        · refine zr_iload_n zi26_50 rfl ?_
          refine zr_getstatic zi26_51 rfl eDK ?_
          refine zr_iload zi26_54 rfl ?_
          refine zr_ialoadN zi26_56 hDK rfl (by omega) (by show k < 5; omega) ?_
          refine zr_iand zi26_57 ?_
          refine zr_istore (L' := [some (.ref _), some (.int _), some (.int (zJ _)), some (.int _), some (.int _), some (.int (zJ _)), some (.int _)]) zi26_58 rfl rfl ?_
          refine zr_iload zi26_60 rfl ?_
          refine zr_if_ne zi26_62 rfl (fun q62 => ?_) (fun q62 => ?_)
          · refine zr_iincN (z := 1) (L' := [some (.ref _), some (.int _), some (.int (zJ _)), some (.int _), some (.int _), some (.int (zJ _)), some (.int _)]) zi26_88 rfl rfl rfl rfl ?_
            refine zr_goto zi26_91 rfl ?_
            have e := ih13 (by omega)
            rw [zfo, zag] at e
            first | rw [if_pos q34] at e | rw [if_neg q34] at e
            first | rw [if_pos q62, if_pos q76] at e | rw [if_pos q62, if_neg q76] at e | rw [if_neg q62] at e
            exact e _
          · refine zr_aload_n zi26_65 rfl ?_
            refine zr_aload_n zi26_66 rfl ?_
            refine zr_iload_n zi26_67 rfl ?_
            refine zr_iload zi26_68 rfl ?_
            refine zr_virtual zi26_70 rfl rfl (G.1.at0 rfl) rfl rfl ?_
            refine zcall_dep (d := 0) (Nat.le_of_ble_eq_true rfl) (c21 G (by omega) (by omega) (zbk_v ?_))
            refine zr_virtual zi26_73 rfl rfl (G.1.at0 rfl) rfl rfl ?_
            refine zcall_dep (d := 0) (Nat.le_of_ble_eq_true rfl) (c16 G (by omega) (zbk_v ?_))
            refine zr_if_ne zi26_76 rfl (fun q76 => ?_) (fun q76 => ?_)
            · refine zr_iincN (z := 1) (L' := [some (.ref _), some (.int _), some (.int (zJ _)), some (.int _), some (.int _), some (.int (zJ _)), some (.int _)]) zi26_88 rfl rfl rfl rfl ?_
              refine zr_goto zi26_91 rfl ?_
              have e := ih13 (by omega)
              rw [zfo, zag] at e
              first | rw [if_pos q34] at e | rw [if_neg q34] at e
              first | rw [if_pos q62, if_pos q76] at e | rw [if_pos q62, if_neg q76] at e | rw [if_neg q62] at e
              exact e _
            · refine zr_iload zi26_79 rfl ?_
              refine zr_iconst (v := zJ 1) zi26_81 rfl ?_
              refine zr_iload zi26_82 rfl ?_
              refine zr_ishl zi26_84 ?_
              refine zr_ior zi26_85 ?_
              refine zr_istore (L' := [some (.ref _), some (.int _), some (.int (zJ _)), some (.int _), some (.int _), some (.int (zJ _)), some (.int _)]) zi26_86 rfl rfl ?_
              refine zr_iincN (z := 1) (L' := [some (.ref _), some (.int _), some (.int (zJ _)), some (.int _), some (.int _), some (.int (zJ _)), some (.int _)]) zi26_88 rfl rfl rfl rfl ?_
              refine zr_goto zi26_91 rfl ?_
              have e := ih13 (by omega)
              rw [zfo, zag] at e
              first | rw [if_pos q34] at e | rw [if_neg q34] at e
              first | rw [if_pos q62, if_pos q76] at e | rw [if_pos q62, if_neg q76] at e | rw [if_neg q62] at e
              exact e _
        · refine zr_iload_n zi26_37 rfl ?_
          refine zr_getstatic zi26_38 rfl eDK ?_
          refine zr_iload zi26_41 rfl ?_
          refine zr_ialoadN zi26_43 hDK rfl (by omega) (by show k < 5; omega) ?_
          refine zr_iconst (v := (-1)) zi26_44 rfl ?_
          refine zr_ixor zi26_45 ?_
          refine zr_iand zi26_46 ?_
          refine zr_goto zi26_47 rfl ?_
          refine zr_istore (L' := [some (.ref _), some (.int _), some (.int (zJ _)), some (.int _), some (.int _), some (.int (zJ _)), some (.int _)]) zi26_58 rfl rfl ?_
          refine zr_iload zi26_60 rfl ?_
          refine zr_if_ne zi26_62 rfl (fun q62 => ?_) (fun q62 => ?_)
          · refine zr_iincN (z := 1) (L' := [some (.ref _), some (.int _), some (.int (zJ _)), some (.int _), some (.int _), some (.int (zJ _)), some (.int _)]) zi26_88 rfl rfl rfl rfl ?_
            refine zr_goto zi26_91 rfl ?_
            have e := ih13 (by omega)
            rw [zfo, zag] at e
            first | rw [if_pos q34] at e | rw [if_neg q34] at e
            first | rw [if_pos q62, if_pos q76] at e | rw [if_pos q62, if_neg q76] at e | rw [if_neg q62] at e
            exact e _
          · refine zr_aload_n zi26_65 rfl ?_
            refine zr_aload_n zi26_66 rfl ?_
            refine zr_iload_n zi26_67 rfl ?_
            refine zr_iload zi26_68 rfl ?_
            refine zr_virtual zi26_70 rfl rfl (G.1.at0 rfl) rfl rfl ?_
            refine zcall_dep (d := 0) (Nat.le_of_ble_eq_true rfl) (c21 G (by omega) (by omega) (zbk_v ?_))
            refine zr_virtual zi26_73 rfl rfl (G.1.at0 rfl) rfl rfl ?_
            refine zcall_dep (d := 0) (Nat.le_of_ble_eq_true rfl) (c16 G (by omega) (zbk_v ?_))
            refine zr_if_ne zi26_76 rfl (fun q76 => ?_) (fun q76 => ?_)
            · refine zr_iincN (z := 1) (L' := [some (.ref _), some (.int _), some (.int (zJ _)), some (.int _), some (.int _), some (.int (zJ _)), some (.int _)]) zi26_88 rfl rfl rfl rfl ?_
              refine zr_goto zi26_91 rfl ?_
              have e := ih13 (by omega)
              rw [zfo, zag] at e
              first | rw [if_pos q34] at e | rw [if_neg q34] at e
              first | rw [if_pos q62, if_pos q76] at e | rw [if_pos q62, if_neg q76] at e | rw [if_neg q62] at e
              exact e _
            · refine zr_iload zi26_79 rfl ?_
              refine zr_iconst (v := zJ 1) zi26_81 rfl ?_
              refine zr_iload zi26_82 rfl ?_
              refine zr_ishl zi26_84 ?_
              refine zr_ior zi26_85 ?_
              refine zr_istore (L' := [some (.ref _), some (.int _), some (.int (zJ _)), some (.int _), some (.int _), some (.int (zJ _)), some (.int _)]) zi26_86 rfl rfl ?_
              refine zr_iincN (z := 1) (L' := [some (.ref _), some (.int _), some (.int (zJ _)), some (.int _), some (.int _), some (.int (zJ _)), some (.int _)]) zi26_88 rfl rfl rfl rfl ?_
              refine zr_goto zi26_91 rfl ?_
              have e := ih13 (by omega)
              rw [zfo, zag] at e
              first | rw [if_pos q34] at e | rw [if_neg q34] at e
              first | rw [if_pos q62, if_pos q76] at e | rw [if_pos q62, if_neg q76] at e | rw [if_neg q62] at e
              exact e _
  · rw [yfl, if_pos q4] at K
    refine zr_iload zi26_7 rfl ?_
    refine zr_ireturn zi26_9 rfl ?_
    exact K
theorem c45 {E : zEnv} {h : zPH} {Q : zOut → zPH → Prop} (S : ySs E h) {g w hh : Nat} {cs cl fs : List Int32} (G : yG h g w hh cs cl fs) {i : Nat} {s : Int32} (hi : i < w + hh) (K : Q (.inl (some (.int (yfl w hh cs (zws w hh cs fs i) i s)))) h) : zcall E 2 45 [.ref g, .int (zJ i), .int s] h Q := by
  obtain ⟨⟨gw1, gw2, gh1, gh2⟩, gcs, gcl, gfs⟩ := G.2
  show zwp E _ 45 (0, [some (.ref _), some (.int (zJ _)), some (.int _)], [], _) Q
  refine zr_aload_n zi45_0 rfl ?_
  refine zr_aload_n zi45_1 rfl ?_
  refine zr_iload_n zi45_2 rfl ?_
  refine zr_virtual zi45_3 rfl rfl (G.1.at0 rfl) rfl rfl ?_
  refine zcall_dep (d := 1) (Nat.le_of_ble_eq_true rfl) (c20 S G (by omega) (zbk_v ?_))
  refine zr_iload_n zi45_6 rfl ?_
  refine zr_iload_n zi45_7 rfl ?_
  refine zr_virtual zi45_8 rfl rfl (G.1.at0 rfl) rfl rfl ?_
  refine zcall_dep (d := 1) (Nat.le_of_ble_eq_true rfl) (c26 S G (by omega) (zbk_v ?_))
  refine zr_ireturn zi45_11 rfl ?_
  exact K
def zpf (w hh i : Nat) (dk li o e : Int32) (cs : List Int32) : Nat → List Int32
  | 0 => cs
  | k + 1 => if zbit dk k = true then zpt (zpf w hh i dk li o e cs k) (ycl w hh i k) (zJ 1) (zJ i) o e else if zbit li k = true then zpt (zpf w hh i dk li o e cs k) (ycl w hh i k) (zJ 2) (zJ i) o e else zpf w hh i dk li o e cs k
theorem c27 {E : zEnv} {h : zPH} {Q : zOut → zPH → Prop} {g w hh : Nat} {cs cl fs : List Int32} (G : yG h g w hh cs cl fs) {i : Nat} {dk li o e : Int32} (hi : i < w + hh) (K : ∀ h1, yFr (yIv g 4) h h1 0 0 → yG h1 g w hh (zpf w hh i dk li o e cs (yln w hh i)) cl fs → Q (.inl none) h1) : zcall E 1 27 [.ref g, .int (zJ i), .int dk, .int li, .int o, .int e] h Q := by
  obtain ⟨⟨gw1, gw2, gh1, gh2⟩, gcs, gcl, gfs⟩ := G.2
  have hln := yln_b i G.2.1
  have hwh := zwh_b G.2.1
  show zwp E _ 27 (0, [some (.ref _), some (.int (zJ _)), some (.int _), some (.int _), some (.int _), some (.int _), none], [], _) Q
  refine zr_iconst (v := zJ 0) zi27_0 rfl ?_
  refine zr_istore (L' := [some (.ref _), some (.int (zJ _)), some (.int _), some (.int _), some (.int _), some (.int _), some (.int (zJ _))]) zi27_1 rfl rfl ?_
  suffices key3 : ∀ h1, (yFr (yIv g 4) h h1 0 0) → (yG h1 g w hh (zpf w hh i dk li o e cs 0) cl fs) → zwp E 1 27 (3, [some (.ref g), some (.int (zJ i)), some (.int dk), some (.int li), some (.int o), some (.int e), some (.int (zJ 0))], [], h1) Q from key3 h (yFr.refl _ _) G
  refine zloop (P := fun k => ∀ h1, (yFr (yIv g 4) h h1 0 0) → (yG h1 g w hh (zpf w hh i dk li o e cs k) cl fs) → zwp E 1 27 (3, [some (.ref g), some (.int (zJ i)), some (.int dk), some (.int li), some (.int o), some (.int e), some (.int (zJ k))], [], h1) Q) (n := yln w hh i) fun k hk3 ih3 => ?_
  intro h1 F1 G1
  skip
  refine zr_iload zi27_3 rfl ?_
  refine zr_aload_n zi27_5 rfl ?_
  refine zr_iload_n zi27_6 rfl ?_
  refine zr_virtual zi27_7 rfl rfl (G1.1.at0 rfl) rfl rfl ?_
  refine zcall_dep (d := 0) (Nat.le_of_ble_eq_true rfl) (c6 G1 (by omega) (zbk_v ?_))
  refine zr_icmp_geN zi27_10 rfl (by omega) (by omega) (fun q10 => ?_) (fun q10 => ?_)
  · refine zr_return zi27_74 rfl ?_
    obtain rfl : k = yln w hh i := by omega
    exact K _ F1 G1
  · have hc := ycl_b hi q10
    refine zr_iload_n zi27_13 rfl ?_
    refine zr_iload zi27_14 rfl ?_
    refine zr_static zi27_16 rfl rfl rfl rfl ?_
    refine zcall_dep (d := 0) (Nat.le_of_ble_eq_true rfl) (c28 (by omega) (zbk_v ?_))
    refine zr_if_eqB zi27_19 rfl (fun q19 => ?_) (fun q19 => ?_)
    · refine zr_iload_n zi27_42 rfl ?_
      refine zr_iload zi27_43 rfl ?_
      refine zr_static zi27_45 rfl rfl rfl rfl ?_
      refine zcall_dep (d := 0) (Nat.le_of_ble_eq_true rfl) (c28 (by omega) (zbk_v ?_))
      refine zr_if_eqB zi27_48 rfl (fun q48 => ?_) (fun q48 => ?_)
      · refine zr_iincN (z := 1) (L' := [some (.ref _), some (.int (zJ _)), some (.int _), some (.int _), some (.int _), some (.int _), some (.int (zJ _))]) zi27_68 rfl rfl rfl rfl ?_
        refine zr_goto zi27_71 rfl ?_
        have en := ih3 (by omega) _ F1
        rw [zpf] at en
        first | rw [if_pos q19] at en | rw [if_neg (by rw [q19]; decide), if_pos q48] at en | rw [if_neg (by rw [q19]; decide), if_neg (by rw [q48]; decide)] at en
        exact en G1
      · refine zr_aload_n zi27_51 rfl ?_
        refine zr_aload_n zi27_52 rfl ?_
        refine zr_iload_n zi27_53 rfl ?_
        refine zr_iload zi27_54 rfl ?_
        refine zr_virtual zi27_56 rfl rfl (G1.1.at0 rfl) rfl rfl ?_
        refine zcall_dep (d := 0) (Nat.le_of_ble_eq_true rfl) (c21 G1 (by omega) (by omega) (zbk_v ?_))
        refine zr_iconst (v := zJ 2) zi27_59 rfl ?_
        refine zr_iload_n zi27_60 rfl ?_
        refine zr_iload zi27_61 rfl ?_
        refine zr_iload zi27_63 rfl ?_
        refine zr_virtual zi27_65 rfl rfl (G1.1.at0 rfl) rfl rfl ?_
        refine zcall_dep (d := 0) (Nat.le_of_ble_eq_true rfl) (c3 G1 (by omega) (fun h65 F65 G65 => zbk_0 ?_))
        refine zr_iincN (z := 1) (L' := [some (.ref _), some (.int (zJ _)), some (.int _), some (.int _), some (.int _), some (.int _), some (.int (zJ _))]) zi27_68 rfl rfl rfl rfl ?_
        refine zr_goto zi27_71 rfl ?_
        have en := ih3 (by omega) _ (F1.trans F65)
        rw [zpf] at en
        first | rw [if_pos q19] at en | rw [if_neg (by rw [q19]; decide), if_pos q48] at en | rw [if_neg (by rw [q19]; decide), if_neg (by rw [q48]; decide)] at en
        exact en G65
    · refine zr_aload_n zi27_22 rfl ?_
      refine zr_aload_n zi27_23 rfl ?_
      refine zr_iload_n zi27_24 rfl ?_
      refine zr_iload zi27_25 rfl ?_
      refine zr_virtual zi27_27 rfl rfl (G1.1.at0 rfl) rfl rfl ?_
      refine zcall_dep (d := 0) (Nat.le_of_ble_eq_true rfl) (c21 G1 (by omega) (by omega) (zbk_v ?_))
      refine zr_iconst (v := zJ 1) zi27_30 rfl ?_
      refine zr_iload_n zi27_31 rfl ?_
      refine zr_iload zi27_32 rfl ?_
      refine zr_iload zi27_34 rfl ?_
      refine zr_virtual zi27_36 rfl rfl (G1.1.at0 rfl) rfl rfl ?_
      refine zcall_dep (d := 0) (Nat.le_of_ble_eq_true rfl) (c3 G1 (by omega) (fun h36 F36 G36 => zbk_0 ?_))
      refine zr_goto zi27_39 rfl ?_
      refine zr_iincN (z := 1) (L' := [some (.ref _), some (.int (zJ _)), some (.int _), some (.int _), some (.int _), some (.int _), some (.int (zJ _))]) zi27_68 rfl rfl rfl rfl ?_
      refine zr_goto zi27_71 rfl ?_
      have en := ih3 (by omega) _ (F1.trans F36)
      rw [zpf] at en
      first | rw [if_pos q19] at en | rw [if_neg (by rw [q19]; decide), if_pos q48] at en | rw [if_neg (by rw [q19]; decide), if_neg (by rw [q48]; decide)] at en
      exact en G36
def zct (cs : List Int32) (s : Int32) : Nat → Nat
  | 0 => 0
  | k + 1 => if zst cs k = s then zct cs s k + 1 else zct cs s k
theorem zct_le (cs : List Int32) (s : Int32) (k : Nat) : zct cs s k ≤ k := by
  induction k with
  | zero => exact Nat.le_refl _
  | succ k ih => rw [zct]; split <;> omega
def zus (cs : List Int32) : Nat → Int32
  | 0 => zJ 0
  | k + 1 => if zst cs k = 0 then zus cs k ||| ysh1 k else zus cs k
def zbl (w hh : Nat) (cs fs : List Int32) : Nat → Nat
  | 0 => 0
  | k + 1 => if zws w hh cs fs k = 0 then zbl w hh cs fs k + 1 else zbl w hh cs fs k
theorem zbl_le (w hh : Nat) (cs fs : List Int32) (k : Nat) : zbl w hh cs fs k ≤ k := by
  induction k with
  | zero => exact Nat.le_refl _
  | succ k ih => rw [zbl]; split <;> omega
def zol (cl : List Int32) : Nat → Nat
  | 0 => 0
  | k + 1 => if cl.getD k 0 = -1 then zol cl k + 1 else zol cl k
theorem zol_le (cl : List Int32) (k : Nat) : zol cl k ≤ k := by
  induction k with
  | zero => exact Nat.le_refl _
  | succ k ih => rw [zol]; split <;> omega
def zui (w hh : Nat) (cs : List Int32) (i : Nat) : Nat → Nat
  | 0 => 0
  | k + 1 => if zst cs (ycl w hh i k) = 0 then zui w hh cs i k + 1 else zui w hh cs i k
theorem zui_le (w hh : Nat) (cs : List Int32) (i k : Nat) : zui w hh cs i k ≤ k := by
  induction k with
  | zero => exact Nat.le_refl _
  | succ k ih => rw [zui]; split <;> omega
def zdp (w hh : Nat) (cs : List Int32) (i : Nat) : Nat → Int32
  | 0 => zJ 0
  | k + 1 => if zst cs (ycl w hh i k) = zJ 1 then zdp w hh cs i k ||| ysh1 k else zdp w hh cs i k
theorem c14 {E : zEnv} {h : zPH} {Q : zOut → zPH → Prop} {g w hh : Nat} {cs cl fs : List Int32} (G : yG h g w hh cs cl fs) {s : Int32} (K : Q (.inl (some (.int (zJ (zct cs s (w * hh)))))) h) : zcall E 1 14 [.ref g, .int s] h Q := by
  obtain ⟨⟨gw1, gw2, gh1, gh2⟩, gcs, gcl, gfs⟩ := G.2
  have hwh := zwh_b G.2.1
  show zwp E _ 14 (0, [some (.ref _), some (.int _), none, none], [], _) Q
  refine zr_iconst (v := zJ 0) zi14_0 rfl ?_
  refine zr_istore_n (L' := [some (.ref _), some (.int _), some (.int (zJ _)), none]) zi14_1 rfl rfl ?_
  refine zr_iconst (v := zJ 0) zi14_2 rfl ?_
  refine zr_istore_n (L' := [some (.ref _), some (.int _), some (.int (zJ _)), some (.int (zJ _))]) zi14_3 rfl rfl ?_
  suffices key4 : zwp E 1 14 (4, [some (.ref g), some (.int s), some (.int (zJ (zct cs s 0))), some (.int (zJ 0))], [], h) Q from key4 
  refine zloop (P := fun k => zwp E 1 14 (4, [some (.ref g), some (.int s), some (.int (zJ (zct cs s k))), some (.int (zJ k))], [], h) Q) (n := w * hh) fun k hk4 ih4 => ?_
  refine zr_iload_n zi14_4 rfl ?_
  refine zr_aload_n zi14_5 rfl ?_
  refine zr_virtual zi14_6 rfl rfl (G.1.at0 rfl) rfl rfl ?_
  refine zcall_dep (d := 0) (Nat.le_of_ble_eq_true rfl) (c15 G (zbk_v ?_))
  refine zr_icmp_geN zi14_9 rfl (by omega) (by omega) (fun q9 => ?_) (fun q9 => ?_)
  · refine zr_iload_n zi14_30 rfl ?_
    refine zr_ireturn zi14_31 rfl ?_
    obtain rfl : k = w * hh := by omega
    exact K
  · refine zr_aload_n zi14_12 rfl ?_
    refine zr_iload_n zi14_13 rfl ?_
    refine zr_virtual zi14_14 rfl rfl (G.1.at0 rfl) rfl rfl ?_
    refine zcall_dep (d := 0) (Nat.le_of_ble_eq_true rfl) (c16 G (by omega) (zbk_v ?_))
    refine zr_iload_n zi14_17 rfl ?_
    refine zr_icmp_ne zi14_18 rfl (fun q18 => ?_) (fun q18 => ?_)
    · refine zr_iincN (z := 1) (L' := [some (.ref _), some (.int _), some (.int (zJ _)), some (.int (zJ _))]) zi14_24 rfl rfl rfl rfl ?_
      refine zr_goto zi14_27 rfl ?_
      have e := ih4 (by omega)
      rw [zct] at e
      first | rw [if_pos q18] at e | rw [if_neg q18] at e
      exact e
    · refine zr_iincN (z := 1) (L' := [some (.ref _), some (.int _), some (.int (zJ _)), some (.int (zJ _))]) zi14_21 rfl rfl rfl rfl ?_
      refine zr_iincN (z := 1) (L' := [some (.ref _), some (.int _), some (.int (zJ _)), some (.int (zJ _))]) zi14_24 rfl rfl rfl rfl ?_
      refine zr_goto zi14_27 rfl ?_
      have e := ih4 (by omega)
      rw [zct] at e
      first | rw [if_pos q18] at e | rw [if_neg q18] at e
      exact e
theorem c38 {E : zEnv} {h : zPH} {Q : zOut → zPH → Prop} {g w hh : Nat} {cs cl fs : List Int32} (G : yG h g w hh cs cl fs) (K : Q (.inl (some (.int (zus cs (w * hh))))) h) : zcall E 1 38 [.ref g] h Q := by
  obtain ⟨⟨gw1, gw2, gh1, gh2⟩, gcs, gcl, gfs⟩ := G.2
  have hwh := zwh_b G.2.1
  show zwp E _ 38 (0, [some (.ref _), none, none], [], _) Q
  refine zr_iconst (v := zJ 0) zi38_0 rfl ?_
  refine zr_istore_n (L' := [some (.ref _), some (.int (zJ _)), none]) zi38_1 rfl rfl ?_
  refine zr_iconst (v := zJ 0) zi38_2 rfl ?_
  refine zr_istore_n (L' := [some (.ref _), some (.int (zJ _)), some (.int (zJ _))]) zi38_3 rfl rfl ?_
  suffices key4 : zwp E 1 38 (4, [some (.ref g), some (.int (zus cs 0)), some (.int (zJ 0))], [], h) Q from key4 
  refine zloop (P := fun k => zwp E 1 38 (4, [some (.ref g), some (.int (zus cs k)), some (.int (zJ k))], [], h) Q) (n := w * hh) fun k hk4 ih4 => ?_
  refine zr_iload_n zi38_4 rfl ?_
  refine zr_aload_n zi38_5 rfl ?_
  refine zr_virtual zi38_6 rfl rfl (G.1.at0 rfl) rfl rfl ?_
  refine zcall_dep (d := 0) (Nat.le_of_ble_eq_true rfl) (c15 G (zbk_v ?_))
  refine zr_icmp_geN zi38_9 rfl (by omega) (by omega) (fun q9 => ?_) (fun q9 => ?_)
  · refine zr_iload_n zi38_32 rfl ?_
    refine zr_ireturn zi38_33 rfl ?_
    obtain rfl : k = w * hh := by omega
    exact K
  · refine zr_aload_n zi38_12 rfl ?_
    refine zr_iload_n zi38_13 rfl ?_
    refine zr_virtual zi38_14 rfl rfl (G.1.at0 rfl) rfl rfl ?_
    refine zcall_dep (d := 0) (Nat.le_of_ble_eq_true rfl) (c16 G (by omega) (zbk_v ?_))
    refine zr_if_ne zi38_17 rfl (fun q17 => ?_) (fun q17 => ?_)
    · refine zr_iincN (z := 1) (L' := [some (.ref _), some (.int _), some (.int (zJ _))]) zi38_26 rfl rfl rfl rfl ?_
      refine zr_goto zi38_29 rfl ?_
      have e := ih4 (by omega)
      rw [zus] at e
      first | rw [if_pos q17] at e | rw [if_neg q17] at e
      exact e
    · refine zr_iload_n zi38_20 rfl ?_
      refine zr_iconst (v := zJ 1) zi38_21 rfl ?_
      refine zr_iload_n zi38_22 rfl ?_
      refine zr_ishl zi38_23 ?_
      refine zr_ior zi38_24 ?_
      refine zr_istore_n (L' := [some (.ref _), some (.int _), some (.int (zJ _))]) zi38_25 rfl rfl ?_
      refine zr_iincN (z := 1) (L' := [some (.ref _), some (.int _), some (.int (zJ _))]) zi38_26 rfl rfl rfl rfl ?_
      refine zr_goto zi38_29 rfl ?_
      have e := ih4 (by omega)
      rw [zus] at e
      first | rw [if_pos q17] at e | rw [if_neg q17] at e
      exact e
theorem c19 {E : zEnv} {h : zPH} {Q : zOut → zPH → Prop} (S : ySs E h) {g w hh : Nat} {cs cl fs : List Int32} (G : yG h g w hh cs cl fs) (K : Q (.inl (some (.int (zJ (zbl w hh cs fs (w + hh)))))) h) : zcall E 2 19 [.ref g] h Q := by
  obtain ⟨⟨gw1, gw2, gh1, gh2⟩, gcs, gcl, gfs⟩ := G.2
  show zwp E _ 19 (0, [some (.ref _), none, none], [], _) Q
  refine zr_iconst (v := zJ 0) zi19_0 rfl ?_
  refine zr_istore_n (L' := [some (.ref _), some (.int (zJ _)), none]) zi19_1 rfl rfl ?_
  refine zr_iconst (v := zJ 0) zi19_2 rfl ?_
  refine zr_istore_n (L' := [some (.ref _), some (.int (zJ _)), some (.int (zJ _))]) zi19_3 rfl rfl ?_
  suffices key4 : zwp E 2 19 (4, [some (.ref g), some (.int (zJ (zbl w hh cs fs 0))), some (.int (zJ 0))], [], h) Q from key4 
  refine zloop (P := fun k => zwp E 2 19 (4, [some (.ref g), some (.int (zJ (zbl w hh cs fs k))), some (.int (zJ k))], [], h) Q) (n := w + hh) fun k hk4 ih4 => ?_
  refine zr_iload_n zi19_4 rfl ?_
  refine zr_aload_n zi19_5 rfl ?_
  refine zr_virtual zi19_6 rfl rfl (G.1.at0 rfl) rfl rfl ?_
  refine zcall_dep (d := 0) (Nat.le_of_ble_eq_true rfl) (c4 G (zbk_v ?_))
  refine zr_icmp_geN zi19_9 rfl (by omega) (by omega) (fun q9 => ?_) (fun q9 => ?_)
  · refine zr_iload_n zi19_29 rfl ?_
    refine zr_ireturn zi19_30 rfl ?_
    obtain rfl : k = w + hh := by omega
    exact K
  · refine zr_aload_n zi19_12 rfl ?_
    refine zr_iload_n zi19_13 rfl ?_
    refine zr_virtual zi19_14 rfl rfl (G.1.at0 rfl) rfl rfl ?_
    refine zcall_dep (d := 1) (Nat.le_of_ble_eq_true rfl) (c20 S G (by omega) (zbk_v ?_))
    refine zr_if_ne zi19_17 rfl (fun q17 => ?_) (fun q17 => ?_)
    · refine zr_iincN (z := 1) (L' := [some (.ref _), some (.int (zJ _)), some (.int (zJ _))]) zi19_23 rfl rfl rfl rfl ?_
      refine zr_goto zi19_26 rfl ?_
      have e := ih4 (by omega)
      rw [zbl] at e
      first | rw [if_pos q17] at e | rw [if_neg q17] at e
      exact e
    · refine zr_iincN (z := 1) (L' := [some (.ref _), some (.int (zJ _)), some (.int (zJ _))]) zi19_20 rfl rfl rfl rfl ?_
      refine zr_iincN (z := 1) (L' := [some (.ref _), some (.int (zJ _)), some (.int (zJ _))]) zi19_23 rfl rfl rfl rfl ?_
      refine zr_goto zi19_26 rfl ?_
      have e := ih4 (by omega)
      rw [zbl] at e
      first | rw [if_pos q17] at e | rw [if_neg q17] at e
      exact e
theorem c35 {E : zEnv} {h : zPH} {Q : zOut → zPH → Prop} {g w hh : Nat} {cs cl fs : List Int32} (G : yG h g w hh cs cl fs) (K : Q (.inl (some (.int (zJ (zol cl (w + hh)))))) h) : zcall E 1 35 [.ref g] h Q := by
  obtain ⟨⟨gw1, gw2, gh1, gh2⟩, gcs, gcl, gfs⟩ := G.2
  show zwp E _ 35 (0, [some (.ref _), none, none], [], _) Q
  refine zr_iconst (v := zJ 0) zi35_0 rfl ?_
  refine zr_istore_n (L' := [some (.ref _), some (.int (zJ _)), none]) zi35_1 rfl rfl ?_
  refine zr_iconst (v := zJ 0) zi35_2 rfl ?_
  refine zr_istore_n (L' := [some (.ref _), some (.int (zJ _)), some (.int (zJ _))]) zi35_3 rfl rfl ?_
  suffices key4 : zwp E 1 35 (4, [some (.ref g), some (.int (zJ (zol cl 0))), some (.int (zJ 0))], [], h) Q from key4 
  refine zloop (P := fun k => zwp E 1 35 (4, [some (.ref g), some (.int (zJ (zol cl k))), some (.int (zJ k))], [], h) Q) (n := w + hh) fun k hk4 ih4 => ?_
  refine zr_iload_n zi35_4 rfl ?_
  refine zr_aload_n zi35_5 rfl ?_
  refine zr_virtual zi35_6 rfl rfl (G.1.at0 rfl) rfl rfl ?_
  refine zcall_dep (d := 0) (Nat.le_of_ble_eq_true rfl) (c4 G (zbk_v ?_))
  refine zr_icmp_geN zi35_9 rfl (by omega) (by omega) (fun q9 => ?_) (fun q9 => ?_)
  · refine zr_iload_n zi35_30 rfl ?_
    refine zr_ireturn zi35_31 rfl ?_
    obtain rfl : k = w + hh := by omega
    exact K
  · refine zr_aload_n zi35_12 rfl ?_
    refine zr_iload_n zi35_13 rfl ?_
    refine zr_virtual zi35_14 rfl rfl (G.1.at0 rfl) rfl rfl ?_
    refine zcall_dep (d := 0) (Nat.le_of_ble_eq_true rfl) (c36 G (by omega) (zbk_v ?_))
    refine zr_iconst (v := (-1)) zi35_17 rfl ?_
    refine zr_icmp_ne zi35_18 rfl (fun q18 => ?_) (fun q18 => ?_)
    · refine zr_iincN (z := 1) (L' := [some (.ref _), some (.int (zJ _)), some (.int (zJ _))]) zi35_24 rfl rfl rfl rfl ?_
      refine zr_goto zi35_27 rfl ?_
      have e := ih4 (by omega)
      rw [zol] at e
      first | rw [if_pos q18] at e | rw [if_neg q18] at e
      exact e
    · refine zr_iincN (z := 1) (L' := [some (.ref _), some (.int (zJ _)), some (.int (zJ _))]) zi35_21 rfl rfl rfl rfl ?_
      refine zr_iincN (z := 1) (L' := [some (.ref _), some (.int (zJ _)), some (.int (zJ _))]) zi35_24 rfl rfl rfl rfl ?_
      refine zr_goto zi35_27 rfl ?_
      have e := ih4 (by omega)
      rw [zol] at e
      first | rw [if_pos q18] at e | rw [if_neg q18] at e
      exact e
theorem c51 {E : zEnv} {h : zPH} {Q : zOut → zPH → Prop} {g w hh : Nat} {cs cl fs : List Int32} (G : yG h g w hh cs cl fs) {i : Nat} (hi : i < w + hh) (K : Q (.inl (some (.int (zJ (zui w hh cs i (yln w hh i)))))) h) : zcall E 1 51 [.ref g, .int (zJ i)] h Q := by
  obtain ⟨⟨gw1, gw2, gh1, gh2⟩, gcs, gcl, gfs⟩ := G.2
  have hln := yln_b i G.2.1
  have hwh := zwh_b G.2.1
  show zwp E _ 51 (0, [some (.ref _), some (.int (zJ _)), none, none], [], _) Q
  refine zr_iconst (v := zJ 0) zi51_0 rfl ?_
  refine zr_istore_n (L' := [some (.ref _), some (.int (zJ _)), some (.int (zJ _)), none]) zi51_1 rfl rfl ?_
  refine zr_iconst (v := zJ 0) zi51_2 rfl ?_
  refine zr_istore_n (L' := [some (.ref _), some (.int (zJ _)), some (.int (zJ _)), some (.int (zJ _))]) zi51_3 rfl rfl ?_
  suffices key4 : zwp E 1 51 (4, [some (.ref g), some (.int (zJ i)), some (.int (zJ (zui w hh cs i 0))), some (.int (zJ 0))], [], h) Q from key4 
  refine zloop (P := fun k => zwp E 1 51 (4, [some (.ref g), some (.int (zJ i)), some (.int (zJ (zui w hh cs i k))), some (.int (zJ k))], [], h) Q) (n := yln w hh i) fun k hk4 ih4 => ?_
  refine zr_iload_n zi51_4 rfl ?_
  refine zr_aload_n zi51_5 rfl ?_
  refine zr_iload_n zi51_6 rfl ?_
  refine zr_virtual zi51_7 rfl rfl (G.1.at0 rfl) rfl rfl ?_
  refine zcall_dep (d := 0) (Nat.le_of_ble_eq_true rfl) (c6 G (by omega) (zbk_v ?_))
  refine zr_icmp_geN zi51_10 rfl (by omega) (by omega) (fun q10 => ?_) (fun q10 => ?_)
  · refine zr_iload_n zi51_35 rfl ?_
    refine zr_ireturn zi51_36 rfl ?_
    obtain rfl : k = yln w hh i := by omega
    exact K
  · have hc := ycl_b hi q10
    refine zr_aload_n zi51_13 rfl ?_
    refine zr_aload_n zi51_14 rfl ?_
    refine zr_iload_n zi51_15 rfl ?_
    refine zr_iload_n zi51_16 rfl ?_
    refine zr_virtual zi51_17 rfl rfl (G.1.at0 rfl) rfl rfl ?_
    refine zcall_dep (d := 0) (Nat.le_of_ble_eq_true rfl) (c21 G (by omega) (by omega) (zbk_v ?_))
    refine zr_virtual zi51_20 rfl rfl (G.1.at0 rfl) rfl rfl ?_
    refine zcall_dep (d := 0) (Nat.le_of_ble_eq_true rfl) (c16 G (by omega) (zbk_v ?_))
    refine zr_if_ne zi51_23 rfl (fun q23 => ?_) (fun q23 => ?_)
    · refine zr_iincN (z := 1) (L' := [some (.ref _), some (.int (zJ _)), some (.int (zJ _)), some (.int (zJ _))]) zi51_29 rfl rfl rfl rfl ?_
      refine zr_goto zi51_32 rfl ?_
      have e := ih4 (by omega)
      rw [zui] at e
      first | rw [if_pos q23] at e | rw [if_neg q23] at e
      exact e
    · refine zr_iincN (z := 1) (L' := [some (.ref _), some (.int (zJ _)), some (.int (zJ _)), some (.int (zJ _))]) zi51_26 rfl rfl rfl rfl ?_
      refine zr_iincN (z := 1) (L' := [some (.ref _), some (.int (zJ _)), some (.int (zJ _)), some (.int (zJ _))]) zi51_29 rfl rfl rfl rfl ?_
      refine zr_goto zi51_32 rfl ?_
      have e := ih4 (by omega)
      rw [zui] at e
      first | rw [if_pos q23] at e | rw [if_neg q23] at e
      exact e
theorem c100 {E : zEnv} {h : zPH} {Q : zOut → zPH → Prop} {g w hh : Nat} {cs cl fs : List Int32} (G : yG h g w hh cs cl fs) {i : Nat} (hi : i < w + hh) (K : Q (.inl (some (.int (zdp w hh cs i (yln w hh i))))) h) : zcall E 1 100 [.ref g, .int (zJ i)] h Q := by
  obtain ⟨⟨gw1, gw2, gh1, gh2⟩, gcs, gcl, gfs⟩ := G.2
  have hln := yln_b i G.2.1
  have hwh := zwh_b G.2.1
  show zwp E _ 100 (0, [some (.ref _), some (.int (zJ _)), none, none], [], _) Q
  refine zr_iconst (v := zJ 0) zi100_0 rfl ?_
  refine zr_istore_n (L' := [some (.ref _), some (.int (zJ _)), some (.int (zJ _)), none]) zi100_1 rfl rfl ?_
  refine zr_iconst (v := zJ 0) zi100_2 rfl ?_
  refine zr_istore_n (L' := [some (.ref _), some (.int (zJ _)), some (.int (zJ _)), some (.int (zJ _))]) zi100_3 rfl rfl ?_
  suffices key4 : zwp E 1 100 (4, [some (.ref g), some (.int (zJ i)), some (.int (zdp w hh cs i 0)), some (.int (zJ 0))], [], h) Q from key4 
  refine zloop (P := fun k => zwp E 1 100 (4, [some (.ref g), some (.int (zJ i)), some (.int (zdp w hh cs i k)), some (.int (zJ k))], [], h) Q) (n := yln w hh i) fun k hk4 ih4 => ?_
  refine zr_iload_n zi100_4 rfl ?_
  refine zr_aload_n zi100_5 rfl ?_
  refine zr_iload_n zi100_6 rfl ?_
  refine zr_virtual zi100_7 rfl rfl (G.1.at0 rfl) rfl rfl ?_
  refine zcall_dep (d := 0) (Nat.le_of_ble_eq_true rfl) (c6 G (by omega) (zbk_v ?_))
  refine zr_icmp_geN zi100_10 rfl (by omega) (by omega) (fun q10 => ?_) (fun q10 => ?_)
  · refine zr_iload_n zi100_39 rfl ?_
    refine zr_ireturn zi100_40 rfl ?_
    obtain rfl : k = yln w hh i := by omega
    exact K
  · have hc := ycl_b hi q10
    refine zr_aload_n zi100_13 rfl ?_
    refine zr_aload_n zi100_14 rfl ?_
    refine zr_iload_n zi100_15 rfl ?_
    refine zr_iload_n zi100_16 rfl ?_
    refine zr_virtual zi100_17 rfl rfl (G.1.at0 rfl) rfl rfl ?_
    refine zcall_dep (d := 0) (Nat.le_of_ble_eq_true rfl) (c21 G (by omega) (by omega) (zbk_v ?_))
    refine zr_virtual zi100_20 rfl rfl (G.1.at0 rfl) rfl rfl ?_
    refine zcall_dep (d := 0) (Nat.le_of_ble_eq_true rfl) (c16 G (by omega) (zbk_v ?_))
    refine zr_iconst (v := zJ 1) zi100_23 rfl ?_
    refine zr_icmp_ne zi100_24 rfl (fun q24 => ?_) (fun q24 => ?_)
    · refine zr_iincN (z := 1) (L' := [some (.ref _), some (.int (zJ _)), some (.int _), some (.int (zJ _))]) zi100_33 rfl rfl rfl rfl ?_
      refine zr_goto zi100_36 rfl ?_
      have e := ih4 (by omega)
      rw [zdp] at e
      first | rw [if_pos q24] at e | rw [if_neg q24] at e
      exact e
    · refine zr_iload_n zi100_27 rfl ?_
      refine zr_iconst (v := zJ 1) zi100_28 rfl ?_
      refine zr_iload_n zi100_29 rfl ?_
      refine zr_ishl zi100_30 ?_
      refine zr_ior zi100_31 ?_
      refine zr_istore_n (L' := [some (.ref _), some (.int (zJ _)), some (.int _), some (.int (zJ _))]) zi100_32 rfl rfl ?_
      refine zr_iincN (z := 1) (L' := [some (.ref _), some (.int (zJ _)), some (.int _), some (.int (zJ _))]) zi100_33 rfl rfl rfl rfl ?_
      refine zr_goto zi100_36 rfl ?_
      have e := ih4 (by omega)
      rw [zdp] at e
      first | rw [if_pos q24] at e | rw [if_neg q24] at e
      exact e
def zpr (w hh r : Nat) (set : Int32) (cs : List Int32) : Nat → List Int32
  | 0 => cs
  | k + 1 => zpt (zpr w hh r set cs k) (ycl w hh r k) (if zbit set k = true then zJ 1 else zJ 2) (-1) (zJ 0) (zJ 0)
theorem c96 {E : zEnv} {h : zPH} {Q : zOut → zPH → Prop} {g w hh : Nat} {cs cl fs : List Int32} (G : yG h g w hh cs cl fs) {r : Nat} {x : Int32} (hr : r < hh) (K : ∀ h1, yFr (yIv g 4) h h1 0 0 → yG h1 g w hh (zpr w hh r x cs w) cl fs → Q (.inl none) h1) : zcall E 1 96 [.ref g, .int (zJ r), .int x] h Q := by
  obtain ⟨⟨gw1, gw2, gh1, gh2⟩, gcs, gcl, gfs⟩ := G.2
  have hwh := zwh_b G.2.1
  show zwp E _ 96 (0, [some (.ref _), some (.int (zJ _)), some (.int _), none], [], _) Q
  refine zr_iconst (v := zJ 0) zi96_0 rfl ?_
  refine zr_istore_n (L' := [some (.ref _), some (.int (zJ _)), some (.int _), some (.int (zJ _))]) zi96_1 rfl rfl ?_
  suffices key2 : ∀ h1, (yFr (yIv g 4) h h1 0 0) → (yG h1 g w hh (zpr w hh r x cs 0) cl fs) → zwp E 1 96 (2, [some (.ref g), some (.int (zJ r)), some (.int x), some (.int (zJ 0))], [], h1) Q from key2 h (yFr.refl _ _) G
  refine zloop (P := fun k => ∀ h1, (yFr (yIv g 4) h h1 0 0) → (yG h1 g w hh (zpr w hh r x cs k) cl fs) → zwp E 1 96 (2, [some (.ref g), some (.int (zJ r)), some (.int x), some (.int (zJ k))], [], h1) Q) (n := w) fun k hk2 ih2 => ?_
  intro h1 F1 G1
  skip
  refine zr_iload_n zi96_2 rfl ?_
  refine zr_aload_n zi96_3 rfl ?_
  refine zr_getfield zi96_4 (G1.1.at0 rfl) rfl ?_
  refine zr_icmp_geN zi96_7 rfl (by omega) (by omega) (fun q7 => ?_) (fun q7 => ?_)
  · refine zr_return zi96_42 rfl ?_
    obtain rfl : k = w := by omega
    exact K _ F1 G1
  · have hc := ycl_b (w := w) (hh := hh) (i := r) (p := k) (by omega) (by rw [yln, if_pos hr]; exact q7)
    refine zr_aload_n zi96_10 rfl ?_
    refine zr_aload_n zi96_11 rfl ?_
    refine zr_iload_n zi96_12 rfl ?_
    refine zr_iload_n zi96_13 rfl ?_
    refine zr_virtual zi96_14 rfl rfl (G1.1.at0 rfl) rfl rfl ?_
    refine zcall_dep (d := 0) (Nat.le_of_ble_eq_true rfl) (c21 G1 (by omega) (by omega) (zbk_v ?_))
    refine zr_iload_n zi96_17 rfl ?_
    refine zr_iload_n zi96_18 rfl ?_
    refine zr_static zi96_19 rfl rfl rfl rfl ?_
    refine zcall_dep (d := 0) (Nat.le_of_ble_eq_true rfl) (c28 (by omega) (zbk_v ?_))
    refine zr_if_eqB zi96_22 rfl (fun q22 => ?_) (fun q22 => ?_)
    · refine zr_iconst (v := zJ 2) zi96_29 rfl ?_
      refine zr_iconst (v := (-1)) zi96_30 rfl ?_
      refine zr_iconst (v := zJ 0) zi96_31 rfl ?_
      refine zr_iconst (v := zJ 0) zi96_32 rfl ?_
      refine zr_virtual zi96_33 rfl rfl (G1.1.at0 rfl) rfl rfl ?_
      refine zcall_dep (d := 0) (Nat.le_of_ble_eq_true rfl) (c3 G1 (by omega) (fun h33 F33 G33 => zbk_0 ?_))
      refine zr_iincN (z := 1) (L' := [some (.ref _), some (.int (zJ _)), some (.int _), some (.int (zJ _))]) zi96_36 rfl rfl rfl rfl ?_
      refine zr_goto zi96_39 rfl ?_
      have en := ih2 (by omega) _ (F1.trans F33)
      rw [zpr] at en
      first | rw [if_pos q22] at en | rw [if_neg (by rw [q22]; decide)] at en
      exact en G33
    · refine zr_iconst (v := zJ 1) zi96_25 rfl ?_
      refine zr_goto zi96_26 rfl ?_
      refine zr_iconst (v := (-1)) zi96_30 rfl ?_
      refine zr_iconst (v := zJ 0) zi96_31 rfl ?_
      refine zr_iconst (v := zJ 0) zi96_32 rfl ?_
      refine zr_virtual zi96_33 rfl rfl (G1.1.at0 rfl) rfl rfl ?_
      refine zcall_dep (d := 0) (Nat.le_of_ble_eq_true rfl) (c3 G1 (by omega) (fun h33 F33 G33 => zbk_0 ?_))
      refine zr_iincN (z := 1) (L' := [some (.ref _), some (.int (zJ _)), some (.int _), some (.int (zJ _))]) zi96_36 rfl rfl rfl rfl ?_
      refine zr_goto zi96_39 rfl ?_
      have en := ih2 (by omega) _ (F1.trans F33)
      rw [zpr] at en
      first | rw [if_pos q22] at en | rw [if_neg (by rw [q22]; decide)] at en
      exact en G33
/-- a round, from the line i on, n lines: whether it broke off -/
def zsL (w hh : Nat) (fs : List Int32) (o e : Int32) : Nat → Nat → List Int32 → Int32 → List Int32 × Int32 × Bool
  | 0, _, cs, kn => (cs, kn, false)
  | n + 1, i, cs, kn => if zws w hh cs fs i = 0 then (cs, kn, true) else zsL w hh fs o e n (i + 1) (zpf w hh i (yfl w hh cs (zws w hh cs fs i) i (zJ 1)) (yfl w hh cs (zws w hh cs fs i) i (zJ 2)) o e cs (yln w hh i)) (kn + (zbc (yfl w hh cs (zws w hh cs fs i) i (zJ 1)) + zbc (yfl w hh cs (zws w hh cs fs i) i (zJ 2))))
def zsR (w hh : Nat) (fs : List Int32) (e : Int32) : Nat → Nat → List Int32 → Int32 → List Int32 × Int32
  | 0, _, cs, kn => (cs, kn)
  | f + 1, o, cs, kn => if (zsL w hh fs (zJ o) e (w + hh) 0 cs kn).2.2 = true then ((zsL w hh fs (zJ o) e (w + hh) 0 cs kn).1, (zsL w hh fs (zJ o) e (w + hh) 0 cs kn).2.1) else if (zsL w hh fs (zJ o) e (w + hh) 0 cs kn).2.1 = kn then ((zsL w hh fs (zJ o) e (w + hh) 0 cs kn).1, (zsL w hh fs (zJ o) e (w + hh) 0 cs kn).2.1) else zsR w hh fs e f (o + 1) (zsL w hh fs (zJ o) e (w + hh) 0 cs kn).1 (zsL w hh fs (zJ o) e (w + hh) 0 cs kn).2.1
def zsS (w hh : Nat) (fs : List Int32) (e : Int32) (cs : List Int32) : List Int32 × Int32 := zsR w hh fs e 26 1 cs (zJ 0)
theorem zsL_s {w hh : Nat} {fs : List Int32} {o e : Int32} {n i : Nat} {cs : List Int32} {kn : Int32} (hn : i < n) (hw : ¬ zws w hh cs fs i = 0) : zsL w hh fs o e (n - i) i cs kn = zsL w hh fs o e (n - (i + 1)) (i + 1) (zpf w hh i (yfl w hh cs (zws w hh cs fs i) i (zJ 1)) (yfl w hh cs (zws w hh cs fs i) i (zJ 2)) o e cs (yln w hh i)) (kn + (zbc (yfl w hh cs (zws w hh cs fs i) i (zJ 1)) + zbc (yfl w hh cs (zws w hh cs fs i) i (zJ 2)))) := by
  rw [show n - i = (n - (i + 1)) + 1 by omega, zsL, if_neg hw]
theorem zsL_b {w hh : Nat} {fs : List Int32} {o e : Int32} {n i : Nat} {cs : List Int32} {kn : Int32} (hn : i < n) (hw : zws w hh cs fs i = 0) : zsL w hh fs o e (n - i) i cs kn = (cs, kn, true) := by
  rw [show n - i = (n - (i + 1)) + 1 by omega, zsL, if_pos hw]
theorem zsL_0 {w hh : Nat} {fs : List Int32} {o e : Int32} {n : Nat} {cs : List Int32} {kn : Int32} : zsL w hh fs o e (n - n) n cs kn = (cs, kn, false) := by
  rw [Nat.sub_self, zsL]
theorem zsR_b {w hh : Nat} {fs : List Int32} {e : Int32} {f o : Nat} {cs c : List Int32} {kn k : Int32} (h : zsL w hh fs (zJ o) e (w + hh) 0 cs kn = (c, k, true)) : zsR w hh fs e (f + 1) o cs kn = (c, k) := by
  rw [zsR, h]
  rfl
theorem zsR_e {w hh : Nat} {fs : List Int32} {e : Int32} {f o : Nat} {cs c : List Int32} {kn k : Int32} (h : zsL w hh fs (zJ o) e (w + hh) 0 cs kn = (c, k, false)) (hk : k = kn) : zsR w hh fs e (f + 1) o cs kn = (c, k) := by
  rw [zsR, h]
  exact (if_neg Bool.false_ne_true).trans (if_pos hk)
theorem zsR_n {w hh : Nat} {fs : List Int32} {e : Int32} {f o : Nat} {cs c : List Int32} {kn k : Int32} (h : zsL w hh fs (zJ o) e (w + hh) 0 cs kn = (c, k, false)) (hk : ¬ k = kn) : zsR w hh fs e (f + 1) o cs kn = zsR w hh fs e f (o + 1) c k := by
  rw [zsR, h]
  exact (if_neg Bool.false_ne_true).trans (if_neg hk)
theorem c25 {E : zEnv} {h : zPH} {Q : zOut → zPH → Prop} (S : ySs E h) {g w hh : Nat} {cs cl fs : List Int32} (G : yG h g w hh cs cl fs) {e : Int32} (K : ∀ h1, yFr (yIv g 4) h h1 0 0 → yG h1 g w hh (zsS w hh fs e cs).1 cl fs → Q (.inl (some (.int (zsS w hh fs e cs).2))) h1) : zcall E 2 25 [.ref g, .int e] h Q := by
  obtain ⟨⟨gw1, gw2, gh1, gh2⟩, gcs, gcl, gfs⟩ := G.2
  show zwp E _ 25 (0, [some (.ref _), some (.int _), none, none, none, none, none, none, none], [], _) Q
  refine zr_iconst (v := zJ 0) zi25_0 rfl ?_
  refine zr_istore_n (L' := [some (.ref _), some (.int _), some (.int (zJ _)), none, none, none, none, none, none]) zi25_1 rfl rfl ?_
  refine zr_iconst (v := zJ 1) zi25_2 rfl ?_
  refine zr_istore_n (L' := [some (.ref _), some (.int _), some (.int (zJ _)), some (.int (zJ _)), none, none, none, none, none]) zi25_3 rfl rfl ?_
  suffices key4 : ∀ h1 cs1 kn x4 x5 x6 x7 x8, (yFr (yIv g 4) h h1 0 0) → (yG h1 g w hh cs1 cl fs) → (zsR w hh fs e (26 - 0) (0 + 1) cs1 kn = zsS w hh fs e cs) → zwp E 2 25 (4, [some (.ref g), some (.int e), some (.int kn), some (.int (zJ (0 + 1))), x4, x5, x6, x7, x8], [], h1) Q from key4 h cs (zJ 0) _ _ _ _ _ (yFr.refl _ _) G rfl
  refine zloop (P := fun r => ∀ h1 cs1 kn x4 x5 x6 x7 x8, (yFr (yIv g 4) h h1 0 0) → (yG h1 g w hh cs1 cl fs) → (zsR w hh fs e (26 - r) (r + 1) cs1 kn = zsS w hh fs e cs) → zwp E 2 25 (4, [some (.ref g), some (.int e), some (.int kn), some (.int (zJ (r + 1))), x4, x5, x6, x7, x8], [], h1) Q) (n := 26) fun r hk4 ih4 => ?_
  intro h1 cs1 kn x4 x5 x6 x7 x8 F1 G1 hE
  have S_1 := F1.ss S
  refine zr_iload_n zi25_4 rfl ?_
  refine zr_bipush (v := zJ 26) zi25_5 rfl ?_
  refine zr_icmp_gtN zi25_7 rfl (by omega) (by omega) (fun q7 => ?_) (fun q7 => ?_)
  · refine zr_iload_n zi25_108 rfl ?_
    refine zr_ireturn zi25_109 rfl ?_
    obtain rfl : r = 26 := by omega
    rw [Nat.sub_self, zsR] at hE
    rw [← hE] at K
    exact K _ F1 G1
  · refine zr_iload_n zi25_10 rfl ?_
    refine zr_istore (L' := [some (.ref _), some (.int _), some (.int _), some (.int (zJ _)), some (.int _), _, _, _, _]) zi25_11 rfl rfl ?_
    refine zr_iconst (v := zJ 0) zi25_13 rfl ?_
    refine zr_istore (L' := [some (.ref _), some (.int _), some (.int _), some (.int (zJ _)), some (.int _), some (.int (zJ _)), _, _, _]) zi25_14 rfl rfl ?_
    suffices key16 : ∀ h2 cs2 kn2 y6 y7 y8, (yFr (yIv g 4) h h2 0 0) → (yG h2 g w hh cs2 cl fs) → (zsL w hh fs (zJ (r + 1)) e (w + hh) 0 cs1 kn = zsL w hh fs (zJ (r + 1)) e (w + hh - 0) 0 cs2 kn2) → zwp E 2 25 (16, [some (.ref g), some (.int e), some (.int kn2), some (.int (zJ (r + 1))), some (.int kn), some (.int (zJ 0)), y6, y7, y8], [], h2) Q from key16 h1 cs1 kn _ _ _ F1 G1 rfl
    refine zloop (P := fun k => ∀ h2 cs2 kn2 y6 y7 y8, (yFr (yIv g 4) h h2 0 0) → (yG h2 g w hh cs2 cl fs) → (zsL w hh fs (zJ (r + 1)) e (w + hh) 0 cs1 kn = zsL w hh fs (zJ (r + 1)) e (w + hh - k) k cs2 kn2) → zwp E 2 25 (16, [some (.ref g), some (.int e), some (.int kn2), some (.int (zJ (r + 1))), some (.int kn), some (.int (zJ k)), y6, y7, y8], [], h2) Q) (n := w + hh) fun k hk16 ih16 => ?_
    intro h2 cs2 kn2 y6 y7 y8 F2 G2 hI
    have S_2 := F2.ss S
    refine zr_iload zi25_16 rfl ?_
    refine zr_aload_n zi25_18 rfl ?_
    refine zr_virtual zi25_19 rfl rfl (G2.1.at0 rfl) rfl rfl ?_
    refine zcall_dep (d := 0) (Nat.le_of_ble_eq_true rfl) (c4 G2 (zbk_v ?_))
    refine zr_icmp_geN zi25_22 rfl (by omega) (by omega) (fun q22 => ?_) (fun q22 => ?_)
    · obtain rfl : k = w + hh := by omega
      rw [zsL_0] at hI
      refine zr_iload_n zi25_94 rfl ?_
      refine zr_iload zi25_95 rfl ?_
      refine zr_icmp_ne zi25_97 rfl (fun q97 => ?_) (fun q97 => ?_)
      · refine zr_iincN (z := 1) (L' := [some (.ref _), some (.int _), some (.int _), some (.int (zJ _)), some (.int _), some (.int (zJ _)), _, _, _]) zi25_102 rfl rfl rfl rfl ?_
        refine zr_goto zi25_105 rfl ?_
        exact ih4 (by omega) _ _ _ _ _ _ _ _ F2 G2 (by rw [← hE, show 26 - r = (26 - (r + 1)) + 1 by omega, zsR_n hI q97])
      · refine zr_iload_n zi25_100 rfl ?_
        refine zr_ireturn zi25_101 rfl ?_
        rw [show 26 - r = (26 - (r + 1)) + 1 by omega, zsR_e hI q97] at hE
        rw [← hE] at K
        exact K _ F2 G2
    · refine zr_aload_n zi25_25 rfl ?_
      refine zr_iload zi25_26 rfl ?_
      refine zr_virtual zi25_28 rfl rfl (G2.1.at0 rfl) rfl rfl ?_
      refine zcall_dep (d := 1) (Nat.le_of_ble_eq_true rfl) (c20 S_2 G2 (by omega) (zbk_v ?_))
      refine zr_istore (L' := [some (.ref _), some (.int _), some (.int _), some (.int (zJ _)), some (.int _), some (.int (zJ _)), some (.int _), _, _]) zi25_31 rfl rfl ?_
      refine zr_iload zi25_33 rfl ?_
      refine zr_if_ne zi25_35 rfl (fun q35 => ?_) (fun q35 => ?_)
      · refine zr_aload_n zi25_40 rfl ?_
        refine zr_iload zi25_41 rfl ?_
        refine zr_iload zi25_43 rfl ?_
        refine zr_iconst (v := zJ 1) zi25_45 rfl ?_
        refine zr_virtual zi25_46 rfl rfl (G2.1.at0 rfl) rfl rfl ?_
        refine zcall_dep (d := 1) (Nat.le_of_ble_eq_true rfl) (c26 S_2 G2 (by omega) (zbk_v ?_))
        refine zr_istore (L' := [some (.ref _), some (.int _), some (.int _), some (.int (zJ _)), some (.int _), some (.int (zJ _)), some (.int _), some (.int _), _]) zi25_49 rfl rfl ?_
        refine zr_aload_n zi25_51 rfl ?_
        refine zr_iload zi25_52 rfl ?_
        refine zr_iload zi25_54 rfl ?_
        refine zr_iconst (v := zJ 2) zi25_56 rfl ?_
        refine zr_virtual zi25_57 rfl rfl (G2.1.at0 rfl) rfl rfl ?_
        refine zcall_dep (d := 1) (Nat.le_of_ble_eq_true rfl) (c26 S_2 G2 (by omega) (zbk_v ?_))
        refine zr_istore (L' := [some (.ref _), some (.int _), some (.int _), some (.int (zJ _)), some (.int _), some (.int (zJ _)), some (.int _), some (.int _), some (.int _)]) zi25_60 rfl rfl ?_
        refine zr_aload_n zi25_62 rfl ?_
        refine zr_iload zi25_63 rfl ?_
        refine zr_iload zi25_65 rfl ?_
        refine zr_iload zi25_67 rfl ?_
        refine zr_iload_n zi25_69 rfl ?_
        refine zr_iload_n zi25_70 rfl ?_
        refine zr_virtual zi25_71 rfl rfl (G2.1.at0 rfl) rfl rfl ?_
        refine zcall_dep (d := 1) (Nat.le_of_ble_eq_true rfl) (c27 G2 (by omega) (fun h71 F71 G71 => zbk_0 ?_))
        have S_71 := F71.ss S_2
        refine zr_iload_n zi25_74 rfl ?_
        refine zr_iload zi25_75 rfl ?_
        refine zr_static zi25_77 rfl rfl rfl rfl ?_
        refine zcall_dep (d := 0) (Nat.le_of_ble_eq_true rfl) (c29 (zbk_v ?_))
        refine zr_iload zi25_80 rfl ?_
        refine zr_static zi25_82 rfl rfl rfl rfl ?_
        refine zcall_dep (d := 0) (Nat.le_of_ble_eq_true rfl) (c29 (zbk_v ?_))
        refine zr_iadd zi25_85 ?_
        refine zr_iadd zi25_86 ?_
        refine zr_istore_n (L' := [some (.ref _), some (.int _), some (.int _), some (.int (zJ _)), some (.int _), some (.int (zJ _)), some (.int _), some (.int _), some (.int _)]) zi25_87 rfl rfl ?_
        refine zr_iincN (z := 1) (L' := [some (.ref _), some (.int _), some (.int _), some (.int (zJ _)), some (.int _), some (.int (zJ _)), some (.int _), some (.int _), some (.int _)]) zi25_88 rfl rfl rfl rfl ?_
        refine zr_goto zi25_91 rfl ?_
        exact ih16 (by omega) _ _ _ _ _ _ (F2.trans F71) G71 (by rw [hI, zsL_s q22 q35])
      · refine zr_iload_n zi25_38 rfl ?_
        refine zr_ireturn zi25_39 rfl ?_
        rw [zsL_b q22 q35] at hI
        rw [show 26 - r = (26 - (r + 1)) + 1 by omega, zsR_b hI] at hE
        rw [← hE] at K
        exact K _ F2 G2
/-- clues, what fits and how many runs, once n lines are told as shown -/
def zts (w hh : Nat) (cs cl fs : List Int32) : Nat → List Int32 × List Int32 × Int32
  | 0 => (cl, fs, zJ 0)
  | k + 1 => ((zts w hh cs cl fs k).1.set k (zSA (zdp w hh cs k (yln w hh k)).toNatClampNeg), (zts w hh cs cl fs k).2.1.set k (zfg (zSA (zdp w hh cs k (yln w hh k)).toNatClampNeg) (yln w hh k)), (zts w hh cs cl fs k).2.2 + zrn (zSA (zdp w hh cs k (yln w hh k)).toNatClampNeg))
theorem zJ_or (a b : Nat) : zJ a ||| zJ b = zJ (a ||| b) := by
  apply Int32.toBitVec.inj
  show BitVec.ofNat 32 a ||| BitVec.ofNat 32 b = BitVec.ofNat 32 (a ||| b)
  apply BitVec.eq_of_toNat_eq
  simp only [BitVec.toNat_or, BitVec.toNat_ofNat]
  exact (Nat.or_mod_two_pow (a := a) (b := b) (n := 32)).symm
theorem ysh1_J {k : Nat} (hk : k < 32) : ysh1 k = zJ (2 ^ k) := by
  unfold ysh1
  rw [zJ_shl 1 k hk, Nat.one_mul]
/-- a set of places below k is a number below 2 ^ k -/
theorem zdp_lt (w hh : Nat) (cs : List Int32) (i k : Nat) (hk : k ≤ 31) : ∃ n, n < 2 ^ k ∧ zdp w hh cs i k = zJ n := by
  induction k with
  | zero => exact ⟨0, by decide, rfl⟩
  | succ k ih =>
    obtain ⟨n, hn, e⟩ := ih (by omega)
    rw [zdp, e]
    split
    · refine ⟨n ||| 2 ^ k, Nat.or_lt_two_pow (by rw [Nat.pow_succ]; omega) (by rw [Nat.pow_succ]; have := Nat.two_pow_pos k; omega), ?_⟩
      rw [ysh1_J (by omega), zJ_or]
    · exact ⟨n, by rw [Nat.pow_succ]; omega, rfl⟩
theorem zdp_J (w hh : Nat) (cs : List Int32) (i k : Nat) (hk : k ≤ 5) : zdp w hh cs i k = zJ (zdp w hh cs i k).toNatClampNeg ∧ (zdp w hh cs i k).toNatClampNeg < 32 := by
  obtain ⟨n, hn, e⟩ := zdp_lt w hh cs i k (by omega)
  have := zpow5 hk
  rw [e, zJ_c (by omega)]
  exact ⟨rfl, by omega⟩
theorem c99 {E : zEnv} {h : zPH} {Q : zOut → zPH → Prop} (S : ySs E h) {g w hh : Nat} {cs cl fs : List Int32} (G : yG h g w hh cs cl fs) (K : ∀ h1, yFr (yIv g 4) h h1 0 0 → yG h1 g w hh cs (zts w hh cs cl fs (w + hh)).1 (zts w hh cs cl fs (w + hh)).2.1 → Q (.inl (some (.int (zts w hh cs cl fs (w + hh)).2.2))) h1) : zcall E 2 99 [.ref g] h Q := by
  obtain ⟨⟨gw1, gw2, gh1, gh2⟩, gcs, gcl, gfs⟩ := G.2
  show zwp E _ 99 (0, [some (.ref _), none, none, none], [], _) Q
  refine zr_iconst (v := zJ 0) zi99_0 rfl ?_
  refine zr_istore_n (L' := [some (.ref _), some (.int (zJ _)), none, none]) zi99_1 rfl rfl ?_
  refine zr_iconst (v := zJ 0) zi99_2 rfl ?_
  refine zr_istore_n (L' := [some (.ref _), some (.int (zJ _)), some (.int (zJ _)), none]) zi99_3 rfl rfl ?_
  suffices key4 : ∀ h1 x3, (yFr (yIv g 4) h h1 0 0) → (yG h1 g w hh cs (zts w hh cs cl fs 0).1 (zts w hh cs cl fs 0).2.1) → zwp E 2 99 (4, [some (.ref g), some (.int (zts w hh cs cl fs 0).2.2), some (.int (zJ 0)), x3], [], h1) Q from key4 h _ (yFr.refl _ _) G
  refine zloop (P := fun k => ∀ h1 x3, (yFr (yIv g 4) h h1 0 0) → (yG h1 g w hh cs (zts w hh cs cl fs k).1 (zts w hh cs cl fs k).2.1) → zwp E 2 99 (4, [some (.ref g), some (.int (zts w hh cs cl fs k).2.2), some (.int (zJ k)), x3], [], h1) Q) (n := w + hh) fun k hk4 ih4 => ?_
  intro h1 x3 F1 G1
  have S_1 := F1.ss S
  refine zr_iload_n zi99_4 rfl ?_
  refine zr_aload_n zi99_5 rfl ?_
  refine zr_virtual zi99_6 rfl rfl (G1.1.at0 rfl) rfl rfl ?_
  refine zcall_dep (d := 0) (Nat.le_of_ble_eq_true rfl) (c4 G1 (zbk_v ?_))
  refine zr_icmp_geN zi99_9 rfl (by omega) (by omega) (fun q9 => ?_) (fun q9 => ?_)
  · refine zr_iload_n zi99_40 rfl ?_
    refine zr_ireturn zi99_41 rfl ?_
    obtain rfl : k = w + hh := by omega
    exact K _ F1 G1
  · refine zr_aload_n zi99_12 rfl ?_
    refine zr_iload_n zi99_13 rfl ?_
    refine zr_virtual zi99_14 rfl rfl (G1.1.at0 rfl) rfl rfl ?_
    refine zcall_dep (d := 1) (Nat.le_of_ble_eq_true rfl) (c100 G1 (by omega) (zbk_v ?_))
    have hdp := zdp_J w hh cs k (yln w hh k) (yln_b k G.2.1).2
    rw [hdp.1]
    refine zr_static zi99_17 rfl rfl rfl rfl ?_
    refine zcall_dep (d := 0) (Nat.le_of_ble_eq_true rfl) (c101 S_1 (by omega) (zbk_v ?_))
    refine zr_istore_n (L' := [some (.ref _), some (.int _), some (.int (zJ _)), some (.int _)]) zi99_20 rfl rfl ?_
    refine zr_aload_n zi99_21 rfl ?_
    refine zr_iload_n zi99_22 rfl ?_
    refine zr_iload_n zi99_23 rfl ?_
    refine zr_virtual zi99_24 rfl rfl (G1.1.at0 rfl) rfl rfl ?_
    refine zcall_dep (d := 1) (Nat.le_of_ble_eq_true rfl) (c5 S_1 G1 (by omega) (fun h24 F24 G24 => zbk_0 ?_))
    have S_24 := F24.ss S_1
    refine zr_iload_n zi99_27 rfl ?_
    refine zr_iload_n zi99_28 rfl ?_
    refine zr_static zi99_29 rfl rfl rfl rfl ?_
    refine zcall_dep (d := 0) (Nat.le_of_ble_eq_true rfl) (c44 (zbk_v ?_))
    refine zr_iadd zi99_32 ?_
    refine zr_istore_n (L' := [some (.ref _), some (.int _), some (.int (zJ _)), some (.int _)]) zi99_33 rfl rfl ?_
    refine zr_iincN (z := 1) (L' := [some (.ref _), some (.int _), some (.int (zJ _)), some (.int _)]) zi99_34 rfl rfl rfl rfl ?_
    refine zr_goto zi99_37 rfl ?_
    exact ih4 (by omega) _ _ (F1.trans F24) G24
theorem zcpi_all {f g : List Int32} (h : f.length = g.length) : zcpi f g 0 0 g.length = f := by
  unfold zcpi
  rw [List.take_zero, List.drop_zero, ← h, List.take_length, Nat.zero_add, h, List.drop_length]
  simp
theorem c24 {E : zEnv} {h : zPH} {Q : zOut → zPH → Prop} {g w hh : Nat} {cs cl fs : List Int32} (G : yG h g w hh cs cl fs) {o ow oh : Nat} {os ol ofs : List Int32} (O : yG h o ow oh os ol ofs) (hd : g + 4 ≤ o ∨ o + 4 ≤ g) (K : ∀ h1, yFr (yIv g 4) h h1 0 0 → yG h1 g ow oh os ol ofs → Q (.inl none) h1) : zcall E 0 24 [.ref g, .ref o] h Q := by
  obtain ⟨⟨gw1, gw2, gh1, gh2⟩, gcs, gcl, gfs⟩ := G.2
  obtain ⟨⟨ow1, ow2, oh1, oh2⟩, ocs, ocl, ofl⟩ := O.2
  show zwp E _ 24 (0, [some (.ref _), some (.ref _)], [], _) Q
  refine zr_aload_n zi24_0 rfl ?_
  refine zr_aload_n zi24_1 rfl ?_
  refine zr_getfield zi24_2 (O.1.at0 rfl) rfl ?_
  refine zr_putfield zi24_5 (G.1.at0 rfl) rfl rfl ?_
  refine yG.wob (w' := ow) (hh' := hh) G (by omega) (fun h5 F5 G5 => ?_)
  have O_5 := O.fr F5 (by intro a z1 z2 z3; simp only [yIv] at z3; omega)
  refine zr_aload_n zi24_8 rfl ?_
  refine zr_aload_n zi24_9 rfl ?_
  refine zr_getfield zi24_10 (O_5.1.at0 rfl) rfl ?_
  refine zr_putfield zi24_13 (G5.1.at0 rfl) rfl rfl ?_
  refine yG.wob (w' := ow) (hh' := oh) G5 (by omega) (fun h13 F13 G13 => ?_)
  have O_13 := O_5.fr F13 (by intro a z1 z2 z3; simp only [yIv] at z3; omega)
  refine zr_aload_n zi24_16 rfl ?_
  refine zr_getfield zi24_17 (O_13.1.at0 rfl) rfl ?_
  refine zr_iconst (v := zJ 0) zi24_20 rfl ?_
  refine zr_aload_n zi24_21 rfl ?_
  refine zr_getfield zi24_22 (G13.1.at0 rfl) rfl ?_
  refine zr_iconst (v := zJ 0) zi24_25 rfl ?_
  refine zr_aload_n zi24_26 rfl ?_
  refine zr_getfield zi24_27 (G13.1.at0 rfl) rfl ?_
  refine zr_arraylength (v := zJ 100) zi24_30 (G13.1.at 1 rfl) rfl (zlenJ G13.2.2.1) ?_
  refine zr_copyN (q := 100) zi24_31 (O_13.1.at 1 rfl) (G13.1.at 1 rfl) ⟨by omega, by omega, by omega⟩ (by omega) (by omega) rfl ?_
  rw [show 100 = cs.length from gcs.symm, zcpi_all (by omega)]
  refine yG.wcs G13 (by omega) (fun h31 F31 G31 => ?_)
  have O_31 := O_13.fr F31 (by intro a z1 z2 z3; simp only [yIv] at z3; omega)
  refine zr_aload_n zi24_34 rfl ?_
  refine zr_getfield zi24_35 (O_31.1.at0 rfl) rfl ?_
  refine zr_iconst (v := zJ 0) zi24_38 rfl ?_
  refine zr_aload_n zi24_39 rfl ?_
  refine zr_getfield zi24_40 (G31.1.at0 rfl) rfl ?_
  refine zr_iconst (v := zJ 0) zi24_43 rfl ?_
  refine zr_aload_n zi24_44 rfl ?_
  refine zr_getfield zi24_45 (G31.1.at0 rfl) rfl ?_
  refine zr_arraylength (v := zJ 10) zi24_48 (G31.1.at 2 rfl) rfl (zlenJ G31.2.2.2.1) ?_
  refine zr_copyN (q := 10) zi24_49 (O_31.1.at 2 rfl) (G31.1.at 2 rfl) ⟨by omega, by omega, by omega⟩ (by omega) (by omega) rfl ?_
  rw [show 10 = cl.length from gcl.symm, zcpi_all (by omega)]
  refine yG.wcl G31 (by omega) (fun h49 F49 G49 => ?_)
  have O_49 := O_31.fr F49 (by intro a z1 z2 z3; simp only [yIv] at z3; omega)
  refine zr_aload_n zi24_52 rfl ?_
  refine zr_getfield zi24_53 (O_49.1.at0 rfl) rfl ?_
  refine zr_iconst (v := zJ 0) zi24_56 rfl ?_
  refine zr_aload_n zi24_57 rfl ?_
  refine zr_getfield zi24_58 (G49.1.at0 rfl) rfl ?_
  refine zr_iconst (v := zJ 0) zi24_61 rfl ?_
  refine zr_aload_n zi24_62 rfl ?_
  refine zr_getfield zi24_63 (G49.1.at0 rfl) rfl ?_
  refine zr_arraylength (v := zJ 10) zi24_66 (G49.1.at 3 rfl) rfl (zlenJ G49.2.2.2.2) ?_
  refine zr_copyN (q := 10) zi24_67 (O_49.1.at 3 rfl) (G49.1.at 3 rfl) ⟨by omega, by omega, by omega⟩ (by omega) (by omega) rfl ?_
  rw [show 10 = fs.length from gfs.symm, zcpi_all (by omega)]
  refine yG.wfs G49 (by omega) (fun h67 F67 G67 => ?_)
  have O_67 := O_49.fr F67 (by intro a z1 z2 z3; simp only [yIv] at z3; omega)
  refine zr_return zi24_70 rfl ?_
  exact K _ ((((F5.trans F13).trans F31).trans F49).trans F67) G67
def ztl (w hh : Nat) (x : Int32) (how : Nat) : Int32 := if how = 2 then (if x < zJ hh then zJ w + x else x - zJ hh) else if x < zJ hh then (if how = 0 then zJ (hh - 1) - x else x) else zJ (hh + w - 1) - (x - zJ hh)
def ztn (w hh i how : Nat) : Nat := if how = 2 then (if i < hh then w + i else i - hh) else if i < hh then (if how = 0 then hh - 1 - i else i) else hh + w - 1 - (i - hh)
theorem ztl_J {w hh i how : Nat} (h : 2 ≤ w ∧ w ≤ 5 ∧ 2 ≤ hh ∧ hh ≤ 5) (hi : i < w + hh) : ztl w hh (zJ i) how = zJ (ztn w hh i how) ∧ ztn w hh i how < w + hh := by
  have e : (zJ i < zJ hh) ↔ i < hh := zJ_lt (by omega) (by omega)
  unfold ztl ztn
  by_cases h1 : i < hh
  · rw [if_pos (e.mpr h1), if_pos (e.mpr h1), if_pos h1, if_pos h1, zJ_add]
    split
    · exact ⟨rfl, by omega⟩
    · split
      · rw [zJ_sub (by omega)]; exact ⟨rfl, by omega⟩
      · exact ⟨rfl, by omega⟩
  · rw [if_neg (fun q => h1 (e.mp q)), if_neg (fun q => h1 (e.mp q)), if_neg h1, if_neg h1]
    split
    · rw [zJ_sub (by omega)]; exact ⟨rfl, by omega⟩
    · rw [zJ_sub (by omega), zJ_sub (by omega)]; exact ⟨rfl, by omega⟩
def zrw (hh i how : Nat) : Bool := decide (how = 0) || (decide (how = 1) && decide (i < hh))
theorem c64 {E : zEnv} {h : zPH} {Q : zOut → zPH → Prop} {g w hh : Nat} {cs cl fs : List Int32} (G : yG h g w hh cs cl fs) {x : Int32} {how : Nat} (hw : how ≤ 2) (K : Q (.inl (some (.int (ztl w hh x how)))) h) : zcall E 0 64 [.ref g, .int x, .int (zJ how)] h Q := by
  obtain ⟨⟨gw1, gw2, gh1, gh2⟩, gcs, gcl, gfs⟩ := G.2
  show zwp E _ 64 (0, [some (.ref _), some (.int _), some (.int (zJ _))], [], _) Q
  refine zr_iload_n zi64_0 rfl ?_
  refine zr_iconst (v := zJ 2) zi64_1 rfl ?_
  refine zr_icmp_neN zi64_2 rfl (by omega) (by omega) (fun q2 => ?_) (fun q2 => ?_)
  · rw [ztl, if_neg q2] at K
    refine zr_iload_n zi64_29 rfl ?_
    refine zr_aload_n zi64_30 rfl ?_
    refine zr_getfield zi64_31 (G.1.at0 rfl) rfl ?_
    refine zr_icmp_lt zi64_34 rfl (fun q34 => ?_) (fun q34 => ?_)
    · rw [if_pos q34] at K
      refine zr_iload_n zi64_56 rfl ?_
      refine zr_if_neN zi64_57 rfl (by omega) (fun q57 => ?_) (fun q57 => ?_)
      · rw [if_neg q57] at K
        refine zr_iload_n zi64_71 rfl ?_
        refine zr_ireturn zi64_72 rfl ?_
        exact K
      · rw [if_pos q57] at K
        refine zr_aload_n zi64_60 rfl ?_
        refine zr_getfield zi64_61 (G.1.at0 rfl) rfl ?_
        refine zr_iconst (v := zJ 1) zi64_64 rfl ?_
        refine zr_isubN zi64_65 (by omega) ?_
        refine zr_iload_n zi64_66 rfl ?_
        refine zr_isub zi64_67 ?_
        refine zr_goto zi64_68 rfl ?_
        refine zr_ireturn zi64_72 rfl ?_
        exact K
    · rw [if_neg q34] at K
      refine zr_aload_n zi64_37 rfl ?_
      refine zr_getfield zi64_38 (G.1.at0 rfl) rfl ?_
      refine zr_aload_n zi64_41 rfl ?_
      refine zr_getfield zi64_42 (G.1.at0 rfl) rfl ?_
      refine zr_iaddN zi64_45 ?_
      refine zr_iconst (v := zJ 1) zi64_46 rfl ?_
      refine zr_isubN zi64_47 (by omega) ?_
      refine zr_iload_n zi64_48 rfl ?_
      refine zr_aload_n zi64_49 rfl ?_
      refine zr_getfield zi64_50 (G.1.at0 rfl) rfl ?_
      refine zr_isub zi64_53 ?_
      refine zr_isub zi64_54 ?_
      refine zr_ireturn zi64_55 rfl ?_
      exact K
  · rw [ztl, if_pos q2] at K
    refine zr_iload_n zi64_5 rfl ?_
    refine zr_aload_n zi64_6 rfl ?_
    refine zr_getfield zi64_7 (G.1.at0 rfl) rfl ?_
    refine zr_icmp_ge zi64_10 rfl (fun q10 => ?_) (fun q10 => ?_)
    · rw [if_neg (zle_no q10)] at K
      refine zr_iload_n zi64_22 rfl ?_
      refine zr_aload_n zi64_23 rfl ?_
      refine zr_getfield zi64_24 (G.1.at0 rfl) rfl ?_
      refine zr_isub zi64_27 ?_
      refine zr_ireturn zi64_28 rfl ?_
      exact K
    · rw [if_pos (Classical.not_not.mp (fun q => q10 (Int32.not_lt.mp q)))] at K
      refine zr_aload_n zi64_13 rfl ?_
      refine zr_getfield zi64_14 (G.1.at0 rfl) rfl ?_
      refine zr_iload_n zi64_17 rfl ?_
      refine zr_iadd zi64_18 ?_
      refine zr_goto zi64_19 rfl ?_
      refine zr_ireturn zi64_28 rfl ?_
      exact K
theorem c63 {E : zEnv} {h : zPH} {Q : zOut → zPH → Prop} {g w hh : Nat} {cs cl fs : List Int32} (G : yG h g w hh cs cl fs) {i how : Nat} (hw : how ≤ 2) (hi : i < 1000) (K : Q (.inl (some (.int (zB (zrw hh i how))))) h) : zcall E 0 63 [.ref g, .int (zJ i), .int (zJ how)] h Q := by
  obtain ⟨⟨gw1, gw2, gh1, gh2⟩, gcs, gcl, gfs⟩ := G.2
  show zwp E _ 63 (0, [some (.ref _), some (.int (zJ _)), some (.int (zJ _))], [], _) Q
  refine zr_iload_n zi63_0 rfl ?_
  refine zr_if_eqN zi63_1 rfl (by omega) (fun q1 => ?_) (fun q1 => ?_)
  · rw [show zrw hh i how = true by first | (subst q1; rfl) | (subst q6; simp only [zrw]; simp only [decide_eq_true q14]; rfl)] at K
    refine zr_iconst (v := zJ 1) zi63_17 rfl ?_
    refine zr_goto zi63_18 rfl ?_
    refine zr_zreturn zi63_22 rfl (by decide) ?_
    exact K
  · refine zr_iload_n zi63_4 rfl ?_
    refine zr_iconst (v := zJ 1) zi63_5 rfl ?_
    refine zr_icmp_neN zi63_6 rfl (by omega) (by omega) (fun q6 => ?_) (fun q6 => ?_)
    · rw [show zrw hh i how = false by first | (subst q6; simp only [zrw]; simp only [decide_eq_false (Nat.not_lt.mpr q14)]; rfl) | (unfold zrw; simp only [decide_eq_false q1, decide_eq_false (show ¬ how = 1 from q6)]; rfl)] at K
      refine zr_iconst (v := zJ 0) zi63_21 rfl ?_
      refine zr_zreturn zi63_22 rfl (by decide) ?_
      exact K
    · refine zr_iload_n zi63_9 rfl ?_
      refine zr_aload_n zi63_10 rfl ?_
      refine zr_getfield zi63_11 (G.1.at0 rfl) rfl ?_
      refine zr_icmp_geN zi63_14 rfl (by omega) (by omega) (fun q14 => ?_) (fun q14 => ?_)
      · rw [show zrw hh i how = false by first | (subst q6; simp only [zrw]; simp only [decide_eq_false (Nat.not_lt.mpr q14)]; rfl) | (unfold zrw; simp only [decide_eq_false q1, decide_eq_false (show ¬ how = 1 from q6)]; rfl)] at K
        refine zr_iconst (v := zJ 0) zi63_21 rfl ?_
        refine zr_zreturn zi63_22 rfl (by decide) ?_
        exact K
      · rw [show zrw hh i how = true by first | (subst q1; rfl) | (subst q6; simp only [zrw]; simp only [decide_eq_true q14]; rfl)] at K
        refine zr_iconst (v := zJ 1) zi63_17 rfl ?_
        refine zr_goto zi63_18 rfl ?_
        refine zr_zreturn zi63_22 rfl (by decide) ?_
        exact K
