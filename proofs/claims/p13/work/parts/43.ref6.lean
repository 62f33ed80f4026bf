/-! ===== the reference: sweeps, turns ===== -/
theorem c187 {E : zEnv} {h : zPH} {Q : zOut → zPH → Prop} {b r c g w hh : Nat} {x0 x1 x2 x3 cl : List Int32} {mi sp : Int32} (P : rB h b r c g w hh x0 x1 x2 x3 cl mi sp) {eg ng : Nat} {mc : Int32} (Lg : yBk h g [(8, [.ref eg, .int (zJ ng), .int mc])]) (hg : g + 1 ≤ r ∨ r + 5 ≤ g) (K : ∀ h1, yFr (yIv r 5) h h1 0 0 → rB h1 b r c g w hh (rsS w hh cl ng (x0, x1, x2, x3)).1.1 (rsS w hh cl ng (x0, x1, x2, x3)).1.2.1 (rsS w hh cl ng (x0, x1, x2, x3)).1.2.2.1 (rsS w hh cl ng (x0, x1, x2, x3)).1.2.2.2 cl mi sp → Q (.inl (some (.int (rsS w hh cl ng (x0, x1, x2, x3)).2))) h1) : zcall E 4 187 [.ref b] h Q := by
  obtain ⟨⟨gw1, gw2, gh1, gh2⟩, ⟨l0, l1, l2, l3, lcl⟩, d1, d2, d3⟩ := P.2.2.2
  have hwh := zwh_b (w := w) (hh := hh) ⟨gw1, gw2, gh1, gh2⟩
  show zwp E _ 187 (0, [some (.ref _), none, none, none, none, none, none, none], [], _) Q
  refine zr_iconst (v := zJ 0) zi187_0 rfl ?_
  refine zr_istore_n (L' := [some (.ref _), some (.int (zJ _)), none, none, none, none, none, none]) zi187_1 rfl rfl ?_
  refine zr_iconst (v := zJ 1) zi187_2 rfl ?_
  refine zr_istore_n (L' := [some (.ref _), some (.int (zJ _)), some (.int (zJ _)), none, none, none, none, none]) zi187_3 rfl rfl ?_
  suffices key4 : ∀ k, ∀ h1 (X : rX4) (a : Int32) (o f : Nat) y3 x4 x5 x6 x7, yFr (yIv r 5) h h1 0 0 → rB h1 b r c g w hh X.1 X.2.1 X.2.2.1 X.2.2.2 cl mi sp → rcc X.1 0 (w * hh) = k → k < f → rsR w hh cl ng f o X a = rsS w hh cl ng (x0, x1, x2, x3) → zwp E 4 187 (4, [some (.ref b), some (.int a), some (.int (zJ o)), y3, x4, x5, x6, x7], [], h1) Q from key4 _ h (x0, x1, x2, x3) (zJ 0) 1 (w * hh + 1) _ _ _ _ _ (yFr.refl _ _) P rfl (by have := rcc_le x0 0 (w * hh); show rcc x0 0 (w * hh) < _; omega) rfl
  refine zfall fun k ih4 => ?_
  intro h1 X a o f y3 x4 x5 x6 x7 F1 P1 hU hf hE
  have lX0 : X.1.length = w * hh := P1.2.2.2.2.1.1
  have hUl := rcc_le X.1 0 (w * hh)
  have Lg_1 := F1.bk Lg (fun x z1 z2 z3 => by have z2 : x < g + 1 := z2; have := z3.1; have := z3.2; omega)
  refine zr_iconst (v := zJ 0) zi187_4 rfl ?_
  refine zr_istore_n (L' := [some (.ref _), some (.int _), some (.int (zJ _)), some (.int (zJ _)), _, _, _, _]) zi187_5 rfl rfl ?_
  refine zr_iconst (v := zJ 0) zi187_6 rfl ?_
  refine zr_istore (L' := [some (.ref _), some (.int _), some (.int (zJ _)), some (.int (zJ _)), some (.int (zJ _)), _, _, _]) zi187_7 rfl rfl ?_
  suffices key9 : ∀ h2 Y m y5 y6 y7, (yFr (yIv r 5) h h2 0 0) → (rB h2 b r c g w hh Y.1 Y.2.1 Y.2.2.1 Y.2.2.2 cl mi sp) → (rsL w hh cl (zJ o) ng (w + hh) 0 X (zJ 0) = rsL w hh cl (zJ o) ng (w + hh - 0) 0 Y m) → zwp E 4 187 (9, [some (.ref b), some (.int a), some (.int (zJ o)), some (.int m), some (.int (zJ 0)), y5, y6, y7], [], h2) Q from key9 _ X _ _ _ _ F1 P1 rfl
  refine zloop (P := fun i => ∀ h2 Y m y5 y6 y7, (yFr (yIv r 5) h h2 0 0) → (rB h2 b r c g w hh Y.1 Y.2.1 Y.2.2.1 Y.2.2.2 cl mi sp) → (rsL w hh cl (zJ o) ng (w + hh) 0 X (zJ 0) = rsL w hh cl (zJ o) ng (w + hh - i) i Y m) → zwp E 4 187 (9, [some (.ref b), some (.int a), some (.int (zJ o)), some (.int m), some (.int (zJ i)), y5, y6, y7], [], h2) Q) (n := w + hh) fun i hk9 ih9 => ?_
  intro h2 Y m y5 y6 y7 F2 P2 hI
  have Lg_2 := F2.bk Lg (fun x z1 z2 z3 => by have z2 : x < g + 1 := z2; have := z3.1; have := z3.2; omega)
  have lY : Y.1.length = w * hh := P2.2.2.2.2.1.1
  have hrw := rcw_le Y.1 cl i ⟨gw1, gw2, gh1, gh2⟩
  have hln := yln_b i ⟨gw1, gw2, gh1, gh2⟩
  refine zr_iload zi187_9 rfl ?_
  refine zr_aload_n zi187_11 rfl ?_
  refine zr_virtual zi187_12 rfl rfl (P2.1.at0 rfl) rfl rfl ?_
  refine zcall_dep (d := 0) (Nat.le_of_ble_eq_true rfl) (c167 P2 (zbk_v ?_))
  refine zr_icmp_geN zi187_15 rfl (by omega) (by omega) (fun q15 => ?_) (fun q15 => ?_)
  · obtain rfl : i = w + hh := by omega
    rw [rsL_0] at hI
    refine zr_iload_n zi187_129 rfl ?_
    refine zr_iload_n zi187_130 rfl ?_
    refine zr_iadd zi187_131 ?_
    refine zr_istore_n (L' := [some (.ref _), some (.int _), some (.int (zJ _)), some (.int _), some (.int (zJ _)), _, _, _]) zi187_132 rfl rfl ?_
    refine zr_iload_n zi187_133 rfl ?_
    refine zr_if_ne zi187_134 rfl (fun q134 => ?_) (fun q134 => ?_)
    · refine zr_iincN (z := 1) (L' := [some (.ref _), some (.int _), some (.int (zJ _)), some (.int _), some (.int (zJ _)), _, _, _]) zi187_139 rfl rfl rfl rfl ?_
      refine zr_goto zi187_142 rfl ?_
      obtain ⟨f, rfl⟩ : ∃ f0, f = f0 + 1 := ⟨f - 1, by omega⟩
      have hdc := (rsL_dec (cl := cl) (ng := ng) (o := zJ o) ⟨gw1, gw2, gh1, gh2⟩ (w + hh) 0 X (zJ 0) (by omega) lX0).2
      rw [hI] at hdc
      have hdc : rcc Y.1 0 (w * hh) < rcc X.1 0 (w * hh) := hdc q134
      exact ih4 _ (by rw [← hU]; exact hdc) _ Y _ (o + 1) f _ _ _ _ _ F2 P2 rfl (by omega) (by rw [← hE, rsR_n hI q134])
    · refine zr_iload_n zi187_137 rfl ?_
      refine zr_ireturn zi187_138 rfl ?_
      obtain ⟨f, rfl⟩ : ∃ f0, f = f0 + 1 := ⟨f - 1, by omega⟩
      rw [rsR_e hI q134] at hE
      rw [← hE] at K
      exact K _ F2 P2
  · refine zr_aload_n zi187_18 rfl ?_
    refine zr_iload zi187_19 rfl ?_
    refine zr_virtual zi187_21 rfl rfl (P2.1.at0 rfl) rfl rfl ?_
    refine zcall_dep (d := 3) (Nat.le_of_ble_eq_true rfl) (c171 P2 (by omega) (zbk_v ?_))
    refine zr_if_neN zi187_24 rfl (by omega) (fun q24 => ?_) (fun q24 => ?_)
    · refine zr_aload_n zi187_31 rfl ?_
      refine zr_iload zi187_32 rfl ?_
      refine zr_iconst (v := zB true) zi187_34 rfl ?_
      refine zr_virtual zi187_35 rfl rfl (P2.1.at0 rfl) rfl rfl ?_
      refine zcall_dep (d := 3) (Nat.le_of_ble_eq_true rfl) (c188 P2 (by omega) (zbk_v ?_))
      refine zr_istore (L' := [some (.ref _), some (.int _), some (.int (zJ _)), some (.int _), some (.int (zJ _)), some (.int _), _, _]) zi187_38 rfl rfl ?_
      refine zr_aload_n zi187_40 rfl ?_
      refine zr_iload zi187_41 rfl ?_
      refine zr_iconst (v := zB false) zi187_43 rfl ?_
      refine zr_virtual zi187_44 rfl rfl (P2.1.at0 rfl) rfl rfl ?_
      refine zcall_dep (d := 3) (Nat.le_of_ble_eq_true rfl) (c188 P2 (by omega) (zbk_v ?_))
      refine zr_istore (L' := [some (.ref _), some (.int _), some (.int (zJ _)), some (.int _), some (.int (zJ _)), some (.int _), some (.int _), _]) zi187_47 rfl rfl ?_
      refine zr_iconst (v := zJ 0) zi187_49 rfl ?_
      refine zr_istore (L' := [some (.ref _), some (.int _), some (.int (zJ _)), some (.int _), some (.int (zJ _)), some (.int _), some (.int _), some (.int (zJ _))]) zi187_50 rfl rfl ?_
      suffices key52 : ∀ h3, (yFr (yIv r 5) h h3 0 0) → (rB h3 b r c g w hh (rpl w hh i (rfo w hh Y.1 cl i true) (rfo w hh Y.1 cl i false) (zJ o) ng Y 0).1 (rpl w hh i (rfo w hh Y.1 cl i true) (rfo w hh Y.1 cl i false) (zJ o) ng Y 0).2.1 (rpl w hh i (rfo w hh Y.1 cl i true) (rfo w hh Y.1 cl i false) (zJ o) ng Y 0).2.2.1 (rpl w hh i (rfo w hh Y.1 cl i true) (rfo w hh Y.1 cl i false) (zJ o) ng Y 0).2.2.2 cl mi sp) → zwp E 4 187 (52, [some (.ref b), some (.int a), some (.int (zJ o)), some (.int m), some (.int (zJ i)), some (.int (rfo w hh Y.1 cl i true)), some (.int (rfo w hh Y.1 cl i false)), some (.int (zJ 0))], [], h3) Q from key52 _ F2 P2
      refine zloop (P := fun u => ∀ h3, (yFr (yIv r 5) h h3 0 0) → (rB h3 b r c g w hh (rpl w hh i (rfo w hh Y.1 cl i true) (rfo w hh Y.1 cl i false) (zJ o) ng Y u).1 (rpl w hh i (rfo w hh Y.1 cl i true) (rfo w hh Y.1 cl i false) (zJ o) ng Y u).2.1 (rpl w hh i (rfo w hh Y.1 cl i true) (rfo w hh Y.1 cl i false) (zJ o) ng Y u).2.2.1 (rpl w hh i (rfo w hh Y.1 cl i true) (rfo w hh Y.1 cl i false) (zJ o) ng Y u).2.2.2 cl mi sp) → zwp E 4 187 (52, [some (.ref b), some (.int a), some (.int (zJ o)), some (.int m), some (.int (zJ i)), some (.int (rfo w hh Y.1 cl i true)), some (.int (rfo w hh Y.1 cl i false)), some (.int (zJ u))], [], h3) Q) (n := yln w hh i) fun u hk52 ih52 => ?_
      intro h3 F3 P3
      have Lg_3 := F3.bk Lg (fun x z1 z2 z3 => by have z2 : x < g + 1 := z2; have := z3.1; have := z3.2; omega)
      refine zr_iload zi187_52 rfl ?_
      refine zr_aload_n zi187_54 rfl ?_
      refine zr_iload zi187_55 rfl ?_
      refine zr_virtual zi187_57 rfl rfl (P3.1.at0 rfl) rfl rfl ?_
      refine zcall_dep (d := 0) (Nat.le_of_ble_eq_true rfl) (c168 P3 (by omega) (zbk_v ?_))
      refine zr_icmp_geN zi187_60 rfl (by omega) (by omega) (fun q60 => ?_) (fun q60 => ?_)
      · obtain rfl : u = yln w hh i := by omega
        refine zr_iload_n zi187_112 rfl ?_
        refine zr_iload zi187_113 rfl ?_
        refine zr_iload zi187_115 rfl ?_
        refine zr_ior zi187_117 ?_
        refine zr_static zi187_118 rfl rfl rfl rfl ?_
        refine zcall_dep (d := 0) (Nat.le_of_ble_eq_true rfl) (c189 (zbk_v ?_))
        refine zr_iadd zi187_121 ?_
        refine zr_istore_n (L' := [some (.ref _), some (.int _), some (.int (zJ _)), some (.int _), some (.int (zJ _)), some (.int _), some (.int _), some (.int (zJ _))]) zi187_122 rfl rfl ?_
        refine zr_iincN (z := 1) (L' := [some (.ref _), some (.int _), some (.int (zJ _)), some (.int _), some (.int (zJ _)), some (.int _), some (.int _), some (.int (zJ _))]) zi187_123 rfl rfl rfl rfl ?_
        refine zr_goto zi187_126 rfl ?_
        exact ih9 (by omega) _ _ _ _ _ _ F3 P3 (by rw [hI, rsL_s q15 q24])
      · have hc := ycl_b (show i < w + hh from q15) q60
        refine zr_iload zi187_63 rfl ?_
        refine zr_iload zi187_65 rfl ?_
        refine zr_ior zi187_67 ?_
        refine zr_iload zi187_68 rfl ?_
        refine zr_static zi187_70 rfl rfl rfl rfl ?_
        refine zcall_dep (d := 0) (Nat.le_of_ble_eq_true rfl) (c175 (by omega) (zbk_v ?_))
        refine zr_if_eqB zi187_73 rfl (fun q73 => ?_) (fun q73 => ?_)
        · refine zr_iincN (z := 1) (L' := [some (.ref _), some (.int _), some (.int (zJ _)), some (.int _), some (.int (zJ _)), some (.int _), some (.int _), some (.int (zJ _))]) zi187_106 rfl rfl rfl rfl ?_
          refine zr_goto zi187_109 rfl ?_
          have en := ih52 (by omega) _ F3
          rw [rpl] at en
          first | (rw [if_pos q73, if_pos q92] at en) | (rw [if_pos q73, if_neg (by rw [q92]; decide)] at en) | (rw [if_neg (by rw [q73]; decide)] at en)
          exact en P3
        · refine zr_aload_n zi187_76 rfl ?_
          refine zr_aload_n zi187_77 rfl ?_
          refine zr_iload zi187_78 rfl ?_
          refine zr_iload zi187_80 rfl ?_
          refine zr_virtual zi187_82 rfl rfl (P3.1.at0 rfl) rfl rfl ?_
          refine zcall_dep (d := 0) (Nat.le_of_ble_eq_true rfl) (c173 P3 (by omega) (by omega) (zbk_v ?_))
          refine zr_iload zi187_85 rfl ?_
          refine zr_iload zi187_87 rfl ?_
          refine zr_static zi187_89 rfl rfl rfl rfl ?_
          refine zcall_dep (d := 0) (Nat.le_of_ble_eq_true rfl) (c175 (by omega) (zbk_v ?_))
          refine zr_if_eqB zi187_92 rfl (fun q92 => ?_) (fun q92 => ?_)
          · refine zr_iconst (v := zJ 2) zi187_99 rfl ?_
            refine zr_iload zi187_100 rfl ?_
            refine zr_iload_n zi187_102 rfl ?_
            refine zr_virtual zi187_103 rfl rfl (P3.1.at0 rfl) rfl rfl ?_
            refine zcall_dep (d := 1) (Nat.le_of_ble_eq_true rfl) (c180 P3 Lg_3 hg (by omega) (fun h103 F103 P103 => zbk_0 ?_))
            have Lg_103 := F103.bk Lg_3 (by intro x z1 z2 z3; have z2 : x < _ + 1 := z2; have := z3.1; have := z3.2; omega)
            refine zr_iincN (z := 1) (L' := [some (.ref _), some (.int _), some (.int (zJ _)), some (.int _), some (.int (zJ _)), some (.int _), some (.int _), some (.int (zJ _))]) zi187_106 rfl rfl rfl rfl ?_
            refine zr_goto zi187_109 rfl ?_
            have en := ih52 (by omega) _ (F3.trans F103)
            rw [rpl] at en
            first | (rw [if_pos q73, if_pos q92] at en) | (rw [if_pos q73, if_neg (by rw [q92]; decide)] at en) | (rw [if_neg (by rw [q73]; decide)] at en)
            exact en P103
          · refine zr_iconst (v := zJ 1) zi187_95 rfl ?_
            refine zr_goto zi187_96 rfl ?_
            refine zr_iload zi187_100 rfl ?_
            refine zr_iload_n zi187_102 rfl ?_
            refine zr_virtual zi187_103 rfl rfl (P3.1.at0 rfl) rfl rfl ?_
            refine zcall_dep (d := 1) (Nat.le_of_ble_eq_true rfl) (c180 P3 Lg_3 hg (by omega) (fun h103 F103 P103 => zbk_0 ?_))
            have Lg_103 := F103.bk Lg_3 (by intro x z1 z2 z3; have z2 : x < _ + 1 := z2; have := z3.1; have := z3.2; omega)
            refine zr_iincN (z := 1) (L' := [some (.ref _), some (.int _), some (.int (zJ _)), some (.int _), some (.int (zJ _)), some (.int _), some (.int _), some (.int (zJ _))]) zi187_106 rfl rfl rfl rfl ?_
            refine zr_goto zi187_109 rfl ?_
            have en := ih52 (by omega) _ (F3.trans F103)
            rw [rpl] at en
            first | (rw [if_pos q73, if_pos q92] at en) | (rw [if_pos q73, if_neg (by rw [q92]; decide)] at en) | (rw [if_neg (by rw [q73]; decide)] at en)
            exact en P103
    · refine zr_iload_n zi187_27 rfl ?_
      refine zr_iload_n zi187_28 rfl ?_
      refine zr_iadd zi187_29 ?_
      refine zr_ireturn zi187_30 rfl ?_
      obtain ⟨f, rfl⟩ : ∃ f0, f = f0 + 1 := ⟨f - 1, by omega⟩
      rw [rsL_b q15 q24] at hI
      rw [rsR_b hI] at hE
      rw [← hE] at K
      exact K _ F2 P2
