/-! ===== the album: walks ===== -/
theorem c23L {E : zEnv} {h : zPH} {Q : zOut → zPH → Prop} (S : ySs E h) {a : Nat} {ps lw rw cw dc : List Int32} {sw sh : Nat} {scs scl sfs : List Int32} {ic : Bool} {aw ah am n : Nat} (A : yA h a ps lw rw cw dc sw sh scs scl sfs ic aw ah am n) {g w hh : Nat} {cs cl fs : List Int32} (G : yG h g w hh cs cl fs) (hd : a + 10 ≤ g ∨ g + 4 ≤ a) {m : Nat} {b0 : Bool} (hm : m ≤ 500) (K : ∀ h1, yFr (yIv a 10) h h1 0 0 → yA h1 a ps (ycw w hh cs fs lw b0 (w + hh)).1 rw cw dc sw sh scs scl sfs ic w hh m n → Q (.inl (some (.int (zB (ycw w hh cs fs lw b0 (w + hh)).2)))) h1) : zwp E 2 23 (36, [some (.ref a), some (.ref g), some (.int (zJ m)), some (.int (zB b0)), none, none], [], h) Q := by
  obtain ⟨⟨aps, alw, arw, acw, adc⟩, ⟨⟨sw1, sw2, sh1, sh2⟩, ascs, ascl, asfs⟩, aaw, aah, aam, an⟩ := A.2
  obtain ⟨⟨gw1, gw2, gh1, gh2⟩, gcs, gcl, gfs⟩ := G.2
  refine zr_aload_n zi23_36 rfl ?_
  refine zr_aload_n zi23_37 rfl ?_
  refine zr_getfield zi23_38 (G.1.at0 rfl) rfl ?_
  refine zr_putfield zi23_41 (A.1.at0 rfl) rfl rfl ?_
  refine yA.wob A (by first | omega | (simp only [List.length_set, zpt_len]; omega)) (fun h41 F41 A41 => ?_)
  have G_41 := G.fr F41 (by intro a z1 z2 z3; simp only [yIv] at z3; omega)
  have S_41 := F41.ss S
  refine zr_aload_n zi23_44 rfl ?_
  refine zr_aload_n zi23_45 rfl ?_
  refine zr_getfield zi23_46 (G_41.1.at0 rfl) rfl ?_
  refine zr_putfield zi23_49 (A41.1.at0 rfl) rfl rfl ?_
  refine yA.wob A41 (by first | omega | (simp only [List.length_set, zpt_len]; omega)) (fun h49 F49 A49 => ?_)
  have G_49 := G_41.fr F49 (by intro a z1 z2 z3; simp only [yIv] at z3; omega)
  have S_49 := F49.ss S_41
  refine zr_aload_n zi23_52 rfl ?_
  refine zr_iload_n zi23_53 rfl ?_
  refine zr_putfield zi23_54 (A49.1.at0 rfl) rfl rfl ?_
  refine yA.wob A49 (by first | omega | (simp only [List.length_set, zpt_len]; omega)) (fun h54 F54 A54 => ?_)
  have G_54 := G_49.fr F54 (by intro a z1 z2 z3; simp only [yIv] at z3; omega)
  have S_54 := F54.ss S_49
  refine zr_iconst (v := zJ 0) zi23_57 rfl ?_
  refine zr_istore (L' := [some (.ref _), some (.ref _), some (.int (zJ _)), some (.int (zB _)), some (.int (zJ _)), none]) zi23_58 rfl rfl ?_
  suffices key60 : ∀ h1 x5, (yFr (yIv a 10) h h1 0 0) → (yA h1 a ps (ycw w hh cs fs lw b0 (0)).1 rw cw dc sw sh scs scl sfs ic w hh m n) → zwp E 2 23 (60, [some (.ref a), some (.ref g), some (.int (zJ m)), some (.int (zB (ycw w hh cs fs lw b0 (0)).2)), some (.int (zJ 0)), x5], [], h1) Q from key60 _ _ ((F41.trans F49).trans F54) A54
  refine zloop (P := fun k => ∀ h1 x5, (yFr (yIv a 10) h h1 0 0) → (yA h1 a ps (ycw w hh cs fs lw b0 (k)).1 rw cw dc sw sh scs scl sfs ic w hh m n) → zwp E 2 23 (60, [some (.ref a), some (.ref g), some (.int (zJ m)), some (.int (zB (ycw w hh cs fs lw b0 (k)).2)), some (.int (zJ k)), x5], [], h1) Q) (n := w + hh) fun k hk60 ih60 => ?_
  intro h1 x5 F1 A1
  have G_1 := G.fr F1 (by intro a z1 z2 z3; simp only [yIv] at z3; omega)
  have S_1 := F1.ss S
  have alw1 := A1.2.1.2.1
  refine zr_iload zi23_60 rfl ?_
  refine zr_aload_n zi23_62 rfl ?_
  refine zr_virtual zi23_63 rfl rfl (G_1.1.at0 rfl) rfl rfl ?_
  refine zcall_dep (d := 0) (Nat.le_of_ble_eq_true rfl) (c4 G_1 (zbk_v ?_))
  refine zr_icmp_geN zi23_66 rfl (by omega) (by omega) (fun q66 => ?_) (fun q66 => ?_)
  · refine zr_iload_n zi23_116 rfl ?_
    refine zr_zreturnB zi23_117 rfl ?_
    obtain rfl : k = w + hh := by omega
    exact K _ F1 A1
  · refine zr_iload zi23_69 rfl ?_
    refine zr_aload_n zi23_71 rfl ?_
    refine zr_getfield zi23_72 (A1.1.at0 rfl) rfl ?_
    refine zr_arraylength (v := zJ 10) zi23_75 (A1.1.at 2 rfl) rfl (zlenJ A1.2.1.2.1) ?_
    refine zr_icmp_geN zi23_76 rfl (by omega) (by omega) (fun q76 => ?_) (fun q76 => ?_)
    · refine zr_iload_n zi23_116 rfl ?_
      refine zr_zreturnB zi23_117 rfl ?_
      obtain rfl : k = w + hh := by omega
      exact K _ F1 A1
    · refine zr_aload_n zi23_79 rfl ?_
      refine zr_iload zi23_80 rfl ?_
      refine zr_virtual zi23_82 rfl rfl (G_1.1.at0 rfl) rfl rfl ?_
      refine zcall_dep (d := 1) (Nat.le_of_ble_eq_true rfl) (c20 S_1 G_1 (by omega) (zbk_v ?_))
      refine zr_istore (L' := [some (.ref _), some (.ref _), some (.int (zJ _)), some (.int (zB _)), some (.int (zJ _)), some (.int _)]) zi23_85 rfl rfl ?_
      refine zr_aload_n zi23_87 rfl ?_
      refine zr_getfield zi23_88 (A1.1.at0 rfl) rfl ?_
      refine zr_iload zi23_91 rfl ?_
      refine zr_ialoadN zi23_93 (A1.1.at 2 rfl) rfl (by omega) (by first | omega | (simp only [List.length_set, zpt_len]; omega)) ?_
      refine zr_iload zi23_94 rfl ?_
      refine zr_icmp_eq zi23_96 rfl (fun q96 => ?_) (fun q96 => ?_)
      · refine zr_iincN (z := 1) (L' := [some (.ref _), some (.ref _), some (.int (zJ _)), some (.int (zB _)), some (.int (zJ _)), some (.int _)]) zi23_110 rfl rfl rfl rfl ?_
        refine zr_goto zi23_113 rfl ?_
        have en := ih60 (by omega)
        rw [ycw] at en
        first | rw [if_pos q96] at en | rw [if_neg q96] at en
        exact en _ _ F1 A1
      · refine zr_iconst (v := zB true) zi23_99 rfl ?_
        refine zr_istore_n (L' := [some (.ref _), some (.ref _), some (.int (zJ _)), some (.int (zB _)), some (.int (zJ _)), some (.int _)]) zi23_100 rfl rfl ?_
        refine zr_aload_n zi23_101 rfl ?_
        refine zr_getfield zi23_102 (A1.1.at0 rfl) rfl ?_
        refine zr_iload zi23_105 rfl ?_
        refine zr_iload zi23_107 rfl ?_
        refine zr_iastoreN zi23_109 (A1.1.at 2 rfl) (by omega) (by first | omega | (simp only [List.length_set, zpt_len]; omega)) ?_
        refine yA.wlw A1 (by first | omega | (simp only [List.length_set, zpt_len]; omega)) (fun h109 F109 A109 => ?_)
        have G_109 := G_1.fr F109 (by intro a z1 z2 z3; simp only [yIv] at z3; omega)
        have S_109 := F109.ss S_1
        refine zr_iincN (z := 1) (L' := [some (.ref _), some (.ref _), some (.int (zJ _)), some (.int (zB _)), some (.int (zJ _)), some (.int _)]) zi23_110 rfl rfl rfl rfl ?_
        refine zr_goto zi23_113 rfl ?_
        have en := ih60 (by omega)
        rw [ycw] at en
        first | rw [if_pos q96] at en | rw [if_neg q96] at en
        exact en _ _ (F1.trans F109) A109
theorem c23 {E : zEnv} {h : zPH} {Q : zOut → zPH → Prop} (S : ySs E h) {a : Nat} {ps lw rw cw dc : List Int32} {sw sh : Nat} {scs scl sfs : List Int32} {ic : Bool} {aw ah am n : Nat} (A : yA h a ps lw rw cw dc sw sh scs scl sfs ic aw ah am n) {g w hh : Nat} {cs cl fs : List Int32} (G : yG h g w hh cs cl fs) (hd : a + 10 ≤ g ∨ g + 4 ≤ a) {m : Nat} (hm : m ≤ 500) (K : ∀ h1, yFr (yIv a 10) h h1 0 0 → yA h1 a ps (ycw w hh cs fs lw (ybz aw ah am w hh m) (w + hh)).1 rw cw dc sw sh scs scl sfs ic w hh m n → Q (.inl (some (.int (zB (ycw w hh cs fs lw (ybz aw ah am w hh m) (w + hh)).2)))) h1) : zcall E 2 23 [.ref a, .ref g, .int (zJ m)] h Q := by
  obtain ⟨⟨aps, alw, arw, acw, adc⟩, ⟨⟨sw1, sw2, sh1, sh2⟩, ascs, ascl, asfs⟩, aaw, aah, aam, an⟩ := A.2
  obtain ⟨⟨gw1, gw2, gh1, gh2⟩, gcs, gcl, gfs⟩ := G.2
  show zwp E _ 23 (0, [some (.ref _), some (.ref _), some (.int (zJ _)), none, none, none], [], _) Q
  refine zr_aload_n zi23_0 rfl ?_
  refine zr_getfield zi23_1 (A.1.at0 rfl) rfl ?_
  refine zr_aload_n zi23_4 rfl ?_
  refine zr_getfield zi23_5 (G.1.at0 rfl) rfl ?_
  refine zr_icmp_neN zi23_8 rfl (by omega) (by omega) (fun q8 => ?_) (fun q8 => ?_)
  · refine zr_iconst (v := zB true) zi23_30 rfl ?_
    refine zr_goto zi23_31 rfl ?_
    refine zr_istore_n (L' := [some (.ref _), some (.ref _), some (.int (zJ _)), some (.int (zB _)), none, none]) zi23_35 rfl rfl ?_
    first
      | (have eb : ybz aw ah am w hh m = true := by unfold ybz; rw [decide_eq_false q8]; rfl
         rw [eb] at K
         exact c23L S A G hd hm K)
      | (have eb : ybz aw ah am w hh m = true := by unfold ybz; rw [decide_eq_false q19, Bool.and_false]; rfl
         rw [eb] at K
         exact c23L S A G hd hm K)
      | (have eb : ybz aw ah am w hh m = true := by unfold ybz; rw [decide_eq_false q27, Bool.and_false]; rfl
         rw [eb] at K
         exact c23L S A G hd hm K)
      | (have eb : ybz aw ah am w hh m = false := by unfold ybz; rw [decide_eq_true q8, decide_eq_true q19, decide_eq_true q27]; rfl
         rw [eb] at K
         exact c23L S A G hd hm K)
  · refine zr_aload_n zi23_11 rfl ?_
    refine zr_getfield zi23_12 (A.1.at0 rfl) rfl ?_
    refine zr_aload_n zi23_15 rfl ?_
    refine zr_getfield zi23_16 (G.1.at0 rfl) rfl ?_
    refine zr_icmp_neN zi23_19 rfl (by omega) (by omega) (fun q19 => ?_) (fun q19 => ?_)
    · refine zr_iconst (v := zB true) zi23_30 rfl ?_
      refine zr_goto zi23_31 rfl ?_
      refine zr_istore_n (L' := [some (.ref _), some (.ref _), some (.int (zJ _)), some (.int (zB _)), none, none]) zi23_35 rfl rfl ?_
      first
        | (have eb : ybz aw ah am w hh m = true := by unfold ybz; rw [decide_eq_false q8]; rfl
           rw [eb] at K
           exact c23L S A G hd hm K)
        | (have eb : ybz aw ah am w hh m = true := by unfold ybz; rw [decide_eq_false q19, Bool.and_false]; rfl
           rw [eb] at K
           exact c23L S A G hd hm K)
        | (have eb : ybz aw ah am w hh m = true := by unfold ybz; rw [decide_eq_false q27, Bool.and_false]; rfl
           rw [eb] at K
           exact c23L S A G hd hm K)
        | (have eb : ybz aw ah am w hh m = false := by unfold ybz; rw [decide_eq_true q8, decide_eq_true q19, decide_eq_true q27]; rfl
           rw [eb] at K
           exact c23L S A G hd hm K)
    · refine zr_aload_n zi23_22 rfl ?_
      refine zr_getfield zi23_23 (A.1.at0 rfl) rfl ?_
      refine zr_iload_n zi23_26 rfl ?_
      refine zr_icmp_eqN zi23_27 rfl (by omega) (by omega) (fun q27 => ?_) (fun q27 => ?_)
      · refine zr_iconst (v := zB false) zi23_34 rfl ?_
        refine zr_istore_n (L' := [some (.ref _), some (.ref _), some (.int (zJ _)), some (.int (zB _)), none, none]) zi23_35 rfl rfl ?_
        first
          | (have eb : ybz aw ah am w hh m = true := by unfold ybz; rw [decide_eq_false q8]; rfl
             rw [eb] at K
             exact c23L S A G hd hm K)
          | (have eb : ybz aw ah am w hh m = true := by unfold ybz; rw [decide_eq_false q19, Bool.and_false]; rfl
             rw [eb] at K
             exact c23L S A G hd hm K)
          | (have eb : ybz aw ah am w hh m = true := by unfold ybz; rw [decide_eq_false q27, Bool.and_false]; rfl
             rw [eb] at K
             exact c23L S A G hd hm K)
          | (have eb : ybz aw ah am w hh m = false := by unfold ybz; rw [decide_eq_true q8, decide_eq_true q19, decide_eq_true q27]; rfl
             rw [eb] at K
             exact c23L S A G hd hm K)
      · refine zr_iconst (v := zB true) zi23_30 rfl ?_
        refine zr_goto zi23_31 rfl ?_
        refine zr_istore_n (L' := [some (.ref _), some (.ref _), some (.int (zJ _)), some (.int (zB _)), none, none]) zi23_35 rfl rfl ?_
        first
          | (have eb : ybz aw ah am w hh m = true := by unfold ybz; rw [decide_eq_false q8]; rfl
             rw [eb] at K
             exact c23L S A G hd hm K)
          | (have eb : ybz aw ah am w hh m = true := by unfold ybz; rw [decide_eq_false q19, Bool.and_false]; rfl
             rw [eb] at K
             exact c23L S A G hd hm K)
          | (have eb : ybz aw ah am w hh m = true := by unfold ybz; rw [decide_eq_false q27, Bool.and_false]; rfl
             rw [eb] at K
             exact c23L S A G hd hm K)
          | (have eb : ybz aw ah am w hh m = false := by unfold ybz; rw [decide_eq_true q8, decide_eq_true q19, decide_eq_true q27]; rfl
             rw [eb] at K
             exact c23L S A G hd hm K)
theorem c31 {E : zEnv} {h : zPH} {Q : zOut → zPH → Prop} (S : ySs E h) {a : Nat} {ps lw rw cw dc : List Int32} {sw sh : Nat} {scs scl sfs : List Int32} {ic : Bool} {aw ah am n : Nat} (A : yA h a ps lw rw cw dc sw sh scs scl sfs ic aw ah am n) {l r : Nat} (hl : l ≤ 5) (hr : r < 5) (K : Q (.inl (some (.int (yag rw cw l r aw)))) h) : zcall E 0 31 [.ref a, .int (zJ l), .int (zJ r)] h Q := by
  obtain ⟨⟨aps, alw, arw, acw, adc⟩, ⟨⟨sw1, sw2, sh1, sh2⟩, ascs, ascl, asfs⟩, aaw, aah, aam, an⟩ := A.2
  obtain ⟨⟨aSH, eSH, lSH, hSH⟩, ⟨aDK, eDK, lDK, hDK⟩, eCS, ⟨aEL, eEL, lEL, hEL⟩⟩ := S
  show zwp E _ 31 (0, [some (.ref _), some (.int (zJ _)), some (.int (zJ _)), none, none, none], [], _) Q
  refine zr_iload_n zi31_0 rfl ?_
  refine zr_if_ltN zi31_1 rfl (by omega) ?_
  refine zr_iload_n zi31_4 rfl ?_
  refine zr_iconst (v := zJ 5) zi31_5 rfl ?_
  refine zr_icmp_gtN zi31_6 rfl (by omega) (by omega) (fun q6 => absurd q6 (by omega)) (fun q6 => ?_)
  refine zr_iload_n zi31_9 rfl ?_
  refine zr_if_ltN zi31_10 rfl (by omega) ?_
  refine zr_iload_n zi31_13 rfl ?_
  refine zr_iconst (v := zJ 5) zi31_14 rfl ?_
  refine zr_icmp_ltN zi31_15 rfl (by omega) (by omega) (fun q15 => ?_) (fun q15 => absurd q15 (by omega))
  refine zr_aload_n zi31_20 rfl ?_
  refine zr_getfield zi31_21 (A.1.at0 rfl) rfl ?_
  refine zr_iload_n zi31_24 rfl ?_
  refine zr_ialoadN zi31_25 (A.1.at 7 rfl) rfl (by omega) (by first | omega | (simp only [List.length_set, zpt_len]; omega)) ?_
  refine zr_istore_n (L' := [some (.ref _), some (.int (zJ _)), some (.int (zJ _)), some (.int _), none, none]) zi31_26 rfl rfl ?_
  refine zr_iconst (v := zJ 0) zi31_27 rfl ?_
  refine zr_istore (L' := [some (.ref _), some (.int (zJ _)), some (.int (zJ _)), some (.int _), some (.int (zJ _)), none]) zi31_28 rfl rfl ?_
  suffices key30 : ∀ x5, zwp E 0 31 (30, [some (.ref a), some (.int (zJ l)), some (.int (zJ r)), some (.int (yag rw cw l r 0)), some (.int (zJ 0)), x5], [], h) Q from key30 _
  refine zloop (P := fun k => ∀ x5, zwp E 0 31 (30, [some (.ref a), some (.int (zJ l)), some (.int (zJ r)), some (.int (yag rw cw l r k)), some (.int (zJ k)), x5], [], h) Q) (n := aw) fun k hk30 ih30 => ?_
  intro x5
  refine zr_iload zi31_30 rfl ?_
  refine zr_aload_n zi31_32 rfl ?_
  refine zr_getfield zi31_33 (A.1.at0 rfl) rfl ?_
  refine zr_icmp_geN zi31_36 rfl (by omega) (by omega) (fun q36 => ?_) (fun q36 => ?_)
  · refine zr_iload_n zi31_108 rfl ?_
    refine zr_ireturn zi31_109 rfl ?_
    obtain rfl : aw = k := by omega
    exact K
  · refine zr_iload zi31_39 rfl ?_
    refine zr_iconst (v := zJ 5) zi31_41 rfl ?_
    refine zr_icmp_geN zi31_42 rfl (by omega) (by omega) (fun q42 => ?_) (fun q42 => ?_)
    · refine zr_iload_n zi31_108 rfl ?_
      refine zr_ireturn zi31_109 rfl ?_
      obtain rfl : aw = k := by omega
      exact K
    · refine zr_aload_n zi31_45 rfl ?_
      refine zr_getfield zi31_46 (A.1.at0 rfl) rfl ?_
      refine zr_iload_n zi31_49 rfl ?_
      refine zr_iconst (v := zJ 5) zi31_50 rfl ?_
      refine zr_imulN zi31_51 ?_
      refine zr_iload zi31_52 rfl ?_
      refine zr_iaddN zi31_54 ?_
      refine zr_ialoadN zi31_55 (A.1.at 8 rfl) rfl (by omega) (by first | omega | (simp only [List.length_set, zpt_len]; omega)) ?_
      refine zr_istore (L' := [some (.ref _), some (.int (zJ _)), some (.int (zJ _)), some (.int _), some (.int (zJ _)), some (.int _)]) zi31_56 rfl rfl ?_
      refine zr_iload zi31_58 rfl ?_
      refine zr_getstatic zi31_60 rfl eDK ?_
      refine zr_iload_n zi31_63 rfl ?_
      refine zr_ialoadN zi31_64 hDK rfl (by omega) (by show _ < 5; omega) ?_
      refine zr_iand zi31_65 ?_
      refine zr_if_ne zi31_66 rfl (fun q66 => ?_) (fun q66 => ?_)
      · refine zr_iload zi31_80 rfl ?_
        refine zr_getstatic zi31_82 rfl eDK ?_
        refine zr_iload_n zi31_85 rfl ?_
        refine zr_ialoadN zi31_86 hDK rfl (by omega) (by show _ < 5; omega) ?_
        refine zr_iconst (v := (-1)) zi31_87 rfl ?_
        refine zr_ixor zi31_88 ?_
        refine zr_iand zi31_89 ?_
        refine zr_if_ne zi31_90 rfl (fun q90 => ?_) (fun q90 => ?_)
        · refine zr_iincN (z := 1) (L' := [some (.ref _), some (.int (zJ _)), some (.int (zJ _)), some (.int _), some (.int (zJ _)), some (.int _)]) zi31_102 rfl rfl rfl rfl ?_
          refine zr_goto zi31_105 rfl ?_
          have en := ih30 (by omega)
          rw [yag] at en
          first | rw [if_pos q90, if_pos q66] at en | rw [if_pos q90, if_neg q66] at en | rw [if_neg q90, if_pos q66] at en | rw [if_neg q90, if_neg q66] at en
          exact en _
        · refine zr_iload_n zi31_93 rfl ?_
          refine zr_getstatic zi31_94 rfl eDK ?_
          refine zr_iload zi31_97 rfl ?_
          refine zr_ialoadN zi31_99 hDK rfl (by omega) (by show _ < 5; omega) ?_
          refine zr_iand zi31_100 ?_
          refine zr_istore_n (L' := [some (.ref _), some (.int (zJ _)), some (.int (zJ _)), some (.int _), some (.int (zJ _)), some (.int _)]) zi31_101 rfl rfl ?_
          refine zr_iincN (z := 1) (L' := [some (.ref _), some (.int (zJ _)), some (.int (zJ _)), some (.int _), some (.int (zJ _)), some (.int _)]) zi31_102 rfl rfl rfl rfl ?_
          refine zr_goto zi31_105 rfl ?_
          have en := ih30 (by omega)
          rw [yag] at en
          first | rw [if_pos q90, if_pos q66] at en | rw [if_pos q90, if_neg q66] at en | rw [if_neg q90, if_pos q66] at en | rw [if_neg q90, if_neg q66] at en
          exact en _
      · refine zr_iload_n zi31_69 rfl ?_
        refine zr_getstatic zi31_70 rfl eDK ?_
        refine zr_iload zi31_73 rfl ?_
        refine zr_ialoadN zi31_75 hDK rfl (by omega) (by show _ < 5; omega) ?_
        refine zr_iconst (v := (-1)) zi31_76 rfl ?_
        refine zr_ixor zi31_77 ?_
        refine zr_iand zi31_78 ?_
        refine zr_istore_n (L' := [some (.ref _), some (.int (zJ _)), some (.int (zJ _)), some (.int _), some (.int (zJ _)), some (.int _)]) zi31_79 rfl rfl ?_
        refine zr_iload zi31_80 rfl ?_
        refine zr_getstatic zi31_82 rfl eDK ?_
        refine zr_iload_n zi31_85 rfl ?_
        refine zr_ialoadN zi31_86 hDK rfl (by omega) (by show _ < 5; omega) ?_
        refine zr_iconst (v := (-1)) zi31_87 rfl ?_
        refine zr_ixor zi31_88 ?_
        refine zr_iand zi31_89 ?_
        refine zr_if_ne zi31_90 rfl (fun q90 => ?_) (fun q90 => ?_)
        · refine zr_iincN (z := 1) (L' := [some (.ref _), some (.int (zJ _)), some (.int (zJ _)), some (.int _), some (.int (zJ _)), some (.int _)]) zi31_102 rfl rfl rfl rfl ?_
          refine zr_goto zi31_105 rfl ?_
          have en := ih30 (by omega)
          rw [yag] at en
          first | rw [if_pos q90, if_pos q66] at en | rw [if_pos q90, if_neg q66] at en | rw [if_neg q90, if_pos q66] at en | rw [if_neg q90, if_neg q66] at en
          exact en _
        · refine zr_iload_n zi31_93 rfl ?_
          refine zr_getstatic zi31_94 rfl eDK ?_
          refine zr_iload zi31_97 rfl ?_
          refine zr_ialoadN zi31_99 hDK rfl (by omega) (by show _ < 5; omega) ?_
          refine zr_iand zi31_100 ?_
          refine zr_istore_n (L' := [some (.ref _), some (.int (zJ _)), some (.int (zJ _)), some (.int _), some (.int (zJ _)), some (.int _)]) zi31_101 rfl rfl ?_
          refine zr_iincN (z := 1) (L' := [some (.ref _), some (.int (zJ _)), some (.int (zJ _)), some (.int _), some (.int (zJ _)), some (.int _)]) zi31_102 rfl rfl rfl rfl ?_
          refine zr_goto zi31_105 rfl ?_
          have en := ih30 (by omega)
          rw [yag] at en
          first | rw [if_pos q90, if_pos q66] at en | rw [if_pos q90, if_neg q66] at en | rw [if_neg q90, if_pos q66] at en | rw [if_neg q90, if_neg q66] at en
          exact en _
theorem c30 {E : zEnv} {h : zPH} {Q : zOut → zPH → Prop} (S : ySs E h) {a : Nat} {ps lw rw cw dc : List Int32} {sw sh : Nat} {scs scl sfs : List Int32} {ic : Bool} {aw ah am n : Nat} (A : yA h a ps lw rw cw dc sw sh scs scl sfs ic aw ah am n) {l : Nat} (hl : l ≤ 5) (K : Q (.inl (some (.int (zB (ycg aw rw cw l (ah - l)))))) h) : zcall E 1 30 [.ref a, .int (zJ l)] h Q := by
  obtain ⟨⟨aps, alw, arw, acw, adc⟩, ⟨⟨sw1, sw2, sh1, sh2⟩, ascs, ascl, asfs⟩, aaw, aah, aam, an⟩ := A.2
  show zwp E _ 30 (0, [some (.ref _), some (.int (zJ _)), none], [], _) Q
  refine zr_iload_n zi30_0 rfl ?_
  refine zr_istore_n (L' := [some (.ref _), some (.int (zJ _)), some (.int (zJ _))]) zi30_1 rfl rfl ?_
  suffices key2 : (ycg aw rw cw l 0 = true) → zwp E 1 30 (2, [some (.ref a), some (.int (zJ l)), some (.int (zJ (l + 0)))], [], h) Q from key2 rfl
  refine zloop (P := fun k => (ycg aw rw cw l k = true) → zwp E 1 30 (2, [some (.ref a), some (.int (zJ l)), some (.int (zJ (l + k)))], [], h) Q) (n := ah - l) fun k hk2 ih2 => ?_
  intro hT
  refine zr_iload_n zi30_2 rfl ?_
  refine zr_aload_n zi30_3 rfl ?_
  refine zr_getfield zi30_4 (A.1.at0 rfl) rfl ?_
  refine zr_icmp_geN zi30_7 rfl (by omega) (by omega) (fun q7 => ?_) (fun q7 => ?_)
  · refine zr_iconst (v := zJ 1) zi30_27 rfl ?_
    refine zr_zreturn zi30_28 rfl (by decide) ?_
    obtain rfl : k = ah - l := by omega
    rw [hT] at K
    exact K
  · refine zr_aload_n zi30_10 rfl ?_
    refine zr_iload_n zi30_11 rfl ?_
    refine zr_iload_n zi30_12 rfl ?_
    refine zr_virtual zi30_13 rfl rfl (A.1.at0 rfl) rfl rfl ?_
    refine zcall_dep (d := 0) (Nat.le_of_ble_eq_true rfl) (c31 S A (by omega) (by omega) (zbk_v ?_))
    refine zr_if_ne zi30_16 rfl (fun q16 => ?_) (fun q16 => ?_)
    · refine zr_iincN (z := 1) (L' := [some (.ref _), some (.int (zJ _)), some (.int (zJ _))]) zi30_21 rfl rfl rfl rfl ?_
      refine zr_goto zi30_24 rfl ?_
      exact ih2 (by omega) (by rw [ycg, hT, decide_eq_false q16]; rfl)
    · refine zr_iconst (v := zJ 0) zi30_19 rfl ?_
      refine zr_zreturn zi30_20 rfl (by decide) ?_
      rw [ycg_f (k := k + 1) (by rw [ycg, hT, decide_eq_true q16]; rfl) (ah - l) (by omega)] at K
      exact K
theorem c34 {E : zEnv} {h : zPH} {Q : zOut → zPH → Prop} (S : ySs E h) {a : Nat} {ps lw rw cw dc : List Int32} {sw sh : Nat} {scs scl sfs : List Int32} {ic : Bool} {aw ah am n : Nat} (A : yA h a ps lw rw cw dc sw sh scs scl sfs ic aw ah am n) {r : Nat} {x : Int32} (hr : r < 5) (K : ∀ h1, yFr (yIv a 10) h h1 0 0 → yA h1 a ps lw rw (ynr x r cw aw) dc sw sh scs scl sfs ic aw ah am n → Q (.inl none) h1) : zcall E 1 34 [.ref a, .int (zJ r), .int x] h Q := by
  obtain ⟨⟨aps, alw, arw, acw, adc⟩, ⟨⟨sw1, sw2, sh1, sh2⟩, ascs, ascl, asfs⟩, aaw, aah, aam, an⟩ := A.2
  obtain ⟨⟨aSH, eSH, lSH, hSH⟩, ⟨aDK, eDK, lDK, hDK⟩, eCS, ⟨aEL, eEL, lEL, hEL⟩⟩ := S
  have lDK0 := lDK
  show zwp E _ 34 (0, [some (.ref _), some (.int (zJ _)), some (.int _), none, none], [], _) Q
  refine zr_iload_n zi34_0 rfl ?_
  refine zr_if_ltN zi34_1 rfl (by omega) ?_
  refine zr_iload_n zi34_4 rfl ?_
  refine zr_iconst (v := zJ 5) zi34_5 rfl ?_
  refine zr_icmp_ltN zi34_6 rfl (by omega) (by omega) (fun q6 => ?_) (fun q6 => absurd q6 (by omega))
  refine zr_iconst (v := zJ 0) zi34_10 rfl ?_
  refine zr_istore_n (L' := [some (.ref _), some (.int (zJ _)), some (.int _), some (.int (zJ _)), none]) zi34_11 rfl rfl ?_
  suffices key12 : ∀ h1 x4, (yFr (yIv a 10) h h1 0 0) → (yA h1 a ps lw rw (ynr x r cw 0) dc sw sh scs scl sfs ic aw ah am n) → zwp E 1 34 (12, [some (.ref a), some (.int (zJ r)), some (.int x), some (.int (zJ 0)), x4], [], h1) Q from key12 _ _ (yFr.refl _ _) A
  refine zloop (P := fun k => ∀ h1 x4, (yFr (yIv a 10) h h1 0 0) → (yA h1 a ps lw rw (ynr x r cw k) dc sw sh scs scl sfs ic aw ah am n) → zwp E 1 34 (12, [some (.ref a), some (.int (zJ r)), some (.int x), some (.int (zJ k)), x4], [], h1) Q) (n := aw) fun k hk12 ih12 => ?_
  intro h1 x4 F1 A1
  have hDK_1 := F1.big lDK0 hDK (by omega)
  have lDK := Nat.lt_of_lt_of_le lDK0 F1.2.1
  have acw1 := A1.2.1.2.2.2.1
  refine zr_iload_n zi34_12 rfl ?_
  refine zr_aload_n zi34_13 rfl ?_
  refine zr_getfield zi34_14 (A1.1.at0 rfl) rfl ?_
  refine zr_icmp_geN zi34_17 rfl (by omega) (by omega) (fun q17 => ?_) (fun q17 => ?_)
  · refine zr_return zi34_81 rfl ?_
    obtain rfl : aw = k := by omega
    exact K _ F1 A1
  · refine zr_iload_n zi34_20 rfl ?_
    refine zr_iconst (v := zJ 5) zi34_21 rfl ?_
    refine zr_icmp_geN zi34_22 rfl (by omega) (by omega) (fun q22 => ?_) (fun q22 => ?_)
    · refine zr_return zi34_81 rfl ?_
      obtain rfl : aw = k := by omega
      exact K _ F1 A1
    · refine zr_iload_n zi34_25 rfl ?_
      refine zr_iload_n zi34_26 rfl ?_
      refine zr_static zi34_27 rfl rfl rfl rfl ?_
      refine zcall_dep (d := 0) (Nat.le_of_ble_eq_true rfl) (c28 (by omega) (zbk_v ?_))
      refine zr_if_eqB zi34_30 rfl (fun q30 => ?_) (fun q30 => ?_)
      · refine zr_getstatic zi34_41 rfl eDK ?_
        refine zr_iload_n zi34_44 rfl ?_
        refine zr_ialoadN zi34_45 hDK_1 rfl (by omega) (by show _ < 5; omega) ?_
        refine zr_iconst (v := (-1)) zi34_46 rfl ?_
        refine zr_ixor zi34_47 ?_
        refine zr_istore (L' := [some (.ref _), some (.int (zJ _)), some (.int _), some (.int (zJ _)), some (.int _)]) zi34_48 rfl rfl ?_
        refine zr_aload_n zi34_50 rfl ?_
        refine zr_getfield zi34_51 (A1.1.at0 rfl) rfl ?_
        refine zr_iload_n zi34_54 rfl ?_
        refine zr_iconst (v := zJ 1) zi34_55 rfl ?_
        refine zr_iaddN zi34_56 ?_
        refine zr_iconst (v := zJ 5) zi34_57 rfl ?_
        refine zr_imulN zi34_58 ?_
        refine zr_iload_n zi34_59 rfl ?_
        refine zr_iaddN zi34_60 ?_
        refine zr_aload_n zi34_61 rfl ?_
        refine zr_getfield zi34_62 (A1.1.at0 rfl) rfl ?_
        refine zr_iload_n zi34_65 rfl ?_
        refine zr_iconst (v := zJ 5) zi34_66 rfl ?_
        refine zr_imulN zi34_67 ?_
        refine zr_iload_n zi34_68 rfl ?_
        refine zr_iaddN zi34_69 ?_
        refine zr_ialoadN zi34_70 (A1.1.at 8 rfl) rfl (by omega) (by first | omega | (simp only [List.length_set, zpt_len]; omega)) ?_
        refine zr_iload zi34_71 rfl ?_
        refine zr_iand zi34_73 ?_
        refine zr_iastoreN zi34_74 (A1.1.at 8 rfl) (by omega) (by first | omega | (simp only [List.length_set, zpt_len]; omega)) ?_
        refine yA.wcw A1 (by first | omega | (simp only [List.length_set, zpt_len]; omega)) (fun h74 F74 A74 => ?_)
        have hDK_74 := F74.big lDK hDK_1 (by omega)
        replace lDK := Nat.lt_of_lt_of_le lDK F74.2.1
        refine zr_iincN (z := 1) (L' := [some (.ref _), some (.int (zJ _)), some (.int _), some (.int (zJ _)), some (.int _)]) zi34_75 rfl rfl rfl rfl ?_
        refine zr_goto zi34_78 rfl ?_
        exact (ih12 (by omega) _ _ (F1.trans F74) (by rw [ynr]; first | (rw [if_pos q30]; exact A74) | (rw [if_neg (by rw [q30]; decide)]; exact A74)))
      · refine zr_getstatic zi34_33 rfl eDK ?_
        refine zr_iload_n zi34_36 rfl ?_
        refine zr_ialoadN zi34_37 hDK_1 rfl (by omega) (by show _ < 5; omega) ?_
        refine zr_goto zi34_38 rfl ?_
        refine zr_istore (L' := [some (.ref _), some (.int (zJ _)), some (.int _), some (.int (zJ _)), some (.int _)]) zi34_48 rfl rfl ?_
        refine zr_aload_n zi34_50 rfl ?_
        refine zr_getfield zi34_51 (A1.1.at0 rfl) rfl ?_
        refine zr_iload_n zi34_54 rfl ?_
        refine zr_iconst (v := zJ 1) zi34_55 rfl ?_
        refine zr_iaddN zi34_56 ?_
        refine zr_iconst (v := zJ 5) zi34_57 rfl ?_
        refine zr_imulN zi34_58 ?_
        refine zr_iload_n zi34_59 rfl ?_
        refine zr_iaddN zi34_60 ?_
        refine zr_aload_n zi34_61 rfl ?_
        refine zr_getfield zi34_62 (A1.1.at0 rfl) rfl ?_
        refine zr_iload_n zi34_65 rfl ?_
        refine zr_iconst (v := zJ 5) zi34_66 rfl ?_
        refine zr_imulN zi34_67 ?_
        refine zr_iload_n zi34_68 rfl ?_
        refine zr_iaddN zi34_69 ?_
        refine zr_ialoadN zi34_70 (A1.1.at 8 rfl) rfl (by omega) (by first | omega | (simp only [List.length_set, zpt_len]; omega)) ?_
        refine zr_iload zi34_71 rfl ?_
        refine zr_iand zi34_73 ?_
        refine zr_iastoreN zi34_74 (A1.1.at 8 rfl) (by omega) (by first | omega | (simp only [List.length_set, zpt_len]; omega)) ?_
        refine yA.wcw A1 (by first | omega | (simp only [List.length_set, zpt_len]; omega)) (fun h74 F74 A74 => ?_)
        have hDK_74 := F74.big lDK hDK_1 (by omega)
        replace lDK := Nat.lt_of_lt_of_le lDK F74.2.1
        refine zr_iincN (z := 1) (L' := [some (.ref _), some (.int (zJ _)), some (.int _), some (.int (zJ _)), some (.int _)]) zi34_75 rfl rfl rfl rfl ?_
        refine zr_goto zi34_78 rfl ?_
        exact (ih12 (by omega) _ _ (F1.trans F74) (by rw [ynr]; first | (rw [if_pos q30]; exact A74) | (rw [if_neg (by rw [q30]; decide)]; exact A74)))
theorem c33 {E : zEnv} {h : zPH} {Q : zOut → zPH → Prop} {a : Nat} {ps lw rw cw dc : List Int32} {sw sh : Nat} {scs scl sfs : List Int32} {ic : Bool} {aw ah am n : Nat} (A : yA h a ps lw rw cw dc sw sh scs scl sfs ic aw ah am n) {x : Int32} (K : ∀ h1, yFr (yIv a 10) h h1 0 0 → yA h1 a (yadd x (ps, cw, n)).1 lw rw (yadd x (ps, cw, n)).2.1 dc sw sh scs scl sfs ic aw ah am (yadd x (ps, cw, n)).2.2 → Q (.inl none) h1) : zcall E 0 33 [.ref a, .int x] h Q := by
  obtain ⟨⟨aps, alw, arw, acw, adc⟩, ⟨⟨sw1, sw2, sh1, sh2⟩, ascs, ascl, asfs⟩, aaw, aah, aam, an⟩ := A.2
  show zwp E _ 33 (0, [some (.ref _), some (.int _)], [], _) Q
  refine zr_aload_n zi33_0 rfl ?_
  refine zr_getfield zi33_1 (A.1.at0 rfl) rfl ?_
  refine zr_if_ltN zi33_4 rfl (by omega) ?_
  refine zr_aload_n zi33_7 rfl ?_
  refine zr_getfield zi33_8 (A.1.at0 rfl) rfl ?_
  refine zr_aload_n zi33_11 rfl ?_
  refine zr_getfield zi33_12 (A.1.at0 rfl) rfl ?_
  refine zr_arraylength (v := zJ 500) zi33_15 (A.1.at 1 rfl) rfl (zlenJ A.2.1.1) ?_
  refine zr_icmp_geN zi33_16 rfl (by omega) (by omega) (fun q16 => ?_) (fun q16 => ?_)
  · refine zr_return zi33_39 rfl ?_
    refine K _ (yFr.refl _ _) (by rw [yadd]; first | (rw [if_pos q16]; exact A) | (rw [if_neg (Nat.not_le.mpr q16)]; exact A))
  · refine zr_aload_n zi33_19 rfl ?_
    refine zr_getfield zi33_20 (A.1.at0 rfl) rfl ?_
    refine zr_aload_n zi33_23 rfl ?_
    refine zr_getfield zi33_24 (A.1.at0 rfl) rfl ?_
    refine zr_iload_n zi33_27 rfl ?_
    refine zr_iastoreN zi33_28 (A.1.at 1 rfl) (by omega) (by first | omega | (simp only [List.length_set, zpt_len]; omega)) ?_
    refine yA.wps A (by first | omega | (simp only [List.length_set, zpt_len]; omega)) (fun h28 F28 A28 => ?_)
    refine zr_aload_n zi33_29 rfl ?_
    refine zr_dup zi33_30 rfl ?_
    refine zr_getfield zi33_31 (A28.1.at0 rfl) rfl ?_
    refine zr_iconst (v := zJ 1) zi33_34 rfl ?_
    refine zr_iaddN zi33_35 ?_
    refine zr_putfield zi33_36 (A28.1.at0 rfl) rfl rfl ?_
    refine yA.wob A28 (by first | omega | (simp only [List.length_set, zpt_len]; omega)) (fun h36 F36 A36 => ?_)
    refine zr_return zi33_39 rfl ?_
    refine K _ (F28.trans F36) (by rw [yadd]; first | (rw [if_pos q16]; exact A36) | (rw [if_neg (Nat.not_le.mpr q16)]; exact A36))
theorem c32 {E : zEnv} {a : Nat} {lw rw dc : List Int32} {sw sh : Nat} {scs scl sfs : List Int32} {ic : Bool} {aw ah am : Nat} (m : Nat) : ∀ (d r : Nat) (x : Int32) (h : zPH) (Q : zOut → zPH → Prop) (ps cw : List Int32) (n : Nat), 5 - r = m → r ≤ 5 → 5 + m ≤ d → ySs E h → yA h a ps lw rw cw dc sw sh scs scl sfs ic aw ah am n → (∀ h1, yFr (yIv a 10) h h1 0 0 → yA h1 a (yLy aw ah am rw (5 - r) r x (ps, cw, n)).1 lw rw (yLy aw ah am rw (5 - r) r x (ps, cw, n)).2.1 dc sw sh scs scl sfs ic aw ah am (yLy aw ah am rw (5 - r) r x (ps, cw, n)).2.2 → Q (.inl none) h1) → zcall E d 32 [.ref a, .int (zJ r), .int x] h Q := by
  refine zfall (P := fun m => ∀ (d r : Nat) (x : Int32) (h : zPH) (Q : zOut → zPH → Prop) (ps cw : List Int32) (n : Nat), 5 - r = m → r ≤ 5 → 5 + m ≤ d → ySs E h → yA h a ps lw rw cw dc sw sh scs scl sfs ic aw ah am n → (∀ h1, yFr (yIv a 10) h h1 0 0 → yA h1 a (yLy aw ah am rw (5 - r) r x (ps, cw, n)).1 lw rw (yLy aw ah am rw (5 - r) r x (ps, cw, n)).2.1 dc sw sh scs scl sfs ic aw ah am (yLy aw ah am rw (5 - r) r x (ps, cw, n)).2.2 → Q (.inl none) h1) → zcall E d 32 [.ref a, .int (zJ r), .int x] h Q) (fun m ih => ?_) m
  intro d0 r x h Q ps cw n hm hr5 hd0 S A K
  obtain ⟨d, rfl⟩ : ∃ d, d0 = d + 1 := ⟨d0 - 1, by omega⟩
  obtain ⟨⟨aps, alw, arw, acw, adc⟩, ⟨⟨sw1, sw2, sh1, sh2⟩, ascs, ascl, asfs⟩, aaw, aah, aam, an⟩ := A.2
  have hp := zpow5 aaw
  show zwp E (d + 1) 32 (0, [some (.ref _), some (.int (zJ _)), some (.int _), none, none], [], _) Q
  refine zr_iload_n zi32_0 rfl ?_
  refine zr_aload_n zi32_1 rfl ?_
  refine zr_getfield zi32_2 (A.1.at0 rfl) rfl ?_
  refine zr_icmp_geN zi32_5 rfl (by omega) (by omega) (fun q5 => ?_) (fun q5 => ?_)
  · refine zr_aload_n zi32_13 rfl ?_
    refine zr_iload_n zi32_14 rfl ?_
    refine zr_virtual zi32_15 rfl rfl (A.1.at0 rfl) rfl rfl ?_
    refine zcall_dep (d := 0) (by omega) (c33 A (fun h15 F15 A15 => zbk_0 ?_))
    have S_15 := F15.ss S
    refine zr_return zi32_18 rfl ?_
    have eL : yLy aw ah am rw (5 - r) r x (ps, cw, n) = yadd x (ps, cw, n) := by
      rcases Nat.eq_zero_or_pos (5 - r) with z | z
      · rw [z, yLy]
      · obtain ⟨m1, e1⟩ : ∃ m1, 5 - r = m1 + 1 := ⟨5 - r - 1, by omega⟩
        rw [e1, yLy, if_pos (by omega)]
    rw [eL] at K
    exact K _ F15 A15
  · refine zr_iload_n zi32_8 rfl ?_
    refine zr_iconst (v := zJ 5) zi32_9 rfl ?_
    refine zr_icmp_ltN zi32_10 rfl (by omega) (by omega) (fun q10 => ?_) (fun q10 => ?_)
    · refine zr_aload_n zi32_19 rfl ?_
      refine zr_iload_n zi32_20 rfl ?_
      refine zr_iload_n zi32_21 rfl ?_
      refine zr_virtual zi32_22 rfl rfl (A.1.at0 rfl) rfl rfl ?_
      refine zcall_dep (d := 0) (by omega) (c31 S A (by omega) (by omega) (zbk_v ?_))
      refine zr_istore_n (L' := [some (.ref _), some (.int (zJ _)), some (.int _), some (.int _), none]) zi32_25 rfl rfl ?_
      refine zr_iconst (v := zJ 0) zi32_26 rfl ?_
      refine zr_istore (L' := [some (.ref _), some (.int (zJ _)), some (.int _), some (.int _), some (.int (zJ _))]) zi32_27 rfl rfl ?_
      suffices key29 : ∀ h1, (yFr (yIv a 10) h h1 0 0) → (yA h1 a (yLp (yst aw ah am rw (yLy aw ah am rw (5 - (r + 1)) (r + 1)) r x (yag rw cw r r aw)) (0) (ps, cw, n)).1 lw rw (yLp (yst aw ah am rw (yLy aw ah am rw (5 - (r + 1)) (r + 1)) r x (yag rw cw r r aw)) (0) (ps, cw, n)).2.1 dc sw sh scs scl sfs ic aw ah am (yLp (yst aw ah am rw (yLy aw ah am rw (5 - (r + 1)) (r + 1)) r x (yag rw cw r r aw)) (0) (ps, cw, n)).2.2) → zwp E (d + 1) 32 (29, [some (.ref a), some (.int (zJ r)), some (.int x), some (.int (yag rw cw r r aw)), some (.int (zJ 0))], [], h1) Q from key29 _ (yFr.refl _ _) A
      refine zloop (P := fun k => ∀ h1, (yFr (yIv a 10) h h1 0 0) → (yA h1 a (yLp (yst aw ah am rw (yLy aw ah am rw (5 - (r + 1)) (r + 1)) r x (yag rw cw r r aw)) (k) (ps, cw, n)).1 lw rw (yLp (yst aw ah am rw (yLy aw ah am rw (5 - (r + 1)) (r + 1)) r x (yag rw cw r r aw)) (k) (ps, cw, n)).2.1 dc sw sh scs scl sfs ic aw ah am (yLp (yst aw ah am rw (yLy aw ah am rw (5 - (r + 1)) (r + 1)) r x (yag rw cw r r aw)) (k) (ps, cw, n)).2.2) → zwp E (d + 1) 32 (29, [some (.ref a), some (.int (zJ r)), some (.int x), some (.int (yag rw cw r r aw)), some (.int (zJ k))], [], h1) Q) (n := 2 ^ aw) fun k hk29 ih29 => ?_
      intro h1 F1 A1
      have S_1 := F1.ss S
      have an1 := A1.2.2.2.2.2.2
      refine zr_iload zi32_29 rfl ?_
      refine zr_iconst (v := zJ 1) zi32_31 rfl ?_
      refine zr_aload_n zi32_32 rfl ?_
      refine zr_getfield zi32_33 (A1.1.at0 rfl) rfl ?_
      refine zr_ishlN zi32_36 (by omega) ?_
      refine zr_icmp_geN zi32_37 rfl (by omega) (by omega) (fun q37 => ?_) (fun q37 => ?_)
      · refine zr_return zi32_102 rfl ?_
        obtain rfl : k = 2 ^ aw := by omega
        have eL : yLy aw ah am rw (5 - r) r x (ps, cw, n) = (yLp (yst aw ah am rw (yLy aw ah am rw (5 - (r + 1)) (r + 1)) r x (yag rw cw r r aw)) (2 ^ aw) (ps, cw, n)) := by rw [show 5 - r = (5 - (r + 1)) + 1 by omega, yLy, if_neg (by omega)]
        rw [eL] at K
        exact K _ F1 A1
      · refine zr_aload_n zi32_40 rfl ?_
        refine zr_getfield zi32_41 (A1.1.at0 rfl) rfl ?_
        refine zr_aload_n zi32_44 rfl ?_
        refine zr_getfield zi32_45 (A1.1.at0 rfl) rfl ?_
        refine zr_icmp_ltN zi32_48 rfl (by omega) (by omega) (fun q48 => ?_) (fun q48 => ?_)
        · refine zr_iload_n zi32_52 rfl ?_
          refine zr_iload zi32_53 rfl ?_
          refine zr_static zi32_55 rfl rfl rfl rfl ?_
          refine zcall_dep (d := 0) (by omega) (c28 (by omega) (zbk_v ?_))
          refine zr_if_eqB zi32_58 rfl (fun q58 => ?_) (fun q58 => ?_)
          · refine zr_iincN (z := 1) (L' := [some (.ref _), some (.int (zJ _)), some (.int _), some (.int _), some (.int (zJ _))]) zi32_96 rfl rfl rfl rfl ?_
            refine zr_goto zi32_99 rfl ?_
            have e29 : (yLp (yst aw ah am rw (yLy aw ah am rw (5 - (r + 1)) (r + 1)) r x (yag rw cw r r aw)) (k + 1) (ps, cw, n)) = (yLp (yst aw ah am rw (yLy aw ah am rw (5 - (r + 1)) (r + 1)) r x (yag rw cw r r aw)) (k) (ps, cw, n)) := by rw [yLp, yst, if_neg (Nat.not_le.mpr q48), if_neg (by rw [q58]; decide)]
            exact ih29 (by omega) _ F1 (by rw [e29]; exact A1)
          · refine zr_aload_n zi32_61 rfl ?_
            refine zr_iload_n zi32_62 rfl ?_
            refine zr_iload zi32_63 rfl ?_
            refine zr_virtual zi32_65 rfl rfl (A1.1.at0 rfl) rfl rfl ?_
            refine zcall_dep (d := 1) (by omega) (c34 S_1 A1 (by omega) (fun h65 F65 A65 => zbk_0 ?_))
            have S_65 := F65.ss S_1
            refine zr_aload_n zi32_68 rfl ?_
            refine zr_iload_n zi32_69 rfl ?_
            refine zr_iconst (v := zJ 1) zi32_70 rfl ?_
            refine zr_iaddN zi32_71 ?_
            refine zr_virtual zi32_72 rfl rfl (A65.1.at0 rfl) rfl rfl ?_
            refine zcall_dep (d := 1) (by omega) (c30 S_65 A65 (by omega) (zbk_v ?_))
            refine zr_if_eqB zi32_75 rfl (fun q75 => ?_) (fun q75 => ?_)
            · refine zr_iincN (z := 1) (L' := [some (.ref _), some (.int (zJ _)), some (.int _), some (.int _), some (.int (zJ _))]) zi32_96 rfl rfl rfl rfl ?_
              refine zr_goto zi32_99 rfl ?_
              have e29 : (yLp (yst aw ah am rw (yLy aw ah am rw (5 - (r + 1)) (r + 1)) r x (yag rw cw r r aw)) (k + 1) (ps, cw, n)) = ((yLp (yst aw ah am rw (yLy aw ah am rw (5 - (r + 1)) (r + 1)) r x (yag rw cw r r aw)) (k) (ps, cw, n)).1, ynr (zJ k) r (yLp (yst aw ah am rw (yLy aw ah am rw (5 - (r + 1)) (r + 1)) r x (yag rw cw r r aw)) (k) (ps, cw, n)).2.1 aw, (yLp (yst aw ah am rw (yLy aw ah am rw (5 - (r + 1)) (r + 1)) r x (yag rw cw r r aw)) (k) (ps, cw, n)).2.2) := by rw [yLp, yst, if_neg (Nat.not_le.mpr q48), if_pos q58, if_neg (by rw [q75]; decide)]
              exact ih29 (by omega) _ (F1.trans F65) (by rw [e29]; exact A65)
            · refine zr_aload_n zi32_78 rfl ?_
              refine zr_iload_n zi32_79 rfl ?_
              refine zr_iconst (v := zJ 1) zi32_80 rfl ?_
              refine zr_iaddN zi32_81 ?_
              refine zr_iload_n zi32_82 rfl ?_
              refine zr_iload zi32_83 rfl ?_
              refine zr_iload_n zi32_85 rfl ?_
              refine zr_aload_n zi32_86 rfl ?_
              refine zr_getfield zi32_87 (A65.1.at0 rfl) rfl ?_
              refine zr_imulN zi32_90 ?_
              refine zr_ishl zi32_91 ?_
              refine zr_ior zi32_92 ?_
              refine zr_static zi32_93 rfl rfl rfl rfl ?_
              refine ih (5 - (r + 1)) (by omega) d (r + 1) _ _ _ _ _ _ rfl (by omega) (by omega) S_65 A65 (fun h93 F93 A93 => zbk_0 ?_)
              have S_93 := F93.ss S_65
              refine zr_iincN (z := 1) (L' := [some (.ref _), some (.int (zJ _)), some (.int _), some (.int _), some (.int (zJ _))]) zi32_96 rfl rfl rfl rfl ?_
              refine zr_goto zi32_99 rfl ?_
              have e29 : (yLp (yst aw ah am rw (yLy aw ah am rw (5 - (r + 1)) (r + 1)) r x (yag rw cw r r aw)) (k + 1) (ps, cw, n)) = yLy aw ah am rw (5 - (r + 1)) (r + 1) (x ||| (zJ k <<< (zJ (r * aw) &&& 31))) ((yLp (yst aw ah am rw (yLy aw ah am rw (5 - (r + 1)) (r + 1)) r x (yag rw cw r r aw)) (k) (ps, cw, n)).1, ynr (zJ k) r (yLp (yst aw ah am rw (yLy aw ah am rw (5 - (r + 1)) (r + 1)) r x (yag rw cw r r aw)) (k) (ps, cw, n)).2.1 aw, (yLp (yst aw ah am rw (yLy aw ah am rw (5 - (r + 1)) (r + 1)) r x (yag rw cw r r aw)) (k) (ps, cw, n)).2.2) := by rw [yLp, yst, if_neg (Nat.not_le.mpr q48), if_pos q58, if_pos q75]
              exact ih29 (by omega) _ ((F1.trans F65).trans F93) (by rw [e29]; exact A93)
        · refine zr_return zi32_51 rfl ?_
          have eL : yLy aw ah am rw (5 - r) r x (ps, cw, n) = (yLp (yst aw ah am rw (yLy aw ah am rw (5 - (r + 1)) (r + 1)) r x (yag rw cw r r aw)) (2 ^ aw) (ps, cw, n)) := by rw [show 5 - r = (5 - (r + 1)) + 1 by omega, yLy, if_neg (by omega)]
          rw [eL] at K
          rw [yLp_stop (k := k) q48 (2 ^ aw) (by omega)] at K
          exact K _ F1 A1
    · refine zr_aload_n zi32_13 rfl ?_
      refine zr_iload_n zi32_14 rfl ?_
      refine zr_virtual zi32_15 rfl rfl (A.1.at0 rfl) rfl rfl ?_
      refine zcall_dep (d := 0) (by omega) (c33 A (fun h15 F15 A15 => zbk_0 ?_))
      have S_15 := F15.ss S
      refine zr_return zi32_18 rfl ?_
      have eL : yLy aw ah am rw (5 - r) r x (ps, cw, n) = yadd x (ps, cw, n) := by
        rcases Nat.eq_zero_or_pos (5 - r) with z | z
        · rw [z, yLy]
        · obtain ⟨m1, e1⟩ : ∃ m1, 5 - r = m1 + 1 := ⟨5 - r - 1, by omega⟩
          rw [e1, yLy, if_pos (by omega)]
      rw [eL] at K
      exact K _ F15 A15
theorem c22 {E : zEnv} {h : zPH} {Q : zOut → zPH → Prop} (S : ySs E h) {a : Nat} {ps lw rw cw dc : List Int32} {sw sh : Nat} {scs scl sfs : List Int32} {ic : Bool} {aw ah am n : Nat} (A : yA h a ps lw rw cw dc sw sh scs scl sfs ic aw ah am n) {g w hh : Nat} {cs cl fs : List Int32} (G : yG h g w hh cs cl fs) (hd : a + 10 ≤ g ∨ g + 4 ≤ a) {m : Nat} (hm : m ≤ 500) (K : ∀ h1, yFr (yIv a 10) h h1 0 0 → yAt h1 a (yLk w hh m cs cl fs ((ps, lw, rw, cw, dc), (sw, sh, scs, scl, sfs), (ic, aw, ah, am, n))) → Q (.inl (some (.ref a))) h1) : zcall E 15 22 [.ref a, .ref g, .int (zJ m)] h Q := by
  obtain ⟨⟨aps, alw, arw, acw, adc⟩, ⟨⟨sw1, sw2, sh1, sh2⟩, ascs, ascl, asfs⟩, aaw, aah, aam, an⟩ := A.2
  obtain ⟨⟨gw1, gw2, gh1, gh2⟩, gcs, gcl, gfs⟩ := G.2
  show zwp E _ 22 (0, [some (.ref _), some (.ref _), some (.int (zJ _)), none], [], _) Q
  refine zr_aload_n zi22_0 rfl ?_
  refine zr_aload_n zi22_1 rfl ?_
  refine zr_iload_n zi22_2 rfl ?_
  refine zr_virtual zi22_3 rfl rfl (A.1.at0 rfl) rfl rfl ?_
  refine zcall_dep (d := 2) (Nat.le_of_ble_eq_true rfl) (c23 S A G (by omega) (by omega) (fun h3 F3 A3 => zbk_v ?_))
  have G_3 := G.fr F3 (by intro a z1 z2 z3; simp only [yIv] at z3; omega)
  have S_3 := F3.ss S
  refine zr_if_neB zi22_6 rfl (fun q6 => ?_) (fun q6 => ?_)
  · refine zr_aload_n zi22_11 rfl ?_
    refine zr_iconst (v := zJ 0) zi22_12 rfl ?_
    refine zr_putfield zi22_13 (A3.1.at0 rfl) rfl rfl ?_
    refine yA.wob A3 (by first | omega | (simp only [List.length_set, zpt_len]; omega)) (fun h13 F13 A13 => ?_)
    have G_13 := G_3.fr F13 (by intro a z1 z2 z3; simp only [yIv] at z3; omega)
    have S_13 := F13.ss S_3
    refine zr_aload_n zi22_16 rfl ?_
    refine zr_iconst (v := zB false) zi22_17 rfl ?_
    refine zr_putfield zi22_18 (A13.1.at0 rfl) rfl rfl ?_
    refine yA.wob A13 (by first | omega | (simp only [List.length_set, zpt_len]; omega)) (fun h18 F18 A18 => ?_)
    have G_18 := G_13.fr F18 (by intro a z1 z2 z3; simp only [yIv] at z3; omega)
    have S_18 := F18.ss S_13
    refine zr_aload_n zi22_21 rfl ?_
    refine zr_getfield zi22_22 (A18.1.at0 rfl) rfl ?_
    refine zr_aload_n zi22_25 rfl ?_
    refine zr_virtual zi22_26 rfl rfl (A18.swp.1.at0 rfl) rfl rfl ?_
    refine zcall_dep (d := 0) (Nat.le_of_ble_eq_true rfl) (c24 A18.swp G_18 (by omega) (fun h26 F26 A_swp26 => zbk_0 ?_))
    have A26p := A18.putSw F26 A_swp26
    replace F26 := F26.up (N := 10) (by omega)
    have G_26 := G_18.fr F26 (by intro a z1 z2 z3; simp only [yIv] at z3; omega)
    have S_26 := F26.ss S_18
    refine zr_aload_n zi22_29 rfl ?_
    refine zr_getfield zi22_30 (A26p.1.at0 rfl) rfl ?_
    refine zr_iconst (v := zJ 0) zi22_33 rfl ?_
    refine zr_virtual zi22_34 rfl rfl (A26p.swp.1.at0 rfl) rfl rfl ?_
    refine zcall_dep (d := 2) (Nat.le_of_ble_eq_true rfl) (c25 S_26 A26p.swp (fun h34 F34 A_swp34 => zbk_v ?_))
    have A34p := A26p.putSw F34 A_swp34
    replace F34 := F34.up (N := 10) (by omega)
    have G_34 := G_26.fr F34 (by intro a z1 z2 z3; simp only [yIv] at z3; omega)
    have S_34 := F34.ss S_26
    refine zr_pop zi22_37 rfl ?_
    refine zr_iconst (v := zJ 0) zi22_38 rfl ?_
    refine zr_istore_n (L' := [some (.ref _), some (.ref _), some (.int (zJ _)), some (.int (zJ _))]) zi22_39 rfl rfl ?_
    suffices key40 : ∀ h1, (yFr (yIv a 10) h h1 0 0) → (yA h1 a ps (ycw w hh cs fs lw (ybz aw ah am w hh m) (w + hh)).1 (yLw w hh (zsS w hh fs (zJ 0) cs).1 fs 0 rw (0)) cw dc w hh (zsS w hh fs (zJ 0) cs).1 cl fs false w hh m 0) → zwp E 15 22 (40, [some (.ref a), some (.ref g), some (.int (zJ m)), some (.int (zJ 0))], [], h1) Q from key40 _ ((((F3.trans F13).trans F18).trans F26).trans F34) A34p
    refine zloop (P := fun k => ∀ h1, (yFr (yIv a 10) h h1 0 0) → (yA h1 a ps (ycw w hh cs fs lw (ybz aw ah am w hh m) (w + hh)).1 (yLw w hh (zsS w hh fs (zJ 0) cs).1 fs 0 rw (k)) cw dc w hh (zsS w hh fs (zJ 0) cs).1 cl fs false w hh m 0) → zwp E 15 22 (40, [some (.ref a), some (.ref g), some (.int (zJ m)), some (.int (zJ k))], [], h1) Q) (n := hh) fun k hk40 ih40 => ?_
    intro h1 F1 A1
    have G_1 := G.fr F1 (by intro a z1 z2 z3; simp only [yIv] at z3; omega)
    have S_1 := F1.ss S
    have arw1 := A1.2.1.2.2.1
    refine zr_iload_n zi22_40 rfl ?_
    refine zr_aload_n zi22_41 rfl ?_
    refine zr_getfield zi22_42 (A1.1.at0 rfl) rfl ?_
    refine zr_icmp_geN zi22_45 rfl (by omega) (by omega) (fun q45 => ?_) (fun q45 => ?_)
    · obtain rfl : hh = k := by omega
      refine zr_iconst (v := zJ 0) zi22_77 rfl ?_
      refine zr_istore_n (L' := [some (.ref _), some (.ref _), some (.int (zJ _)), some (.int (zJ _))]) zi22_78 rfl rfl ?_
      suffices key79 : ∀ h1, (yFr (yIv a 10) h h1 0 0) → (yA h1 a ps (ycw w hh cs fs lw (ybz aw ah am w hh m) (w + hh)).1 (yLw w hh (zsS w hh fs (zJ 0) cs).1 fs 0 rw (hh)) (yLw w hh (zsS w hh fs (zJ 0) cs).1 fs hh cw (0)) dc w hh (zsS w hh fs (zJ 0) cs).1 cl fs false w hh m 0) → zwp E 15 22 (79, [some (.ref a), some (.ref g), some (.int (zJ m)), some (.int (zJ 0))], [], h1) Q from key79 _ F1 A1
      refine zloop (P := fun u => ∀ h1, (yFr (yIv a 10) h h1 0 0) → (yA h1 a ps (ycw w hh cs fs lw (ybz aw ah am w hh m) (w + hh)).1 (yLw w hh (zsS w hh fs (zJ 0) cs).1 fs 0 rw (hh)) (yLw w hh (zsS w hh fs (zJ 0) cs).1 fs hh cw (u)) dc w hh (zsS w hh fs (zJ 0) cs).1 cl fs false w hh m 0) → zwp E 15 22 (79, [some (.ref a), some (.ref g), some (.int (zJ m)), some (.int (zJ u))], [], h1) Q) (n := w) fun u hk79 ih79 => ?_
      intro h1 F1 A1
      have G_1 := G.fr F1 (by intro a z1 z2 z3; simp only [yIv] at z3; omega)
      have S_1 := F1.ss S
      have acw1 := A1.2.1.2.2.2.1
      refine zr_iload_n zi22_79 rfl ?_
      refine zr_aload_n zi22_80 rfl ?_
      refine zr_getfield zi22_81 (A1.1.at0 rfl) rfl ?_
      refine zr_icmp_geN zi22_84 rfl (by omega) (by omega) (fun q84 => ?_) (fun q84 => ?_)
      · obtain rfl : w = u := by omega
        refine zr_aload_n zi22_121 rfl ?_
        refine zr_iconst (v := zJ 0) zi22_122 rfl ?_
        refine zr_virtual zi22_123 rfl rfl (A1.1.at0 rfl) rfl rfl ?_
        refine zcall_dep (d := 1) (Nat.le_of_ble_eq_true rfl) (c30 S_1 A1 (by omega) (zbk_v ?_))
        refine zr_if_eqB zi22_126 rfl (fun q126 => ?_) (fun q126 => ?_)
        · refine zr_aload_n zi22_135 rfl ?_
          refine zr_areturn zi22_136 rfl ?_
          have eR : yLr w hh m ps (yLw w hh (zsS w hh fs (zJ 0) cs).1 fs 0 rw (hh)) (yLw w hh (zsS w hh fs (zJ 0) cs).1 fs hh cw (w)) = (ps, (yLw w hh (zsS w hh fs (zJ 0) cs).1 fs hh cw (w)), 0) := by
            rw [yLr]
            exact if_neg (show ¬ ycg w (yLw w hh (zsS w hh fs (zJ 0) cs).1 fs 0 rw (hh)) (yLw w hh (zsS w hh fs (zJ 0) cs).1 fs hh cw (w)) 0 hh = true from fun z => Bool.noConfusion (z.symm.trans q126))
          exact K _ F1 (by rw [yLk_new q6, eR]; exact A1)
        · refine zr_aload_n zi22_129 rfl ?_
          refine zr_iconst (v := zJ 0) zi22_130 rfl ?_
          refine zr_iconst (v := zJ 0) zi22_131 rfl ?_
          refine zr_static zi22_132 rfl rfl rfl rfl ?_
          refine zcall_dep (d := 10) (Nat.le_of_ble_eq_true rfl) (c32 5 10 0 _ _ _ _ _ _ rfl (by omega) (by omega) S_1 A1 (fun h132 F132 A132 => zbk_0 ?_))
          have G_132 := G_1.fr F132 (by intro a z1 z2 z3; simp only [yIv] at z3; omega)
          have S_132 := F132.ss S_1
          refine zr_aload_n zi22_135 rfl ?_
          refine zr_areturn zi22_136 rfl ?_
          have eR : yLr w hh m ps (yLw w hh (zsS w hh fs (zJ 0) cs).1 fs 0 rw (hh)) (yLw w hh (zsS w hh fs (zJ 0) cs).1 fs hh cw (w)) = yLy w hh m (yLw w hh (zsS w hh fs (zJ 0) cs).1 fs 0 rw (hh)) 5 0 (zJ 0) (ps, (yLw w hh (zsS w hh fs (zJ 0) cs).1 fs hh cw (w)), 0) := by
            rw [yLr]
            exact if_pos (show ycg w (yLw w hh (zsS w hh fs (zJ 0) cs).1 fs 0 rw (hh)) (yLw w hh (zsS w hh fs (zJ 0) cs).1 fs hh cw (w)) 0 hh = true from q126)
          exact K _ (F1.trans F132) (by rw [yLk_new q6, eR]; exact A132)
      · refine zr_iload_n zi22_87 rfl ?_
        refine zr_aload_n zi22_88 rfl ?_
        refine zr_getfield zi22_89 (A1.1.at0 rfl) rfl ?_
        refine zr_arraylength (v := zJ 30) zi22_92 (A1.1.at 8 rfl) rfl (zlenJ A1.2.1.2.2.2.1) ?_
        refine zr_icmp_geN zi22_93 rfl (by omega) (by omega) (fun q93 => ?_) (fun q93 => ?_)
        · obtain rfl : w = u := by omega
          refine zr_aload_n zi22_121 rfl ?_
          refine zr_iconst (v := zJ 0) zi22_122 rfl ?_
          refine zr_virtual zi22_123 rfl rfl (A1.1.at0 rfl) rfl rfl ?_
          refine zcall_dep (d := 1) (Nat.le_of_ble_eq_true rfl) (c30 S_1 A1 (by omega) (zbk_v ?_))
          refine zr_if_eqB zi22_126 rfl (fun q126 => ?_) (fun q126 => ?_)
          · refine zr_aload_n zi22_135 rfl ?_
            refine zr_areturn zi22_136 rfl ?_
            have eR : yLr w hh m ps (yLw w hh (zsS w hh fs (zJ 0) cs).1 fs 0 rw (hh)) (yLw w hh (zsS w hh fs (zJ 0) cs).1 fs hh cw (w)) = (ps, (yLw w hh (zsS w hh fs (zJ 0) cs).1 fs hh cw (w)), 0) := by
              rw [yLr]
              exact if_neg (show ¬ ycg w (yLw w hh (zsS w hh fs (zJ 0) cs).1 fs 0 rw (hh)) (yLw w hh (zsS w hh fs (zJ 0) cs).1 fs hh cw (w)) 0 hh = true from fun z => Bool.noConfusion (z.symm.trans q126))
            exact K _ F1 (by rw [yLk_new q6, eR]; exact A1)
          · refine zr_aload_n zi22_129 rfl ?_
            refine zr_iconst (v := zJ 0) zi22_130 rfl ?_
            refine zr_iconst (v := zJ 0) zi22_131 rfl ?_
            refine zr_static zi22_132 rfl rfl rfl rfl ?_
            refine zcall_dep (d := 10) (Nat.le_of_ble_eq_true rfl) (c32 5 10 0 _ _ _ _ _ _ rfl (by omega) (by omega) S_1 A1 (fun h132 F132 A132 => zbk_0 ?_))
            have G_132 := G_1.fr F132 (by intro a z1 z2 z3; simp only [yIv] at z3; omega)
            have S_132 := F132.ss S_1
            refine zr_aload_n zi22_135 rfl ?_
            refine zr_areturn zi22_136 rfl ?_
            have eR : yLr w hh m ps (yLw w hh (zsS w hh fs (zJ 0) cs).1 fs 0 rw (hh)) (yLw w hh (zsS w hh fs (zJ 0) cs).1 fs hh cw (w)) = yLy w hh m (yLw w hh (zsS w hh fs (zJ 0) cs).1 fs 0 rw (hh)) 5 0 (zJ 0) (ps, (yLw w hh (zsS w hh fs (zJ 0) cs).1 fs hh cw (w)), 0) := by
              rw [yLr]
              exact if_pos (show ycg w (yLw w hh (zsS w hh fs (zJ 0) cs).1 fs 0 rw (hh)) (yLw w hh (zsS w hh fs (zJ 0) cs).1 fs hh cw (w)) 0 hh = true from q126)
            exact K _ (F1.trans F132) (by rw [yLk_new q6, eR]; exact A132)
        · refine zr_aload_n zi22_96 rfl ?_
          refine zr_getfield zi22_97 (A1.1.at0 rfl) rfl ?_
          refine zr_iload_n zi22_100 rfl ?_
          refine zr_aload_n zi22_101 rfl ?_
          refine zr_getfield zi22_102 (A1.1.at0 rfl) rfl ?_
          refine zr_aload_n zi22_105 rfl ?_
          refine zr_getfield zi22_106 (A1.1.at0 rfl) rfl ?_
          refine zr_iload_n zi22_109 rfl ?_
          refine zr_iaddN zi22_110 ?_
          refine zr_virtual zi22_111 rfl rfl (A1.swp.1.at0 rfl) rfl rfl ?_
          refine zcall_dep (d := 1) (Nat.le_of_ble_eq_true rfl) (c20 S_1 A1.swp (by omega) (zbk_v ?_))
          refine zr_iastoreN zi22_114 (A1.1.at 8 rfl) (by omega) (by first | omega | (simp only [List.length_set, zpt_len]; omega)) ?_
          refine yA.wcw A1 (by first | omega | (simp only [List.length_set, zpt_len]; omega)) (fun h114 F114 A114 => ?_)
          have G_114 := G_1.fr F114 (by intro a z1 z2 z3; simp only [yIv] at z3; omega)
          have S_114 := F114.ss S_1
          refine zr_iincN (z := 1) (L' := [some (.ref _), some (.ref _), some (.int (zJ _)), some (.int (zJ _))]) zi22_115 rfl rfl rfl rfl ?_
          refine zr_goto zi22_118 rfl ?_
          exact ih79 (by omega) _ (F1.trans F114) (by rw [yLw]; exact A114)
    · refine zr_iload_n zi22_48 rfl ?_
      refine zr_aload_n zi22_49 rfl ?_
      refine zr_getfield zi22_50 (A1.1.at0 rfl) rfl ?_
      refine zr_arraylength (v := zJ 5) zi22_53 (A1.1.at 7 rfl) rfl (zlenJ A1.2.1.2.2.1) ?_
      refine zr_icmp_geN zi22_54 rfl (by omega) (by omega) (fun q54 => ?_) (fun q54 => ?_)
      · obtain rfl : hh = k := by omega
        refine zr_iconst (v := zJ 0) zi22_77 rfl ?_
        refine zr_istore_n (L' := [some (.ref _), some (.ref _), some (.int (zJ _)), some (.int (zJ _))]) zi22_78 rfl rfl ?_
        suffices key79 : ∀ h1, (yFr (yIv a 10) h h1 0 0) → (yA h1 a ps (ycw w hh cs fs lw (ybz aw ah am w hh m) (w + hh)).1 (yLw w hh (zsS w hh fs (zJ 0) cs).1 fs 0 rw (hh)) (yLw w hh (zsS w hh fs (zJ 0) cs).1 fs hh cw (0)) dc w hh (zsS w hh fs (zJ 0) cs).1 cl fs false w hh m 0) → zwp E 15 22 (79, [some (.ref a), some (.ref g), some (.int (zJ m)), some (.int (zJ 0))], [], h1) Q from key79 _ F1 A1
        refine zloop (P := fun u => ∀ h1, (yFr (yIv a 10) h h1 0 0) → (yA h1 a ps (ycw w hh cs fs lw (ybz aw ah am w hh m) (w + hh)).1 (yLw w hh (zsS w hh fs (zJ 0) cs).1 fs 0 rw (hh)) (yLw w hh (zsS w hh fs (zJ 0) cs).1 fs hh cw (u)) dc w hh (zsS w hh fs (zJ 0) cs).1 cl fs false w hh m 0) → zwp E 15 22 (79, [some (.ref a), some (.ref g), some (.int (zJ m)), some (.int (zJ u))], [], h1) Q) (n := w) fun u hk79 ih79 => ?_
        intro h1 F1 A1
        have G_1 := G.fr F1 (by intro a z1 z2 z3; simp only [yIv] at z3; omega)
        have S_1 := F1.ss S
        have acw1 := A1.2.1.2.2.2.1
        refine zr_iload_n zi22_79 rfl ?_
        refine zr_aload_n zi22_80 rfl ?_
        refine zr_getfield zi22_81 (A1.1.at0 rfl) rfl ?_
        refine zr_icmp_geN zi22_84 rfl (by omega) (by omega) (fun q84 => ?_) (fun q84 => ?_)
        · obtain rfl : w = u := by omega
          refine zr_aload_n zi22_121 rfl ?_
          refine zr_iconst (v := zJ 0) zi22_122 rfl ?_
          refine zr_virtual zi22_123 rfl rfl (A1.1.at0 rfl) rfl rfl ?_
          refine zcall_dep (d := 1) (Nat.le_of_ble_eq_true rfl) (c30 S_1 A1 (by omega) (zbk_v ?_))
          refine zr_if_eqB zi22_126 rfl (fun q126 => ?_) (fun q126 => ?_)
          · refine zr_aload_n zi22_135 rfl ?_
            refine zr_areturn zi22_136 rfl ?_
            have eR : yLr w hh m ps (yLw w hh (zsS w hh fs (zJ 0) cs).1 fs 0 rw (hh)) (yLw w hh (zsS w hh fs (zJ 0) cs).1 fs hh cw (w)) = (ps, (yLw w hh (zsS w hh fs (zJ 0) cs).1 fs hh cw (w)), 0) := by
              rw [yLr]
              exact if_neg (show ¬ ycg w (yLw w hh (zsS w hh fs (zJ 0) cs).1 fs 0 rw (hh)) (yLw w hh (zsS w hh fs (zJ 0) cs).1 fs hh cw (w)) 0 hh = true from fun z => Bool.noConfusion (z.symm.trans q126))
            exact K _ F1 (by rw [yLk_new q6, eR]; exact A1)
          · refine zr_aload_n zi22_129 rfl ?_
            refine zr_iconst (v := zJ 0) zi22_130 rfl ?_
            refine zr_iconst (v := zJ 0) zi22_131 rfl ?_
            refine zr_static zi22_132 rfl rfl rfl rfl ?_
            refine zcall_dep (d := 10) (Nat.le_of_ble_eq_true rfl) (c32 5 10 0 _ _ _ _ _ _ rfl (by omega) (by omega) S_1 A1 (fun h132 F132 A132 => zbk_0 ?_))
            have G_132 := G_1.fr F132 (by intro a z1 z2 z3; simp only [yIv] at z3; omega)
            have S_132 := F132.ss S_1
            refine zr_aload_n zi22_135 rfl ?_
            refine zr_areturn zi22_136 rfl ?_
            have eR : yLr w hh m ps (yLw w hh (zsS w hh fs (zJ 0) cs).1 fs 0 rw (hh)) (yLw w hh (zsS w hh fs (zJ 0) cs).1 fs hh cw (w)) = yLy w hh m (yLw w hh (zsS w hh fs (zJ 0) cs).1 fs 0 rw (hh)) 5 0 (zJ 0) (ps, (yLw w hh (zsS w hh fs (zJ 0) cs).1 fs hh cw (w)), 0) := by
              rw [yLr]
              exact if_pos (show ycg w (yLw w hh (zsS w hh fs (zJ 0) cs).1 fs 0 rw (hh)) (yLw w hh (zsS w hh fs (zJ 0) cs).1 fs hh cw (w)) 0 hh = true from q126)
            exact K _ (F1.trans F132) (by rw [yLk_new q6, eR]; exact A132)
        · refine zr_iload_n zi22_87 rfl ?_
          refine zr_aload_n zi22_88 rfl ?_
          refine zr_getfield zi22_89 (A1.1.at0 rfl) rfl ?_
          refine zr_arraylength (v := zJ 30) zi22_92 (A1.1.at 8 rfl) rfl (zlenJ A1.2.1.2.2.2.1) ?_
          refine zr_icmp_geN zi22_93 rfl (by omega) (by omega) (fun q93 => ?_) (fun q93 => ?_)
          · obtain rfl : w = u := by omega
            refine zr_aload_n zi22_121 rfl ?_
            refine zr_iconst (v := zJ 0) zi22_122 rfl ?_
            refine zr_virtual zi22_123 rfl rfl (A1.1.at0 rfl) rfl rfl ?_
            refine zcall_dep (d := 1) (Nat.le_of_ble_eq_true rfl) (c30 S_1 A1 (by omega) (zbk_v ?_))
            refine zr_if_eqB zi22_126 rfl (fun q126 => ?_) (fun q126 => ?_)
            · refine zr_aload_n zi22_135 rfl ?_
              refine zr_areturn zi22_136 rfl ?_
              have eR : yLr w hh m ps (yLw w hh (zsS w hh fs (zJ 0) cs).1 fs 0 rw (hh)) (yLw w hh (zsS w hh fs (zJ 0) cs).1 fs hh cw (w)) = (ps, (yLw w hh (zsS w hh fs (zJ 0) cs).1 fs hh cw (w)), 0) := by
                rw [yLr]
                exact if_neg (show ¬ ycg w (yLw w hh (zsS w hh fs (zJ 0) cs).1 fs 0 rw (hh)) (yLw w hh (zsS w hh fs (zJ 0) cs).1 fs hh cw (w)) 0 hh = true from fun z => Bool.noConfusion (z.symm.trans q126))
              exact K _ F1 (by rw [yLk_new q6, eR]; exact A1)
            · refine zr_aload_n zi22_129 rfl ?_
              refine zr_iconst (v := zJ 0) zi22_130 rfl ?_
              refine zr_iconst (v := zJ 0) zi22_131 rfl ?_
              refine zr_static zi22_132 rfl rfl rfl rfl ?_
              refine zcall_dep (d := 10) (Nat.le_of_ble_eq_true rfl) (c32 5 10 0 _ _ _ _ _ _ rfl (by omega) (by omega) S_1 A1 (fun h132 F132 A132 => zbk_0 ?_))
              have G_132 := G_1.fr F132 (by intro a z1 z2 z3; simp only [yIv] at z3; omega)
              have S_132 := F132.ss S_1
              refine zr_aload_n zi22_135 rfl ?_
              refine zr_areturn zi22_136 rfl ?_
              have eR : yLr w hh m ps (yLw w hh (zsS w hh fs (zJ 0) cs).1 fs 0 rw (hh)) (yLw w hh (zsS w hh fs (zJ 0) cs).1 fs hh cw (w)) = yLy w hh m (yLw w hh (zsS w hh fs (zJ 0) cs).1 fs 0 rw (hh)) 5 0 (zJ 0) (ps, (yLw w hh (zsS w hh fs (zJ 0) cs).1 fs hh cw (w)), 0) := by
                rw [yLr]
                exact if_pos (show ycg w (yLw w hh (zsS w hh fs (zJ 0) cs).1 fs 0 rw (hh)) (yLw w hh (zsS w hh fs (zJ 0) cs).1 fs hh cw (w)) 0 hh = true from q126)
              exact K _ (F1.trans F132) (by rw [yLk_new q6, eR]; exact A132)
          · refine zr_aload_n zi22_96 rfl ?_
            refine zr_getfield zi22_97 (A1.1.at0 rfl) rfl ?_
            refine zr_iload_n zi22_100 rfl ?_
            refine zr_aload_n zi22_101 rfl ?_
            refine zr_getfield zi22_102 (A1.1.at0 rfl) rfl ?_
            refine zr_aload_n zi22_105 rfl ?_
            refine zr_getfield zi22_106 (A1.1.at0 rfl) rfl ?_
            refine zr_iload_n zi22_109 rfl ?_
            refine zr_iaddN zi22_110 ?_
            refine zr_virtual zi22_111 rfl rfl (A1.swp.1.at0 rfl) rfl rfl ?_
            refine zcall_dep (d := 1) (Nat.le_of_ble_eq_true rfl) (c20 S_1 A1.swp (by omega) (zbk_v ?_))
            refine zr_iastoreN zi22_114 (A1.1.at 8 rfl) (by omega) (by first | omega | (simp only [List.length_set, zpt_len]; omega)) ?_
            refine yA.wcw A1 (by first | omega | (simp only [List.length_set, zpt_len]; omega)) (fun h114 F114 A114 => ?_)
            have G_114 := G_1.fr F114 (by intro a z1 z2 z3; simp only [yIv] at z3; omega)
            have S_114 := F114.ss S_1
            refine zr_iincN (z := 1) (L' := [some (.ref _), some (.ref _), some (.int (zJ _)), some (.int (zJ _))]) zi22_115 rfl rfl rfl rfl ?_
            refine zr_goto zi22_118 rfl ?_
            exact ih79 (by omega) _ (F1.trans F114) (by rw [yLw]; exact A114)
      · refine zr_aload_n zi22_57 rfl ?_
        refine zr_getfield zi22_58 (A1.1.at0 rfl) rfl ?_
        refine zr_iload_n zi22_61 rfl ?_
        refine zr_aload_n zi22_62 rfl ?_
        refine zr_getfield zi22_63 (A1.1.at0 rfl) rfl ?_
        refine zr_iload_n zi22_66 rfl ?_
        refine zr_virtual zi22_67 rfl rfl (A1.swp.1.at0 rfl) rfl rfl ?_
        refine zcall_dep (d := 1) (Nat.le_of_ble_eq_true rfl) (c20 S_1 A1.swp (by omega) (zbk_v ?_))
        refine zr_iastoreN zi22_70 (A1.1.at 7 rfl) (by omega) (by first | omega | (simp only [List.length_set, zpt_len]; omega)) ?_
        refine yA.wrw A1 (by first | omega | (simp only [List.length_set, zpt_len]; omega)) (fun h70 F70 A70 => ?_)
        have G_70 := G_1.fr F70 (by intro a z1 z2 z3; simp only [yIv] at z3; omega)
        have S_70 := F70.ss S_1
        refine zr_iincN (z := 1) (L' := [some (.ref _), some (.ref _), some (.int (zJ _)), some (.int (zJ _))]) zi22_71 rfl rfl rfl rfl ?_
        refine zr_goto zi22_74 rfl ?_
        exact ih40 (by omega) _ (F1.trans F70) (by rw [yLw, Nat.zero_add]; exact A70)
  · refine zr_aload_n zi22_9 rfl ?_
    refine zr_areturn zi22_10 rfl ?_
    exact K _ F3 (by rw [yLk_same q6]; exact A3)
theorem c37 {E : zEnv} {h : zPH} {Q : zOut → zPH → Prop} {a : Nat} {ps lw rw cw dc : List Int32} {sw sh : Nat} {scs scl sfs : List Int32} {ic : Bool} {aw ah am n : Nat} (A : yA h a ps lw rw cw dc sw sh scs scl sfs ic aw ah am n) (K : Q (.inl (some (.int (yas ps n)))) h) : zcall E 0 37 [.ref a] h Q := by
  obtain ⟨⟨aps, alw, arw, acw, adc⟩, ⟨⟨sw1, sw2, sh1, sh2⟩, ascs, ascl, asfs⟩, aaw, aah, aam, an⟩ := A.2
  show zwp E _ 37 (0, [some (.ref _), none, none, none], [], _) Q
  refine zr_aload_n zi37_0 rfl ?_
  refine zr_getfield zi37_1 (A.1.at0 rfl) rfl ?_
  refine zr_if_neN zi37_4 rfl (by omega) (fun q4 => ?_) (fun q4 => ?_)
  · refine zr_iconst (v := (-1)) zi37_9 rfl ?_
    refine zr_istore_n (L' := [some (.ref _), some (.int _), none, none]) zi37_10 rfl rfl ?_
    refine zr_iconst (v := zJ 0) zi37_11 rfl ?_
    refine zr_istore_n (L' := [some (.ref _), some (.int _), some (.int (zJ _)), none]) zi37_12 rfl rfl ?_
    refine zr_iconst (v := zJ 0) zi37_13 rfl ?_
    refine zr_istore_n (L' := [some (.ref _), some (.int _), some (.int (zJ _)), some (.int (zJ _))]) zi37_14 rfl rfl ?_
    suffices key15 : zwp E 0 37 (15, [some (.ref a), some (.int (yal ps 0).1), some (.int (yal ps 0).2), some (.int (zJ 0))], [], h) Q from key15 
    refine zloop (P := fun k => zwp E 0 37 (15, [some (.ref a), some (.int (yal ps k).1), some (.int (yal ps k).2), some (.int (zJ k))], [], h) Q) (n := n) fun k hk15 ih15 => ?_
    refine zr_iload_n zi37_15 rfl ?_
    refine zr_aload_n zi37_16 rfl ?_
    refine zr_getfield zi37_17 (A.1.at0 rfl) rfl ?_
    refine zr_icmp_geN zi37_20 rfl (by omega) (by omega) (fun q20 => ?_) (fun q20 => ?_)
    · refine zr_iload_n zi37_56 rfl ?_
      refine zr_iload_n zi37_57 rfl ?_
      refine zr_iconst (v := (-1)) zi37_58 rfl ?_
      refine zr_ixor zi37_59 ?_
      refine zr_ior zi37_60 ?_
      refine zr_ireturn zi37_61 rfl ?_
      obtain rfl : n = k := by omega
      rw [yas, if_neg q4] at K
      exact K
    · refine zr_iload_n zi37_23 rfl ?_
      refine zr_aload_n zi37_24 rfl ?_
      refine zr_getfield zi37_25 (A.1.at0 rfl) rfl ?_
      refine zr_arraylength (v := zJ 500) zi37_28 (A.1.at 1 rfl) rfl (zlenJ A.2.1.1) ?_
      refine zr_icmp_geN zi37_29 rfl (by omega) (by omega) (fun q29 => ?_) (fun q29 => ?_)
      · refine zr_iload_n zi37_56 rfl ?_
        refine zr_iload_n zi37_57 rfl ?_
        refine zr_iconst (v := (-1)) zi37_58 rfl ?_
        refine zr_ixor zi37_59 ?_
        refine zr_ior zi37_60 ?_
        refine zr_ireturn zi37_61 rfl ?_
        obtain rfl : n = k := by omega
        rw [yas, if_neg q4] at K
        exact K
      · refine zr_iload_n zi37_32 rfl ?_
        refine zr_aload_n zi37_33 rfl ?_
        refine zr_getfield zi37_34 (A.1.at0 rfl) rfl ?_
        refine zr_iload_n zi37_37 rfl ?_
        refine zr_ialoadN zi37_38 (A.1.at 1 rfl) rfl (by omega) (by first | omega | (simp only [List.length_set, zpt_len]; omega)) ?_
        refine zr_iand zi37_39 ?_
        refine zr_istore_n (L' := [some (.ref _), some (.int _), some (.int _), some (.int (zJ _))]) zi37_40 rfl rfl ?_
        refine zr_iload_n zi37_41 rfl ?_
        refine zr_aload_n zi37_42 rfl ?_
        refine zr_getfield zi37_43 (A.1.at0 rfl) rfl ?_
        refine zr_iload_n zi37_46 rfl ?_
        refine zr_ialoadN zi37_47 (A.1.at 1 rfl) rfl (by omega) (by first | omega | (simp only [List.length_set, zpt_len]; omega)) ?_
        refine zr_ior zi37_48 ?_
        refine zr_istore_n (L' := [some (.ref _), some (.int _), some (.int _), some (.int (zJ _))]) zi37_49 rfl rfl ?_
        refine zr_iincN (z := 1) (L' := [some (.ref _), some (.int _), some (.int _), some (.int (zJ _))]) zi37_50 rfl rfl rfl rfl ?_
        refine zr_goto zi37_53 rfl ?_
        exact ih15 (by omega)
  · refine zr_iconst (v := zJ 0) zi37_7 rfl ?_
    refine zr_ireturn zi37_8 rfl ?_
    rw [yas, if_pos q4] at K
    exact K
theorem c48 {E : zEnv} {h : zPH} {Q : zOut → zPH → Prop} {a : Nat} {ps lw rw cw dc : List Int32} {sw sh : Nat} {scs scl sfs : List Int32} {ic : Bool} {aw ah am n : Nat} (A : yA h a ps lw rw cw dc sw sh scs scl sfs ic aw ah am n) {k : Nat} (hk : k < 500) (K : Q (.inl (some (.int (ypn ps n k)))) h) : zcall E 0 48 [.ref a, .int (zJ k)] h Q := by
  obtain ⟨⟨aps, alw, arw, acw, adc⟩, ⟨⟨sw1, sw2, sh1, sh2⟩, ascs, ascl, asfs⟩, aaw, aah, aam, an⟩ := A.2
  show zwp E _ 48 (0, [some (.ref _), some (.int (zJ _))], [], _) Q
  refine zr_iload_n zi48_0 rfl ?_
  refine zr_if_ltN zi48_1 rfl (by omega) ?_
  refine zr_iload_n zi48_4 rfl ?_
  refine zr_aload_n zi48_5 rfl ?_
  refine zr_getfield zi48_6 (A.1.at0 rfl) rfl ?_
  refine zr_icmp_geN zi48_9 rfl (by omega) (by omega) (fun q9 => ?_) (fun q9 => ?_)
  · refine zr_iconst (v := (-1)) zi48_30 rfl ?_
    refine zr_ireturn zi48_31 rfl ?_
    first | (rw [ypn, if_pos q9] at K; exact K) | (rw [ypn, if_neg (Nat.not_lt.mpr q9)] at K; exact K)
  · refine zr_iload_n zi48_12 rfl ?_
    refine zr_aload_n zi48_13 rfl ?_
    refine zr_getfield zi48_14 (A.1.at0 rfl) rfl ?_
    refine zr_arraylength (v := zJ 500) zi48_17 (A.1.at 1 rfl) rfl (zlenJ A.2.1.1) ?_
    refine zr_icmp_geN zi48_18 rfl (by omega) (by omega) (fun q18 => absurd q18 (by omega)) (fun q18 => ?_)
    refine zr_aload_n zi48_21 rfl ?_
    refine zr_getfield zi48_22 (A.1.at0 rfl) rfl ?_
    refine zr_iload_n zi48_25 rfl ?_
    refine zr_ialoadN zi48_26 (A.1.at 1 rfl) rfl (by omega) (by first | omega | (simp only [List.length_set, zpt_len]; omega)) ?_
    refine zr_goto zi48_27 rfl ?_
    refine zr_ireturn zi48_31 rfl ?_
    first | (rw [ypn, if_pos q9] at K; exact K) | (rw [ypn, if_neg (Nat.not_lt.mpr q9)] at K; exact K)
theorem c54 {E : zEnv} {h : zPH} {Q : zOut → zPH → Prop} {a : Nat} {ps lw rw cw dc : List Int32} {sw sh : Nat} {scs scl sfs : List Int32} {ic : Bool} {aw ah am n : Nat} (A : yA h a ps lw rw cw dc sw sh scs scl sfs ic aw ah am n) (K : ∀ h1, yFr (yIv a 10) h h1 0 0 → yA h1 a ps lw rw cw (ydc ps n dc (aw * ah)) sw sh scs scl sfs true aw ah am n → Q (.inl none) h1) : zcall E 0 54 [.ref a] h Q := by
  obtain ⟨⟨aps, alw, arw, acw, adc⟩, ⟨⟨sw1, sw2, sh1, sh2⟩, ascs, ascl, asfs⟩, aaw, aah, aam, an⟩ := A.2
  have hah : aw * ah ≤ 25 := Nat.mul_le_mul aaw aah
  show zwp E _ 54 (0, [some (.ref _), none, none, none], [], _) Q
  refine zr_iconst (v := zJ 0) zi54_0 rfl ?_
  refine zr_istore_n (L' := [some (.ref _), some (.int (zJ _)), none, none]) zi54_1 rfl rfl ?_
  suffices key2 : ∀ h1 x2 x3, (yFr (yIv a 10) h h1 0 0) → (yA h1 a ps lw rw cw (ydc ps n dc 0) sw sh scs scl sfs ic aw ah am n) → zwp E 0 54 (2, [some (.ref a), some (.int (zJ 0)), x2, x3], [], h1) Q from key2 _ _ _ (yFr.refl _ _) A
  refine zloop (P := fun k => ∀ h1 x2 x3, (yFr (yIv a 10) h h1 0 0) → (yA h1 a ps lw rw cw (ydc ps n dc k) sw sh scs scl sfs ic aw ah am n) → zwp E 0 54 (2, [some (.ref a), some (.int (zJ k)), x2, x3], [], h1) Q) (n := aw * ah) fun k hk2 ih2 => ?_
  intro h1 x2 x3 F1 A1
  skip
  have adc1 := A1.2.1.2.2.2.2
  refine zr_iload_n zi54_2 rfl ?_
  refine zr_aload_n zi54_3 rfl ?_
  refine zr_getfield zi54_4 (A1.1.at0 rfl) rfl ?_
  refine zr_aload_n zi54_7 rfl ?_
  refine zr_getfield zi54_8 (A1.1.at0 rfl) rfl ?_
  refine zr_imulN zi54_11 ?_
  refine zr_icmp_geN zi54_12 rfl (by omega) (by omega) (fun q12 => ?_) (fun q12 => ?_)
  · obtain rfl : k = aw * ah := by omega
    refine zr_aload_n zi54_77 rfl ?_
    refine zr_iconst (v := zB true) zi54_78 rfl ?_
    refine zr_putfield zi54_79 (A1.1.at0 rfl) rfl rfl ?_
    refine yA.wob A1 (by first | omega | (simp only [List.length_set, zpt_len]; omega)) (fun h79 F79 A79 => ?_)
    refine zr_return zi54_82 rfl ?_
    exact K _ (F1.trans F79) A79
  · refine zr_iload_n zi54_15 rfl ?_
    refine zr_aload_n zi54_16 rfl ?_
    refine zr_getfield zi54_17 (A1.1.at0 rfl) rfl ?_
    refine zr_arraylength (v := zJ 25) zi54_20 (A1.1.at 9 rfl) rfl (zlenJ A1.2.1.2.2.2.2) ?_
    refine zr_icmp_geN zi54_21 rfl (by omega) (by omega) (fun q21 => ?_) (fun q21 => ?_)
    · obtain rfl : k = aw * ah := by omega
      refine zr_aload_n zi54_77 rfl ?_
      refine zr_iconst (v := zB true) zi54_78 rfl ?_
      refine zr_putfield zi54_79 (A1.1.at0 rfl) rfl rfl ?_
      refine yA.wob A1 (by first | omega | (simp only [List.length_set, zpt_len]; omega)) (fun h79 F79 A79 => ?_)
      refine zr_return zi54_82 rfl ?_
      exact K _ (F1.trans F79) A79
    · refine zr_iconst (v := zJ 0) zi54_24 rfl ?_
      refine zr_istore_n (L' := [some (.ref _), some (.int (zJ _)), some (.int (zJ _)), _]) zi54_25 rfl rfl ?_
      refine zr_iconst (v := zJ 0) zi54_26 rfl ?_
      refine zr_istore_n (L' := [some (.ref _), some (.int (zJ _)), some (.int (zJ _)), some (.int (zJ _))]) zi54_27 rfl rfl ?_
      suffices key28 : zwp E 0 54 (28, [some (.ref a), some (.int (zJ k)), some (.int (ydk ps k 0)), some (.int (zJ 0))], [], h1) Q from key28 
      refine zloop (P := fun i => zwp E 0 54 (28, [some (.ref a), some (.int (zJ k)), some (.int (ydk ps k i)), some (.int (zJ i))], [], h1) Q) (n := n) fun i hk28 ih28 => ?_
      refine zr_iload_n zi54_28 rfl ?_
      refine zr_aload_n zi54_29 rfl ?_
      refine zr_getfield zi54_30 (A1.1.at0 rfl) rfl ?_
      refine zr_icmp_geN zi54_33 rfl (by omega) (by omega) (fun q33 => ?_) (fun q33 => ?_)
      · obtain rfl : n = i := by omega
        refine zr_aload_n zi54_64 rfl ?_
        refine zr_getfield zi54_65 (A1.1.at0 rfl) rfl ?_
        refine zr_iload_n zi54_68 rfl ?_
        refine zr_iload_n zi54_69 rfl ?_
        refine zr_iastoreN zi54_70 (A1.1.at 9 rfl) (by omega) (by first | omega | (simp only [List.length_set, zpt_len]; omega)) ?_
        refine yA.wdc A1 (by first | omega | (simp only [List.length_set, zpt_len]; omega)) (fun h70 F70 A70 => ?_)
        refine zr_iincN (z := 1) (L' := [some (.ref _), some (.int (zJ _)), some (.int _), some (.int (zJ _))]) zi54_71 rfl rfl rfl rfl ?_
        refine zr_goto zi54_74 rfl ?_
        exact ih2 (by omega) _ _ _ (F1.trans F70) A70
      · refine zr_iload_n zi54_36 rfl ?_
        refine zr_aload_n zi54_37 rfl ?_
        refine zr_getfield zi54_38 (A1.1.at0 rfl) rfl ?_
        refine zr_arraylength (v := zJ 500) zi54_41 (A1.1.at 1 rfl) rfl (zlenJ A1.2.1.1) ?_
        refine zr_icmp_geN zi54_42 rfl (by omega) (by omega) (fun q42 => ?_) (fun q42 => ?_)
        · obtain rfl : n = i := by omega
          refine zr_aload_n zi54_64 rfl ?_
          refine zr_getfield zi54_65 (A1.1.at0 rfl) rfl ?_
          refine zr_iload_n zi54_68 rfl ?_
          refine zr_iload_n zi54_69 rfl ?_
          refine zr_iastoreN zi54_70 (A1.1.at 9 rfl) (by omega) (by first | omega | (simp only [List.length_set, zpt_len]; omega)) ?_
          refine yA.wdc A1 (by first | omega | (simp only [List.length_set, zpt_len]; omega)) (fun h70 F70 A70 => ?_)
          refine zr_iincN (z := 1) (L' := [some (.ref _), some (.int (zJ _)), some (.int _), some (.int (zJ _))]) zi54_71 rfl rfl rfl rfl ?_
          refine zr_goto zi54_74 rfl ?_
          exact ih2 (by omega) _ _ _ (F1.trans F70) A70
        · refine zr_iload_n zi54_45 rfl ?_
          refine zr_aload_n zi54_46 rfl ?_
          refine zr_getfield zi54_47 (A1.1.at0 rfl) rfl ?_
          refine zr_iload_n zi54_50 rfl ?_
          refine zr_ialoadN zi54_51 (A1.1.at 1 rfl) rfl (by omega) (by first | omega | (simp only [List.length_set, zpt_len]; omega)) ?_
          refine zr_iload_n zi54_52 rfl ?_
          refine zr_iushr zi54_53 ?_
          refine zr_iconst (v := zJ 1) zi54_54 rfl ?_
          refine zr_iand zi54_55 ?_
          refine zr_iadd zi54_56 ?_
          refine zr_istore_n (L' := [some (.ref _), some (.int (zJ _)), some (.int _), some (.int (zJ _))]) zi54_57 rfl rfl ?_
          refine zr_iincN (z := 1) (L' := [some (.ref _), some (.int (zJ _)), some (.int _), some (.int (zJ _))]) zi54_58 rfl rfl rfl rfl ?_
          refine zr_goto zi54_61 rfl ?_
          exact ih28 (by omega)
theorem c53 {E : zEnv} {h : zPH} {Q : zOut → zPH → Prop} {a : Nat} {ps lw rw cw dc : List Int32} {sw sh : Nat} {scs scl sfs : List Int32} {ic : Bool} {aw ah am n : Nat} (A : yA h a ps lw rw cw dc sw sh scs scl sfs ic aw ah am n) {c : Nat} (hc : c < 25) (K : ∀ h1, yFr (yIv a 10) h h1 0 0 → yA h1 a ps lw rw cw (ycd ic ps n dc (aw * ah)) sw sh scs scl sfs true aw ah am n → Q (.inl (some (.int ((ycd ic ps n dc (aw * ah)).getD c 0)))) h1) : zcall E 1 53 [.ref a, .int (zJ c)] h Q := by
  obtain ⟨⟨aps, alw, arw, acw, adc⟩, ⟨⟨sw1, sw2, sh1, sh2⟩, ascs, ascl, asfs⟩, aaw, aah, aam, an⟩ := A.2
  show zwp E _ 53 (0, [some (.ref _), some (.int (zJ _))], [], _) Q
  refine zr_aload_n zi53_0 rfl ?_
  refine zr_getfield zi53_1 (A.1.at0 rfl) rfl ?_
  refine zr_if_neB zi53_4 rfl (fun q4 => ?_) (fun q4 => ?_)
  · have adc2 := A.2.1.2.2.2.2
    refine zr_iload_n zi53_11 rfl ?_
    refine zr_if_ltN zi53_12 rfl (by omega) ?_
    refine zr_iload_n zi53_15 rfl ?_
    refine zr_aload_n zi53_16 rfl ?_
    refine zr_getfield zi53_17 (A.1.at0 rfl) rfl ?_
    refine zr_arraylength (v := zJ 25) zi53_20 (A.1.at 9 rfl) rfl (zlenJ A.2.1.2.2.2.2) ?_
    refine zr_icmp_geN zi53_21 rfl (by omega) (by omega) (fun q21 => absurd q21 (by omega)) (fun q21 => ?_)
    refine zr_aload_n zi53_24 rfl ?_
    refine zr_getfield zi53_25 (A.1.at0 rfl) rfl ?_
    refine zr_iload_n zi53_28 rfl ?_
    refine zr_ialoadN zi53_29 (A.1.at 9 rfl) rfl (by omega) (by first | omega | (simp only [List.length_set, zpt_len]; omega)) ?_
    refine zr_goto zi53_30 rfl ?_
    refine zr_ireturn zi53_34 rfl ?_
    first
      | (rw [ycd, if_pos q4] at K; exact K _ (yFr.refl _ _) (by rw [← q4]; exact A))
      | (rw [ycd, if_neg (by rw [q4]; decide)] at K; exact K _ (yFr.refl _ _) A)
  · refine zr_aload_n zi53_7 rfl ?_
    refine zr_virtual zi53_8 rfl rfl (A.1.at0 rfl) rfl rfl ?_
    refine zcall_dep (d := 0) (Nat.le_of_ble_eq_true rfl) (c54 A (fun h8 F8 A8 => zbk_0 ?_))
    have adc2 := A8.2.1.2.2.2.2
    refine zr_iload_n zi53_11 rfl ?_
    refine zr_if_ltN zi53_12 rfl (by omega) ?_
    refine zr_iload_n zi53_15 rfl ?_
    refine zr_aload_n zi53_16 rfl ?_
    refine zr_getfield zi53_17 (A8.1.at0 rfl) rfl ?_
    refine zr_arraylength (v := zJ 25) zi53_20 (A8.1.at 9 rfl) rfl (zlenJ A8.2.1.2.2.2.2) ?_
    refine zr_icmp_geN zi53_21 rfl (by omega) (by omega) (fun q21 => absurd q21 (by omega)) (fun q21 => ?_)
    refine zr_aload_n zi53_24 rfl ?_
    refine zr_getfield zi53_25 (A8.1.at0 rfl) rfl ?_
    refine zr_iload_n zi53_28 rfl ?_
    refine zr_ialoadN zi53_29 (A8.1.at 9 rfl) rfl (by omega) (by first | omega | (simp only [List.length_set, zpt_len]; omega)) ?_
    refine zr_goto zi53_30 rfl ?_
    refine zr_ireturn zi53_34 rfl ?_
    first
      | (rw [ycd, if_pos q4] at K; exact K _ F8 (by rw [← q4]; exact A8))
      | (rw [ycd, if_neg (by rw [q4]; decide)] at K; exact K _ F8 A8)
theorem c57 {E : zEnv} {h : zPH} {Q : zOut → zPH → Prop} {a : Nat} {ps lw rw cw dc : List Int32} {sw sh : Nat} {scs scl sfs : List Int32} {ic : Bool} {aw ah am n : Nat} (A : yA h a ps lw rw cw dc sw sh scs scl sfs ic aw ah am n) {c : Nat} (hc : c < 25) (K : ∀ h1, yM64 1057 (ych ((ps, lw, rw, cw, dc), (sw, sh, scs, scl, sfs), (ic, aw, ah, am, n)) c) → yFr (yIv a 10) h h1 0 0 → yAt h1 a (yCn ((ps, lw, rw, cw, dc), (sw, sh, scs, scl, sfs), (ic, aw, ah, am, n))) → Q (.inl (some (.double (ych ((ps, lw, rw, cw, dc), (sw, sh, scs, scl, sfs), (ic, aw, ah, am, n)) c)))) h1) : zcall E 2 57 [.ref a, .int (zJ c)] h Q := by
  obtain ⟨⟨aps, alw, arw, acw, adc⟩, ⟨⟨sw1, sw2, sh1, sh2⟩, ascs, ascl, asfs⟩, aaw, aah, aam, an⟩ := A.2
  show zwp E _ 57 (0, [some (.ref _), some (.int (zJ _))], [], _) Q
  refine zr_aload_n zi57_0 rfl ?_
  refine zr_getfield zi57_1 (A.1.at0 rfl) rfl ?_
  refine zr_if_neN zi57_4 rfl (by omega) (fun q4 => ?_) (fun q4 => ?_)
  · refine zr_aload_n zi57_11 rfl ?_
    refine zr_iload_n zi57_12 rfl ?_
    refine zr_virtual zi57_13 rfl rfl (A.1.at0 rfl) rfl rfl ?_
    refine zcall_dep (d := 1) (Nat.le_of_ble_eq_true rfl) (c53 A (by omega) (fun h13 F13 A13 => zbk_v ?_))
    refine zr_i2d zi57_16 ?_
    refine zr_aload_n zi57_17 rfl ?_
    refine zr_getfield zi57_18 (A13.1.at0 rfl) rfl ?_
    refine zr_i2d zi57_21 ?_
    have hne : zJ n ≠ 0 := fun e => q4 ((zJ_eq (b := 0) (by omega) (by omega)).mp e)
    have hr := yM_ddiv (yM_i2d ((ycd ic ps n dc (aw * ah)).getD c 0)) hne (by omega)
    have eC : ych ((ps, lw, rw, cw, dc), (sw, sh, scs, scl, sfs), (ic, aw, ah, am, n)) c = FP.ddiv (FP.i2d ((ycd ic ps n dc (aw * ah)).getD c 0)) (FP.i2d (zJ n)) := by rw [ych]; exact if_neg q4
    have eN : yCn ((ps, lw, rw, cw, dc), (sw, sh, scs, scl, sfs), (ic, aw, ah, am, n)) = yCd ((ps, lw, rw, cw, dc), (sw, sh, scs, scl, sfs), (ic, aw, ah, am, n)) := by rw [yCn]; exact if_neg q4
    rw [eC, eN] at K
    refine zr_ddiv zi57_22 (hr.zn (by omega)) ?_
    refine zr_dreturn zi57_23 rfl ?_
    exact K _ hr F13 A13
  · have hr : yM64 1057 FP.dconst0 := by unfold yM64; decide
    have eC : ych ((ps, lw, rw, cw, dc), (sw, sh, scs, scl, sfs), (ic, aw, ah, am, n)) c = FP.dconst0 := by rw [ych]; exact if_pos q4
    have eN : yCn ((ps, lw, rw, cw, dc), (sw, sh, scs, scl, sfs), (ic, aw, ah, am, n)) = ((ps, lw, rw, cw, dc), (sw, sh, scs, scl, sfs), (ic, aw, ah, am, n)) := by rw [yCn]; exact if_pos q4
    rw [eC, eN] at K
    refine zr_dconst0 zi57_7 ?_
    refine zr_goto zi57_8 rfl ?_
    refine zr_dreturn zi57_23 rfl ?_
    exact K _ hr (yFr.refl _ _) A
theorem c52 {E : zEnv} {h : zPH} {Q : zOut → zPH → Prop} {a : Nat} {ps lw rw cw dc : List Int32} {sw sh : Nat} {scs scl sfs : List Int32} {ic : Bool} {aw ah am n : Nat} (A : yA h a ps lw rw cw dc sw sh scs scl sfs ic aw ah am n) {g w hh : Nat} {cs cl fs : List Int32} (G : yG h g w hh cs cl fs) (hd : a + 10 ≤ g ∨ g + 4 ≤ a) (K : ∀ h1, yM32 230 (yfo .g cs ((ps, lw, rw, cw, dc), (sw, sh, scs, scl, sfs), (ic, aw, ah, am, n)) (w * hh)).1 → yFr (yIv a 10) h h1 0 0 → yAt h1 a (yFo .g cs ((ps, lw, rw, cw, dc), (sw, sh, scs, scl, sfs), (ic, aw, ah, am, n)) (w * hh)) → Q (.inl (some (.float (yfo .g cs ((ps, lw, rw, cw, dc), (sw, sh, scs, scl, sfs), (ic, aw, ah, am, n)) (w * hh)).1))) h1) : zcall E 2 52 [.ref a, .ref g] h Q := by
  obtain ⟨⟨aps, alw, arw, acw, adc⟩, ⟨⟨sw1, sw2, sh1, sh2⟩, ascs, ascl, asfs⟩, aaw, aah, aam, an⟩ := A.2
  obtain ⟨⟨gw1, gw2, gh1, gh2⟩, gcs, gcl, gfs⟩ := G.2
  have hwh := zwh_b G.2.1
  show zwp E _ 52 (0, [some (.ref _), some (.ref _), none, none, none, none], [], _) Q
  refine zr_fconst0 zi52_0 ?_
  refine zr_fstore_n (L' := [some (.ref _), some (.ref _), some (.float _), none, none, none]) zi52_1 rfl rfl ?_
  refine zr_aload_n zi52_2 rfl ?_
  refine zr_getfield zi52_3 (A.1.at0 rfl) rfl ?_
  refine zr_if_neN zi52_6 rfl (by omega) (fun q6 => ?_) (fun q6 => ?_)
  · refine zr_iconst (v := zJ 0) zi52_11 rfl ?_
    refine zr_istore_n (L' := [some (.ref _), some (.ref _), some (.float _), some (.int (zJ _)), none, none]) zi52_12 rfl rfl ?_
    suffices key13 : ∀ h1 x4 x5, (yM32 (170 + 2 * 0) (yfg .g cs ps n (aw * ah) ic dc (0)).1) → (yFr (yIv a 10) h h1 0 0) → (yA h1 a ps lw rw cw (yfg .g cs ps n (aw * ah) ic dc (0)).2.2 sw sh scs scl sfs (yfg .g cs ps n (aw * ah) ic dc (0)).2.1 aw ah am n) → zwp E 2 52 (13, [some (.ref a), some (.ref g), some (.float (yfg .g cs ps n (aw * ah) ic dc (0)).1), some (.int (zJ 0)), x4, x5], [], h1) Q from key13 _ _ _ (by show yM32 _ FP.fconst0; unfold yM32; decide) (yFr.refl _ _) A
    refine zloop (P := fun k => ∀ h1 x4 x5, (yM32 (170 + 2 * k) (yfg .g cs ps n (aw * ah) ic dc (k)).1) → (yFr (yIv a 10) h h1 0 0) → (yA h1 a ps lw rw cw (yfg .g cs ps n (aw * ah) ic dc (k)).2.2 sw sh scs scl sfs (yfg .g cs ps n (aw * ah) ic dc (k)).2.1 aw ah am n) → zwp E 2 52 (13, [some (.ref a), some (.ref g), some (.float (yfg .g cs ps n (aw * ah) ic dc (k)).1), some (.int (zJ k)), x4, x5], [], h1) Q) (n := w * hh) fun k hk13 ih13 => ?_
    intro h1 x4 x5 hv F1 A1
    have G_1 := G.fr F1 (by intro a z1 z2 z3; simp only [yIv] at z3; omega)
    refine zr_iload_n zi52_13 rfl ?_
    refine zr_aload_n zi52_14 rfl ?_
    refine zr_virtual zi52_15 rfl rfl (G_1.1.at0 rfl) rfl rfl ?_
    refine zcall_dep (d := 0) (Nat.le_of_ble_eq_true rfl) (c15 G_1 (zbk_v ?_))
    refine zr_icmp_geN zi52_18 rfl (by omega) (by omega) (fun q18 => ?_) (fun q18 => ?_)
    · refine zr_fload_n zi52_73 rfl ?_
      refine zr_freturn zi52_74 rfl ?_
      obtain rfl : k = w * hh := by omega
      have eF : yfo .g cs ((ps, lw, rw, cw, dc), (sw, sh, scs, scl, sfs), (ic, aw, ah, am, n)) (w * hh) = (yfg .g cs ps n (aw * ah) ic dc (w * hh)) := by rw [yfo]; exact if_neg q6
      rw [yFo, eF] at K
      exact K _ (hv.mono (by omega)) F1 A1
    · refine zr_aload_n zi52_21 rfl ?_
      refine zr_iload_n zi52_22 rfl ?_
      refine zr_virtual zi52_23 rfl rfl (G_1.1.at0 rfl) rfl rfl ?_
      refine zcall_dep (d := 0) (Nat.le_of_ble_eq_true rfl) (c16 G_1 (by omega) (zbk_v ?_))
      refine zr_if_ne zi52_26 rfl (fun q26 => ?_) (fun q26 => ?_)
      · refine zr_iincN (z := 1) (L' := [some (.ref _), some (.ref _), some (.float _), some (.int (zJ _)), _, _]) zi52_67 rfl rfl rfl rfl ?_
        refine zr_goto zi52_70 rfl ?_
        have en := ih13 (by omega)
        rw [yfg, if_neg q26] at en
        exact en _ _ _ (hv.mono (by omega)) F1 A1
      · refine zr_aload_n zi52_29 rfl ?_
        refine zr_iload_n zi52_30 rfl ?_
        refine zr_virtual zi52_31 rfl rfl (A1.1.at0 rfl) rfl rfl ?_
        refine zcall_dep (d := 1) (Nat.le_of_ble_eq_true rfl) (c53 A1 (by omega) (fun h31 F31 A31 => zbk_v ?_))
        have G_31 := G_1.fr F31 (by intro a z1 z2 z3; simp only [yIv] at z3; omega)
        refine zr_i2f zi52_34 ?_
        refine zr_aload_n zi52_35 rfl ?_
        refine zr_getfield zi52_36 (A31.1.at0 rfl) rfl ?_
        refine zr_i2f zi52_39 ?_
        have hne : zJ n ≠ 0 := fun e => q6 ((zJ_eq (b := 0) (by omega) (by omega)).mp e)
        have hs := yM_fdiv (yM_i2f ((ycd (yfg .g cs ps n (aw * ah) ic dc (k)).2.1 ps n (yfg .g cs ps n (aw * ah) ic dc (k)).2.2 (aw * ah)).getD k 0)) hne (by omega)
        refine zr_fdiv zi52_40 (hs.zn (by omega)) ?_
        refine zr_fstore (L' := [some (.ref _), some (.ref _), some (.float _), some (.int (zJ _)), some (.float _), _]) zi52_41 rfl rfl ?_
        refine zr_fconst1 zi52_43 ?_
        refine zr_fload zi52_44 rfl ?_
        have hr2 := yM_fsub (a := FP.fconst1) (K := 161) (by unfold yM32; decide) hs (by omega)
        refine zr_fsub zi52_46 (hr2.zn (by omega)) ?_
        refine zr_fstore (L' := [some (.ref _), some (.ref _), some (.float _), some (.int (zJ _)), some (.float _), some (.float _)]) zi52_47 rfl rfl ?_
        refine zr_fload_n zi52_49 rfl ?_
        refine zr_fload zi52_50 rfl ?_
        refine zr_fload zi52_52 rfl ?_
        refine zr_fcmp zi52_54 ?_
        refine zr_if_gt zi52_55 rfl (fun q55 => ?_) (fun q55 => ?_)
        · have hw3 := (yM_fadd hv (hr2.mono (K' := 170 + 2 * k) (by omega)) (by omega)).mono (K' := 170 + 2 * (k + 1)) (by omega)
          refine zr_fload zi52_63 rfl ?_
          refine zr_fadd zi52_65 (hw3.zn (by omega)) ?_
          refine zr_fstore_n (L' := [some (.ref _), some (.ref _), some (.float _), some (.int (zJ _)), some (.float _), some (.float _)]) zi52_66 rfl rfl ?_
          refine zr_iincN (z := 1) (L' := [some (.ref _), some (.ref _), some (.float _), some (.int (zJ _)), some (.float _), some (.float _)]) zi52_67 rfl rfl rfl rfl ?_
          refine zr_goto zi52_70 rfl ?_
          have en := ih13 (by omega)
          rw [yfg, if_pos q26, ysm, yfs] at en
          first
            | (rw [if_pos q55] at en; exact en _ _ _ hw3 (F1.trans F31) A31)
            | (rw [if_neg q55] at en; exact en _ _ _ hw3 (F1.trans F31) A31)
        · have hw3 := (yM_fadd hv (hs.mono (K' := 170 + 2 * k) (by omega)) (by omega)).mono (K' := 170 + 2 * (k + 1)) (by omega)
          refine zr_fload zi52_58 rfl ?_
          refine zr_goto zi52_60 rfl ?_
          refine zr_fadd zi52_65 (hw3.zn (by omega)) ?_
          refine zr_fstore_n (L' := [some (.ref _), some (.ref _), some (.float _), some (.int (zJ _)), some (.float _), some (.float _)]) zi52_66 rfl rfl ?_
          refine zr_iincN (z := 1) (L' := [some (.ref _), some (.ref _), some (.float _), some (.int (zJ _)), some (.float _), some (.float _)]) zi52_67 rfl rfl rfl rfl ?_
          refine zr_goto zi52_70 rfl ?_
          have en := ih13 (by omega)
          rw [yfg, if_pos q26, ysm, yfs] at en
          first
            | (rw [if_pos q55] at en; exact en _ _ _ hw3 (F1.trans F31) A31)
            | (rw [if_neg q55] at en; exact en _ _ _ hw3 (F1.trans F31) A31)
  · have hr : yM32 230 FP.fconst0 := by unfold yM32; decide
    have eF : yfo .g cs ((ps, lw, rw, cw, dc), (sw, sh, scs, scl, sfs), (ic, aw, ah, am, n)) (w * hh) = (FP.fconst0, ic, dc) := by rw [yfo]; exact if_pos q6
    refine zr_fload_n zi52_9 rfl ?_
    refine zr_freturn zi52_10 rfl ?_
    rw [yFo, eF] at K
    exact K _ hr (yFr.refl _ _) A
theorem ytf_z {ps : List Int32} {x : Int32} {k : Nat} (h : ytf ps x k = 0) (n : Nat) (hn : k ≤ n) : ytf ps x n = ytf ps x k := by
  induction hn with
  | refl => rfl
  | step _ ih =>
    rw [ytf, ih]
    split
    · rw [h]; exact Int32.zero_and
    · rfl
theorem yfw_t {ps : List Int32} {n k : Nat} (h : yfw ps n k = true) (c : Nat) (hc : k ≤ c) : yfw ps n c = true := by
  induction hc with
  | refl => exact h
  | step _ ih => rw [yfw, ih]; rfl
theorem c60 {E : zEnv} {h : zPH} {Q : zOut → zPH → Prop} {a : Nat} {ps lw rw cw dc : List Int32} {sw sh : Nat} {scs scl sfs : List Int32} {ic : Bool} {aw ah am n : Nat} (A : yA h a ps lw rw cw dc sw sh scs scl sfs ic aw ah am n) {x : Int32} (hn : 1 ≤ n) (K : Q (.inl (some (.int (zB (ytn ps n x))))) h) : zcall E 0 60 [.ref a, .int x] h Q := by
  obtain ⟨⟨aps, alw, arw, acw, adc⟩, ⟨⟨sw1, sw2, sh1, sh2⟩, ascs, ascl, asfs⟩, aaw, aah, aam, an⟩ := A.2
  show zwp E _ 60 (0, [some (.ref _), some (.int _), none, none, none], [], _) Q
  refine zr_iconst (v := (-1)) zi60_0 rfl ?_
  refine zr_istore_n (L' := [some (.ref _), some (.int _), some (.int _), none, none]) zi60_1 rfl rfl ?_
  refine zr_iconst (v := zJ 1) zi60_2 rfl ?_
  refine zr_istore_n (L' := [some (.ref _), some (.int _), some (.int _), some (.int (zJ _)), none]) zi60_3 rfl rfl ?_
  suffices key4 : ∀ x4, zwp E 0 60 (4, [some (.ref a), some (.int x), some (.int (ytf ps x 0)), some (.int (zJ (0 + 1))), x4], [], h) Q from key4 _
  refine zloop (P := fun k => ∀ x4, zwp E 0 60 (4, [some (.ref a), some (.int x), some (.int (ytf ps x k)), some (.int (zJ (k + 1))), x4], [], h) Q) (n := n - 1) fun k hk4 ih4 => ?_
  intro x4
  refine zr_iload_n zi60_4 rfl ?_
  refine zr_aload_n zi60_5 rfl ?_
  refine zr_getfield zi60_6 (A.1.at0 rfl) rfl ?_
  refine zr_icmp_geN zi60_9 rfl (by omega) (by omega) (fun q9 => ?_) (fun q9 => ?_)
  · have eU : ytf ps x (n - 1) = ytf ps x k := by
      first
      | rw [show n - 1 = k by omega]
      | exact ytf_z q22 (n - 1) (by omega)
    refine zr_iload_n zi60_58 rfl ?_
    refine zr_if_eq zi60_59 rfl (fun q59 => ?_) (fun q59 => ?_)
    · refine zr_iconst (v := zJ 0) zi60_66 rfl ?_
      refine zr_zreturn zi60_67 rfl (by decide) ?_
      first
        | (have eT : ytn ps n x = true := by rw [ytn, eU, decide_eq_false q59]; rfl
           rw [eT] at K; exact K)
        | (have eT : ytn ps n x = false := by rw [ytn, eU, decide_eq_true q59]; rfl
           rw [eT] at K; exact K)
    · refine zr_iconst (v := zJ 1) zi60_62 rfl ?_
      refine zr_goto zi60_63 rfl ?_
      refine zr_zreturn zi60_67 rfl (by decide) ?_
      first
        | (have eT : ytn ps n x = true := by rw [ytn, eU, decide_eq_false q59]; rfl
           rw [eT] at K; exact K)
        | (have eT : ytn ps n x = false := by rw [ytn, eU, decide_eq_true q59]; rfl
           rw [eT] at K; exact K)
  · refine zr_iload_n zi60_12 rfl ?_
    refine zr_aload_n zi60_13 rfl ?_
    refine zr_getfield zi60_14 (A.1.at0 rfl) rfl ?_
    refine zr_arraylength (v := zJ 500) zi60_17 (A.1.at 1 rfl) rfl (zlenJ A.2.1.1) ?_
    refine zr_icmp_geN zi60_18 rfl (by omega) (by omega) (fun q18 => ?_) (fun q18 => ?_)
    · have eU : ytf ps x (n - 1) = ytf ps x k := by
        first
        | rw [show n - 1 = k by omega]
        | exact ytf_z q22 (n - 1) (by omega)
      refine zr_iload_n zi60_58 rfl ?_
      refine zr_if_eq zi60_59 rfl (fun q59 => ?_) (fun q59 => ?_)
      · refine zr_iconst (v := zJ 0) zi60_66 rfl ?_
        refine zr_zreturn zi60_67 rfl (by decide) ?_
        first
          | (have eT : ytn ps n x = true := by rw [ytn, eU, decide_eq_false q59]; rfl
             rw [eT] at K; exact K)
          | (have eT : ytn ps n x = false := by rw [ytn, eU, decide_eq_true q59]; rfl
             rw [eT] at K; exact K)
      · refine zr_iconst (v := zJ 1) zi60_62 rfl ?_
        refine zr_goto zi60_63 rfl ?_
        refine zr_zreturn zi60_67 rfl (by decide) ?_
        first
          | (have eT : ytn ps n x = true := by rw [ytn, eU, decide_eq_false q59]; rfl
             rw [eT] at K; exact K)
          | (have eT : ytn ps n x = false := by rw [ytn, eU, decide_eq_true q59]; rfl
             rw [eT] at K; exact K)
    · refine zr_iload_n zi60_21 rfl ?_
      refine zr_if_eq zi60_22 rfl (fun q22 => ?_) (fun q22 => ?_)
      · have eU : ytf ps x (n - 1) = ytf ps x k := by
          first
          | rw [show n - 1 = k by omega]
          | exact ytf_z q22 (n - 1) (by omega)
        refine zr_iload_n zi60_58 rfl ?_
        refine zr_if_eq zi60_59 rfl (fun q59 => ?_) (fun q59 => ?_)
        · refine zr_iconst (v := zJ 0) zi60_66 rfl ?_
          refine zr_zreturn zi60_67 rfl (by decide) ?_
          first
            | (have eT : ytn ps n x = true := by rw [ytn, eU, decide_eq_false q59]; rfl
               rw [eT] at K; exact K)
            | (have eT : ytn ps n x = false := by rw [ytn, eU, decide_eq_true q59]; rfl
               rw [eT] at K; exact K)
        · refine zr_iconst (v := zJ 1) zi60_62 rfl ?_
          refine zr_goto zi60_63 rfl ?_
          refine zr_zreturn zi60_67 rfl (by decide) ?_
          first
            | (have eT : ytn ps n x = true := by rw [ytn, eU, decide_eq_false q59]; rfl
               rw [eT] at K; exact K)
            | (have eT : ytn ps n x = false := by rw [ytn, eU, decide_eq_true q59]; rfl
               rw [eT] at K; exact K)
      · refine zr_aload_n zi60_25 rfl ?_
        refine zr_getfield zi60_26 (A.1.at0 rfl) rfl ?_
        refine zr_iload_n zi60_29 rfl ?_
        refine zr_ialoadN zi60_30 (A.1.at 1 rfl) rfl (by omega) (by first | omega | (simp only [List.length_set, zpt_len]; omega)) ?_
        refine zr_aload_n zi60_31 rfl ?_
        refine zr_getfield zi60_32 (A.1.at0 rfl) rfl ?_
        refine zr_iconst (v := zJ 0) zi60_35 rfl ?_
        refine zr_ialoadN zi60_36 (A.1.at 1 rfl) rfl (by omega) (by first | omega | (simp only [List.length_set, zpt_len]; omega)) ?_
        refine zr_ixor zi60_37 ?_
        refine zr_istore (L' := [some (.ref _), some (.int _), some (.int _), some (.int (zJ _)), some (.int _)]) zi60_38 rfl rfl ?_
        refine zr_iload zi60_40 rfl ?_
        refine zr_iload_n zi60_42 rfl ?_
        refine zr_iand zi60_43 ?_
        refine zr_if_ne zi60_44 rfl (fun q44 => ?_) (fun q44 => ?_)
        · refine zr_iincN (z := 1) (L' := [some (.ref _), some (.int _), some (.int _), some (.int (zJ _)), some (.int _)]) zi60_52 rfl rfl rfl rfl ?_
          refine zr_goto zi60_55 rfl ?_
          have en := ih4 (by omega)
          rw [ytf] at en
          first | rw [if_pos q44] at en | rw [if_neg q44] at en
          exact en _
        · refine zr_iload_n zi60_47 rfl ?_
          refine zr_iload zi60_48 rfl ?_
          refine zr_iand zi60_50 ?_
          refine zr_istore_n (L' := [some (.ref _), some (.int _), some (.int _), some (.int (zJ _)), some (.int _)]) zi60_51 rfl rfl ?_
          refine zr_iincN (z := 1) (L' := [some (.ref _), some (.int _), some (.int _), some (.int (zJ _)), some (.int _)]) zi60_52 rfl rfl rfl rfl ?_
          refine zr_goto zi60_55 rfl ?_
          have en := ih4 (by omega)
          rw [ytf] at en
          first | rw [if_pos q44] at en | rw [if_neg q44] at en
          exact en _
theorem c59 {E : zEnv} {h : zPH} {Q : zOut → zPH → Prop} {a : Nat} {ps lw rw cw dc : List Int32} {sw sh : Nat} {scs scl sfs : List Int32} {ic : Bool} {aw ah am n : Nat} (A : yA h a ps lw rw cw dc sw sh scs scl sfs ic aw ah am n) (K : Q (.inl (some (.int (ynd ps n (aw * ah))))) h) : zcall E 1 59 [.ref a] h Q := by
  obtain ⟨⟨aps, alw, arw, acw, adc⟩, ⟨⟨sw1, sw2, sh1, sh2⟩, ascs, ascl, asfs⟩, aaw, aah, aam, an⟩ := A.2
  have hah : aw * ah ≤ 25 := Nat.mul_le_mul aaw aah
  show zwp E _ 59 (0, [some (.ref _), none], [], _) Q
  refine zr_aload_n zi59_0 rfl ?_
  refine zr_getfield zi59_1 (A.1.at0 rfl) rfl ?_
  refine zr_iconst (v := zJ 1) zi59_4 rfl ?_
  refine zr_icmp_gtN zi59_5 rfl (by omega) (by omega) (fun q5 => ?_) (fun q5 => ?_)
  · refine zr_aload_n zi59_21 rfl ?_
    refine zr_iconst (v := zJ 0) zi59_22 rfl ?_
    refine zr_virtual zi59_23 rfl rfl (A.1.at0 rfl) rfl rfl ?_
    refine zcall_dep (d := 0) (Nat.le_of_ble_eq_true rfl) (c60 A (by omega) (zbk_v ?_))
    refine zr_if_eqB zi59_26 rfl (fun q26 => ?_) (fun q26 => ?_)
    · refine zr_iconst (v := zJ 0) zi59_31 rfl ?_
      refine zr_istore_n (L' := [some (.ref _), some (.int (zJ _))]) zi59_32 rfl rfl ?_
      suffices key33 : (yfw ps n 0 = false) → zwp E 1 59 (33, [some (.ref a), some (.int (zJ 0))], [], h) Q from key33 rfl
      refine zloop (P := fun k => (yfw ps n k = false) → zwp E 1 59 (33, [some (.ref a), some (.int (zJ k))], [], h) Q) (n := aw * ah) fun k hk33 ih33 => ?_
      intro hW
      refine zr_iload_n zi59_33 rfl ?_
      refine zr_aload_n zi59_34 rfl ?_
      refine zr_getfield zi59_35 (A.1.at0 rfl) rfl ?_
      refine zr_aload_n zi59_38 rfl ?_
      refine zr_getfield zi59_39 (A.1.at0 rfl) rfl ?_
      refine zr_imulN zi59_42 ?_
      refine zr_icmp_geN zi59_43 rfl (by omega) (by omega) (fun q43 => ?_) (fun q43 => ?_)
      · refine zr_iconst (v := (-1)) zi59_64 rfl ?_
        refine zr_ireturn zi59_65 rfl ?_
        obtain rfl : k = aw * ah := by omega
        rw [ynd, if_neg (by omega), if_neg (by rw [q26]; decide), if_neg (by rw [hW]; decide)] at K
        exact K
      · refine zr_aload_n zi59_46 rfl ?_
        refine zr_iconst (v := zJ 1) zi59_47 rfl ?_
        refine zr_iload_n zi59_48 rfl ?_
        refine zr_ishl zi59_49 ?_
        refine zr_virtual zi59_50 rfl rfl (A.1.at0 rfl) rfl rfl ?_
        refine zcall_dep (d := 0) (Nat.le_of_ble_eq_true rfl) (c60 A (by omega) (zbk_v ?_))
        refine zr_if_eqB zi59_53 rfl (fun q53 => ?_) (fun q53 => ?_)
        · refine zr_iincN (z := 1) (L' := [some (.ref _), some (.int (zJ _))]) zi59_58 rfl rfl rfl rfl ?_
          refine zr_goto zi59_61 rfl ?_
          exact ih33 (by omega) (by rw [yfw, hW, q53]; rfl)
        · refine zr_iconst (v := zJ 2) zi59_56 rfl ?_
          refine zr_ireturn zi59_57 rfl ?_
          rw [ynd, if_neg (by omega), if_neg (by rw [q26]; decide), if_pos (yfw_t (k := k + 1) (by rw [yfw, q53, Bool.or_true]) _ (by omega))] at K
          exact K
    · refine zr_iconst (v := zJ 1) zi59_29 rfl ?_
      refine zr_ireturn zi59_30 rfl ?_
      rw [ynd, if_neg (by omega), if_pos q26] at K
      exact K
  · refine zr_aload_n zi59_8 rfl ?_
    refine zr_getfield zi59_9 (A.1.at0 rfl) rfl ?_
    refine zr_if_neN zi59_12 rfl (by omega) (fun q12 => ?_) (fun q12 => ?_)
    · refine zr_iconst (v := zJ 0) zi59_19 rfl ?_
      refine zr_ireturn zi59_20 rfl ?_
      first | (rw [ynd, if_pos q5, if_pos q12] at K; exact K) | (rw [ynd, if_pos q5, if_neg q12] at K; exact K)
    · refine zr_iconst (v := (-1)) zi59_15 rfl ?_
      refine zr_goto zi59_16 rfl ?_
      refine zr_ireturn zi59_20 rfl ?_
      first | (rw [ynd, if_pos q5, if_pos q12] at K; exact K) | (rw [ynd, if_pos q5, if_neg q12] at K; exact K)
