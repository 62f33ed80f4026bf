/-! ===== the hall: what is asked ===== -/
def zwF (v : Int32) (n : Nat) : Nat → Nat → Nat → Int32
  | 0, _, _ => -1
  | f + 1, k, m => if zbit v k = true then (if m = n then zJ k else zwF v n f (k + 1) (m + 1)) else zwF v n f (k + 1) m
theorem zwF_s {v : Int32} {n k m : Nat} (hk : k < 32) : zwF v n (32 - k) k m = if zbit v k = true then (if m = n then zJ k else zwF v n (32 - (k + 1)) (k + 1) (m + 1)) else zwF v n (32 - (k + 1)) (k + 1) m := by
  rw [show 32 - k = (32 - (k + 1)) + 1 by omega, zwF]
theorem c46 {E : zEnv} {h : zPH} {Q : zOut → zPH → Prop} (S : ySs E h) {a : Nat} {L : List yBS} {rf : Int32} {τ : yGS} {αt : yAS} (C : yC h a L rf τ αt) {x y z : Int32} (K : ∀ k b w hh cs cl fs α kp gd gu mi sp, L[k]? = some (b, (w, hh, cs, cl, fs), α, kp, gd, gu, mi, sp) → x = zJ k → ∀ i, i < w + hh → y = zJ i → ∀ n, n < 2147483648 → z = zJ n → yK Q h a L L rf 0 0 (.inl (some (.int (zwF (zws w hh cs fs i) n 32 0 0))))) (X2 : ¬ zin x L.length → Q (.inr 2) (zex h)) (Y2 : ∀ k b w hh cs cl fs α kp gd gu mi sp, L[k]? = some (b, (w, hh, cs, cl, fs), α, kp, gd, gu, mi, sp) → x = zJ k → ¬ zin y (w + hh) → Q (.inr 2) (zex h)) (Y0 : ∀ k b w hh cs cl fs α kp gd gu mi sp, L[k]? = some (b, (w, hh, cs, cl, fs), α, kp, gd, gu, mi, sp) → x = zJ k → zin y (w + hh) → z < 0 → Q (.inr 0) (zex h)) : zcall E 2 46 [.ref a, .int x, .int y, .int z] h Q := by
  have H := C.1
  have hlen := C.len
  have hbl : (L.map (·.1)).length = L.length := by rw [List.length_map]
  have Sx := S
  obtain ⟨⟨aSH, eSH, lSH, hSH⟩, ⟨aDK, eDK, lDK, hDK⟩, eCS, ⟨aEL, eEL, lEL, hEL⟩⟩ := Sx
  show zwp E _ 46 (0, [some (.ref _), some (.int _), some (.int _), some (.int _), none, none, none, none], [], _) Q
  refine zr_aload_n zi46_0 rfl ?_
  refine zr_iload_n zi46_1 rfl ?_
  refine zr_virtual zi46_2 rfl rfl (H.1.at0 rfl) rfl rfl ?_
  refine zcall_dep (d := 0) (Nat.le_of_ble_eq_true rfl) (c13 C (fun k β hk ex => zbk_v ?_) (fun x2 => zbk_no rfl (X2 x2)))
  subst ex
  obtain ⟨b, ⟨w, hh, cs, cl, fs⟩, α, kp, gd, gu, mi, sp⟩ := β
  have B : yB h b w hh cs cl fs α kp gd gu mi sp := (C.bd hk).1
  have hab : a + 16 ≤ b := (C.bd hk).2
  obtain ⟨⟨gw1, gw2, gh1, gh2⟩, gcs, gcl, gfs⟩ := B.gr.2
  obtain ⟨bkp, bgd, bgu⟩ := B.2.2.2.2
  have hwh := zwh_b B.gr.2.1
  refine zr_getfield zi46_5 (B.1.at0 rfl) rfl ?_
  refine zr_astore (L' := [some (.ref _), some (.int (zJ _)), some (.int _), some (.int _), some (.ref _), none, none, none]) zi46_8 rfl rfl ?_
  refine zr_aload zi46_10 rfl ?_
  refine zr_iload_n zi46_12 rfl ?_
  refine zr_static zi46_13 rfl rfl rfl rfl ?_
  refine zcall_dep (d := 1) (Nat.le_of_ble_eq_true rfl) (c43 B.gr (fun i hi ei => zbk_0 ?_) (fun x13 => zbk_no rfl (Y2 _ _ _ _ _ _ _ _ _ _ _ _ _ hk rfl x13)))
  subst ei
  refine zr_iload_n zi46_16 rfl ?_
  refine zr_if_ge zi46_17 rfl (fun q17 => ?_) (fun q17 => ?_)
  · obtain ⟨n, hn, rfl⟩ := zJ_of (zle_nl q17)
    have KK := K _ _ _ _ _ _ _ _ _ _ _ _ _ hk rfl _ hi rfl _ hn rfl
    refine zr_aload zi46_30 rfl ?_
    refine zr_iload_n zi46_32 rfl ?_
    refine zr_virtual zi46_33 rfl rfl (B.gr.1.at0 rfl) rfl rfl ?_
    refine zcall_dep (d := 1) (Nat.le_of_ble_eq_true rfl) (c20 S B.gr (by omega) (zbk_v ?_))
    refine zr_istore (L' := [some (.ref _), some (.int (zJ _)), some (.int (zJ _)), some (.int (zJ _)), some (.ref _), some (.int _), none, none]) zi46_36 rfl rfl ?_
    refine zr_iconst (v := zJ 0) zi46_38 rfl ?_
    refine zr_istore (L' := [some (.ref _), some (.int (zJ _)), some (.int (zJ _)), some (.int (zJ _)), some (.ref _), some (.int _), some (.int (zJ _)), none]) zi46_39 rfl rfl ?_
    refine zr_iconst (v := zJ 0) zi46_41 rfl ?_
    refine zr_istore (L' := [some (.ref _), some (.int (zJ _)), some (.int (zJ _)), some (.int (zJ _)), some (.ref _), some (.int _), some (.int (zJ _)), some (.int (zJ _))]) zi46_42 rfl rfl ?_
    suffices key44 : ∀ m, (m ≤ 0) → (zwF (zws w hh cs fs i) n 32 0 0 = zwF (zws w hh cs fs i) n (32 - 0) 0 m) → zwp E 2 46 (44, [some (.ref a), some (.int (zJ k)), some (.int (zJ i)), some (.int (zJ n)), some (.ref (b + 13)), some (.int (zws w hh cs fs i)), some (.int (zJ m)), some (.int (zJ 0))], [], h) Q from key44 0 (by omega) rfl
    refine zloop (P := fun u => ∀ m, (m ≤ u) → (zwF (zws w hh cs fs i) n 32 0 0 = zwF (zws w hh cs fs i) n (32 - u) u m) → zwp E 2 46 (44, [some (.ref a), some (.int (zJ k)), some (.int (zJ i)), some (.int (zJ n)), some (.ref (b + 13)), some (.int (zws w hh cs fs i)), some (.int (zJ m)), some (.int (zJ u))], [], h) Q) (n := 32) fun u hk44 ih44 => ?_
    intro m hm hE
    refine zr_iload zi46_44 rfl ?_
    refine zr_getstatic zi46_46 rfl eSH ?_
    refine zr_arraylength (v := zJ 32) zi46_49 hSH rfl (zlenJ rfl) ?_
    refine zr_icmp_geN zi46_50 rfl (by omega) (by omega) (fun q50 => ?_) (fun q50 => ?_)
    · refine zr_iconst (v := (-1)) zi46_81 rfl ?_
      refine zr_ireturn zi46_82 rfl ?_
      obtain rfl : u = 32 := by omega
      rw [hE, Nat.sub_self, zwF] at KK
      exact KK _ _ _ _ (yEqA.refl L) (yFr.refl _ _) C
    · refine zr_iload zi46_53 rfl ?_
      refine zr_iload zi46_55 rfl ?_
      refine zr_static zi46_57 rfl rfl rfl rfl ?_
      refine zcall_dep (d := 0) (Nat.le_of_ble_eq_true rfl) (c28 (by omega) (zbk_v ?_))
      refine zr_if_eqB zi46_60 rfl (fun q60 => ?_) (fun q60 => ?_)
      · refine zr_iincN (z := 1) (L' := [some (.ref _), some (.int (zJ _)), some (.int (zJ _)), some (.int (zJ _)), some (.ref _), some (.int _), some (.int (zJ _)), some (.int (zJ _))]) zi46_75 rfl rfl rfl rfl ?_
        refine zr_goto zi46_78 rfl ?_
        refine ih44 (by omega) _ (by omega) ?_
        rw [hE, zwF_s q50]
        first | rw [if_pos q60, if_neg q66] | rw [if_neg (by rw [q60]; decide)]
      · refine zr_iload zi46_63 rfl ?_
        refine zr_iload_n zi46_65 rfl ?_
        refine zr_icmp_neN zi46_66 rfl (by omega) (by omega) (fun q66 => ?_) (fun q66 => ?_)
        · refine zr_iincN (z := 1) (L' := [some (.ref _), some (.int (zJ _)), some (.int (zJ _)), some (.int (zJ _)), some (.ref _), some (.int _), some (.int (zJ _)), some (.int (zJ _))]) zi46_72 rfl rfl rfl rfl ?_
          refine zr_iincN (z := 1) (L' := [some (.ref _), some (.int (zJ _)), some (.int (zJ _)), some (.int (zJ _)), some (.ref _), some (.int _), some (.int (zJ _)), some (.int (zJ _))]) zi46_75 rfl rfl rfl rfl ?_
          refine zr_goto zi46_78 rfl ?_
          refine ih44 (by omega) _ (by omega) ?_
          rw [hE, zwF_s q50]
          first | rw [if_pos q60, if_neg q66] | rw [if_neg (by rw [q60]; decide)]
        · refine zr_iload zi46_69 rfl ?_
          refine zr_ireturn zi46_71 rfl ?_
          rw [hE, zwF_s q50, if_pos q60, if_pos q66] at KK
          exact KK _ _ _ _ (yEqA.refl L) (yFr.refl _ _) C
  · refine zr_throw zi46_20 rfl rfl rfl ?_
    exact Y0 _ _ _ _ _ _ _ _ _ _ _ _ _ hk rfl ⟨_, hi, rfl⟩ (Int32.not_le.mp q17)
def yob (w hh : Nat) (cs cl fs : List Int32) (gu : Nat) (mi sp : Int32) (t : Nat) : Int32 := if t = 0 then zJ w else if t = 1 then zJ hh else if t = 2 then zJ (zct cs (zJ 0) (w * hh)) else if t = 3 then zJ (zct cs (zJ 1) (w * hh)) else if t = 4 then zJ (zbl w hh cs fs (w + hh)) else if t = 5 then zJ gu else if t = 6 then mi else if t = 8 then zJ (zol cl (w + hh)) else sp
def yoa (w hh : Nat) (cs cl fs : List Int32) (α : yAS) (t : Nat) : Int32 := if t = 7 then zJ (yLk w hh 500 cs cl fs α).2.2.2.2.2.2 else yas (yLk w hh 500 cs cl fs α).1.1 (yLk w hh 500 cs cl fs α).2.2.2.2.2.2 &&& zus cs (w * hh)
theorem c18 {E : zEnv} {h : zPH} {Q : zOut → zPH → Prop} (S : ySs E h) {a : Nat} {L : List yBS} {rf : Int32} {τ : yGS} {αt : yAS} (C : yC h a L rf τ αt) {x y : Int32} (K : ∀ k b w hh cs cl fs α kp gd gu mi sp, L[k]? = some (b, (w, hh, cs, cl, fs), α, kp, gd, gu, mi, sp) → x = zJ k → ∀ t, t < 11 → y = zJ t → ∀ v, v = (if t = 7 ∨ t = 10 then yoa w hh cs cl fs α t else yob w hh cs cl fs gu mi sp t) → yK Q h a L L rf 0 0 (.inl (some (.int v)))) (X2 : ¬ zin x L.length → Q (.inr 2) (zex h)) (Y0 : ∀ k b w hh cs cl fs α kp gd gu mi sp, L[k]? = some (b, (w, hh, cs, cl, fs), α, kp, gd, gu, mi, sp) → x = zJ k → ¬ zin y 11 → Q (.inr 0) (zex h)) : zcall E 16 18 [.ref a, .int x, .int y] h Q := by
  have H := C.1
  have hlen := C.len
  have hbl : (L.map (·.1)).length = L.length := by rw [List.length_map]
  show zwp E _ 18 (0, [some (.ref _), some (.int _), some (.int _), none], [], _) Q
  refine zr_aload_n zi18_0 rfl ?_
  refine zr_iload_n zi18_1 rfl ?_
  refine zr_virtual zi18_2 rfl rfl (H.1.at0 rfl) rfl rfl ?_
  refine zcall_dep (d := 0) (Nat.le_of_ble_eq_true rfl) (c13 C (fun k β hk ex => zbk_v ?_) (fun x2 => zbk_no rfl (X2 x2)))
  subst ex
  obtain ⟨b, ⟨w, hh, cs, cl, fs⟩, α, kp, gd, gu, mi, sp⟩ := β
  have B : yB h b w hh cs cl fs α kp gd gu mi sp := (C.bd hk).1
  have hab : a + 16 ≤ b := (C.bd hk).2
  obtain ⟨⟨gw1, gw2, gh1, gh2⟩, gcs, gcl, gfs⟩ := B.gr.2
  obtain ⟨bkp, bgd, bgu⟩ := B.2.2.2.2
  have hwh := zwh_b B.gr.2.1
  refine zr_astore_n (L' := [some (.ref _), some (.int (zJ _)), some (.int _), some (.ref _)]) zi18_5 rfl rfl ?_
  refine zr_iload_n zi18_6 rfl ?_
  refine zr_bipush (v := zJ 10) zi18_7 rfl ?_
  refine zr_static zi18_9 rfl rfl rfl rfl ?_
  refine zcall_dep (d := 0) (Nat.le_of_ble_eq_true rfl) (c12 (by omega) (fun t ht et => zbk_0 ?_) (fun x9 => zbk_no rfl (Y0 _ _ _ _ _ _ _ _ _ _ _ _ _ hk rfl x9)))
  subst et
  refine zr_iload_n zi18_12 rfl ?_
  rcases (show t = 0 ∨ t = 1 ∨ t = 2 ∨ t = 3 ∨ t = 4 ∨ t = 5 ∨ t = 6 ∨ t = 7 ∨ t = 8 ∨ t = 9 ∨ t = 10 by omega) with rfl | rfl | rfl | rfl | rfl | rfl | rfl | rfl | rfl | rfl | rfl
  · refine zr_tableL zi18_13 (by decide) rfl rfl ?_
    refine zr_aload_n zi18_68 rfl ?_
    refine zr_getfield zi18_69 (B.1.at0 rfl) rfl ?_
    refine zr_getfield zi18_72 (B.gr.1.at0 rfl) rfl ?_
    refine zr_ireturn zi18_75 rfl ?_
    exact K _ _ _ _ _ _ _ _ _ _ _ _ _ hk rfl _ ht rfl _ rfl _ _ _ _ (yEqA.refl L) (yFr.refl _ _) C
  · refine zr_tableL zi18_13 (by decide) rfl rfl ?_
    refine zr_aload_n zi18_76 rfl ?_
    refine zr_getfield zi18_77 (B.1.at0 rfl) rfl ?_
    refine zr_getfield zi18_80 (B.gr.1.at0 rfl) rfl ?_
    refine zr_ireturn zi18_83 rfl ?_
    exact K _ _ _ _ _ _ _ _ _ _ _ _ _ hk rfl _ ht rfl _ rfl _ _ _ _ (yEqA.refl L) (yFr.refl _ _) C
  · refine zr_tableL zi18_13 (by decide) rfl rfl ?_
    refine zr_aload_n zi18_84 rfl ?_
    refine zr_getfield zi18_85 (B.1.at0 rfl) rfl ?_
    refine zr_iconst (v := zJ 0) zi18_88 rfl ?_
    refine zr_virtual zi18_89 rfl rfl (B.gr.1.at0 rfl) rfl rfl ?_
    refine zcall_dep (d := 1) (Nat.le_of_ble_eq_true rfl) (c14 B.gr (zbk_v ?_))
    refine zr_ireturn zi18_92 rfl ?_
    exact K _ _ _ _ _ _ _ _ _ _ _ _ _ hk rfl _ ht rfl _ rfl _ _ _ _ (yEqA.refl L) (yFr.refl _ _) C
  · refine zr_tableL zi18_13 (by decide) rfl rfl ?_
    refine zr_aload_n zi18_93 rfl ?_
    refine zr_getfield zi18_94 (B.1.at0 rfl) rfl ?_
    refine zr_iconst (v := zJ 1) zi18_97 rfl ?_
    refine zr_virtual zi18_98 rfl rfl (B.gr.1.at0 rfl) rfl rfl ?_
    refine zcall_dep (d := 1) (Nat.le_of_ble_eq_true rfl) (c14 B.gr (zbk_v ?_))
    refine zr_ireturn zi18_101 rfl ?_
    exact K _ _ _ _ _ _ _ _ _ _ _ _ _ hk rfl _ ht rfl _ rfl _ _ _ _ (yEqA.refl L) (yFr.refl _ _) C
  · refine zr_tableL zi18_13 (by decide) rfl rfl ?_
    refine zr_aload_n zi18_102 rfl ?_
    refine zr_getfield zi18_103 (B.1.at0 rfl) rfl ?_
    refine zr_virtual zi18_106 rfl rfl (B.gr.1.at0 rfl) rfl rfl ?_
    refine zcall_dep (d := 2) (Nat.le_of_ble_eq_true rfl) (c19 S B.gr (zbk_v ?_))
    refine zr_ireturn zi18_109 rfl ?_
    exact K _ _ _ _ _ _ _ _ _ _ _ _ _ hk rfl _ ht rfl _ rfl _ _ _ _ (yEqA.refl L) (yFr.refl _ _) C
  · refine zr_tableL zi18_13 (by decide) rfl rfl ?_
    refine zr_aload_n zi18_110 rfl ?_
    refine zr_getfield zi18_111 (B.1.at0 rfl) rfl ?_
    refine zr_ireturn zi18_114 rfl ?_
    exact K _ _ _ _ _ _ _ _ _ _ _ _ _ hk rfl _ ht rfl _ rfl _ _ _ _ (yEqA.refl L) (yFr.refl _ _) C
  · refine zr_tableL zi18_13 (by decide) rfl rfl ?_
    refine zr_aload_n zi18_115 rfl ?_
    refine zr_getfield zi18_116 (B.1.at0 rfl) rfl ?_
    refine zr_ireturn zi18_119 rfl ?_
    exact K _ _ _ _ _ _ _ _ _ _ _ _ _ hk rfl _ ht rfl _ rfl _ _ _ _ (yEqA.refl L) (yFr.refl _ _) C
  · refine zr_tableL zi18_13 (by decide) rfl rfl ?_
    refine zr_aload_n zi18_120 rfl ?_
    refine zr_getfield zi18_121 (B.1.at0 rfl) rfl ?_
    refine zr_aload_n zi18_124 rfl ?_
    refine zr_getfield zi18_125 (B.1.at0 rfl) rfl ?_
    refine zr_sipush (v := zJ 500) zi18_128 rfl ?_
    refine zr_virtual zi18_131 rfl rfl (B.al.1.at0 rfl) rfl rfl ?_
    refine zcall_dep (d := 15) (Nat.le_of_ble_eq_true rfl) (c22t S B.al B.gr (by omega) (by omega) (fun h131 F131 A131 => zbk_v ?_))
    have B131p := B.putAl F131 A131
    replace F131 := F131.up (N := 17) (by omega)
    have H_131 := H.fr F131 (by intro a z1 z2 z3; simp only [yIv] at z3; omega)
    have S_131 := F131.ss S
    have F131c : yFr (yP a b) _ _ _ _ := F131.inr
    refine zr_getfield zi18_134 (B131p.al.1.at0 rfl) rfl ?_
    refine zr_ireturn zi18_137 rfl ?_
    exact K _ _ _ _ _ _ _ _ _ _ _ _ _ hk rfl _ ht rfl _ rfl _ _ _ _ (yEqA_al hk) (yFr.pb hk F131c) (C.upd hk F131c H_131 (yBt.mk B131p) rfl (yAI.look (show yAI α from C.ai hk) B.al.lens (by show w + hh ≤ 10; omega)) C.ait)
  · refine zr_tableL zi18_13 (by decide) rfl rfl ?_
    refine zr_aload_n zi18_138 rfl ?_
    refine zr_getfield zi18_139 (B.1.at0 rfl) rfl ?_
    refine zr_virtual zi18_142 rfl rfl (B.gr.1.at0 rfl) rfl rfl ?_
    refine zcall_dep (d := 1) (Nat.le_of_ble_eq_true rfl) (c35 B.gr (zbk_v ?_))
    refine zr_ireturn zi18_145 rfl ?_
    exact K _ _ _ _ _ _ _ _ _ _ _ _ _ hk rfl _ ht rfl _ rfl _ _ _ _ (yEqA.refl L) (yFr.refl _ _) C
  · refine zr_tableL zi18_13 (by decide) rfl rfl ?_
    refine zr_aload_n zi18_146 rfl ?_
    refine zr_getfield zi18_147 (B.1.at0 rfl) rfl ?_
    refine zr_ireturn zi18_150 rfl ?_
    exact K _ _ _ _ _ _ _ _ _ _ _ _ _ hk rfl _ ht rfl _ rfl _ _ _ _ (yEqA.refl L) (yFr.refl _ _) C
  · refine zr_tableD zi18_13 (by decide) rfl ?_
    refine zr_aload_n zi18_151 rfl ?_
    refine zr_getfield zi18_152 (B.1.at0 rfl) rfl ?_
    refine zr_aload_n zi18_155 rfl ?_
    refine zr_getfield zi18_156 (B.1.at0 rfl) rfl ?_
    refine zr_sipush (v := zJ 500) zi18_159 rfl ?_
    refine zr_virtual zi18_162 rfl rfl (B.al.1.at0 rfl) rfl rfl ?_
    refine zcall_dep (d := 15) (Nat.le_of_ble_eq_true rfl) (c22t S B.al B.gr (by omega) (by omega) (fun h162 F162 A162 => zbk_v ?_))
    have B162p := B.putAl F162 A162
    replace F162 := F162.up (N := 17) (by omega)
    have H_162 := H.fr F162 (by intro a z1 z2 z3; simp only [yIv] at z3; omega)
    have S_162 := F162.ss S
    have F162c : yFr (yP a b) _ _ _ _ := F162.inr
    refine zr_virtual zi18_165 rfl rfl (B162p.al.1.at0 rfl) rfl rfl ?_
    refine zcall_dep (d := 0) (Nat.le_of_ble_eq_true rfl) (c37 B162p.al (zbk_v ?_))
    refine zr_aload_n zi18_168 rfl ?_
    refine zr_getfield zi18_169 (B162p.1.at0 rfl) rfl ?_
    refine zr_virtual zi18_172 rfl rfl (B162p.gr.1.at0 rfl) rfl rfl ?_
    refine zcall_dep (d := 1) (Nat.le_of_ble_eq_true rfl) (c38 B162p.gr (zbk_v ?_))
    refine zr_iand zi18_175 ?_
    refine zr_ireturn zi18_176 rfl ?_
    exact K _ _ _ _ _ _ _ _ _ _ _ _ _ hk rfl _ ht rfl _ rfl _ _ _ _ (yEqA_al hk) (yFr.pb hk F162c) (C.upd hk F162c H_162 (yBt.mk B162p) rfl (yAI.look (show yAI α from C.ai hk) B.al.lens (by show w + hh ≤ 10; omega)) C.ait)
theorem c47 {E : zEnv} {h : zPH} {Q : zOut → zPH → Prop} (S : ySs E h) {a : Nat} {L : List yBS} {rf : Int32} {τ : yGS} {αt : yAS} (C : yC h a L rf τ αt) {x y : Int32} (K : ∀ k b w hh cs cl fs α kp gd gu mi sp, L[k]? = some (b, (w, hh, cs, cl, fs), α, kp, gd, gu, mi, sp) → x = zJ k → ∀ n, n < 500 → y = zJ n → yK Q h a L L rf 0 0 (.inl (some (.int (ypn (yLk w hh 500 cs cl fs α).1.1 (yLk w hh 500 cs cl fs α).2.2.2.2.2.2 n))))) (X2 : ¬ zin x L.length → Q (.inr 2) (zex h)) (Y0 : ∀ k b w hh cs cl fs α kp gd gu mi sp, L[k]? = some (b, (w, hh, cs, cl, fs), α, kp, gd, gu, mi, sp) → x = zJ k → ¬ zin y 500 → Q (.inr 0) (zex h)) : zcall E 16 47 [.ref a, .int x, .int y] h Q := by
  have H := C.1
  have hlen := C.len
  have hbl : (L.map (·.1)).length = L.length := by rw [List.length_map]
  show zwp E _ 47 (0, [some (.ref _), some (.int _), some (.int _), none], [], _) Q
  refine zr_aload_n zi47_0 rfl ?_
  refine zr_iload_n zi47_1 rfl ?_
  refine zr_virtual zi47_2 rfl rfl (H.1.at0 rfl) rfl rfl ?_
  refine zcall_dep (d := 0) (Nat.le_of_ble_eq_true rfl) (c13 C (fun k β hk ex => zbk_v ?_) (fun x2 => zbk_no rfl (X2 x2)))
  subst ex
  obtain ⟨b, ⟨w, hh, cs, cl, fs⟩, α, kp, gd, gu, mi, sp⟩ := β
  have B : yB h b w hh cs cl fs α kp gd gu mi sp := (C.bd hk).1
  have hab : a + 16 ≤ b := (C.bd hk).2
  obtain ⟨⟨gw1, gw2, gh1, gh2⟩, gcs, gcl, gfs⟩ := B.gr.2
  obtain ⟨bkp, bgd, bgu⟩ := B.2.2.2.2
  have hwh := zwh_b B.gr.2.1
  refine zr_astore_n (L' := [some (.ref _), some (.int (zJ _)), some (.int _), some (.ref _)]) zi47_5 rfl rfl ?_
  refine zr_iload_n zi47_6 rfl ?_
  refine zr_if_lt zi47_7 rfl (fun q7 => ?_) (fun q7 => ?_)
  · refine zr_throw zi47_17 rfl rfl rfl ?_
    exact Y0 _ _ _ _ _ _ _ _ _ _ _ _ _ hk rfl (zin_no (by omega) (by first | exact Or.inl q7 | exact Or.inr q14))
  · refine zr_iload_n zi47_10 rfl ?_
    refine zr_sipush (v := zJ 500) zi47_11 rfl ?_
    refine zr_icmp_lt zi47_14 rfl (fun q14 => ?_) (fun q14 => ?_)
    · obtain ⟨n, hn3, rfl⟩ := zJ_of q7
      have hn : n < 500 := (zJ_lt hn3 (by omega)).mp q14
      refine zr_aload_n zi47_27 rfl ?_
      refine zr_getfield zi47_28 (B.1.at0 rfl) rfl ?_
      refine zr_aload_n zi47_31 rfl ?_
      refine zr_getfield zi47_32 (B.1.at0 rfl) rfl ?_
      refine zr_sipush (v := zJ 500) zi47_35 rfl ?_
      refine zr_virtual zi47_38 rfl rfl (B.al.1.at0 rfl) rfl rfl ?_
      refine zcall_dep (d := 15) (Nat.le_of_ble_eq_true rfl) (c22t S B.al B.gr (by omega) (by omega) (fun h38 F38 A38 => zbk_v ?_))
      have B38p := B.putAl F38 A38
      replace F38 := F38.up (N := 17) (by omega)
      have H_38 := H.fr F38 (by intro a z1 z2 z3; simp only [yIv] at z3; omega)
      have S_38 := F38.ss S
      have F38c : yFr (yP a b) _ _ _ _ := F38.inr
      refine zr_iload_n zi47_41 rfl ?_
      refine zr_virtual zi47_42 rfl rfl (B38p.al.1.at0 rfl) rfl rfl ?_
      refine zcall_dep (d := 0) (Nat.le_of_ble_eq_true rfl) (c48 B38p.al (by omega) (zbk_v ?_))
      refine zr_ireturn zi47_45 rfl ?_
      exact K _ _ _ _ _ _ _ _ _ _ _ _ _ hk rfl _ hn rfl _ _ _ _ (yEqA_al hk) (yFr.pb hk F38c) (C.upd hk F38c H_38 (yBt.mk B38p) rfl (yAI.look (show yAI α from C.ai hk) B.al.lens (by show w + hh ≤ 10; omega)) C.ait)
    · refine zr_throw zi47_17 rfl rfl rfl ?_
      exact Y0 _ _ _ _ _ _ _ _ _ _ _ _ _ hk rfl (zin_no (by omega) (by first | exact Or.inl q7 | exact Or.inr q14))
theorem c58 {E : zEnv} {h : zPH} {Q : zOut → zPH → Prop} (S : ySs E h) {a : Nat} {L : List yBS} {rf : Int32} {τ : yGS} {αt : yAS} (C : yC h a L rf τ αt) {x : Int32} (K : ∀ k b w hh cs cl fs α kp gd gu mi sp, L[k]? = some (b, (w, hh, cs, cl, fs), α, kp, gd, gu, mi, sp) → x = zJ k → yK Q h a L L rf 0 0 (.inl (some (.int (ynd (yLk w hh 500 cs cl fs α).1.1 (yLk w hh 500 cs cl fs α).2.2.2.2.2.2 ((yLk w hh 500 cs cl fs α).2.2.2.1 * (yLk w hh 500 cs cl fs α).2.2.2.2.1)))))) (X2 : ¬ zin x L.length → Q (.inr 2) (zex h)) : zcall E 16 58 [.ref a, .int x] h Q := by
  have H := C.1
  have hlen := C.len
  have hbl : (L.map (·.1)).length = L.length := by rw [List.length_map]
  show zwp E _ 58 (0, [some (.ref _), some (.int _), none], [], _) Q
  refine zr_aload_n zi58_0 rfl ?_
  refine zr_iload_n zi58_1 rfl ?_
  refine zr_virtual zi58_2 rfl rfl (H.1.at0 rfl) rfl rfl ?_
  refine zcall_dep (d := 0) (Nat.le_of_ble_eq_true rfl) (c13 C (fun k β hk ex => zbk_v ?_) (fun x2 => zbk_no rfl (X2 x2)))
  subst ex
  obtain ⟨b, ⟨w, hh, cs, cl, fs⟩, α, kp, gd, gu, mi, sp⟩ := β
  have B : yB h b w hh cs cl fs α kp gd gu mi sp := (C.bd hk).1
  have hab : a + 16 ≤ b := (C.bd hk).2
  obtain ⟨⟨gw1, gw2, gh1, gh2⟩, gcs, gcl, gfs⟩ := B.gr.2
  obtain ⟨bkp, bgd, bgu⟩ := B.2.2.2.2
  have hwh := zwh_b B.gr.2.1
  refine zr_astore_n (L' := [some (.ref _), some (.int (zJ _)), some (.ref _)]) zi58_5 rfl rfl ?_
  refine zr_aload_n zi58_6 rfl ?_
  refine zr_getfield zi58_7 (B.1.at0 rfl) rfl ?_
  refine zr_aload_n zi58_10 rfl ?_
  refine zr_getfield zi58_11 (B.1.at0 rfl) rfl ?_
  refine zr_sipush (v := zJ 500) zi58_14 rfl ?_
  refine zr_virtual zi58_17 rfl rfl (B.al.1.at0 rfl) rfl rfl ?_
  refine zcall_dep (d := 15) (Nat.le_of_ble_eq_true rfl) (c22t S B.al B.gr (by omega) (by omega) (fun h17 F17 A17 => zbk_v ?_))
  have B17p := B.putAl F17 A17
  replace F17 := F17.up (N := 17) (by omega)
  have H_17 := H.fr F17 (by intro a z1 z2 z3; simp only [yIv] at z3; omega)
  have S_17 := F17.ss S
  have F17c : yFr (yP a b) _ _ _ _ := F17.inr
  refine zr_virtual zi58_20 rfl rfl (B17p.al.1.at0 rfl) rfl rfl ?_
  refine zcall_dep (d := 1) (Nat.le_of_ble_eq_true rfl) (c59 B17p.al (zbk_v ?_))
  refine zr_ireturn zi58_23 rfl ?_
  exact K _ _ _ _ _ _ _ _ _ _ _ _ _ hk rfl _ _ _ _ (yEqA_al hk) (yFr.pb hk F17c) (C.upd hk F17c H_17 (yBt.mk B17p) rfl (yAI.look (show yAI α from C.ai hk) B.al.lens (by show w + hh ≤ 10; omega)) C.ait)
theorem c137 {E : zEnv} {h : zPH} {Q : zOut → zPH → Prop} (S : ySs E h) {a : Nat} {L : List yBS} {rf : Int32} {τ : yGS} {αt : yAS} (C : yC h a L rf τ αt) {x y : Int32} (K : ∀ k b w hh cs cl fs α kp gd gu mi sp, L[k]? = some (b, (w, hh, cs, cl, fs), α, kp, gd, gu, mi, sp) → x = zJ k → ∀ c, c < w * hh → y = zJ c → ∀ v, yM64 1057 v → v = ych (yLk w hh 500 cs cl fs α) c → yK Q h a L L rf 0 0 (.inl (some (.double v)))) (X2 : ¬ zin x L.length → Q (.inr 2) (zex h)) (Y2 : ∀ k b w hh cs cl fs α kp gd gu mi sp, L[k]? = some (b, (w, hh, cs, cl, fs), α, kp, gd, gu, mi, sp) → x = zJ k → ¬ zin y (w * hh) → Q (.inr 2) (zex h)) : zcall E 16 137 [.ref a, .int x, .int y] h Q := by
  have H := C.1
  have hlen := C.len
  have hbl : (L.map (·.1)).length = L.length := by rw [List.length_map]
  show zwp E _ 137 (0, [some (.ref _), some (.int _), some (.int _), none], [], _) Q
  refine zr_aload_n zi137_0 rfl ?_
  refine zr_iload_n zi137_1 rfl ?_
  refine zr_virtual zi137_2 rfl rfl (H.1.at0 rfl) rfl rfl ?_
  refine zcall_dep (d := 0) (Nat.le_of_ble_eq_true rfl) (c13 C (fun k β hk ex => zbk_v ?_) (fun x2 => zbk_no rfl (X2 x2)))
  subst ex
  obtain ⟨b, ⟨w, hh, cs, cl, fs⟩, α, kp, gd, gu, mi, sp⟩ := β
  have B : yB h b w hh cs cl fs α kp gd gu mi sp := (C.bd hk).1
  have hab : a + 16 ≤ b := (C.bd hk).2
  obtain ⟨⟨gw1, gw2, gh1, gh2⟩, gcs, gcl, gfs⟩ := B.gr.2
  obtain ⟨bkp, bgd, bgu⟩ := B.2.2.2.2
  have hwh := zwh_b B.gr.2.1
  refine zr_astore_n (L' := [some (.ref _), some (.int (zJ _)), some (.int _), some (.ref _)]) zi137_5 rfl rfl ?_
  refine zr_aload_n zi137_6 rfl ?_
  refine zr_getfield zi137_7 (B.1.at0 rfl) rfl ?_
  refine zr_iload_n zi137_10 rfl ?_
  refine zr_static zi137_11 rfl rfl rfl rfl ?_
  refine zcall_dep (d := 1) (Nat.le_of_ble_eq_true rfl) (c40 B.gr (fun c hc ec => zbk_0 ?_) (fun x11 => zbk_no rfl (Y2 _ _ _ _ _ _ _ _ _ _ _ _ _ hk rfl x11)))
  subst ec
  refine zr_aload_n zi137_14 rfl ?_
  refine zr_getfield zi137_15 (B.1.at0 rfl) rfl ?_
  refine zr_aload_n zi137_18 rfl ?_
  refine zr_getfield zi137_19 (B.1.at0 rfl) rfl ?_
  refine zr_sipush (v := zJ 500) zi137_22 rfl ?_
  refine zr_virtual zi137_25 rfl rfl (B.al.1.at0 rfl) rfl rfl ?_
  refine zcall_dep (d := 15) (Nat.le_of_ble_eq_true rfl) (c22t S B.al B.gr (by omega) (by omega) (fun h25 F25 A25 => zbk_v ?_))
  have B25p := B.putAl F25 A25
  replace F25 := F25.up (N := 17) (by omega)
  have H_25 := H.fr F25 (by intro a z1 z2 z3; simp only [yIv] at z3; omega)
  have S_25 := F25.ss S
  have F25c : yFr (yP a b) _ _ _ _ := F25.inr
  refine zr_iload_n zi137_28 rfl ?_
  refine zr_virtual zi137_29 rfl rfl (B25p.al.1.at0 rfl) rfl rfl ?_
  refine zcall_dep (d := 2) (Nat.le_of_ble_eq_true rfl) (c57t B25p.al (by omega) (fun h29 M29 F29 A29 => zbk_v ?_))
  have B29p := B25p.putAl F29 A29
  replace F29 := F29.up (N := 17) (by omega)
  have H_29 := H_25.fr F29 (by intro a z1 z2 z3; simp only [yIv] at z3; omega)
  have S_29 := F29.ss S_25
  have F29c : yFr (yP a b) _ _ _ _ := F29.inr
  refine zr_dreturn zi137_32 rfl ?_
  exact K _ _ _ _ _ _ _ _ _ _ _ _ _ hk rfl _ hc rfl _ M29 rfl _ _ _ _ (yEqA_al hk) (yFr.pb hk (F25c.trans F29c)) (C.upd hk (F25c.trans F29c) H_29 (yBt.mk B29p) rfl (yAI.cn (yAI.look (show yAI α from C.ai hk) B.al.lens (by show w + hh ≤ 10; omega)) B25p.al.dcl B25p.al.wh) C.ait)
theorem yzn_of {x : UInt64} (h : FP.Core.dIsNaN x = false) : zn64 x = true := by
  have h1 : ¬ (9218868437227405312 < x.toNat % 2 ^ 63) := fun q => by rw [(FP.Core.isNaN_bits x).mpr q] at h; cases h
  unfold zn64
  rw [decide_eq_true_iff, UInt64.le_iff_toNat_le, UInt64.toNat_and]
  have h2 : (0x7fffffffffffffff : UInt64).toNat = 2 ^ 63 - 1 := by decide
  have h3 : (0x7ff0000000000000 : UInt64).toNat = 9218868437227405312 := by decide
  rw [h2, h3, Nat.and_two_pow_sub_one_eq_mod]
  omega
theorem yDF_of {K : Nat} {x : UInt64} (h : yM64 K x) (hK : K ≤ 2047) : FP.Core.DFin x := FP.Core.fin_of_lt h hK
theorem yDF_f2d {K : Nat} {x : UInt32} (h : yM32 K x) (hK : K ≤ 255) : FP.Core.DFin (FP.f2d x) := by
  have h1 := FP.Core.fin_of_lt32 h hK
  unfold FP.f2d
  have h2 : FP.Core.fIsNaN x = false := by
    obtain ⟨s, c, q, e⟩ := h1
    rw [FP.Core.notNaN_iff32, e]
    exact fun z => by cases z
  rw [h2]
  exact FP.Core.f2d_fin h1
theorem yzn_mul {x y : UInt64} (hx : FP.Core.DFin x) (hy : FP.Core.DFin y) : zn64 (FP.dmul x y) = true := by
  refine yzn_of ?_
  cases hn : FP.Core.dIsNaN (FP.dmul x y) with
  | false => rfl
  | true =>
    obtain ⟨s, c, q, ex⟩ := hx
    obtain ⟨t, d, r, ey⟩ := hy
    have h1 := (FP.Core.dmul_nan_iff x y).mp hn
    rw [ex, ey] at h1
    rcases h1 with h1 | h1 | ⟨_, h1, _⟩ | ⟨_, _, h1⟩ <;> cases h1
theorem c49 {E : zEnv} {h : zPH} {Q : zOut → zPH → Prop} (S : ySs E h) {a : Nat} {L : List yBS} {rf : Int32} {τ : yGS} {αt : yAS} (C : yC h a L rf τ αt) {x y : Int32} (K : ∀ k b w hh cs cl fs α kp gd gu mi sp, L[k]? = some (b, (w, hh, cs, cl, fs), α, kp, gd, gu, mi, sp) → x = zJ k → ∀ t, t < 2 → y = zJ t → ∀ v, FP.Core.DFin v → v = (if t = 0 then ylo w hh cs fs else FP.f2d (yfo .g cs (yLk w hh 500 cs cl fs α) (w * hh)).1) → yK Q h a L L rf 0 0 (.inl (some (.double v)))) (X2 : ¬ zin x L.length → Q (.inr 2) (zex h)) (Y0 : ∀ k b w hh cs cl fs α kp gd gu mi sp, L[k]? = some (b, (w, hh, cs, cl, fs), α, kp, gd, gu, mi, sp) → x = zJ k → ¬ zin y 2 → Q (.inr 0) (zex h)) : zcall E 16 49 [.ref a, .int x, .int y] h Q := by
  have H := C.1
  have hlen := C.len
  have hbl : (L.map (·.1)).length = L.length := by rw [List.length_map]
  show zwp E _ 49 (0, [some (.ref _), some (.int _), some (.int _), none], [], _) Q
  refine zr_aload_n zi49_0 rfl ?_
  refine zr_iload_n zi49_1 rfl ?_
  refine zr_virtual zi49_2 rfl rfl (H.1.at0 rfl) rfl rfl ?_
  refine zcall_dep (d := 0) (Nat.le_of_ble_eq_true rfl) (c13 C (fun k β hk ex => zbk_v ?_) (fun x2 => zbk_no rfl (X2 x2)))
  subst ex
  obtain ⟨b, ⟨w, hh, cs, cl, fs⟩, α, kp, gd, gu, mi, sp⟩ := β
  have B : yB h b w hh cs cl fs α kp gd gu mi sp := (C.bd hk).1
  have hab : a + 16 ≤ b := (C.bd hk).2
  obtain ⟨⟨gw1, gw2, gh1, gh2⟩, gcs, gcl, gfs⟩ := B.gr.2
  obtain ⟨bkp, bgd, bgu⟩ := B.2.2.2.2
  have hwh := zwh_b B.gr.2.1
  refine zr_astore_n (L' := [some (.ref _), some (.int (zJ _)), some (.int _), some (.ref _)]) zi49_5 rfl rfl ?_
  refine zr_iload_n zi49_6 rfl ?_
  refine zr_iconst (v := zJ 1) zi49_7 rfl ?_
  refine zr_static zi49_8 rfl rfl rfl rfl ?_
  refine zcall_dep (d := 0) (Nat.le_of_ble_eq_true rfl) (c12 (by omega) (fun t ht et => zbk_0 ?_) (fun x8 => zbk_no rfl (Y0 _ _ _ _ _ _ _ _ _ _ _ _ _ hk rfl x8)))
  subst et
  refine zr_iload_n zi49_11 rfl ?_
  refine zr_if_neN zi49_12 rfl (by omega) (fun q12 => ?_) (fun q12 => ?_)
  · refine zr_aload_n zi49_25 rfl ?_
    refine zr_getfield zi49_26 (B.1.at0 rfl) rfl ?_
    refine zr_aload_n zi49_29 rfl ?_
    refine zr_getfield zi49_30 (B.1.at0 rfl) rfl ?_
    refine zr_sipush (v := zJ 500) zi49_33 rfl ?_
    refine zr_virtual zi49_36 rfl rfl (B.al.1.at0 rfl) rfl rfl ?_
    refine zcall_dep (d := 15) (Nat.le_of_ble_eq_true rfl) (c22t S B.al B.gr (by omega) (by omega) (fun h36 F36 A36 => zbk_v ?_))
    have B36p := B.putAl F36 A36
    replace F36 := F36.up (N := 17) (by omega)
    have H_36 := H.fr F36 (by intro a z1 z2 z3; simp only [yIv] at z3; omega)
    have S_36 := F36.ss S
    have F36c : yFr (yP a b) _ _ _ _ := F36.inr
    refine zr_aload_n zi49_39 rfl ?_
    refine zr_getfield zi49_40 (B36p.1.at0 rfl) rfl ?_
    refine zr_virtual zi49_43 rfl rfl (B36p.al.1.at0 rfl) rfl rfl ?_
    refine zcall_dep (d := 2) (Nat.le_of_ble_eq_true rfl) (c52t B36p.al B36p.gr (by omega) (fun h43 M43 F43 A43 => zbk_v ?_))
    have B43p := B36p.putAl F43 A43
    replace F43 := F43.up (N := 17) (by omega)
    have H_43 := H_36.fr F43 (by intro a z1 z2 z3; simp only [yIv] at z3; omega)
    have S_43 := F43.ss S_36
    have F43c : yFr (yP a b) _ _ _ _ := F43.inr
    refine zr_f2d zi49_46 (yzn_of (yDF_f2d M43 (by omega)).notNaN) ?_
    refine zr_dreturn zi49_47 rfl ?_
    exact K _ _ _ _ _ _ _ _ _ _ _ _ _ hk rfl _ ht rfl _ (yDF_f2d M43 (by omega)) (if_neg q12).symm _ _ _ _ (yEqA_al hk) (yFr.pb hk (F36c.trans F43c)) (C.upd hk (F36c.trans F43c) H_43 (yBt.mk B43p) rfl (yAI.fo (yAI.look (show yAI α from C.ai hk) B.al.lens (by show w + hh ≤ 10; omega)) _ _ B36p.al.dcl B36p.al.wh _) C.ait)
  · refine zr_aload_n zi49_15 rfl ?_
    refine zr_getfield zi49_16 (B.1.at0 rfl) rfl ?_
    refine zr_virtual zi49_19 rfl rfl (B.gr.1.at0 rfl) rfl rfl ?_
    refine zcall_dep (d := 2) (Nat.le_of_ble_eq_true rfl) (c50 S B.gr (fun M19 => zbk_v ?_))
    refine zr_goto zi49_22 rfl ?_
    refine zr_dreturn zi49_47 rfl ?_
    exact K _ _ _ _ _ _ _ _ _ _ _ _ _ hk rfl _ ht rfl _ (yDF_of M19 (by omega)) (if_pos q12).symm _ _ _ _ (yEqA.refl L) (yFr.refl _ _) C
def zmv (β : yBS) (t : Nat) : Int32 := if t = 2 then β.2.2.2.2.2.2.1 else if t = 3 then zJ (zct β.2.1.2.2.1 (zJ 0) (β.2.1.1 * β.2.1.2.1)) else zJ β.2.2.2.2.2.1
def zms (L : List yBS) (t : Nat) : Nat → Int32
  | 0 => zJ 0
  | k + 1 => zms L t k + (match L[k]? with | some β => zmv β t | none => 0)
def zmy (L : List yBS) (rf : Int32) (t : Nat) : Int32 := if t = 0 then zJ L.length else if t = 1 then rf else zms L t L.length
theorem c11 {E : zEnv} {h : zPH} {Q : zOut → zPH → Prop} (S : ySs E h) {a : Nat} {L : List yBS} {rf : Int32} {τ : yGS} {αt : yAS} (C : yC h a L rf τ αt) {x : Int32} (K : ∀ t, t < 5 → x = zJ t → yK Q h a L L rf 0 0 (.inl (some (.int (zmy L rf t))))) (X0 : ¬ zin x 5 → Q (.inr 0) (zex h))  : zcall E 2 11 [.ref a, .int x] h Q := by
  have H := C.1
  have hlen := C.len
  have hbl : (L.map (·.1)).length = L.length := by rw [List.length_map]
  show zwp E _ 11 (0, [some (.ref _), some (.int _), none, none, none], [], _) Q
  refine zr_iload_n zi11_0 rfl ?_
  refine zr_iconst (v := zJ 4) zi11_1 rfl ?_
  refine zr_static zi11_2 rfl rfl rfl rfl ?_
  refine zcall_dep (d := 0) (Nat.le_of_ble_eq_true rfl) (c12 (by omega) (fun t ht et => zbk_0 ?_) (fun x2 => zbk_no rfl (X0 x2)))
  subst et
  have KK := K _ ht rfl
  refine zr_iload_n zi11_5 rfl ?_
  refine zr_iconst (v := zJ 1) zi11_6 rfl ?_
  refine zr_icmp_gtN zi11_7 rfl (by omega) (by omega) (fun q7 => ?_) (fun q7 => ?_)
  · have e1 : zmy L rf t = zms L t L.length := by rw [zmy, if_neg (by omega), if_neg (by omega)]
    rw [e1] at KK
    refine zr_iconst (v := zJ 0) zi11_26 rfl ?_
    refine zr_istore_n (L' := [some (.ref _), some (.int (zJ _)), some (.int (zJ _)), none, none]) zi11_27 rfl rfl ?_
    refine zr_iconst (v := zJ 0) zi11_28 rfl ?_
    refine zr_istore_n (L' := [some (.ref _), some (.int (zJ _)), some (.int (zJ _)), some (.int (zJ _)), none]) zi11_29 rfl rfl ?_
    suffices key30 : ∀ x4, zwp E 2 11 (30, [some (.ref a), some (.int (zJ t)), some (.int (zms L t 0)), some (.int (zJ 0)), x4], [], h) Q from key30 _
    refine zloop (P := fun k => ∀ x4, zwp E 2 11 (30, [some (.ref a), some (.int (zJ t)), some (.int (zms L t k)), some (.int (zJ k)), x4], [], h) Q) (n := L.length) fun k hk30 ih30 => ?_
    intro x4
    refine zr_iload_n zi11_30 rfl ?_
    refine zr_aload_n zi11_31 rfl ?_
    refine zr_getfield zi11_32 (H.1.at0 rfl) rfl ?_
    refine zr_icmp_geN zi11_35 rfl (by omega) (by omega) (fun q35 => ?_) (fun q35 => ?_)
    · refine zr_iload_n zi11_89 rfl ?_
      refine zr_ireturn zi11_90 rfl ?_
      obtain rfl : k = L.length := by omega
      exact KK _ _ _ _ (yEqA.refl L) (yFr.refl _ _) C
    · refine zr_aload_n zi11_38 rfl ?_
      refine zr_iload_n zi11_39 rfl ?_
      refine zr_virtual zi11_40 rfl rfl (H.1.at0 rfl) rfl rfl ?_
      refine zcall_dep (d := 0) (Nat.le_of_ble_eq_true rfl) (c13 C (fun k2 β hk ex => zbk_v ?_) (fun x40 => absurd ⟨k, by omega, rfl⟩ x40))
      obtain rfl := (zJ_eq (by omega) (by have := ylt_of hk; omega)).mp ex
      obtain ⟨b, ⟨w, hh, cs, cl, fs⟩, α, kp, gd, gu, mi, sp⟩ := β
      have B : yB h b w hh cs cl fs α kp gd gu mi sp := (C.bd hk).1
      have hab : a + 16 ≤ b := (C.bd hk).2
      obtain ⟨⟨gw1, gw2, gh1, gh2⟩, gcs, gcl, gfs⟩ := B.gr.2
      obtain ⟨bkp, bgd, bgu⟩ := B.2.2.2.2
      have hwh := zwh_b B.gr.2.1
      refine zr_astore (L' := [some (.ref _), some (.int (zJ _)), some (.int _), some (.int (zJ _)), some (.ref _)]) zi11_43 rfl rfl ?_
      refine zr_iload_n zi11_45 rfl ?_
      refine zr_iload_n zi11_46 rfl ?_
      refine zr_iconst (v := zJ 2) zi11_47 rfl ?_
      refine zr_icmp_neN zi11_48 rfl (by omega) (by omega) (fun q48 => ?_) (fun q48 => ?_)
      · refine zr_iload_n zi11_59 rfl ?_
        refine zr_iconst (v := zJ 3) zi11_60 rfl ?_
        refine zr_icmp_neN zi11_61 rfl (by omega) (by omega) (fun q61 => ?_) (fun q61 => ?_)
        · refine zr_aload zi11_76 rfl ?_
          refine zr_getfield zi11_78 (B.1.at0 rfl) rfl ?_
          refine zr_iadd zi11_81 ?_
          refine zr_istore_n (L' := [some (.ref _), some (.int (zJ _)), some (.int _), some (.int (zJ _)), some (.ref _)]) zi11_82 rfl rfl ?_
          refine zr_iincN (z := 1) (L' := [some (.ref _), some (.int (zJ _)), some (.int _), some (.int (zJ _)), some (.ref _)]) zi11_83 rfl rfl rfl rfl ?_
          refine zr_goto zi11_86 rfl ?_
          have en := ih30 (by omega)
          rw [zms, hk] at en
          simp only [zmv] at en
          first | rw [if_pos q48] at en | rw [if_neg q48, if_pos q61] at en | rw [if_neg q48, if_neg q61] at en
          exact en _
        · refine zr_aload zi11_64 rfl ?_
          refine zr_getfield zi11_66 (B.1.at0 rfl) rfl ?_
          refine zr_iconst (v := zJ 0) zi11_69 rfl ?_
          refine zr_virtual zi11_70 rfl rfl (B.gr.1.at0 rfl) rfl rfl ?_
          refine zcall_dep (d := 1) (Nat.le_of_ble_eq_true rfl) (c14 B.gr (zbk_v ?_))
          refine zr_goto zi11_73 rfl ?_
          refine zr_iadd zi11_81 ?_
          refine zr_istore_n (L' := [some (.ref _), some (.int (zJ _)), some (.int _), some (.int (zJ _)), some (.ref _)]) zi11_82 rfl rfl ?_
          refine zr_iincN (z := 1) (L' := [some (.ref _), some (.int (zJ _)), some (.int _), some (.int (zJ _)), some (.ref _)]) zi11_83 rfl rfl rfl rfl ?_
          refine zr_goto zi11_86 rfl ?_
          have en := ih30 (by omega)
          rw [zms, hk] at en
          simp only [zmv] at en
          first | rw [if_pos q48] at en | rw [if_neg q48, if_pos q61] at en | rw [if_neg q48, if_neg q61] at en
          exact en _
      · refine zr_aload zi11_51 rfl ?_
        refine zr_getfield zi11_53 (B.1.at0 rfl) rfl ?_
        refine zr_goto zi11_56 rfl ?_
        refine zr_iadd zi11_81 ?_
        refine zr_istore_n (L' := [some (.ref _), some (.int (zJ _)), some (.int _), some (.int (zJ _)), some (.ref _)]) zi11_82 rfl rfl ?_
        refine zr_iincN (z := 1) (L' := [some (.ref _), some (.int (zJ _)), some (.int _), some (.int (zJ _)), some (.ref _)]) zi11_83 rfl rfl rfl rfl ?_
        refine zr_goto zi11_86 rfl ?_
        have en := ih30 (by omega)
        rw [zms, hk] at en
        simp only [zmv] at en
        first | rw [if_pos q48] at en | rw [if_neg q48, if_pos q61] at en | rw [if_neg q48, if_neg q61] at en
        exact en _
  · refine zr_iload_n zi11_10 rfl ?_
    refine zr_if_neN zi11_11 rfl (by omega) (fun q11 => ?_) (fun q11 => ?_)
    · obtain rfl : t = 1 := by omega
      refine zr_aload_n zi11_21 rfl ?_
      refine zr_getfield zi11_22 (H.1.at0 rfl) rfl ?_
      refine zr_ireturn zi11_25 rfl ?_
      exact KK _ _ _ _ (yEqA.refl L) (yFr.refl _ _) C
    · rw [q11] at KK
      have e0 : zmy L rf 0 = zJ (L.map (·.1)).length := by rw [hbl]; rfl
      rw [e0] at KK
      refine zr_aload_n zi11_14 rfl ?_
      refine zr_getfield zi11_15 (H.1.at0 rfl) rfl ?_
      refine zr_goto zi11_18 rfl ?_
      refine zr_ireturn zi11_25 rfl ?_
      exact KK _ _ _ _ (yEqA.refl L) (yFr.refl _ _) C
def zhn (w hh : Nat) (cs fs : List Int32) : Nat → Int32 × Int32
  | 0 => (-1, zJ 0)
  | k + 1 => if zbc (yfl w hh cs (zws w hh cs fs k) k (zJ 1)) + zbc (yfl w hh cs (zws w hh cs fs k) k (zJ 2)) ≤ (zhn w hh cs fs k).2 then zhn w hh cs fs k else (zJ k, zbc (yfl w hh cs (zws w hh cs fs k) k (zJ 1)) + zbc (yfl w hh cs (zws w hh cs fs k) k (zJ 2)))
theorem c55 {E : zEnv} {h : zPH} {Q : zOut → zPH → Prop} (S : ySs E h) {a : Nat} {L : List yBS} {rf : Int32} {τ : yGS} {αt : yAS} (C : yC h a L rf τ αt) {x : Int32} (K : ∀ k b w hh cs cl fs α kp gd gu mi sp, L[k]? = some (b, (w, hh, cs, cl, fs), α, kp, gd, gu, mi, sp) → x = zJ k → yK Q h a L L rf 0 0 (.inl (some (.int (zhn w hh cs fs (w + hh)).1)))) (X2 : ¬ zin x L.length → Q (.inr 2) (zex h)) : zcall E 3 55 [.ref a, .int x] h Q := by
  have H := C.1
  have hlen := C.len
  have hbl : (L.map (·.1)).length = L.length := by rw [List.length_map]
  show zwp E _ 55 (0, [some (.ref _), some (.int _), none, none, none, none, none], [], _) Q
  refine zr_aload_n zi55_0 rfl ?_
  refine zr_iload_n zi55_1 rfl ?_
  refine zr_virtual zi55_2 rfl rfl (H.1.at0 rfl) rfl rfl ?_
  refine zcall_dep (d := 0) (Nat.le_of_ble_eq_true rfl) (c13 C (fun k β hk ex => zbk_v ?_) (fun x2 => zbk_no rfl (X2 x2)))
  subst ex
  obtain ⟨b, ⟨w, hh, cs, cl, fs⟩, α, kp, gd, gu, mi, sp⟩ := β
  have B : yB h b w hh cs cl fs α kp gd gu mi sp := (C.bd hk).1
  have hab : a + 16 ≤ b := (C.bd hk).2
  obtain ⟨⟨gw1, gw2, gh1, gh2⟩, gcs, gcl, gfs⟩ := B.gr.2
  obtain ⟨bkp, bgd, bgu⟩ := B.2.2.2.2
  have hwh := zwh_b B.gr.2.1
  refine zr_getfield zi55_5 (B.1.at0 rfl) rfl ?_
  refine zr_astore_n (L' := [some (.ref _), some (.int (zJ _)), some (.ref _), none, none, none, none]) zi55_8 rfl rfl ?_
  refine zr_iconst (v := (-1)) zi55_9 rfl ?_
  refine zr_istore_n (L' := [some (.ref _), some (.int (zJ _)), some (.ref _), some (.int _), none, none, none]) zi55_10 rfl rfl ?_
  refine zr_iconst (v := zJ 0) zi55_11 rfl ?_
  refine zr_istore (L' := [some (.ref _), some (.int (zJ _)), some (.ref _), some (.int _), some (.int (zJ _)), none, none]) zi55_12 rfl rfl ?_
  refine zr_iconst (v := zJ 0) zi55_14 rfl ?_
  refine zr_istore (L' := [some (.ref _), some (.int (zJ _)), some (.ref _), some (.int _), some (.int (zJ _)), some (.int (zJ _)), none]) zi55_15 rfl rfl ?_
  suffices key17 : ∀ x6, zwp E 3 55 (17, [some (.ref a), some (.int (zJ k)), some (.ref (b + 13)), some (.int (zhn w hh cs fs 0).1), some (.int (zhn w hh cs fs 0).2), some (.int (zJ 0)), x6], [], h) Q from key17 _
  refine zloop (P := fun i => ∀ x6, zwp E 3 55 (17, [some (.ref a), some (.int (zJ k)), some (.ref (b + 13)), some (.int (zhn w hh cs fs i).1), some (.int (zhn w hh cs fs i).2), some (.int (zJ i)), x6], [], h) Q) (n := w + hh) fun i hk17 ih17 => ?_
  intro x6
  refine zr_iload zi55_17 rfl ?_
  refine zr_aload_n zi55_19 rfl ?_
  refine zr_virtual zi55_20 rfl rfl (B.gr.1.at0 rfl) rfl rfl ?_
  refine zcall_dep (d := 0) (Nat.le_of_ble_eq_true rfl) (c4 B.gr (zbk_v ?_))
  refine zr_icmp_geN zi55_23 rfl (by omega) (by omega) (fun q23 => ?_) (fun q23 => ?_)
  · refine zr_iload_n zi55_69 rfl ?_
    refine zr_ireturn zi55_70 rfl ?_
    obtain rfl : i = w + hh := by omega
    exact K _ _ _ _ _ _ _ _ _ _ _ _ _ hk rfl _ _ _ _ (yEqA.refl L) (yFr.refl _ _) C
  · refine zr_aload_n zi55_26 rfl ?_
    refine zr_iload zi55_27 rfl ?_
    refine zr_iconst (v := zJ 1) zi55_29 rfl ?_
    refine zr_virtual zi55_30 rfl rfl (B.gr.1.at0 rfl) rfl rfl ?_
    refine zcall_dep (d := 2) (Nat.le_of_ble_eq_true rfl) (c45 S B.gr (by omega) (zbk_v ?_))
    refine zr_static zi55_33 rfl rfl rfl rfl ?_
    refine zcall_dep (d := 0) (Nat.le_of_ble_eq_true rfl) (c29 (zbk_v ?_))
    refine zr_aload_n zi55_36 rfl ?_
    refine zr_iload zi55_37 rfl ?_
    refine zr_iconst (v := zJ 2) zi55_39 rfl ?_
    refine zr_virtual zi55_40 rfl rfl (B.gr.1.at0 rfl) rfl rfl ?_
    refine zcall_dep (d := 2) (Nat.le_of_ble_eq_true rfl) (c45 S B.gr (by omega) (zbk_v ?_))
    refine zr_static zi55_43 rfl rfl rfl rfl ?_
    refine zcall_dep (d := 0) (Nat.le_of_ble_eq_true rfl) (c29 (zbk_v ?_))
    refine zr_iadd zi55_46 ?_
    refine zr_istore (L' := [some (.ref _), some (.int (zJ _)), some (.ref _), some (.int _), some (.int _), some (.int (zJ _)), some (.int _)]) zi55_47 rfl rfl ?_
    refine zr_iload zi55_49 rfl ?_
    refine zr_iload zi55_51 rfl ?_
    refine zr_icmp_le zi55_53 rfl (fun q53 => ?_) (fun q53 => ?_)
    · refine zr_iincN (z := 1) (L' := [some (.ref _), some (.int (zJ _)), some (.ref _), some (.int _), some (.int _), some (.int (zJ _)), some (.int _)]) zi55_63 rfl rfl rfl rfl ?_
      refine zr_goto zi55_66 rfl ?_
      have en := ih17 (by omega)
      rw [zhn] at en
      first | rw [if_pos q53] at en | rw [if_neg q53] at en
      exact en _
    · refine zr_iload zi55_56 rfl ?_
      refine zr_istore_n (L' := [some (.ref _), some (.int (zJ _)), some (.ref _), some (.int (zJ _)), some (.int _), some (.int (zJ _)), some (.int _)]) zi55_58 rfl rfl ?_
      refine zr_iload zi55_59 rfl ?_
      refine zr_istore (L' := [some (.ref _), some (.int (zJ _)), some (.ref _), some (.int (zJ _)), some (.int _), some (.int (zJ _)), some (.int _)]) zi55_61 rfl rfl ?_
      refine zr_iincN (z := 1) (L' := [some (.ref _), some (.int (zJ _)), some (.ref _), some (.int (zJ _)), some (.int _), some (.int (zJ _)), some (.int _)]) zi55_63 rfl rfl rfl rfl ?_
      refine zr_goto zi55_66 rfl ?_
      have en := ih17 (by omega)
      rw [zhn] at en
      first | rw [if_pos q53] at en | rw [if_neg q53] at en
      exact en _
def yfar (o : UInt64) : UInt64 := if 0 ≤ Op.cmpValue (FP.dcmp o FP.dconst0) .g then o else FP.dneg o
def yts (cs : List Int32) (α : yAS) : Nat → Int32 × UInt64 × yAS
  | 0 => (-1, FP.dconst1, α)
  | k + 1 => if zst cs k = 0 then (if 0 ≤ Op.cmpValue (FP.dcmp (yfar (FP.dsub (ych (yts cs α k).2.2 k) 4602678819172646912)) (yts cs α k).2.1) .g then ((yts cs α k).1, (yts cs α k).2.1, yCn (yts cs α k).2.2) else (zJ k, yfar (FP.dsub (ych (yts cs α k).2.2 k) 4602678819172646912), yCn (yts cs α k).2.2)) else yts cs α k
theorem c56 {E : zEnv} {h : zPH} {Q : zOut → zPH → Prop} (S : ySs E h) {a : Nat} {L : List yBS} {rf : Int32} {τ : yGS} {αt : yAS} (C : yC h a L rf τ αt) {x : Int32} (K : ∀ k b w hh cs cl fs α kp gd gu mi sp, L[k]? = some (b, (w, hh, cs, cl, fs), α, kp, gd, gu, mi, sp) → x = zJ k → ∀ v, v = (if (yLk w hh 500 cs cl fs α).2.2.2.2.2.2 = 0 then -1 else (yts cs (yLk w hh 500 cs cl fs α) (w * hh)).1) → yK Q h a L L rf 0 0 (.inl (some (.int v)))) (X2 : ¬ zin x L.length → Q (.inr 2) (zex h)) : zcall E 16 56 [.ref a, .int x] h Q := by
  have H := C.1
  have hlen := C.len
  have hbl : (L.map (·.1)).length = L.length := by rw [List.length_map]
  show zwp E _ 56 (0, [some (.ref _), some (.int _), none, none, none, none, none, none, none, none, none, none], [], _) Q
  refine zr_aload_n zi56_0 rfl ?_
  refine zr_iload_n zi56_1 rfl ?_
  refine zr_virtual zi56_2 rfl rfl (H.1.at0 rfl) rfl rfl ?_
  refine zcall_dep (d := 0) (Nat.le_of_ble_eq_true rfl) (c13 C (fun k β hk ex => zbk_v ?_) (fun x2 => zbk_no rfl (X2 x2)))
  subst ex
  obtain ⟨b, ⟨w, hh, cs, cl, fs⟩, α, kp, gd, gu, mi, sp⟩ := β
  have B : yB h b w hh cs cl fs α kp gd gu mi sp := (C.bd hk).1
  have hab : a + 16 ≤ b := (C.bd hk).2
  obtain ⟨⟨gw1, gw2, gh1, gh2⟩, gcs, gcl, gfs⟩ := B.gr.2
  obtain ⟨bkp, bgd, bgu⟩ := B.2.2.2.2
  have hwh := zwh_b B.gr.2.1
  refine zr_astore_n (L' := [some (.ref _), some (.int (zJ _)), some (.ref _), none, none, none, none, none, none, none, none, none]) zi56_5 rfl rfl ?_
  refine zr_aload_n zi56_6 rfl ?_
  refine zr_getfield zi56_7 (B.1.at0 rfl) rfl ?_
  refine zr_aload_n zi56_10 rfl ?_
  refine zr_getfield zi56_11 (B.1.at0 rfl) rfl ?_
  refine zr_sipush (v := zJ 500) zi56_14 rfl ?_
  refine zr_virtual zi56_17 rfl rfl (B.al.1.at0 rfl) rfl rfl ?_
  refine zcall_dep (d := 15) (Nat.le_of_ble_eq_true rfl) (c22t S B.al B.gr (by omega) (by omega) (fun h17 F17 A17 => zbk_v ?_))
  have B17p := B.putAl F17 A17
  replace F17 := F17.up (N := 17) (by omega)
  have H_17 := H.fr F17 (by intro a z1 z2 z3; simp only [yIv] at z3; omega)
  have S_17 := F17.ss S
  have F17c : yFr (yP a b) _ _ _ _ := F17.inr
  refine zr_astore_n (L' := [some (.ref _), some (.int (zJ _)), some (.ref _), some (.ref _), none, none, none, none, none, none, none, none]) zi56_20 rfl rfl ?_
  refine zr_iconst (v := (-1)) zi56_21 rfl ?_
  refine zr_istore (L' := [some (.ref _), some (.int (zJ _)), some (.ref _), some (.ref _), some (.int _), none, none, none, none, none, none, none]) zi56_22 rfl rfl ?_
  refine zr_dconst1 zi56_24 ?_
  refine zr_dstore (L' := [some (.ref _), some (.int (zJ _)), some (.ref _), some (.ref _), some (.int _), some (.double _), none, none, none, none, none, none]) zi56_25 rfl rfl ?_
  refine zr_aload_n zi56_27 rfl ?_
  refine zr_getfield zi56_28 (B17p.al.1.at0 rfl) rfl ?_
  refine zr_if_neN zi56_31 rfl (Nat.lt_of_le_of_lt B17p.al.2.2.2.2.2.2 (by decide)) (fun q31 => ?_) (fun q31 => ?_)
  · refine zr_iconst (v := zJ 0) zi56_36 rfl ?_
    refine zr_istore (L' := [some (.ref _), some (.int (zJ _)), some (.ref _), some (.ref _), some (.int _), some (.double _), none, some (.int (zJ _)), none, none, none, none]) zi56_37 rfl rfl ?_
    suffices key39 : ∀ h1 x8 x9 x10 x11, (yFr (yP a b) h h1 0 0) → (yH h1 a (L.map (·.1)) rf τ αt) → (yB h1 b w hh cs cl fs (yts cs (yLk w hh 500 cs cl fs α) (0)).2.2 kp gd gu mi sp) → (yAI (yts cs (yLk w hh 500 cs cl fs α) (0)).2.2) → zwp E 16 56 (39, [some (.ref a), some (.int (zJ k)), some (.ref b), some (.ref (b + 1)), some (.int (yts cs (yLk w hh 500 cs cl fs α) (0)).1), some (.double (yts cs (yLk w hh 500 cs cl fs α) (0)).2.1), none, some (.int (zJ 0)), x8, x9, x10, x11], [], h1) Q from key39 _ _ _ _ _ F17c H_17 B17p (yAI.look (show yAI α from C.ai hk) B.al.lens (by show w + hh ≤ 10; omega))
    refine zloop (P := fun i => ∀ h1 x8 x9 x10 x11, (yFr (yP a b) h h1 0 0) → (yH h1 a (L.map (·.1)) rf τ αt) → (yB h1 b w hh cs cl fs (yts cs (yLk w hh 500 cs cl fs α) (i)).2.2 kp gd gu mi sp) → (yAI (yts cs (yLk w hh 500 cs cl fs α) (i)).2.2) → zwp E 16 56 (39, [some (.ref a), some (.int (zJ k)), some (.ref b), some (.ref (b + 1)), some (.int (yts cs (yLk w hh 500 cs cl fs α) (i)).1), some (.double (yts cs (yLk w hh 500 cs cl fs α) (i)).2.1), none, some (.int (zJ i)), x8, x9, x10, x11], [], h1) Q) (n := w * hh) fun i hk39 ih39 => ?_
    intro h1 x8 x9 x10 x11 F1 H1 B1 I1
    have S_1 := F1.ss S
    refine zr_iload zi56_39 rfl ?_
    refine zr_aload_n zi56_41 rfl ?_
    refine zr_getfield zi56_42 (B1.1.at0 rfl) rfl ?_
    refine zr_virtual zi56_45 rfl rfl (B1.gr.1.at0 rfl) rfl rfl ?_
    refine zcall_dep (d := 0) (Nat.le_of_ble_eq_true rfl) (c15 B1.gr (zbk_v ?_))
    refine zr_icmp_geN zi56_48 rfl (by omega) (by omega) (fun q48 => ?_) (fun q48 => ?_)
    · refine zr_iload zi56_114 rfl ?_
      refine zr_ireturn zi56_116 rfl ?_
      obtain rfl : i = w * hh := by omega
      exact K _ _ _ _ _ _ _ _ _ _ _ _ _ hk rfl _ (if_neg q31).symm _ _ _ _ (yEqA_al hk) (yFr.pb hk F1) (C.upd hk F1 H1 (yBt.mk B1) rfl I1 C.ait)
    · refine zr_aload_n zi56_51 rfl ?_
      refine zr_getfield zi56_52 (B1.1.at0 rfl) rfl ?_
      refine zr_iload zi56_55 rfl ?_
      refine zr_virtual zi56_57 rfl rfl (B1.gr.1.at0 rfl) rfl rfl ?_
      refine zcall_dep (d := 0) (Nat.le_of_ble_eq_true rfl) (c16 B1.gr (by omega) (zbk_v ?_))
      refine zr_if_ne zi56_60 rfl (fun q60 => ?_) (fun q60 => ?_)
      · refine zr_iincN (z := 1) (L' := [some (.ref _), some (.int (zJ _)), some (.ref _), some (.ref _), some (.int _), some (.double _), none, some (.int (zJ _)), _, _, _, _]) zi56_108 rfl rfl rfl rfl ?_
        refine zr_goto zi56_111 rfl ?_
        have en := ih39 (by omega)
        rw [yts] at en
        first
          | (rw [if_neg q60] at en; exact en _ _ _ _ _ F1 H1 B1 I1)
          | (rw [if_pos q60, yfar] at en
             first | rw [if_pos q79] at en | rw [if_neg q79] at en
             first | rw [if_pos q97] at en | rw [if_neg q97] at en
             exact en _ _ _ _ _ F1 H1 B1 I1)
      · refine zr_aload_n zi56_63 rfl ?_
        refine zr_iload zi56_64 rfl ?_
        refine zr_virtual zi56_66 rfl rfl (B1.al.1.at0 rfl) rfl rfl ?_
        refine zcall_dep (d := 2) (Nat.le_of_ble_eq_true rfl) (c57t B1.al (by omega) (fun h66 M66 F66 A66 => zbk_v ?_))
        have B66p := B1.putAl F66 A66
        replace F66 := F66.up (N := 17) (by omega)
        have H_66 := H1.fr F66 (by intro a z1 z2 z3; simp only [yIv] at z3; omega)
        have S_66 := F66.ss S_1
        have F66c : yFr (yP a b) _ _ _ _ := F66.inr
        refine zr_ldc2d zi56_69 ?_
        have hsb := yM_dsub M66 (show yM64 1057 4602678819172646912 by unfold yM64; decide) (by omega)
        refine zr_dsub zi56_72 (hsb.zn (by omega)) ?_
        refine zr_dstore (L' := [some (.ref _), some (.int (zJ _)), some (.ref _), some (.ref _), some (.int _), some (.double _), none, some (.int (zJ _)), some (.double _), none, _, _]) zi56_73 rfl rfl ?_
        refine zr_dload zi56_75 rfl ?_
        refine zr_dconst0 zi56_77 ?_
        refine zr_dcmp zi56_78 ?_
        refine zr_if_ge zi56_79 rfl (fun q79 => ?_) (fun q79 => ?_)
        · refine zr_dload zi56_88 rfl ?_
          refine zr_dstore (L' := [some (.ref _), some (.int (zJ _)), some (.ref _), some (.ref _), some (.int _), some (.double _), none, some (.int (zJ _)), some (.double _), none, some (.double _), none]) zi56_90 rfl rfl ?_
          refine zr_dload zi56_92 rfl ?_
          refine zr_dload zi56_94 rfl ?_
          refine zr_dcmp zi56_96 ?_
          refine zr_if_ge zi56_97 rfl (fun q97 => ?_) (fun q97 => ?_)
          · refine zr_iincN (z := 1) (L' := [some (.ref _), some (.int (zJ _)), some (.ref _), some (.ref _), some (.int _), some (.double _), none, some (.int (zJ _)), some (.double _), none, some (.double _), none]) zi56_108 rfl rfl rfl rfl ?_
            refine zr_goto zi56_111 rfl ?_
            have en := ih39 (by omega)
            rw [yts] at en
            first
              | (rw [if_neg q60] at en; exact en _ _ _ _ _ (F1.trans F66c) H_66 B66p (yAI.cn I1 B1.al.dcl B1.al.wh))
              | (rw [if_pos q60, yfar] at en
                 first | rw [if_pos q79] at en | rw [if_neg q79] at en
                 first | rw [if_pos q97] at en | rw [if_neg q97] at en
                 exact en _ _ _ _ _ (F1.trans F66c) H_66 B66p (yAI.cn I1 B1.al.dcl B1.al.wh))
          · refine zr_iload zi56_100 rfl ?_
            refine zr_istore (L' := [some (.ref _), some (.int (zJ _)), some (.ref _), some (.ref _), some (.int (zJ _)), some (.double _), none, some (.int (zJ _)), some (.double _), none, some (.double _), none]) zi56_102 rfl rfl ?_
            refine zr_dload zi56_104 rfl ?_
            refine zr_dstore (L' := [some (.ref _), some (.int (zJ _)), some (.ref _), some (.ref _), some (.int (zJ _)), some (.double _), none, some (.int (zJ _)), some (.double _), none, some (.double _), none]) zi56_106 rfl rfl ?_
            refine zr_iincN (z := 1) (L' := [some (.ref _), some (.int (zJ _)), some (.ref _), some (.ref _), some (.int (zJ _)), some (.double _), none, some (.int (zJ _)), some (.double _), none, some (.double _), none]) zi56_108 rfl rfl rfl rfl ?_
            refine zr_goto zi56_111 rfl ?_
            have en := ih39 (by omega)
            rw [yts] at en
            first
              | (rw [if_neg q60] at en; exact en _ _ _ _ _ (F1.trans F66c) H_66 B66p (yAI.cn I1 B1.al.dcl B1.al.wh))
              | (rw [if_pos q60, yfar] at en
                 first | rw [if_pos q79] at en | rw [if_neg q79] at en
                 first | rw [if_pos q97] at en | rw [if_neg q97] at en
                 exact en _ _ _ _ _ (F1.trans F66c) H_66 B66p (yAI.cn I1 B1.al.dcl B1.al.wh))
        · refine zr_dload zi56_82 rfl ?_
          refine zr_dneg zi56_84 ?_
          refine zr_goto zi56_85 rfl ?_
          refine zr_dstore (L' := [some (.ref _), some (.int (zJ _)), some (.ref _), some (.ref _), some (.int _), some (.double _), none, some (.int (zJ _)), some (.double _), none, some (.double _), none]) zi56_90 rfl rfl ?_
          refine zr_dload zi56_92 rfl ?_
          refine zr_dload zi56_94 rfl ?_
          refine zr_dcmp zi56_96 ?_
          refine zr_if_ge zi56_97 rfl (fun q97 => ?_) (fun q97 => ?_)
          · refine zr_iincN (z := 1) (L' := [some (.ref _), some (.int (zJ _)), some (.ref _), some (.ref _), some (.int _), some (.double _), none, some (.int (zJ _)), some (.double _), none, some (.double _), none]) zi56_108 rfl rfl rfl rfl ?_
            refine zr_goto zi56_111 rfl ?_
            have en := ih39 (by omega)
            rw [yts] at en
            first
              | (rw [if_neg q60] at en; exact en _ _ _ _ _ (F1.trans F66c) H_66 B66p (yAI.cn I1 B1.al.dcl B1.al.wh))
              | (rw [if_pos q60, yfar] at en
                 first | rw [if_pos q79] at en | rw [if_neg q79] at en
                 first | rw [if_pos q97] at en | rw [if_neg q97] at en
                 exact en _ _ _ _ _ (F1.trans F66c) H_66 B66p (yAI.cn I1 B1.al.dcl B1.al.wh))
          · refine zr_iload zi56_100 rfl ?_
            refine zr_istore (L' := [some (.ref _), some (.int (zJ _)), some (.ref _), some (.ref _), some (.int (zJ _)), some (.double _), none, some (.int (zJ _)), some (.double _), none, some (.double _), none]) zi56_102 rfl rfl ?_
            refine zr_dload zi56_104 rfl ?_
            refine zr_dstore (L' := [some (.ref _), some (.int (zJ _)), some (.ref _), some (.ref _), some (.int (zJ _)), some (.double _), none, some (.int (zJ _)), some (.double _), none, some (.double _), none]) zi56_106 rfl rfl ?_
            refine zr_iincN (z := 1) (L' := [some (.ref _), some (.int (zJ _)), some (.ref _), some (.ref _), some (.int (zJ _)), some (.double _), none, some (.int (zJ _)), some (.double _), none, some (.double _), none]) zi56_108 rfl rfl rfl rfl ?_
            refine zr_goto zi56_111 rfl ?_
            have en := ih39 (by omega)
            rw [yts] at en
            first
              | (rw [if_neg q60] at en; exact en _ _ _ _ _ (F1.trans F66c) H_66 B66p (yAI.cn I1 B1.al.dcl B1.al.wh))
              | (rw [if_pos q60, yfar] at en
                 first | rw [if_pos q79] at en | rw [if_neg q79] at en
                 first | rw [if_pos q97] at en | rw [if_neg q97] at en
                 exact en _ _ _ _ _ (F1.trans F66c) H_66 B66p (yAI.cn I1 B1.al.dcl B1.al.wh))
  · refine zr_iconst (v := (-1)) zi56_34 rfl ?_
    refine zr_ireturn zi56_35 rfl ?_
    exact K _ _ _ _ _ _ _ _ _ _ _ _ _ hk rfl _ (if_pos q31).symm _ _ _ _ (yEqA_al hk) (yFr.pb hk F17c) (C.upd hk F17c H_17 (yBt.mk B17p) rfl (yAI.look (show yAI α from C.ai hk) B.al.lens (by show w + hh ≤ 10; omega)) C.ait)
def zwd (w hh : Nat) (cs fs : List Int32) (c : Nat) (q : Bool) (t : Nat) : Int32 := if t = 0 then (zsS w hh fs (zJ 0) (zpt cs c (if q = true then zJ 1 else zJ 2) (-1) (zJ 0) (zJ 0))).2 else if zbl w hh (zsS w hh fs (zJ 0) (zpt cs c (if q = true then zJ 1 else zJ 2) (-1) (zJ 0) (zJ 0))).1 fs (w + hh) = 0 then zJ 0 else zJ 1
theorem c143 {E : zEnv} {h : zPH} {Q : zOut → zPH → Prop} (S : ySs E h) {a : Nat} {L : List yBS} {rf : Int32} {τ : yGS} {αt : yAS} (C : yC h a L rf τ αt) {x y z : Int32} {q : Bool} (K : ∀ k b w hh cs cl fs α kp gd gu mi sp, L[k]? = some (b, (w, hh, cs, cl, fs), α, kp, gd, gu, mi, sp) → x = zJ k → ∀ c, c < w * hh → y = zJ c → ∀ t, t < 3 → z = zJ t → zst cs c = 0 → ∀ v, v = (if t = 2 then zJ (yLk w hh 500 (zpt cs c (if q = true then zJ 1 else zJ 2) (-1) (zJ 0) (zJ 0)) cl fs αt).2.2.2.2.2.2 else zwd w hh cs fs c q t) → yK Q h a L L rf 0 0 (.inl (some (.int v)))) (X2 : ¬ zin x L.length → Q (.inr 2) (zex h)) (Y2 : ∀ k b w hh cs cl fs α kp gd gu mi sp, L[k]? = some (b, (w, hh, cs, cl, fs), α, kp, gd, gu, mi, sp) → x = zJ k → ¬ zin y (w * hh) → Q (.inr 2) (zex h)) (Y0 : ∀ k b w hh cs cl fs α kp gd gu mi sp, L[k]? = some (b, (w, hh, cs, cl, fs), α, kp, gd, gu, mi, sp) → x = zJ k → zin y (w * hh) → ¬ zin z 3 → Q (.inr 0) (zex h)) (Y1 : ∀ k b w hh cs cl fs α kp gd gu mi sp, L[k]? = some (b, (w, hh, cs, cl, fs), α, kp, gd, gu, mi, sp) → x = zJ k → zin z 3 → ∀ c, c < w * hh → y = zJ c → ¬ zst cs c = 0 → Q (.inr 1) (zex h)) : zcall E 16 143 [.ref a, .int x, .int y, .int (zB q), .int z] h Q := by
  have H := C.1
  have hlen := C.len
  have hbl : (L.map (·.1)).length = L.length := by rw [List.length_map]
  show zwp E _ 143 (0, [some (.ref _), some (.int _), some (.int _), some (.int (zB _)), some (.int _), none, none], [], _) Q
  refine zr_aload_n zi143_0 rfl ?_
  refine zr_iload_n zi143_1 rfl ?_
  refine zr_virtual zi143_2 rfl rfl (H.1.at0 rfl) rfl rfl ?_
  refine zcall_dep (d := 0) (Nat.le_of_ble_eq_true rfl) (c13 C (fun k β hk ex => zbk_v ?_) (fun x2 => zbk_no rfl (X2 x2)))
  subst ex
  obtain ⟨b, ⟨w, hh, cs, cl, fs⟩, α, kp, gd, gu, mi, sp⟩ := β
  have B : yB h b w hh cs cl fs α kp gd gu mi sp := (C.bd hk).1
  have hab : a + 16 ≤ b := (C.bd hk).2
  obtain ⟨⟨gw1, gw2, gh1, gh2⟩, gcs, gcl, gfs⟩ := B.gr.2
  obtain ⟨bkp, bgd, bgu⟩ := B.2.2.2.2
  have hwh := zwh_b B.gr.2.1
  refine zr_getfield zi143_5 (B.1.at0 rfl) rfl ?_
  refine zr_astore (L' := [some (.ref _), some (.int (zJ _)), some (.int _), some (.int (zB _)), some (.int _), some (.ref _), none]) zi143_8 rfl rfl ?_
  refine zr_aload zi143_10 rfl ?_
  refine zr_iload_n zi143_12 rfl ?_
  refine zr_static zi143_13 rfl rfl rfl rfl ?_
  refine zcall_dep (d := 1) (Nat.le_of_ble_eq_true rfl) (c40 B.gr (fun c hc ec => zbk_0 ?_) (fun x13 => zbk_no rfl (Y2 _ _ _ _ _ _ _ _ _ _ _ _ _ hk rfl x13)))
  subst ec
  refine zr_iload zi143_16 rfl ?_
  refine zr_iconst (v := zJ 2) zi143_18 rfl ?_
  refine zr_static zi143_19 rfl rfl rfl rfl ?_
  refine zcall_dep (d := 0) (Nat.le_of_ble_eq_true rfl) (c12 (by omega) (fun t ht et => zbk_0 ?_) (fun x19 => zbk_no rfl (Y0 _ _ _ _ _ _ _ _ _ _ _ _ _ hk rfl ⟨_, hc, rfl⟩ x19)))
  subst et
  refine zr_aload zi143_22 rfl ?_
  refine zr_iload_n zi143_24 rfl ?_
  refine zr_static zi143_25 rfl rfl rfl rfl ?_
  refine zcall_dep (d := 1) (Nat.le_of_ble_eq_true rfl) (c77 B.gr (by omega) (fun hu => zbk_0 ?_) (fun x25 => zbk_no rfl (Y1 _ _ _ _ _ _ _ _ _ _ _ _ _ hk rfl ⟨_, ht, rfl⟩ _ hc rfl x25)))
  refine zr_aload_n zi143_28 rfl ?_
  refine zr_aload zi143_29 rfl ?_
  refine zr_iload_n zi143_31 rfl ?_
  refine zr_iload_n zi143_32 rfl ?_
  refine zr_virtual zi143_33 rfl rfl (H.1.at0 rfl) rfl rfl ?_
  refine zcall_dep (d := 1) (Nat.le_of_ble_eq_true rfl) (c78 H B.gr (by omega) (by omega) (fun h33 F33 H33 => zbk_0 ?_))
  have S_33 := F33.ss S
  have B_33 := B.fr F33 (by intro a z1 z2 z3; simp only [yIv] at z3; omega)
  have F33c : yFr (yP a b) _ _ _ _ := F33.inl
  refine zr_iload zi143_36 rfl ?_
  refine zr_iconst (v := zJ 2) zi143_38 rfl ?_
  refine zr_icmp_neN zi143_39 rfl (by omega) (by omega) (fun q39 => ?_) (fun q39 => ?_)
  · refine zr_aload_n zi143_60 rfl ?_
    refine zr_getfield zi143_61 (H33.1.at0 rfl) rfl ?_
    refine zr_iconst (v := zJ 0) zi143_64 rfl ?_
    refine zr_virtual zi143_65 rfl rfl (H33.tr.1.at0 rfl) rfl rfl ?_
    refine zcall_dep (d := 2) (Nat.le_of_ble_eq_true rfl) (c25 S_33 H33.tr.out (fun h65 F65 H_tr65 => zbk_v ?_))
    have H65p := H33.putTr F65 H_tr65
    replace F65 := F65.up (N := 16) (by omega)
    have S_65 := F65.ss S_33
    have B_65 := B_33.fr F65 (by intro a z1 z2 z3; simp only [yIv] at z3; omega)
    have F65c : yFr (yP a b) _ _ _ _ := F65.inl
    refine zr_istore (L' := [some (.ref _), some (.int (zJ _)), some (.int (zJ _)), some (.int (zB _)), some (.int (zJ _)), some (.ref _), some (.int _)]) zi143_68 rfl rfl ?_
    refine zr_iload zi143_70 rfl ?_
    refine zr_if_neN zi143_72 rfl (by omega) (fun q72 => ?_) (fun q72 => ?_)
    · refine zr_aload_n zi143_78 rfl ?_
      refine zr_getfield zi143_79 (H65p.1.at0 rfl) rfl ?_
      refine zr_virtual zi143_82 rfl rfl (H65p.tr.1.at0 rfl) rfl rfl ?_
      refine zcall_dep (d := 2) (Nat.le_of_ble_eq_true rfl) (c19 S_65 H65p.tr.out (zbk_v ?_))
      refine zr_if_leN zi143_85 rfl (by have := zbl_le w hh (zsS w hh fs (zJ 0) (zpt cs c (if q = true then zJ 1 else zJ 2) (-1) (zJ 0) (zJ 0))).1 fs (w + hh); omega) (fun q85 => ?_) (fun q85 => ?_)
      · have ev : zwd w hh cs fs c q t = zJ 0 := by rw [zwd, if_neg q72, if_pos q85]
        refine zr_iconst (v := zJ 0) zi143_92 rfl ?_
        refine zr_ireturn zi143_93 rfl ?_
        exact K _ _ _ _ _ _ _ _ _ _ _ _ _ hk rfl _ hc rfl _ ht rfl hu _ (by rw [if_neg q39]; exact ev.symm) _ _ _ _ (yEqA_al hk) (yFr.pb hk (F33c.trans F65c)) (C.upd hk (F33c.trans F65c) H65p (yBt.mk B_65) rfl (show yAI α from C.ai hk) C.ait)
      · have ev : zwd w hh cs fs c q t = zJ 1 := by rw [zwd, if_neg q72, if_neg (by omega)]
        refine zr_iconst (v := zJ 1) zi143_88 rfl ?_
        refine zr_goto zi143_89 rfl ?_
        refine zr_ireturn zi143_93 rfl ?_
        exact K _ _ _ _ _ _ _ _ _ _ _ _ _ hk rfl _ hc rfl _ ht rfl hu _ (by rw [if_neg q39]; exact ev.symm) _ _ _ _ (yEqA_al hk) (yFr.pb hk (F33c.trans F65c)) (C.upd hk (F33c.trans F65c) H65p (yBt.mk B_65) rfl (show yAI α from C.ai hk) C.ait)
    · have ev : zwd w hh cs fs c q t = (zsS w hh fs (zJ 0) (zpt cs c (if q = true then zJ 1 else zJ 2) (-1) (zJ 0) (zJ 0))).2 := by rw [zwd, if_pos q72]
      refine zr_iload zi143_75 rfl ?_
      refine zr_ireturn zi143_77 rfl ?_
      exact K _ _ _ _ _ _ _ _ _ _ _ _ _ hk rfl _ hc rfl _ ht rfl hu _ (by rw [if_neg q39]; exact ev.symm) _ _ _ _ (yEqA_al hk) (yFr.pb hk (F33c.trans F65c)) (C.upd hk (F33c.trans F65c) H65p (yBt.mk B_65) rfl (show yAI α from C.ai hk) C.ait)
  · refine zr_aload_n zi143_42 rfl ?_
    refine zr_getfield zi143_43 (H33.1.at0 rfl) rfl ?_
    refine zr_aload_n zi143_46 rfl ?_
    refine zr_getfield zi143_47 (H33.1.at0 rfl) rfl ?_
    refine zr_sipush (v := zJ 500) zi143_50 rfl ?_
    refine zr_virtual zi143_53 rfl rfl (H33.ta.1.at0 rfl) rfl rfl ?_
    refine zcall_dep (d := 15) (Nat.le_of_ble_eq_true rfl) (c22t S_33 H33.ta H33.tr (by omega) (by omega) (fun h53 F53 A53 => zbk_v ?_))
    have H53p := H33.putTa F53 A53
    replace F53 := F53.up (N := 16) (by omega)
    have S_53 := F53.ss S_33
    have B_53 := B_33.fr F53 (by intro a z1 z2 z3; simp only [yIv] at z3; omega)
    have F53c : yFr (yP a b) _ _ _ _ := F53.inl
    refine zr_getfield zi143_56 (H53p.ta.1.at0 rfl) rfl ?_
    refine zr_ireturn zi143_59 rfl ?_
    exact K _ _ _ _ _ _ _ _ _ _ _ _ _ hk rfl _ hc rfl _ ht rfl hu _ (if_pos q39).symm _ _ _ _ (yEqA_al hk) (yFr.pb hk (F33c.trans F53c)) (C.upd hk (F33c.trans F53c) H53p (yBt.mk B_53) rfl (show yAI α from C.ai hk) (yAI.look C.ait H33.ta.lens (by show w + hh ≤ 10; omega)))
