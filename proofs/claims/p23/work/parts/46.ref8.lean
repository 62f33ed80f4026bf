/-! ===== the reference: all pictures ===== -/
theorem yFr.fit {P : Nat → Prop} {h h' : zPH} {m s m' s' : Nat} (F : yFr P h h' m s) (hm : m ≤ m') (hs : s ≤ s') : yFr P h h' m' s' := F.mono (fun _ _ z => z) hm hs
theorem yFr.lo {A : Nat → Prop} {h h1 h2 : zPH} {m s m' s' : Nat} (F : yFr (fun x => h.2.1 ≤ x) h h1 m s) (F' : yFr A h1 h2 m' s') (hA : ∀ x, A x → h.2.1 ≤ x) : yFr (fun x => h.2.1 ≤ x) h h2 (m + m') (s + s') := F.trans (F'.mono (fun x _ z => hA x z) (Nat.le_refl _) (Nat.le_refl _))
theorem c182 {E : zEnv} {h : zPH} {Q : zOut → zPH → Prop} {b r c g w hh : Nat} {x0 x1 x2 x3 cl : List Int32} {mi sp : Int32} (P : rB h b r c g w hh x0 x1 x2 x3 cl mi sp) (K : ∀ h1 q l, yFr (fun x => h.2.1 ≤ x) h h1 51 1442 → h.2.1 ≤ q → q < h1.2.1 → h1.1 q = some (64, zis l) → rPx w hh x0 cl l → l.length ≤ 500 → Q (.inl (some (.ref q))) h1) : zcall E 14 182 [.ref b] h Q := by
  obtain ⟨⟨gw1, gw2, gh1, gh2⟩, ⟨l0, l1, l2, l3, lcl⟩, d1, d2, d3⟩ := P.2.2.2
  have hwh := zwh_b (w := w) (hh := hh) ⟨gw1, gw2, gh1, gh2⟩
  show zwp E _ 182 (0, [some (.ref _), none, none, none, none, none, none, none, none], [], _) Q
  refine zr_sipush (v := zJ 501) zi182_0 rfl ?_
  have hPl := P.lt
  refine zr_newarrayN zi182_3 (by omega) rfl ?_
  refine zw_n (fun h3 mk F3 emk Xm3 N3 n3 => ?_)
  have P3 := P.fr (F3 (fun _ => False)) (fun _ _ z => z)
  refine zr_astore_n (L' := [some (.ref _), some (.ref _), none, none, none, none, none, none, none]) zi182_5 rfl rfl ?_
  refine zr_aload_n zi182_6 rfl ?_
  refine zr_getfield zi182_7 (P3.1.at0 rfl) rfl ?_
  refine zr_anewarrayN zi182_10 (by omega) ?_
  refine zw_n (fun h10 rw F10 erw Xr10 N10 n10 => ?_)
  have P10 := P3.fr (F10 (fun _ => False)) (fun _ _ z => z)
  have Xm10 := N10 mk _ (by omega) Xm3
  refine zr_astore_n (L' := [some (.ref _), some (.ref _), some (.ref _), none, none, none, none, none, none]) zi182_13 rfl rfl ?_
  refine zr_iconst (v := zJ 0) zi182_14 rfl ?_
  refine zr_istore_n (L' := [some (.ref _), some (.ref _), some (.ref _), some (.int (zJ _)), none, none, none, none, none]) zi182_15 rfl rfl ?_
  suffices key16 : ∀ h1, (yFr (fun x => h.2.1 ≤ x) h h1 (2 + 0) (501 + hh + 32 * 0)) → (h1.2.1 = h.2.1 + 2 + 0) → (h1.1 mk = some (64, zis (List.replicate 501 0))) → (h1.1 rw = some (66, zrefs (rw + 1) 1 0 ++ List.replicate (hh - 0) .null)) → ((∀ i, i < 0 → h1.1 (rw + 1 + i) = some (64, zis (rwi w hh x0 cl i)))) → (rB h1 b r c g w hh x0 x1 x2 x3 cl mi sp) → zwp E 14 182 (16, [some (.ref b), some (.ref mk), some (.ref rw), some (.int (zJ 0)), none, none, none, none, none], [], h1) Q from key16 _ (((F3 _).trans (F10 _)).fit (by omega) (by omega)) (by omega) Xm10 Xr10 (fun i z => absurd z (Nat.not_lt_zero i)) P10
  refine zloop (P := fun k => ∀ h1, (yFr (fun x => h.2.1 ≤ x) h h1 (2 + k) (501 + hh + 32 * k)) → (h1.2.1 = h.2.1 + 2 + k) → (h1.1 mk = some (64, zis (List.replicate 501 0))) → (h1.1 rw = some (66, zrefs (rw + 1) 1 k ++ List.replicate (hh - k) .null)) → ((∀ i, i < k → h1.1 (rw + 1 + i) = some (64, zis (rwi w hh x0 cl i)))) → (rB h1 b r c g w hh x0 x1 x2 x3 cl mi sp) → zwp E 14 182 (16, [some (.ref b), some (.ref mk), some (.ref rw), some (.int (zJ k)), none, none, none, none, none], [], h1) Q) (n := hh) fun k hk16 ih16 => ?_
  intro h1 F1 n1 Xm1 Xr1 Rs1 P1
  skip
  refine zr_iload_n zi182_16 rfl ?_
  refine zr_aload_n zi182_17 rfl ?_
  refine zr_getfield zi182_18 (P1.1.at0 rfl) rfl ?_
  refine zr_icmp_geN zi182_21 rfl (by omega) (by omega) (fun q21 => ?_) (fun q21 => ?_)
  · refine zr_aload_n zi182_38 rfl ?_
    refine zr_getfield zi182_39 (P1.1.at0 rfl) rfl ?_
    refine zr_aload_n zi182_42 rfl ?_
    refine zr_getfield zi182_43 (P1.1.at0 rfl) rfl ?_
    refine zr_iconst (v := zJ 2) zi182_46 rfl ?_
    obtain rfl : k = hh := by omega
    have hw5 : w * (1 + k) ≤ 30 := Nat.mul_le_mul (show w ≤ 5 by omega) (show 1 + k ≤ 6 by omega)
    have hs5 : w * (k + k * 2) ≤ 75 := Nat.mul_le_mul (show w ≤ 5 by omega) (show k + k * 2 ≤ 15 by omega)
    have hl5 : (k + 1) * w ≤ 30 := Nat.mul_le_mul (show k + 1 ≤ 6 by omega) (show w ≤ 5 by omega)
    rw [Nat.sub_self, List.replicate_zero, List.append_nil] at Xr1
    refine zr_mul3N zi182_47 (by omega) (by omega) (by omega) ?_
    refine zw_new3 (fun h47 ft F47 eft T47 o47 n47 => ?_)
    have P47 := P1.fr (F47 (fun _ => False)) (fun _ _ z => z)
    have Xm47 : h47.1 mk = _ := (o47 mk (by omega)).trans Xm1
    have W47 : rMat h47 rw k (rwi w k x0 cl) := rMat.eq (h := h1) ⟨Xr1, Rs1⟩ (fun x _ z => o47 x (by omega))
    refine zr_astore_n (L' := [some (.ref _), some (.ref _), some (.ref _), some (.ref _), none, none, none, none, none]) zi182_51 rfl rfl ?_
    refine zr_aload_n zi182_52 rfl ?_
    refine zr_getfield zi182_53 (P47.1.at0 rfl) rfl ?_
    refine zr_iconst (v := zJ 1) zi182_56 rfl ?_
    refine zr_iaddN zi182_57 ?_
    refine zr_aload_n zi182_58 rfl ?_
    refine zr_getfield zi182_59 (P47.1.at0 rfl) rfl ?_
    refine zr_mul2N zi182_62 (by omega) (by omega) ?_
    refine zw_newM (fun h62 lf F62 elf M62 o62 n62 => ?_)
    have P62 := P47.fr (F62 (fun _ => False)) (fun _ _ z => z)
    have Xm62 : h62.1 mk = _ := (o62 mk (by omega)).trans Xm47
    have T62 : rPS h62 w k mk rw ft lf (rwi w k x0 cl) (fun _ _ => List.replicate 2 0) (List.replicate 501 0) 0 (fun _ => List.replicate w 0) := ⟨⟨Xm62, List.length_replicate, by omega, by rw [List.getD_eq_getElem?_getD, List.getElem?_replicate]; rfl⟩, ⟨W47.eq (fun x _ z => o62 x (by omega)), fun i hi => by rw [rwi, List.length_map, rww, rwl_len]; exact rcw_le x0 cl i ⟨gw1, gw2, gh1, gh2⟩⟩, ⟨T47.eq (fun x _ z => o62 x (by omega)), fun _ _ _ _ => List.length_replicate⟩, ⟨M62, fun _ _ => List.length_replicate⟩, by omega, by omega, by omega, by omega⟩
    have F62b : yFr (fun x => h.2.1 ≤ x) h h62 45 782 := ((F1.trans (F47 _)).trans (F62 _)).fit (by omega) (by omega)
    have hPm : b < mk ∧ r + 5 ≤ mk ∧ c < mk := ⟨by omega, by omega, by omega⟩
    have hmk : h.2.1 ≤ mk := by omega
    clear F1 n1 Xm1 Xr1 Rs1 P1 ih16 F47 eft T47 o47 n47 P47 Xm47 W47 F62 elf M62 o62 n62 Xm62 F3 emk Xm3 N3 n3 P3 F10 erw Xr10 N10 n10 P10 Xm10
    refine zr_astore (L' := [some (.ref _), some (.ref _), some (.ref _), some (.ref _), some (.ref _), none, none, none, none]) zi182_66 rfl rfl ?_
    refine zr_iconst (v := zJ 0) zi182_68 rfl ?_
    refine zr_istore (L' := [some (.ref _), some (.ref _), some (.ref _), some (.ref _), some (.ref _), some (.int (zJ _)), none, none, none]) zi182_69 rfl rfl ?_
    suffices key71 : ∀ h2 x6 x7 x8 Fc Lf, (yFr (fun x => h.2.1 ≤ x) h h2 (45 + 0) (782 + 32 * 0)) → (rPS h2 w k mk rw ft lf (rwi w k x0 cl) Fc (List.replicate 501 0) 0 Lf) → (rB h2 b r c g w k x0 x1 x2 x3 cl mi sp) → (rQ0 (rwi w k x0 cl) k w (fun c => rwi w k x0 cl (k + c)) (0) (0) Lf) → (rQ1 (rwi w k x0 cl) k w (fun c => rwi w k x0 cl (k + c)) (0) (0) (0) Fc) → zwp E 14 182 (71, [some (.ref b), some (.ref mk), some (.ref rw), some (.ref ft), some (.ref lf), some (.int (zJ 0)), x6, x7, x8], [], h2) Q from key71 _ _ _ _ _ _ F62b T62 P62 rQ0.init rQ1.init
    refine zloop (P := fun u => ∀ h2 x6 x7 x8 Fc Lf, (yFr (fun x => h.2.1 ≤ x) h h2 (45 + u) (782 + 32 * u)) → (rPS h2 w k mk rw ft lf (rwi w k x0 cl) Fc (List.replicate 501 0) 0 Lf) → (rB h2 b r c g w k x0 x1 x2 x3 cl mi sp) → (rQ0 (rwi w k x0 cl) k w (fun c => rwi w k x0 cl (k + c)) (u) (0) Lf) → (rQ1 (rwi w k x0 cl) k w (fun c => rwi w k x0 cl (k + c)) (u) (0) (0) Fc) → zwp E 14 182 (71, [some (.ref b), some (.ref mk), some (.ref rw), some (.ref ft), some (.ref lf), some (.int (zJ u)), x6, x7, x8], [], h2) Q) (n := w) fun u hk71 ih71 => ?_
    intro h2 x6 x7 x8 Fc Lf F2 T2 P2 Q02 Q12
    skip
    refine zr_iload zi182_71 rfl ?_
    refine zr_aload_n zi182_73 rfl ?_
    refine zr_getfield zi182_74 (P2.1.at0 rfl) rfl ?_
    refine zr_icmp_geN zi182_77 rfl (by omega) (by omega) (fun q77 => ?_) (fun q77 => ?_)
    · refine zr_aload_n zi182_199 rfl ?_
      refine zr_aload_n zi182_200 rfl ?_
      refine zr_aload_n zi182_201 rfl ?_
      refine zr_aload_n zi182_202 rfl ?_
      refine zr_aload zi182_203 rfl ?_
      refine zr_iconst (v := zJ 0) zi182_205 rfl ?_
      refine zr_iconst (v := zJ 0) zi182_206 rfl ?_
      refine zr_virtual zi182_207 rfl rfl (P2.1.at0 rfl) rfl rfl ?_
      obtain rfl : w = u := by omega
      obtain ⟨o1, o2, o3, o4⟩ := T2.2.2.2.2
      obtain ⟨s, hs⟩ : ∃ s, s = rLk w (rwi w k x0 cl) Fc k 0 (zJ 0) ((List.replicate 501 0), 0, Lf) := ⟨_, rfl⟩
      refine zcall_dep (d := 8) (Nat.le_of_ble_eq_true rfl) (c185 hPm k 8 0 (zJ 0) _ _ _ _ _ rfl (by omega) (by omega) T2 P2 (fun h207 F207 T207 => zbk_0 ?_))
      have T207 : rPS h207 w k mk rw ft lf (rwi w k x0 cl) Fc (rLk w (rwi w k x0 cl) Fc k 0 (zJ 0) ((List.replicate 501 0), 0, Lf)).1 (rLk w (rwi w k x0 cl) Fc k 0 (zJ 0) ((List.replicate 501 0), 0, Lf)).2.1 (rLk w (rwi w k x0 cl) Fc k 0 (zJ 0) ((List.replicate 501 0), 0, Lf)).2.2 := T207
      rw [← hs] at T207
      obtain ⟨⟨Xm, hlm, hcnt, hc5⟩, Wr, W3, WL, p1, p2, p3, p4⟩ := T207
      have F207b := F2.lo F207 (fun x z => by rcases z with z | z <;> omega)
      refine zr_aload_n zi182_210 rfl ?_
      refine zr_sipush (v := zJ 500) zi182_211 rfl ?_
      refine zr_ialoadN zi182_214 Xm rfl (by omega) (by first | omega | (simp only [List.length_set, zpt_len]; omega)) ?_
      rw [hc5]
      refine zr_newarrayN zi182_215 (by omega) rfl ?_
      refine zw_n (fun h215 y F215 ey Xy N215 n215 => ?_)
      have Xm215 := N215 mk _ (by omega) Xm
      refine zr_astore (L' := [some (.ref _), some (.ref _), some (.ref _), some (.ref _), some (.ref _), some (.ref _), _, _, _]) zi182_217 rfl rfl ?_
      refine zr_aload_n zi182_219 rfl ?_
      refine zr_iconst (v := zJ 0) zi182_220 rfl ?_
      refine zr_aload zi182_221 rfl ?_
      refine zr_iconst (v := zJ 0) zi182_223 rfl ?_
      refine zr_aload zi182_224 rfl ?_
      refine zr_arraylength (v := zJ s.2.1) zi182_226 Xy rfl (zlenJ List.length_replicate) ?_
      refine zr_copyN (q := s.2.1) zi182_227 Xm215 Xy ⟨by omega, by omega, by omega⟩ (by omega) (by rw [List.length_replicate]; omega) rfl ?_
      refine zw_c (N := h.2.1) Xy (by decide) (by omega) (fun h227 F227 X227 N227 d227 => ?_)
      rw [zcpi_take (by omega) List.length_replicate] at X227
      refine zr_aload zi182_230 rfl ?_
      refine zr_areturn zi182_232 rfl ?_
      exact K _ y _ (((F207b.trans (F215 _)).trans F227).fit (by omega) (by omega)) (by omega) (by have := congrArg (·.1) d227; have e : h227.2.1 = h215.2.1 := this; omega) X227 ⟨Fc, Lf, Q02, Q12, T2.2.2.2.1.2, by rw [← hs]⟩ (by rw [List.length_take]; omega)
    · refine zr_aload_n zi182_80 rfl ?_
      refine zr_aload_n zi182_81 rfl ?_
      refine zr_getfield zi182_82 (P2.1.at0 rfl) rfl ?_
      refine zr_iload zi182_85 rfl ?_
      refine zr_iaddN zi182_87 ?_
      refine zr_virtual zi182_88 rfl rfl (P2.1.at0 rfl) rfl rfl ?_
      refine zcall_dep (d := 4) (Nat.le_of_ble_eq_true rfl) (c183 P2 (i := k + u) (by omega) (fun h88 q F88 eq88 Xq88 n88 => zbk_v ?_))
      have hrc := rcw_le x0 cl (k + u) ⟨gw1, gw2, gh1, gh2⟩
      have hT2 := T2.2.2.2.2
      obtain ⟨o1, o2, o3, o4⟩ := hT2
      have hPl2 := P2.lt
      have P88 := P2.fr F88 (fun x z1 z2 => by have z2 : _ ≤ x := z2; rcases z1 with z | z | z <;> (have := z.2; omega))
      have T88 := T2.eq (h1 := h88) (fun x _ z => F88.1 x z (Or.inl (fun y => by have y : _ ≤ x := y; omega))) F88.2.1
      have Xq88 : h88.1 q = some (64, zis (rwi w k x0 cl (k + u))) := Xq88
      have hlq : (rwi w k x0 cl (k + u)).length ≤ 32 := by rw [rwi, List.length_map, rww, rwl_len]; exact hrc
      have F88b := (F2.lo F88 (fun x z => by have z : _ ≤ x := z; omega)).fit (m' := 46 + u) (s' := 814 + 32 * u) (by omega) (by omega)
      have hq : lf + 2 + k ≤ q := by omega
      refine zr_astore (L' := [some (.ref _), some (.ref _), some (.ref _), some (.ref _), some (.ref _), some (.int (zJ _)), some (.ref _), _, _]) zi182_91 rfl rfl ?_
      refine zr_iconst (v := zJ 0) zi182_93 rfl ?_
      refine zr_istore (L' := [some (.ref _), some (.ref _), some (.ref _), some (.ref _), some (.ref _), some (.int (zJ _)), some (.ref _), some (.int (zJ _)), _]) zi182_94 rfl rfl ?_
      suffices key96 : ∀ h3 x8 Fc Lf, (yFr (fun x => h.2.1 ≤ x) h h3 (46 + u) (814 + 32 * u)) → (rPS h3 w k mk rw ft lf (rwi w k x0 cl) Fc (List.replicate 501 0) 0 Lf) → (rB h3 b r c g w k x0 x1 x2 x3 cl mi sp) → (h3.1 q = some (64, zis (rwi w k x0 cl (k + u)))) → (rQ0 (rwi w k x0 cl) k w (fun c => rwi w k x0 cl (k + c)) (u) (0) Lf) → (rQ1 (rwi w k x0 cl) k w (fun c => rwi w k x0 cl (k + c)) (u) (0) (0) Fc) → zwp E 14 182 (96, [some (.ref b), some (.ref mk), some (.ref rw), some (.ref ft), some (.ref lf), some (.int (zJ u)), some (.ref q), some (.int (zJ 0)), x8], [], h3) Q from key96 _ _ _ _ F88b T88 P88 Xq88 Q02 Q12
      refine zloop (P := fun v => ∀ h3 x8 Fc Lf, (yFr (fun x => h.2.1 ≤ x) h h3 (46 + u) (814 + 32 * u)) → (rPS h3 w k mk rw ft lf (rwi w k x0 cl) Fc (List.replicate 501 0) 0 Lf) → (rB h3 b r c g w k x0 x1 x2 x3 cl mi sp) → (h3.1 q = some (64, zis (rwi w k x0 cl (k + u)))) → (rQ0 (rwi w k x0 cl) k w (fun c => rwi w k x0 cl (k + c)) (u) (v) Lf) → (rQ1 (rwi w k x0 cl) k w (fun c => rwi w k x0 cl (k + c)) (u) (v) (0) Fc) → zwp E 14 182 (96, [some (.ref b), some (.ref mk), some (.ref rw), some (.ref ft), some (.ref lf), some (.int (zJ u)), some (.ref q), some (.int (zJ v)), x8], [], h3) Q) (n := (rwi w k x0 cl (k + u)).length) fun v hk96 ih96 => ?_
      intro h3 x8 Fc Lf F3 T3 P3 Xq3 Q03 Q13
      skip
      refine zr_iload zi182_96 rfl ?_
      refine zr_aload zi182_98 rfl ?_
      refine zr_arraylength (v := zJ (rwi w k x0 cl (k + u)).length) zi182_100 Xq3 rfl (zlenJ rfl) ?_
      refine zr_icmp_geN zi182_101 rfl (by omega) (by omega) (fun q101 => ?_) (fun q101 => ?_)
      · refine zr_iincN (z := 1) (L' := [some (.ref _), some (.ref _), some (.ref _), some (.ref _), some (.ref _), some (.int (zJ _)), some (.ref _), some (.int (zJ _)), _]) zi182_193 rfl rfl rfl rfl ?_
        refine zr_goto zi182_196 rfl ?_
        obtain rfl : v = (rwi w k x0 cl (k + u)).length := by omega
        exact ih71 (by omega) _ _ _ _ _ _ (F3.fit (by omega) (by omega)) T3 P3 (rQ0.col Q03) (rQ1.col Q13)
      · refine zr_aload_n zi182_104 rfl ?_
        refine zr_aload_n zi182_105 rfl ?_
        refine zr_aload zi182_106 rfl ?_
        refine zr_iload zi182_108 rfl ?_
        refine zr_ialoadN zi182_110 Xq3 rfl (by omega) (by first | omega | (simp only [List.length_set, zpt_len]; omega)) ?_
        refine zr_iload zi182_111 rfl ?_
        refine zr_virtual zi182_113 rfl rfl (P3.1.at0 rfl) rfl rfl ?_
        refine zcall_dep (d := 1) (Nat.le_of_ble_eq_true rfl) (c184 P3 T3.2.1.1 T3.2.1.2 (by omega) (zbk_v ?_))
        refine zr_if_neB zi182_116 rfl (fun q116 => ?_) (fun q116 => ?_)
        · have hla : (Lf 0).length = w := T3.2.2.2.1.2 0 (by omega)
          have Xa2 : h3.1 (lf + 1 + 0 * 1) = some (64, zis (Lf 0)) := T3.2.2.2.1.1.2 0 (by omega)
          have hP3 := P3.lt
          refine zr_aload zi182_122 rfl ?_
          refine zr_iconst (v := zJ 0) zi182_124 rfl ?_
          refine zr_aaloadN zi182_125 T3.2.2.2.1.1.1 rfl (by omega) (yrefs_at (by omega)) ?_
          refine zr_iload zi182_126 rfl ?_
          refine zr_dup2 zi182_128 rfl rfl ?_
          refine zr_ialoadN zi182_129 Xa2 rfl (by omega) (by first | omega | (simp only [List.length_set, zpt_len]; omega)) ?_
          refine zr_iconst (v := zJ 1) zi182_130 rfl ?_
          refine zr_iload zi182_131 rfl ?_
          refine zr_ishl zi182_133 ?_
          refine zr_ior zi182_134 ?_
          refine zr_iastoreN zi182_135 Xa2 (by omega) (by first | omega | (simp only [List.length_set, zpt_len]; omega)) ?_
          refine zw_c (N := h.2.1) Xa2 (by decide) (by omega) (fun h135 F135 X135 N135 d135 => ?_)
          have T135 : rPS h135 w k mk rw ft lf (rwi w k x0 cl) Fc (List.replicate 501 0) 0 (rup Lf 0 u ((Lf 0).getD u 0 ||| ysh1 v)) := rPS.wl T3 (show 0 < k + 1 by omega) X135 (fun b o q e => N135 b o q e) d135
          have Q0n : rQ0 (rwi w k x0 cl) k w (fun c => rwi w k x0 cl (k + c)) (u) (v + 1) (rup Lf 0 u ((Lf 0).getD u 0 ||| ysh1 v)) := rQ0.put Q03 q116 (by omega) hla
          have P135 := P3.fr F135 (fun x z1 z2 => by have z2 : _ ≤ x := z2; rcases z1 with z | z | z <;> (have := z.2; omega))
          have Xq135 := N135 q _ (by omega) Xq3
          refine zr_iconst (v := zJ 0) zi182_136 rfl ?_
          refine zr_istore (L' := [some (.ref _), some (.ref _), some (.ref _), some (.ref _), some (.ref _), some (.int (zJ _)), some (.ref _), some (.int (zJ _)), some (.int (zJ _))]) zi182_137 rfl rfl ?_
          suffices key139 : ∀ h4 Fc4, (yFr (fun x => h.2.1 ≤ x) h h4 (46 + u) (814 + 32 * u)) → (rPS h4 w k mk rw ft lf (rwi w k x0 cl) Fc4 (List.replicate 501 0) 0 (rup Lf 0 u ((Lf 0).getD u 0 ||| ysh1 v))) → (rB h4 b r c g w k x0 x1 x2 x3 cl mi sp) → (h4.1 q = some (64, zis (rwi w k x0 cl (k + u)))) → (rQ1 (rwi w k x0 cl) k w (fun c => rwi w k x0 cl (k + c)) (u) (v) (0) Fc4) → zwp E 14 182 (139, [some (.ref b), some (.ref mk), some (.ref rw), some (.ref ft), some (.ref lf), some (.int (zJ u)), some (.ref q), some (.int (zJ v)), some (.int (zJ 0))], [], h4) Q from key139 _ _ (F3.trans F135) T135 P135 Xq135 Q13
          refine zloop (P := fun z => ∀ h4 Fc4, (yFr (fun x => h.2.1 ≤ x) h h4 (46 + u) (814 + 32 * u)) → (rPS h4 w k mk rw ft lf (rwi w k x0 cl) Fc4 (List.replicate 501 0) 0 (rup Lf 0 u ((Lf 0).getD u 0 ||| ysh1 v))) → (rB h4 b r c g w k x0 x1 x2 x3 cl mi sp) → (h4.1 q = some (64, zis (rwi w k x0 cl (k + u)))) → (rQ1 (rwi w k x0 cl) k w (fun c => rwi w k x0 cl (k + c)) (u) (v) (z) Fc4) → zwp E 14 182 (139, [some (.ref b), some (.ref mk), some (.ref rw), some (.ref ft), some (.ref lf), some (.int (zJ u)), some (.ref q), some (.int (zJ v)), some (.int (zJ z))], [], h4) Q) (n := k) fun z hk139 ih139 => ?_
          intro h4 Fc4 F4 T4 P4 Xq4 Q14
          have hP4 := P4.lt
          refine zr_iload zi182_139 rfl ?_
          refine zr_aload_n zi182_141 rfl ?_
          refine zr_getfield zi182_142 (P4.1.at0 rfl) rfl ?_
          refine zr_icmp_geN zi182_145 rfl (by omega) (by omega) (fun q145 => ?_) (fun q145 => ?_)
          · refine zr_iincN (z := 1) (L' := [some (.ref _), some (.ref _), some (.ref _), some (.ref _), some (.ref _), some (.int (zJ _)), some (.ref _), some (.int (zJ _)), some (.int (zJ _))]) zi182_187 rfl rfl rfl rfl ?_
            refine zr_goto zi182_190 rfl ?_
            obtain rfl : k = z := by omega
            exact ih96 (by omega) _ _ _ _ F4 T4 P4 Xq4 Q0n (rQ1.rows Q14)
          · have M1 := (T4.2.2.1.1.2 u (by omega)).1
            have hlc := T4.2.2.1.2 u z (by omega) (by omega)
            have Xc2 : h4.1 (ft + 1 + u * (1 + k) + 1 + z * 1) = some (64, zis (Fc4 u z)) := by rw [Nat.mul_one]; exact (T4.2.2.1.1.2 u (by omega)).2 z (by omega)
            refine zr_aload_n zi182_148 rfl ?_
            refine zr_iload zi182_149 rfl ?_
            refine zr_aaloadN zi182_151 T4.2.2.1.1.1 rfl (by omega) (yrefs_at (by omega)) ?_
            refine zr_iload zi182_152 rfl ?_
            refine zr_aaloadN zi182_154 M1 rfl (by omega) (yrefs_at (by omega)) ?_
            refine zr_aload zi182_155 rfl ?_
            refine zr_iload zi182_157 rfl ?_
            refine zr_ialoadN zi182_159 Xq4 rfl (by omega) (by first | omega | (simp only [List.length_set, zpt_len]; omega)) ?_
            refine zr_iload zi182_160 rfl ?_
            refine zr_static zi182_162 rfl rfl rfl rfl ?_
            refine zcall_dep (d := 0) (Nat.le_of_ble_eq_true rfl) (c175 (by omega) (zbk_v ?_))
            refine zr_if_eqB zi182_165 rfl (fun q165 => ?_) (fun q165 => ?_)
            · refine zr_iconst (v := zJ 0) zi182_172 rfl ?_
              refine zr_dup2 zi182_173 rfl rfl ?_
              refine zr_ialoadN zi182_174 Xc2 rfl (by omega) (by first | omega | (simp only [List.length_set, zpt_len]; omega)) ?_
              refine zr_iconst (v := zJ 1) zi182_175 rfl ?_
              refine zr_iload zi182_176 rfl ?_
              refine zr_ishl zi182_178 ?_
              refine zr_ior zi182_179 ?_
              refine zr_iastoreN zi182_180 Xc2 (by omega) (by first | omega | (simp only [List.length_set, zpt_len]; omega)) ?_
              refine zw_c (N := h.2.1) Xc2 (by decide) (by omega) (fun h180 F180 X180 N180 d180 => ?_)
              rw [Nat.mul_one] at X180
              have hmu : (u + 1) * (1 + k) ≤ w * (1 + k) := Nat.mul_le_mul_right _ (by omega)
              rw [Nat.succ_mul] at hmu
              have T180 := rPS.wf T4 (i := u) (j := z) (by omega) (by omega) X180 (fun b o q e => N180 b o (by rw [Nat.mul_one]; exact q) e) d180
              have P180 := P4.fr F180 (fun x z1 z2 => by have z2 : _ ≤ x := z2; rcases z1 with z | z | z <;> (have := z.2; omega))
              have Xq180 := N180 q _ (by omega) Xq4
              refine zr_iincN (z := 1) (L' := [some (.ref _), some (.ref _), some (.ref _), some (.ref _), some (.ref _), some (.int (zJ _)), some (.ref _), some (.int (zJ _)), some (.int (zJ _))]) zi182_181 rfl rfl rfl rfl ?_
              refine zr_goto zi182_184 rfl ?_
              first
                | exact ih139 (by omega) _ _ (F4.trans F180) T180 P180 Xq180 (rQ1.put (b := true) Q14 q116 (by omega) (by omega) q165 hlc)
                | exact ih139 (by omega) _ _ (F4.trans F180) T180 P180 Xq180 (rQ1.put (b := false) Q14 q116 (by omega) (by omega) q165 hlc)
            · refine zr_iconst (v := zJ 1) zi182_168 rfl ?_
              refine zr_goto zi182_169 rfl ?_
              refine zr_dup2 zi182_173 rfl rfl ?_
              refine zr_ialoadN zi182_174 Xc2 rfl (by omega) (by first | omega | (simp only [List.length_set, zpt_len]; omega)) ?_
              refine zr_iconst (v := zJ 1) zi182_175 rfl ?_
              refine zr_iload zi182_176 rfl ?_
              refine zr_ishl zi182_178 ?_
              refine zr_ior zi182_179 ?_
              refine zr_iastoreN zi182_180 Xc2 (by omega) (by first | omega | (simp only [List.length_set, zpt_len]; omega)) ?_
              refine zw_c (N := h.2.1) Xc2 (by decide) (by omega) (fun h180 F180 X180 N180 d180 => ?_)
              rw [Nat.mul_one] at X180
              have hmu : (u + 1) * (1 + k) ≤ w * (1 + k) := Nat.mul_le_mul_right _ (by omega)
              rw [Nat.succ_mul] at hmu
              have T180 := rPS.wf T4 (i := u) (j := z) (by omega) (by omega) X180 (fun b o q e => N180 b o (by rw [Nat.mul_one]; exact q) e) d180
              have P180 := P4.fr F180 (fun x z1 z2 => by have z2 : _ ≤ x := z2; rcases z1 with z | z | z <;> (have := z.2; omega))
              have Xq180 := N180 q _ (by omega) Xq4
              refine zr_iincN (z := 1) (L' := [some (.ref _), some (.ref _), some (.ref _), some (.ref _), some (.ref _), some (.int (zJ _)), some (.ref _), some (.int (zJ _)), some (.int (zJ _))]) zi182_181 rfl rfl rfl rfl ?_
              refine zr_goto zi182_184 rfl ?_
              first
                | exact ih139 (by omega) _ _ (F4.trans F180) T180 P180 Xq180 (rQ1.put (b := true) Q14 q116 (by omega) (by omega) q165 hlc)
                | exact ih139 (by omega) _ _ (F4.trans F180) T180 P180 Xq180 (rQ1.put (b := false) Q14 q116 (by omega) (by omega) q165 hlc)
        · refine zr_goto zi182_119 rfl ?_
          refine zr_iincN (z := 1) (L' := [some (.ref _), some (.ref _), some (.ref _), some (.ref _), some (.ref _), some (.int (zJ _)), some (.ref _), some (.int (zJ _)), _]) zi182_187 rfl rfl rfl rfl ?_
          refine zr_goto zi182_190 rfl ?_
          exact ih96 (by omega) _ _ _ _ F3 T3 P3 Xq3 (rQ0.skip Q03 q116) (rQ1.skip Q13 q116)
  · refine zr_aload_n zi182_24 rfl ?_
    refine zr_iload_n zi182_25 rfl ?_
    refine zr_aload_n zi182_26 rfl ?_
    refine zr_iload_n zi182_27 rfl ?_
    refine zr_virtual zi182_28 rfl rfl (P1.1.at0 rfl) rfl rfl ?_
    refine zcall_dep (d := 4) (Nat.le_of_ble_eq_true rfl) (c183 P1 (i := k) (by omega) (fun h28 q F28 eq28 Xq28 n28 => zbk_v ?_))
    have P28 := P1.fr F28 (fun x z1 z2 => by have z2 : _ ≤ x := z2; rcases z1 with z | z | z <;> (have := z.2; omega))
    have Xm28 := F28.c (by omega) (fun z => by have z : _ ≤ mk := z; omega) Xm1
    have Xr28 := F28.c (by omega) (fun z => by have z : _ ≤ rw := z; omega) Xr1
    have hkl : (zrefs (rw + 1) 1 k).length = k := yrefs_len _ _ _
    refine zr_aastoreN zi182_31 Xr28 Xq28 rfl (by omega) (by rw [List.getElem?_append_right (by omega), hkl, Nat.sub_self, show hh - k = (hh - (k + 1)) + 1 by omega]; rfl) ?_
    refine zw_c (N := h.2.1) Xr28 (by decide) (by omega) (fun h31 F31 Xr31 N31 d31 => ?_)
    have P31 := P28.fr F31 (fun x z1 z2 => by have z2 : _ ≤ x := z2; rcases z1 with z | z | z <;> (have := z.2; omega))
    have Xm31 := N31 mk _ (by omega) Xm28
    have Xq31 := N31 q _ (by omega) Xq28
    obtain rfl : q = rw + 1 + k * 1 := by omega
    rw [show hh - k = (hh - (k + 1)) + 1 by omega, List.replicate_succ, zrefs_app] at Xr31
    have Rs31 : ∀ i, i < k + 1 → h31.1 (rw + 1 + i) = some (64, zis (rwi w hh x0 cl i)) := by
      intro i hi
      by_cases q : i = k
      · subst q
        rw [Nat.mul_one] at Xq31; exact Xq31
      · exact N31 _ _ (by omega) (F28.c (by omega) (fun z => by have z : _ ≤ rw + 1 + i := z; omega) (Rs1 i (by omega)))
    have d31 : h31.2.1 = h28.2.1 := by rw [d31]
    refine zr_iincN (z := 1) (L' := [some (.ref _), some (.ref _), some (.ref _), some (.int (zJ _)), none, none, none, none, none]) zi182_32 rfl rfl rfl rfl ?_
    refine zr_goto zi182_35 rfl ?_
    exact ih16 (by omega) _ (((F1.lo F28 (fun x z => by have z : _ ≤ x := z; omega)).trans F31).fit (by omega) (by have := rcw_le x0 cl k ⟨gw1, gw2, gh1, gh2⟩; omega)) (by rw [d31]; omega) Xm31 Xr31 Rs31 P31
theorem c181 {E : zEnv} {h : zPH} {Q : zOut → zPH → Prop} {b r c g w hh : Nat} {x0 x1 x2 x3 cl : List Int32} {mi sp : Int32} (P : rB h b r c g w hh x0 x1 x2 x3 cl mi sp) (K : ∀ h1 l, yFr (fun x => h.2.1 ≤ x) h h1 51 1442 → rPx w hh x0 cl l → l.length ≤ 500 → Q (.inl (some (.int (zJ l.length)))) h1) : zcall E 15 181 [.ref b] h Q := by
  obtain ⟨⟨gw1, gw2, gh1, gh2⟩, ⟨l0, l1, l2, l3, lcl⟩, d1, d2, d3⟩ := P.2.2.2
  have hwh := zwh_b (w := w) (hh := hh) ⟨gw1, gw2, gh1, gh2⟩
  show zwp E _ 181 (0, [some (.ref _)], [], _) Q
  refine zr_aload_n zi181_0 rfl ?_
  refine zr_virtual zi181_1 rfl rfl (P.1.at0 rfl) rfl rfl ?_
  refine zcall_dep (d := 14) (Nat.le_of_ble_eq_true rfl) (c182 P (fun h1 q1 l1 F1 i1 j1 X1 p1 n1 => zbk_v ?_))
  refine zr_arraylength (v := zJ l1.length) zi181_4 X1 rfl (zlenJ rfl) ?_
  refine zr_ireturn zi181_5 rfl ?_
  exact K _ _ F1 p1 n1
