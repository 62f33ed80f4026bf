/-! ===== the law's own calls ===== -/
theorem yI1.guess {gd : List Int32} {gu c : Nat} (hl : gu < gd.length) (h : yI1 gd gu) (hc : c < 25) : yI1 (gd.set gu (zJ c)) (gu + 1) := by
  intro i hi
  by_cases q : i = gu
  · subst q
    exact ⟨c, hc, by rw [List.getD_eq_getElem?_getD, List.getElem?_set_self hl]; rfl⟩
  · obtain ⟨c', h1, h2⟩ := h i (by omega)
    exact ⟨c', h1, by rw [List.getD_eq_getElem?_getD, List.getElem?_set_ne (by omega), ← List.getD_eq_getElem?_getD]; exact h2⟩
theorem yI.at {L : List yBS} {k b gu : Nat} {G : Nat × Nat × List Int32 × List Int32 × List Int32} {α : yAS} {kp gd : List Int32} {mi sp : Int32} (I : yI L) (hk : L[k]? = some (b, G, α, kp, gd, gu, mi, sp)) : yI1 gd gu := I k _ hk
theorem zw_outS {E : zEnv} {h h1 : zPH} {a o m s : Nat} {L L1 : List yBS} {rf : Int32} {d j pc : Nat} {Ls : zLc} {st : List Value} {Q : zOut → zPH → Prop} {τ1 : yGS} {α1 : yAS} {u0 u1 u2 v0 v1 v2 : Value} {k b gu gu' : Nat} {G0 G0' : Nat × Nat × List Int32 × List Int32 × List Int32} {α α' : yAS} {kp gd kp' gd' : List Int32} {mi sp mi' sp' : Int32} (e : yEqA (L.set k (b, G0', α', kp', gd', gu', mi', sp')) L1) (hk : L[k]? = some (b, G0, α, kp, gd, gu, mi, sp)) (hi : yI1 gd' gu') (hO : ∀ x, yPb a (L.map (·.1)) x → x ≠ o) (G : yBk h o [(3, [u0, u1, u2])]) (I : yI L) (F : yFr (yPb a (L.map (·.1))) h h1 m s) (C1 : yC h1 a L1 rf τ1 α1) (K : ∀ h2, yT h h2 a o L L1 rf m s → h2.1 o = some (3, [v0, v1, v2]) → zwp E d j (pc, Ls, st, h2) Q) : zwp E d j (pc, Ls, st, zset h1 o (3, [v0, v1, v2])) Q :=
  zw_out (LN := L.set k (b, G0', α', kp', gd', gu', mi', sp')) hO G (yR.map (ymap_set (b := 0) hk rfl)) (I.set hi) e F C1 K
theorem yI1.less {gd : List Int32} {gu : Nat} (h : yI1 gd gu) : yI1 gd (gu - 1) := fun i hi => h i (by omega)
def cs68 (nb : Nat) (L : List yBS) (rf : Int32) (αt : yAS) (x : Int32) (y : Int32) (kc : Nat) (vv : Int32) (LN : List yBS) : Prop :=
  (∃ w, ∃ hh, (2 ≤ w) ∧ (w ≤ 5) ∧ (2 ≤ hh) ∧ (hh ≤ 5) ∧ (x = zJ w) ∧ (y = zJ hh) ∧ (L.length < 3) ∧ kc = 0 ∧ vv = (zJ L.length) ∧ LN = (L ++ [(nb, (w, hh, yZ0, (yTi w hh (w + hh)).1, (yTi w hh (w + hh)).2), yA0, List.replicate 600 0, List.replicate 6 0, 0, 0, 0)])) ∨
  (((¬ ∃ w hh, 2 ≤ w ∧ w ≤ 5 ∧ 2 ≤ hh ∧ hh ≤ 5 ∧ x = zJ w ∧ y = zJ hh)) ∧ kc = 1 ∧ LN = L) ∨
  (((∃ w hh, 2 ≤ w ∧ w ≤ 5 ∧ 2 ≤ hh ∧ hh ≤ 5 ∧ x = zJ w ∧ y = zJ hh)) ∧ (¬ L.length < 3) ∧ kc = 2 ∧ LN = L)
theorem c67 {E : zEnv} {h : zPH} {Q : zOut → zPH → Prop} (S : ySs E h) {a o : Nat} {L : List yBS} {rf : Int32} {τ : yGS} {αt : yAS} (C : yC h a L rf τ αt) (O : yO h o) (hO : ∀ x, yPb a (L.map (·.1)) x → x ≠ o) (I : yI L) {x : Int32} {y : Int32} (K : ∀ h1 kc vv LN L1, cs68 h.2.1 L rf αt x y kc vv LN → kc ≤ 3 → yEqA LN L1 → yT h h1 a o L L1 rf 17 1444 → (kc = 0 → ∃ u1 u2, h1.1 o = some (3, [.long vv.toInt64, u1, u2])) → Q (.inl (some (.int (zJ kc)))) h1) : zcall E 6 67 [.ref a, .int x, .int y, .ref o] h Q := by
  have H := C.1
  have GO := O
  obtain ⟨u0, u1, u2, G⟩ := GO
  show zwp E _ 67 (0, [some (.ref _), some (.int _), some (.int _), some (.ref _), none], [], _) Q
  refine zr_aload_n zi67_0 rfl ?_
  refine zr_aload_n zi67_1 rfl ?_
  refine zr_iload_n zi67_2 rfl ?_
  refine zr_iload_n zi67_3 rfl ?_
  refine zr_virtual zi67_4 rfl rfl (H.1.at0 rfl) rfl rfl ?_
  have hx0 : cs68 h.2.1 L rf αt x y 1 0 L → zbk E 6 67 4 7 [some (.ref a), some (.int x), some (.int y), some (.ref o), none] [.ref o] Q (.inr 0) (zex h) := by
    intro hcs
    refine zbk_th rfl rfl rfl rfl ?_
    show zwp E _ 67 (16, [some (.ref a), some (.int x), some (.int y), some (.ref o), none], [], _) Q
    refine zr_iconst (v := zJ 1) zi67_16 rfl ?_
    refine zr_ireturn zi67_17 rfl ?_
    exact K _ _ _ _ _ hcs (by omega) (yEqA.refl L) ((yT.ex C O I).fit (by omega) (by omega)) (fun z => absurd z (by decide))
  have hx1 : cs68 h.2.1 L rf αt x y 2 0 L → zbk E 6 67 4 7 [some (.ref a), some (.int x), some (.int y), some (.ref o), none] [.ref o] Q (.inr 1) (zex h) := by
    intro hcs
    refine zbk_th rfl rfl rfl rfl ?_
    show zwp E _ 67 (20, [some (.ref a), some (.int x), some (.int y), some (.ref o), none], [], _) Q
    refine zr_iconst (v := zJ 2) zi67_20 rfl ?_
    refine zr_ireturn zi67_21 rfl ?_
    exact K _ _ _ _ _ hcs (by omega) (yEqA.refl L) ((yT.ex C O I).fit (by omega) (by omega)) (fun z => absurd z (by decide))
  refine zcall_dep (d := 5) (Nat.le_of_ble_eq_true rfl) (c68 S C (fun w hh w2 w5 h2 h5 ex ey hl h4 L4 τ4 α4 E4 F4 C4 => zbk_v ?_) (fun h_0 => hx0 (Or.inr (Or.inl ⟨h_0, rfl, rfl⟩))) (fun h_0 h_1 => hx1 (Or.inr (Or.inr ⟨h_0, h_1, rfl, rfl⟩))))
  refine zr_i2l zi67_7 ?_
  refine zr_putfield zi67_8 ((G.f1 F4 (fun z => hO o z rfl)).at0 rfl) rfl rfl ?_
  refine zw_out hO G (yR.app (Nat.le_refl _)) (I.app (fun i z => absurd z (Nat.not_lt_zero i))) E4 F4 C4 (fun h8 T8 U8 => ?_)
  refine zr_goto zi67_11 rfl ?_
  refine zr_iconst (v := zJ 0) zi67_22 rfl ?_
  refine zr_ireturn zi67_23 rfl ?_
  exact K _ _ _ _ _ (Or.inl ⟨w, hh, w2, w5, h2, h5, ex, ey, hl, rfl, rfl, rfl⟩) (by omega) E4 (T8.fit (by omega) (by omega)) (fun _ => ⟨_, _, U8⟩)
def cs71 (nb : Nat) (L : List yBS) (rf : Int32) (αt : yAS) (x : Int32) (y : Int32) (z : Int32) (kc : Nat) (vv : Int32) (LN : List yBS) : Prop :=
  (∃ k, ∃ b, ∃ w, ∃ hh, ∃ cs, ∃ cl, ∃ fs, ∃ α, ∃ kp, ∃ gd, ∃ gu, ∃ mi, ∃ sp, (L[k]? = some (b, (w, hh, cs, cl, fs), α, kp, gd, gu, mi, sp)) ∧ (x = zJ k) ∧ (∃ i, (i < w + hh) ∧ (y = zJ i) ∧ (zic z (yln w hh i) = true) ∧ kc = 0 ∧ vv = (zbc (zws w hh cs (fs.set i (zfg z (yln w hh i))) i)) ∧ LN = (L.set k (b, (w, hh, cs, cl.set i z, fs.set i (zfg z (yln w hh i))), α, kp, gd, gu, mi, sp)))) ∨
  ((¬ zin x L.length) ∧ kc = 1 ∧ LN = L) ∨
  (∃ k, ∃ b, ∃ w, ∃ hh, ∃ cs, ∃ cl, ∃ fs, ∃ α, ∃ kp, ∃ gd, ∃ gu, ∃ mi, ∃ sp, (L[k]? = some (b, (w, hh, cs, cl, fs), α, kp, gd, gu, mi, sp)) ∧ (x = zJ k) ∧ (¬ zin y (w + hh)) ∧ kc = 1 ∧ LN = L) ∨
  (∃ k, ∃ b, ∃ w, ∃ hh, ∃ cs, ∃ cl, ∃ fs, ∃ α, ∃ kp, ∃ gd, ∃ gu, ∃ mi, ∃ sp, (L[k]? = some (b, (w, hh, cs, cl, fs), α, kp, gd, gu, mi, sp)) ∧ (x = zJ k) ∧ (∃ i, (i < w + hh) ∧ (y = zJ i) ∧ (zic z (yln w hh i) = false) ∧ kc = 2 ∧ LN = L))
theorem cs71_len {nb : Nat} {L : List yBS} {rf : Int32} {αt : yAS} {x : Int32} {y : Int32} {z : Int32} {kc : Nat} {vv : Int32} {LN : List yBS} (H : cs71 nb L rf αt x y z kc vv LN) : LN.length = L.length := by
  rcases H with ⟨_, _, _, _, _, _, _, _, _, _, _, _, _, _, _, _, _, _, _, -, -, rfl⟩ | ⟨_, -, rfl⟩ | ⟨_, _, _, _, _, _, _, _, _, _, _, _, _, _, _, _, -, rfl⟩ | ⟨_, _, _, _, _, _, _, _, _, _, _, _, _, _, _, _, _, _, _, -, rfl⟩
  all_goals first | rfl | exact List.length_set
theorem c70 {E : zEnv} {h : zPH} {Q : zOut → zPH → Prop} (S : ySs E h) {a o : Nat} {L : List yBS} {rf : Int32} {τ : yGS} {αt : yAS} (C : yC h a L rf τ αt) (O : yO h o) (hO : ∀ x, yPb a (L.map (·.1)) x → x ≠ o) (I : yI L) {x : Int32} {y : Int32} {z : Int32} (K : ∀ h1 kc vv LN L1, cs71 h.2.1 L rf αt x y z kc vv LN → kc ≤ 3 → yEqA LN L1 → yT h h1 a o L L1 rf 1 6 → (kc = 0 → ∃ u1 u2, h1.1 o = some (3, [.long vv.toInt64, u1, u2])) → Q (.inl (some (.int (zJ kc)))) h1) : zcall E 3 70 [.ref a, .int x, .int y, .int z, .ref o] h Q := by
  have H := C.1
  have GO := O
  obtain ⟨u0, u1, u2, G⟩ := GO
  show zwp E _ 70 (0, [some (.ref _), some (.int _), some (.int _), some (.int _), some (.ref _), none], [], _) Q
  refine zr_aload zi70_0 rfl ?_
  refine zr_aload_n zi70_2 rfl ?_
  refine zr_iload_n zi70_3 rfl ?_
  refine zr_iload_n zi70_4 rfl ?_
  refine zr_iload_n zi70_5 rfl ?_
  refine zr_virtual zi70_6 rfl rfl (H.1.at0 rfl) rfl rfl ?_
  have hx0 : cs71 h.2.1 L rf αt x y z 2 0 L → zbk E 3 70 6 9 [some (.ref a), some (.int x), some (.int y), some (.int z), some (.ref o), none] [.ref o] Q (.inr 0) (zex h) := by
    intro hcs
    refine zbk_th rfl rfl rfl rfl ?_
    show zwp E _ 70 (22, [some (.ref a), some (.int x), some (.int y), some (.int z), some (.ref o), none], [], _) Q
    refine zr_iconst (v := zJ 2) zi70_22 rfl ?_
    refine zr_ireturn zi70_23 rfl ?_
    exact K _ _ _ _ _ hcs (by omega) (yEqA.refl L) ((yT.ex C O I).fit (by omega) (by omega)) (fun z => absurd z (by decide))
  have hx2 : cs71 h.2.1 L rf αt x y z 1 0 L → zbk E 3 70 6 9 [some (.ref a), some (.int x), some (.int y), some (.int z), some (.ref o), none] [.ref o] Q (.inr 2) (zex h) := by
    intro hcs
    refine zbk_th rfl rfl rfl rfl ?_
    show zwp E _ 70 (18, [some (.ref a), some (.int x), some (.int y), some (.int z), some (.ref o), none], [], _) Q
    refine zr_iconst (v := zJ 1) zi70_18 rfl ?_
    refine zr_ireturn zi70_19 rfl ?_
    exact K _ _ _ _ _ hcs (by omega) (yEqA.refl L) ((yT.ex C O I).fit (by omega) (by omega)) (fun z => absurd z (by decide))
  refine zcall_dep (d := 2) (Nat.le_of_ble_eq_true rfl) (c71 S C (fun k b w hh cs cl fs α kp gd gu mi sp hk ex i hi ei hz h4 L4 τ4 α4 E4 F4 C4 => zbk_v ?_) (fun h_0 => hx2 (Or.inr (Or.inl ⟨h_0, rfl, rfl⟩))) (fun k_0 b_1 w_2 hh_3 cs_4 cl_5 fs_6 α_7 kp_8 gd_9 gu_10 mi_11 sp_12 h_13 h_14 h_15 => hx2 (Or.inr (Or.inr (Or.inl ⟨k_0, b_1, w_2, hh_3, cs_4, cl_5, fs_6, α_7, kp_8, gd_9, gu_10, mi_11, sp_12, h_13, h_14, h_15, rfl, rfl⟩)))) (fun k_0 b_1 w_2 hh_3 cs_4 cl_5 fs_6 α_7 kp_8 gd_9 gu_10 mi_11 sp_12 h_13 h_14 i_15 h_16 h_17 h_18 => hx0 (Or.inr (Or.inr (Or.inr ⟨k_0, b_1, w_2, hh_3, cs_4, cl_5, fs_6, α_7, kp_8, gd_9, gu_10, mi_11, sp_12, h_13, h_14, i_15, h_16, h_17, h_18, rfl, rfl⟩)))))
  refine zr_i2l zi70_9 ?_
  refine zr_putfield zi70_10 ((G.f1 F4 (fun z => hO o z rfl)).at0 rfl) rfl rfl ?_
  refine zw_outS E4 hk (yI.at I hk) hO G I F4 C4 (fun h8 T8 U8 => ?_)
  refine zr_goto zi70_13 rfl ?_
  refine zr_iconst (v := zJ 0) zi70_24 rfl ?_
  refine zr_ireturn zi70_25 rfl ?_
  exact K _ _ _ _ _ (Or.inl ⟨k, b, w, hh, cs, cl, fs, α, kp, gd, gu, mi, sp, hk, ex, i, hi, ei, hz, rfl, rfl, rfl⟩) (by omega) E4 (T8.fit (by omega) (by omega)) (fun _ => ⟨_, _, U8⟩)
def cs74 (nb : Nat) (L : List yBS) (rf : Int32) (αt : yAS) (x : Int32) (y : Int32) (kc : Nat) (vv : Int32) (LN : List yBS) : Prop :=
  (∃ k, ∃ b, ∃ w, ∃ hh, ∃ cs, ∃ cl, ∃ fs, ∃ α, ∃ kp, ∃ gd, ∃ gu, ∃ mi, ∃ sp, (L[k]? = some (b, (w, hh, cs, cl, fs), α, kp, gd, gu, mi, sp)) ∧ (x = zJ k) ∧ (∃ i, (i < w + hh) ∧ (y = zJ i) ∧ kc = 0 ∧ vv = (cl.getD i 0) ∧ LN = (L.set k (b, (w, hh, cs, cl.set i (-1), fs.set i (zfg (-1) (yln w hh i))), α, kp, gd, gu, mi, sp)))) ∨
  ((¬ zin x L.length) ∧ kc = 1 ∧ LN = L) ∨
  (∃ k, ∃ b, ∃ w, ∃ hh, ∃ cs, ∃ cl, ∃ fs, ∃ α, ∃ kp, ∃ gd, ∃ gu, ∃ mi, ∃ sp, (L[k]? = some (b, (w, hh, cs, cl, fs), α, kp, gd, gu, mi, sp)) ∧ (x = zJ k) ∧ (¬ zin y (w + hh)) ∧ kc = 1 ∧ LN = L)
theorem cs74_len {nb : Nat} {L : List yBS} {rf : Int32} {αt : yAS} {x : Int32} {y : Int32} {kc : Nat} {vv : Int32} {LN : List yBS} (H : cs74 nb L rf αt x y kc vv LN) : LN.length = L.length := by
  rcases H with ⟨_, _, _, _, _, _, _, _, _, _, _, _, _, _, _, _, _, _, -, -, rfl⟩ | ⟨_, -, rfl⟩ | ⟨_, _, _, _, _, _, _, _, _, _, _, _, _, _, _, _, -, rfl⟩
  all_goals first | rfl | exact List.length_set
theorem c73 {E : zEnv} {h : zPH} {Q : zOut → zPH → Prop} (S : ySs E h) {a o : Nat} {L : List yBS} {rf : Int32} {τ : yGS} {αt : yAS} (C : yC h a L rf τ αt) (O : yO h o) (hO : ∀ x, yPb a (L.map (·.1)) x → x ≠ o) (I : yI L) {x : Int32} {y : Int32} (K : ∀ h1 kc vv LN L1, cs74 h.2.1 L rf αt x y kc vv LN → kc ≤ 3 → yEqA LN L1 → yT h h1 a o L L1 rf 1 6 → (kc = 0 → ∃ u1 u2, h1.1 o = some (3, [.long vv.toInt64, u1, u2])) → Q (.inl (some (.int (zJ kc)))) h1) : zcall E 3 73 [.ref a, .int x, .int y, .ref o] h Q := by
  have H := C.1
  have GO := O
  obtain ⟨u0, u1, u2, G⟩ := GO
  show zwp E _ 73 (0, [some (.ref _), some (.int _), some (.int _), some (.ref _), none], [], _) Q
  refine zr_aload_n zi73_0 rfl ?_
  refine zr_aload_n zi73_1 rfl ?_
  refine zr_iload_n zi73_2 rfl ?_
  refine zr_iload_n zi73_3 rfl ?_
  refine zr_virtual zi73_4 rfl rfl (H.1.at0 rfl) rfl rfl ?_
  have hx2 : cs74 h.2.1 L rf αt x y 1 0 L → zbk E 3 73 4 7 [some (.ref a), some (.int x), some (.int y), some (.ref o), none] [.ref o] Q (.inr 2) (zex h) := by
    intro hcs
    refine zbk_th rfl rfl rfl rfl ?_
    show zwp E _ 73 (16, [some (.ref a), some (.int x), some (.int y), some (.ref o), none], [], _) Q
    refine zr_iconst (v := zJ 1) zi73_16 rfl ?_
    refine zr_ireturn zi73_17 rfl ?_
    exact K _ _ _ _ _ hcs (by omega) (yEqA.refl L) ((yT.ex C O I).fit (by omega) (by omega)) (fun z => absurd z (by decide))
  refine zcall_dep (d := 2) (Nat.le_of_ble_eq_true rfl) (c74 S C (fun k b w hh cs cl fs α kp gd gu mi sp hk ex i hi ei h4 L4 τ4 α4 E4 F4 C4 => zbk_v ?_) (fun h_0 => hx2 (Or.inr (Or.inl ⟨h_0, rfl, rfl⟩))) (fun k_0 b_1 w_2 hh_3 cs_4 cl_5 fs_6 α_7 kp_8 gd_9 gu_10 mi_11 sp_12 h_13 h_14 h_15 => hx2 (Or.inr (Or.inr ⟨k_0, b_1, w_2, hh_3, cs_4, cl_5, fs_6, α_7, kp_8, gd_9, gu_10, mi_11, sp_12, h_13, h_14, h_15, rfl, rfl⟩))))
  refine zr_i2l zi73_7 ?_
  refine zr_putfield zi73_8 ((G.f1 F4 (fun z => hO o z rfl)).at0 rfl) rfl rfl ?_
  refine zw_outS E4 hk (yI.at I hk) hO G I F4 C4 (fun h8 T8 U8 => ?_)
  refine zr_goto zi73_11 rfl ?_
  refine zr_iconst (v := zJ 0) zi73_18 rfl ?_
  refine zr_ireturn zi73_19 rfl ?_
  exact K _ _ _ _ _ (Or.inl ⟨k, b, w, hh, cs, cl, fs, α, kp, gd, gu, mi, sp, hk, ex, i, hi, ei, rfl, rfl, rfl⟩) (by omega) E4 (T8.fit (by omega) (by omega)) (fun _ => ⟨_, _, U8⟩)
def cs76 (nb : Nat) (L : List yBS) (rf : Int32) (αt : yAS) (x : Int32) (y : Int32) (q : Bool) (kc : Nat) (vv : Int32) (LN : List yBS) : Prop :=
  (∃ k, ∃ b, ∃ w, ∃ hh, ∃ cs, ∃ cl, ∃ fs, ∃ α, ∃ kp, ∃ gd, ∃ gu, ∃ mi, ∃ sp, (L[k]? = some (b, (w, hh, cs, cl, fs), α, kp, gd, gu, mi, sp)) ∧ (x = zJ k) ∧ (∃ c, (c < w * hh) ∧ (y = zJ c) ∧ (zst cs c = 0) ∧ (¬ (yLk w hh 1 (zpt cs c (if q = true then zJ 1 else zJ 2) (-1) (zJ 0) (zJ 0)) cl fs αt).2.2.2.2.2.2 = 0) ∧ kc = 0 ∧ vv = (zB true) ∧ LN = (L.set k (b, (w, hh, zpt cs c (if q = true then zJ 1 else zJ 2) (-1) (zJ 0) (zJ gu), cl, fs), α, kp, gd, gu, mi, sp)))) ∨
  (∃ k, ∃ b, ∃ w, ∃ hh, ∃ cs, ∃ cl, ∃ fs, ∃ α, ∃ kp, ∃ gd, ∃ gu, ∃ mi, ∃ sp, (L[k]? = some (b, (w, hh, cs, cl, fs), α, kp, gd, gu, mi, sp)) ∧ (x = zJ k) ∧ (∃ c, (c < w * hh) ∧ (y = zJ c) ∧ (zst cs c = 0) ∧ ((yLk w hh 1 (zpt cs c (if q = true then zJ 1 else zJ 2) (-1) (zJ 0) (zJ 0)) cl fs αt).2.2.2.2.2.2 = 0) ∧ kc = 0 ∧ vv = (zB false) ∧ LN = (L.set k (b, (w, hh, cs, cl, fs), α, kp, gd, gu, mi + zJ 1, sp)))) ∨
  ((¬ zin x L.length) ∧ kc = 1 ∧ LN = L) ∨
  (∃ k, ∃ b, ∃ w, ∃ hh, ∃ cs, ∃ cl, ∃ fs, ∃ α, ∃ kp, ∃ gd, ∃ gu, ∃ mi, ∃ sp, (L[k]? = some (b, (w, hh, cs, cl, fs), α, kp, gd, gu, mi, sp)) ∧ (x = zJ k) ∧ (¬ zin y (w * hh)) ∧ kc = 1 ∧ LN = L) ∨
  (∃ k, ∃ b, ∃ w, ∃ hh, ∃ cs, ∃ cl, ∃ fs, ∃ α, ∃ kp, ∃ gd, ∃ gu, ∃ mi, ∃ sp, (L[k]? = some (b, (w, hh, cs, cl, fs), α, kp, gd, gu, mi, sp)) ∧ (x = zJ k) ∧ (∃ c, (c < w * hh) ∧ (y = zJ c) ∧ (¬ zst cs c = 0) ∧ kc = 2 ∧ LN = L))
theorem cs76_len {nb : Nat} {L : List yBS} {rf : Int32} {αt : yAS} {x : Int32} {y : Int32} {q : Bool} {kc : Nat} {vv : Int32} {LN : List yBS} (H : cs76 nb L rf αt x y q kc vv LN) : LN.length = L.length := by
  rcases H with ⟨_, _, _, _, _, _, _, _, _, _, _, _, _, _, _, _, _, _, _, _, -, -, rfl⟩ | ⟨_, _, _, _, _, _, _, _, _, _, _, _, _, _, _, _, _, _, _, _, -, -, rfl⟩ | ⟨_, -, rfl⟩ | ⟨_, _, _, _, _, _, _, _, _, _, _, _, _, _, _, _, -, rfl⟩ | ⟨_, _, _, _, _, _, _, _, _, _, _, _, _, _, _, _, _, _, _, -, rfl⟩
  all_goals first | rfl | exact List.length_set
theorem c75 {E : zEnv} {h : zPH} {Q : zOut → zPH → Prop} (S : ySs E h) {a o : Nat} {L : List yBS} {rf : Int32} {τ : yGS} {αt : yAS} (C : yC h a L rf τ αt) (O : yO h o) (hO : ∀ x, yPb a (L.map (·.1)) x → x ≠ o) (I : yI L) {x : Int32} {y : Int32} {q : Bool} (K : ∀ h1 kc vv LN L1, cs76 h.2.1 L rf αt x y q kc vv LN → kc ≤ 3 → yEqA LN L1 → yT h h1 a o L L1 rf 1 6 → (kc = 0 → ∃ u1 u2, h1.1 o = some (3, [.long vv.toInt64, u1, u2])) → Q (.inl (some (.int (zJ kc)))) h1) : zcall E 17 75 [.ref a, .int x, .int y, .int (zB q), .ref o] h Q := by
  have H := C.1
  have GO := O
  obtain ⟨u0, u1, u2, G⟩ := GO
  show zwp E _ 75 (0, [some (.ref _), some (.int _), some (.int _), some (.int (zB _)), some (.ref _), none], [], _) Q
  refine zr_aload zi75_0 rfl ?_
  refine zr_aload_n zi75_2 rfl ?_
  refine zr_iload_n zi75_3 rfl ?_
  refine zr_iload_n zi75_4 rfl ?_
  refine zr_iload_n zi75_5 rfl ?_
  refine zr_virtual zi75_6 rfl rfl (H.1.at0 rfl) rfl rfl ?_
  have hx1 : cs76 h.2.1 L rf αt x y q 2 0 L → zbk E 17 75 6 9 [some (.ref a), some (.int x), some (.int y), some (.int (zB q)), some (.ref o), none] [.ref o] Q (.inr 1) (zex h) := by
    intro hcs
    refine zbk_th rfl rfl rfl rfl ?_
    show zwp E _ 75 (29, [some (.ref a), some (.int x), some (.int y), some (.int (zB q)), some (.ref o), none], [], _) Q
    refine zr_iconst (v := zJ 2) zi75_29 rfl ?_
    refine zr_ireturn zi75_30 rfl ?_
    exact K _ _ _ _ _ hcs (by omega) (yEqA.refl L) ((yT.ex C O I).fit (by omega) (by omega)) (fun z => absurd z (by decide))
  have hx2 : cs76 h.2.1 L rf αt x y q 1 0 L → zbk E 17 75 6 9 [some (.ref a), some (.int x), some (.int y), some (.int (zB q)), some (.ref o), none] [.ref o] Q (.inr 2) (zex h) := by
    intro hcs
    refine zbk_th rfl rfl rfl rfl ?_
    show zwp E _ 75 (25, [some (.ref a), some (.int x), some (.int y), some (.int (zB q)), some (.ref o), none], [], _) Q
    refine zr_iconst (v := zJ 1) zi75_25 rfl ?_
    refine zr_ireturn zi75_26 rfl ?_
    exact K _ _ _ _ _ hcs (by omega) (yEqA.refl L) ((yT.ex C O I).fit (by omega) (by omega)) (fun z => absurd z (by decide))
  refine zcall_dep (d := 16) (Nat.le_of_ble_eq_true rfl) (c76 S C (fun k b w hh cs cl fs α kp gd gu mi sp hk ex c hc ec hu hz_ h4 L4 τ4 α4 E4 F4 C4 => zbk_v ?_) (fun k b w hh cs cl fs α kp gd gu mi sp hk ex c hc ec hu hz_ h4 L4 τ4 α4 E4 F4 C4 => zbk_v ?_) (fun h_0 => hx2 (Or.inr (Or.inr (Or.inl ⟨h_0, rfl, rfl⟩)))) (fun k_0 b_1 w_2 hh_3 cs_4 cl_5 fs_6 α_7 kp_8 gd_9 gu_10 mi_11 sp_12 h_13 h_14 h_15 => hx2 (Or.inr (Or.inr (Or.inr (Or.inl ⟨k_0, b_1, w_2, hh_3, cs_4, cl_5, fs_6, α_7, kp_8, gd_9, gu_10, mi_11, sp_12, h_13, h_14, h_15, rfl, rfl⟩))))) (fun k_0 b_1 w_2 hh_3 cs_4 cl_5 fs_6 α_7 kp_8 gd_9 gu_10 mi_11 sp_12 h_13 h_14 c_15 h_16 h_17 h_18 => hx1 (Or.inr (Or.inr (Or.inr (Or.inr ⟨k_0, b_1, w_2, hh_3, cs_4, cl_5, fs_6, α_7, kp_8, gd_9, gu_10, mi_11, sp_12, h_13, h_14, c_15, h_16, h_17, h_18, rfl, rfl⟩))))))
  · refine zr_if_eqB zi75_9 rfl (fun q9 => absurd q9 (fun z => Bool.noConfusion z)) (fun q9 => ?_)
    refine zr_lconst (v := 1) zi75_12 rfl ?_
    refine zr_goto zi75_13 rfl ?_
    refine zr_putfield zi75_17 ((G.f1 F4 (fun z => hO o z rfl)).at0 rfl) rfl rfl ?_
    refine zw_outS E4 hk (yI.at I hk) hO G I F4 C4 (fun h8 T8 U8 => ?_)
    refine zr_goto zi75_20 rfl ?_
    refine zr_iconst (v := zJ 0) zi75_31 rfl ?_
    refine zr_ireturn zi75_32 rfl ?_
    exact K _ _ _ _ _ (Or.inl ⟨k, b, w, hh, cs, cl, fs, α, kp, gd, gu, mi, sp, hk, ex, c, hc, ec, hu, hz_, rfl, rfl, rfl⟩) (by omega) E4 (T8.fit (by omega) (by omega)) (fun _ => ⟨_, _, U8⟩)
  · refine zr_if_eqB zi75_9 rfl (fun q9 => ?_) (fun q9 => absurd q9 (fun z => Bool.noConfusion z))
    refine zr_lconst (v := 0) zi75_16 rfl ?_
    refine zr_putfield zi75_17 ((G.f1 F4 (fun z => hO o z rfl)).at0 rfl) rfl rfl ?_
    refine zw_outS E4 hk (yI.at I hk) hO G I F4 C4 (fun h8 T8 U8 => ?_)
    refine zr_goto zi75_20 rfl ?_
    refine zr_iconst (v := zJ 0) zi75_31 rfl ?_
    refine zr_ireturn zi75_32 rfl ?_
    exact K _ _ _ _ _ (Or.inr (Or.inl ⟨k, b, w, hh, cs, cl, fs, α, kp, gd, gu, mi, sp, hk, ex, c, hc, ec, hu, hz_, rfl, rfl, rfl⟩)) (by omega) E4 (T8.fit (by omega) (by omega)) (fun _ => ⟨_, _, U8⟩)
def cs81 (nb : Nat) (L : List yBS) (rf : Int32) (αt : yAS) (x : Int32) (kc : Nat) (vv : Int32) (LN : List yBS) : Prop :=
  (∃ k, ∃ b, ∃ w, ∃ hh, ∃ cs, ∃ cl, ∃ fs, ∃ α, ∃ kp, ∃ gd, ∃ gu, ∃ mi, ∃ sp, (L[k]? = some (b, (w, hh, cs, cl, fs), α, kp, gd, gu, mi, sp)) ∧ (x = zJ k) ∧ kc = 0 ∧ vv = (zsS w hh fs (zJ gu) cs).2 ∧ LN = (L.set k (b, (w, hh, (zsS w hh fs (zJ gu) cs).1, cl, fs), α, kp, gd, gu, mi, sp + zJ 1))) ∨
  ((¬ zin x L.length) ∧ kc = 1 ∧ LN = L)
theorem cs81_len {nb : Nat} {L : List yBS} {rf : Int32} {αt : yAS} {x : Int32} {kc : Nat} {vv : Int32} {LN : List yBS} (H : cs81 nb L rf αt x kc vv LN) : LN.length = L.length := by
  rcases H with ⟨_, _, _, _, _, _, _, _, _, _, _, _, _, _, _, -, -, rfl⟩ | ⟨_, -, rfl⟩
  all_goals first | rfl | exact List.length_set
theorem c80 {E : zEnv} {h : zPH} {Q : zOut → zPH → Prop} (S : ySs E h) {a o : Nat} {L : List yBS} {rf : Int32} {τ : yGS} {αt : yAS} (C : yC h a L rf τ αt) (O : yO h o) (hO : ∀ x, yPb a (L.map (·.1)) x → x ≠ o) (I : yI L) {x : Int32} (K : ∀ h1 kc vv LN L1, cs81 h.2.1 L rf αt x kc vv LN → kc ≤ 3 → yEqA LN L1 → yT h h1 a o L L1 rf 1 6 → (kc = 0 → ∃ u1 u2, h1.1 o = some (3, [.long vv.toInt64, u1, u2])) → Q (.inl (some (.int (zJ kc)))) h1) : zcall E 4 80 [.ref a, .int x, .ref o] h Q := by
  have H := C.1
  have GO := O
  obtain ⟨u0, u1, u2, G⟩ := GO
  show zwp E _ 80 (0, [some (.ref _), some (.int _), some (.ref _), none], [], _) Q
  refine zr_aload_n zi80_0 rfl ?_
  refine zr_aload_n zi80_1 rfl ?_
  refine zr_iload_n zi80_2 rfl ?_
  refine zr_virtual zi80_3 rfl rfl (H.1.at0 rfl) rfl rfl ?_
  have hx2 : cs81 h.2.1 L rf αt x 1 0 L → zbk E 4 80 3 6 [some (.ref a), some (.int x), some (.ref o), none] [.ref o] Q (.inr 2) (zex h) := by
    intro hcs
    refine zbk_th rfl rfl rfl rfl ?_
    show zwp E _ 80 (14, [some (.ref a), some (.int x), some (.ref o), none], [], _) Q
    refine zr_iconst (v := zJ 1) zi80_14 rfl ?_
    refine zr_ireturn zi80_15 rfl ?_
    exact K _ _ _ _ _ hcs (by omega) (yEqA.refl L) ((yT.ex C O I).fit (by omega) (by omega)) (fun z => absurd z (by decide))
  refine zcall_dep (d := 3) (Nat.le_of_ble_eq_true rfl) (c81 S C (fun k b w hh cs cl fs α kp gd gu mi sp hk ex  h4 L4 τ4 α4 E4 F4 C4 => zbk_v ?_) (fun h_0 => hx2 (Or.inr ⟨h_0, rfl, rfl⟩)))
  refine zr_i2l zi80_6 ?_
  refine zr_putfield zi80_7 ((G.f1 F4 (fun z => hO o z rfl)).at0 rfl) rfl rfl ?_
  refine zw_outS E4 hk (yI.at I hk) hO G I F4 C4 (fun h8 T8 U8 => ?_)
  refine zr_goto zi80_10 rfl ?_
  refine zr_iconst (v := zJ 0) zi80_16 rfl ?_
  refine zr_ireturn zi80_17 rfl ?_
  exact K _ _ _ _ _ (Or.inl ⟨k, b, w, hh, cs, cl, fs, α, kp, gd, gu, mi, sp, hk, ex, rfl, rfl, rfl⟩) (by omega) E4 (T8.fit (by omega) (by omega)) (fun _ => ⟨_, _, U8⟩)
def cs83 (nb : Nat) (L : List yBS) (rf : Int32) (αt : yAS) (x : Int32) (y : Int32) (q : Bool) (kc : Nat) (vv : Int32) (LN : List yBS) : Prop :=
  (∃ k, ∃ b, ∃ w, ∃ hh, ∃ cs, ∃ cl, ∃ fs, ∃ α, ∃ kp, ∃ gd, ∃ gu, ∃ mi, ∃ sp, (L[k]? = some (b, (w, hh, cs, cl, fs), α, kp, gd, gu, mi, sp)) ∧ (x = zJ k) ∧ (∃ c, (c < w * hh) ∧ (y = zJ c) ∧ (zst cs c = 0) ∧ (gu < 6) ∧ kc = 0 ∧ vv = (zJ (gu + 1)) ∧ LN = (L.set k (b, (w, hh, zpt cs c (if q = true then zJ 1 else zJ 2) (-1) (zJ 0) (zJ (gu + 1)), cl, fs), α, zcpi cs kp 0 (gu * 100) 100, gd.set gu (zJ c), gu + 1, mi, sp)))) ∨
  ((¬ zin x L.length) ∧ kc = 1 ∧ LN = L) ∨
  (∃ k, ∃ b, ∃ w, ∃ hh, ∃ cs, ∃ cl, ∃ fs, ∃ α, ∃ kp, ∃ gd, ∃ gu, ∃ mi, ∃ sp, (L[k]? = some (b, (w, hh, cs, cl, fs), α, kp, gd, gu, mi, sp)) ∧ (x = zJ k) ∧ (¬ zin y (w * hh)) ∧ kc = 1 ∧ LN = L) ∨
  (∃ k, ∃ b, ∃ w, ∃ hh, ∃ cs, ∃ cl, ∃ fs, ∃ α, ∃ kp, ∃ gd, ∃ gu, ∃ mi, ∃ sp, (L[k]? = some (b, (w, hh, cs, cl, fs), α, kp, gd, gu, mi, sp)) ∧ (x = zJ k) ∧ (∃ c, (c < w * hh) ∧ (y = zJ c) ∧ (¬ zst cs c = 0) ∧ kc = 2 ∧ LN = L)) ∨
  (∃ k, ∃ b, ∃ w, ∃ hh, ∃ cs, ∃ cl, ∃ fs, ∃ α, ∃ kp, ∃ gd, ∃ gu, ∃ mi, ∃ sp, (L[k]? = some (b, (w, hh, cs, cl, fs), α, kp, gd, gu, mi, sp)) ∧ (x = zJ k) ∧ (zin y (w * hh)) ∧ (gu = 6) ∧ kc = 2 ∧ LN = L)
theorem cs83_len {nb : Nat} {L : List yBS} {rf : Int32} {αt : yAS} {x : Int32} {y : Int32} {q : Bool} {kc : Nat} {vv : Int32} {LN : List yBS} (H : cs83 nb L rf αt x y q kc vv LN) : LN.length = L.length := by
  rcases H with ⟨_, _, _, _, _, _, _, _, _, _, _, _, _, _, _, _, _, _, _, _, -, -, rfl⟩ | ⟨_, -, rfl⟩ | ⟨_, _, _, _, _, _, _, _, _, _, _, _, _, _, _, _, -, rfl⟩ | ⟨_, _, _, _, _, _, _, _, _, _, _, _, _, _, _, _, _, _, _, -, rfl⟩ | ⟨_, _, _, _, _, _, _, _, _, _, _, _, _, _, _, _, _, -, rfl⟩
  all_goals first | rfl | exact List.length_set
theorem c82 {E : zEnv} {h : zPH} {Q : zOut → zPH → Prop} (S : ySs E h) {a o : Nat} {L : List yBS} {rf : Int32} {τ : yGS} {αt : yAS} (C : yC h a L rf τ αt) (O : yO h o) (hO : ∀ x, yPb a (L.map (·.1)) x → x ≠ o) (I : yI L) {x : Int32} {y : Int32} {q : Bool} (K : ∀ h1 kc vv LN L1, cs83 h.2.1 L rf αt x y q kc vv LN → kc ≤ 3 → yEqA LN L1 → yT h h1 a o L L1 rf 1 6 → (kc = 0 → ∃ u1 u2, h1.1 o = some (3, [.long vv.toInt64, u1, u2])) → Q (.inl (some (.int (zJ kc)))) h1) : zcall E 3 82 [.ref a, .int x, .int y, .int (zB q), .ref o] h Q := by
  have H := C.1
  have GO := O
  obtain ⟨u0, u1, u2, G⟩ := GO
  show zwp E _ 82 (0, [some (.ref _), some (.int _), some (.int _), some (.int (zB _)), some (.ref _), none], [], _) Q
  refine zr_aload zi82_0 rfl ?_
  refine zr_aload_n zi82_2 rfl ?_
  refine zr_iload_n zi82_3 rfl ?_
  refine zr_iload_n zi82_4 rfl ?_
  refine zr_iload_n zi82_5 rfl ?_
  refine zr_virtual zi82_6 rfl rfl (H.1.at0 rfl) rfl rfl ?_
  have hx1 : cs83 h.2.1 L rf αt x y q 2 0 L → zbk E 3 82 6 9 [some (.ref a), some (.int x), some (.int y), some (.int (zB q)), some (.ref o), none] [.ref o] Q (.inr 1) (zex h) := by
    intro hcs
    refine zbk_th rfl rfl rfl rfl ?_
    show zwp E _ 82 (22, [some (.ref a), some (.int x), some (.int y), some (.int (zB q)), some (.ref o), none], [], _) Q
    refine zr_iconst (v := zJ 2) zi82_22 rfl ?_
    refine zr_ireturn zi82_23 rfl ?_
    exact K _ _ _ _ _ hcs (by omega) (yEqA.refl L) ((yT.ex C O I).fit (by omega) (by omega)) (fun z => absurd z (by decide))
  have hx2 : cs83 h.2.1 L rf αt x y q 1 0 L → zbk E 3 82 6 9 [some (.ref a), some (.int x), some (.int y), some (.int (zB q)), some (.ref o), none] [.ref o] Q (.inr 2) (zex h) := by
    intro hcs
    refine zbk_th rfl rfl rfl rfl ?_
    show zwp E _ 82 (18, [some (.ref a), some (.int x), some (.int y), some (.int (zB q)), some (.ref o), none], [], _) Q
    refine zr_iconst (v := zJ 1) zi82_18 rfl ?_
    refine zr_ireturn zi82_19 rfl ?_
    exact K _ _ _ _ _ hcs (by omega) (yEqA.refl L) ((yT.ex C O I).fit (by omega) (by omega)) (fun z => absurd z (by decide))
  refine zcall_dep (d := 2) (Nat.le_of_ble_eq_true rfl) (c83 S C (fun k b w hh cs cl fs α kp gd gu mi sp hk ex c hc ec hu hg h4 L4 τ4 α4 E4 F4 C4 => zbk_v ?_) (fun h_0 => hx2 (Or.inr (Or.inl ⟨h_0, rfl, rfl⟩))) (fun k_0 b_1 w_2 hh_3 cs_4 cl_5 fs_6 α_7 kp_8 gd_9 gu_10 mi_11 sp_12 h_13 h_14 h_15 => hx2 (Or.inr (Or.inr (Or.inl ⟨k_0, b_1, w_2, hh_3, cs_4, cl_5, fs_6, α_7, kp_8, gd_9, gu_10, mi_11, sp_12, h_13, h_14, h_15, rfl, rfl⟩)))) (fun k_0 b_1 w_2 hh_3 cs_4 cl_5 fs_6 α_7 kp_8 gd_9 gu_10 mi_11 sp_12 h_13 h_14 c_15 h_16 h_17 h_18 => hx1 (Or.inr (Or.inr (Or.inr (Or.inl ⟨k_0, b_1, w_2, hh_3, cs_4, cl_5, fs_6, α_7, kp_8, gd_9, gu_10, mi_11, sp_12, h_13, h_14, c_15, h_16, h_17, h_18, rfl, rfl⟩))))) (fun k_0 b_1 w_2 hh_3 cs_4 cl_5 fs_6 α_7 kp_8 gd_9 gu_10 mi_11 sp_12 h_13 h_14 h_15 h_16 => hx1 (Or.inr (Or.inr (Or.inr (Or.inr ⟨k_0, b_1, w_2, hh_3, cs_4, cl_5, fs_6, α_7, kp_8, gd_9, gu_10, mi_11, sp_12, h_13, h_14, h_15, h_16, rfl, rfl⟩))))))
  refine zr_i2l zi82_9 ?_
  refine zr_putfield zi82_10 ((G.f1 F4 (fun z => hO o z rfl)).at0 rfl) rfl rfl ?_
  refine zw_outS E4 hk (yI1.guess (by have h6 := (yBt.out (C.bd hk).1).2.2.2.2.2.1; omega) (yI.at I hk) (by have := zwh_b (yBt.out (C.bd hk).1).2.2.2.1.2.1; omega)) hO G I F4 C4 (fun h8 T8 U8 => ?_)
  refine zr_goto zi82_13 rfl ?_
  refine zr_iconst (v := zJ 0) zi82_24 rfl ?_
  refine zr_ireturn zi82_25 rfl ?_
  exact K _ _ _ _ _ (Or.inl ⟨k, b, w, hh, cs, cl, fs, α, kp, gd, gu, mi, sp, hk, ex, c, hc, ec, hu, hg, rfl, rfl, rfl⟩) (by omega) E4 (T8.fit (by omega) (by omega)) (fun _ => ⟨_, _, U8⟩)
def cs86 (nb : Nat) (L : List yBS) (rf : Int32) (αt : yAS) (x : Int32) (q : Bool) (kc : Nat) (vv : Int32) (LN : List yBS) : Prop :=
  (∃ k, ∃ b, ∃ w, ∃ hh, ∃ cs, ∃ cl, ∃ fs, ∃ α, ∃ kp, ∃ gd, ∃ gu, ∃ mi, ∃ sp, (L[k]? = some (b, (w, hh, cs, cl, fs), α, kp, gd, gu, mi, sp)) ∧ (x = zJ k) ∧ (∃ c, (c < 25) ∧ (gd.getD (gu - 1) 0 = zJ c) ∧ (0 < gu) ∧ kc = 0 ∧ vv = (zJ c) ∧ LN = (L.set k (b, (w, hh, (if q = true then zpt (zcpi kp cs ((gu - 1) * 100) 0 100) c (zJ 3 - zst cs c) (-2) (zJ 0) (zJ (gu - 1)) else zcpi kp cs ((gu - 1) * 100) 0 100), cl, fs), α, kp, gd, gu - 1, mi, sp)))) ∨
  ((¬ zin x L.length) ∧ kc = 1 ∧ LN = L) ∨
  (∃ k, ∃ b, ∃ w, ∃ hh, ∃ cs, ∃ cl, ∃ fs, ∃ α, ∃ kp, ∃ gd, ∃ gu, ∃ mi, ∃ sp, (L[k]? = some (b, (w, hh, cs, cl, fs), α, kp, gd, gu, mi, sp)) ∧ (x = zJ k) ∧ (gu = 0) ∧ kc = 2 ∧ LN = L)
theorem cs86_len {nb : Nat} {L : List yBS} {rf : Int32} {αt : yAS} {x : Int32} {q : Bool} {kc : Nat} {vv : Int32} {LN : List yBS} (H : cs86 nb L rf αt x q kc vv LN) : LN.length = L.length := by
  rcases H with ⟨_, _, _, _, _, _, _, _, _, _, _, _, _, _, _, _, _, _, _, -, -, rfl⟩ | ⟨_, -, rfl⟩ | ⟨_, _, _, _, _, _, _, _, _, _, _, _, _, _, _, _, -, rfl⟩
  all_goals first | rfl | exact List.length_set
theorem c85 {E : zEnv} {h : zPH} {Q : zOut → zPH → Prop} (S : ySs E h) {a o : Nat} {L : List yBS} {rf : Int32} {τ : yGS} {αt : yAS} (C : yC h a L rf τ αt) (O : yO h o) (hO : ∀ x, yPb a (L.map (·.1)) x → x ≠ o) (I : yI L) {x : Int32} {q : Bool} (K : ∀ h1 kc vv LN L1, cs86 h.2.1 L rf αt x q kc vv LN → kc ≤ 3 → yEqA LN L1 → yT h h1 a o L L1 rf 1 6 → (kc = 0 → ∃ u1 u2, h1.1 o = some (3, [.long vv.toInt64, u1, u2])) → Q (.inl (some (.int (zJ kc)))) h1) : zcall E 2 85 [.ref a, .int x, .int (zB q), .ref o] h Q := by
  have H := C.1
  have GO := O
  obtain ⟨u0, u1, u2, G⟩ := GO
  show zwp E _ 85 (0, [some (.ref _), some (.int _), some (.int (zB _)), some (.ref _), none], [], _) Q
  refine zr_aload_n zi85_0 rfl ?_
  refine zr_aload_n zi85_1 rfl ?_
  refine zr_iload_n zi85_2 rfl ?_
  refine zr_iload_n zi85_3 rfl ?_
  refine zr_virtual zi85_4 rfl rfl (H.1.at0 rfl) rfl rfl ?_
  have hx1 : cs86 h.2.1 L rf αt x q 2 0 L → zbk E 2 85 4 7 [some (.ref a), some (.int x), some (.int (zB q)), some (.ref o), none] [.ref o] Q (.inr 1) (zex h) := by
    intro hcs
    refine zbk_th rfl rfl rfl rfl ?_
    show zwp E _ 85 (20, [some (.ref a), some (.int x), some (.int (zB q)), some (.ref o), none], [], _) Q
    refine zr_iconst (v := zJ 2) zi85_20 rfl ?_
    refine zr_ireturn zi85_21 rfl ?_
    exact K _ _ _ _ _ hcs (by omega) (yEqA.refl L) ((yT.ex C O I).fit (by omega) (by omega)) (fun z => absurd z (by decide))
  have hx2 : cs86 h.2.1 L rf αt x q 1 0 L → zbk E 2 85 4 7 [some (.ref a), some (.int x), some (.int (zB q)), some (.ref o), none] [.ref o] Q (.inr 2) (zex h) := by
    intro hcs
    refine zbk_th rfl rfl rfl rfl ?_
    show zwp E _ 85 (16, [some (.ref a), some (.int x), some (.int (zB q)), some (.ref o), none], [], _) Q
    refine zr_iconst (v := zJ 1) zi85_16 rfl ?_
    refine zr_ireturn zi85_17 rfl ?_
    exact K _ _ _ _ _ hcs (by omega) (yEqA.refl L) ((yT.ex C O I).fit (by omega) (by omega)) (fun z => absurd z (by decide))
  refine zcall_dep (d := 1) (Nat.le_of_ble_eq_true rfl) (c86 S C (fun k b w hh cs cl fs α kp gd gu mi sp hk ex c hc eg h0 h4 L4 τ4 α4 E4 F4 C4 => zbk_v ?_) (fun k b w hh cs cl fs α kp gd gu mi sp hk ex h0 => yI.at I hk _ (by omega)) (fun h_0 => hx2 (Or.inr (Or.inl ⟨h_0, rfl, rfl⟩))) (fun k_0 b_1 w_2 hh_3 cs_4 cl_5 fs_6 α_7 kp_8 gd_9 gu_10 mi_11 sp_12 h_13 h_14 h_15 => hx1 (Or.inr (Or.inr ⟨k_0, b_1, w_2, hh_3, cs_4, cl_5, fs_6, α_7, kp_8, gd_9, gu_10, mi_11, sp_12, h_13, h_14, h_15, rfl, rfl⟩))))
  refine zr_i2l zi85_7 ?_
  refine zr_putfield zi85_8 ((G.f1 F4 (fun z => hO o z rfl)).at0 rfl) rfl rfl ?_
  refine zw_outS E4 hk (yI1.less (yI.at I hk)) hO G I F4 C4 (fun h8 T8 U8 => ?_)
  refine zr_goto zi85_11 rfl ?_
  refine zr_iconst (v := zJ 0) zi85_22 rfl ?_
  refine zr_ireturn zi85_23 rfl ?_
  exact K _ _ _ _ _ (Or.inl ⟨k, b, w, hh, cs, cl, fs, α, kp, gd, gu, mi, sp, hk, ex, c, hc, eg, h0, rfl, rfl, rfl⟩) (by omega) E4 (T8.fit (by omega) (by omega)) (fun _ => ⟨_, _, U8⟩)
def cs90 (nb : Nat) (L : List yBS) (rf : Int32) (αt : yAS) (x : Int32) (y : Int32) (kc : Nat) (vv : Int32) (LN : List yBS) : Prop :=
  (∃ k, ∃ b, ∃ w, ∃ hh, ∃ cs, ∃ cl, ∃ fs, ∃ α, ∃ kp, ∃ gd, ∃ gu, ∃ mi, ∃ sp, (L[k]? = some (b, (w, hh, cs, cl, fs), α, kp, gd, gu, mi, sp)) ∧ (x = zJ k) ∧ (∃ t, (t ≤ 2) ∧ (y = zJ t) ∧ (gu = 0) ∧ kc = 0 ∧ vv = (zJ (ynw w hh t)) ∧ LN = (L.set k (b, (ynw w hh t, ynh w hh t, yTr t (ynw w hh t) (ynh w hh t) w hh cs cs hh, (yTl t (ynw w hh t) (ynh w hh t) w hh cl cl fs (w + hh)).1, (yTl t (ynw w hh t) (ynh w hh t) w hh cl cl fs (w + hh)).2), α, kp, gd, gu, mi, sp)))) ∨
  ((¬ zin x L.length) ∧ kc = 1 ∧ LN = L) ∨
  (∃ k, ∃ b, ∃ w, ∃ hh, ∃ cs, ∃ cl, ∃ fs, ∃ α, ∃ kp, ∃ gd, ∃ gu, ∃ mi, ∃ sp, (L[k]? = some (b, (w, hh, cs, cl, fs), α, kp, gd, gu, mi, sp)) ∧ (x = zJ k) ∧ (¬ zin y 3) ∧ kc = 2 ∧ LN = L) ∨
  (∃ k, ∃ b, ∃ w, ∃ hh, ∃ cs, ∃ cl, ∃ fs, ∃ α, ∃ kp, ∃ gd, ∃ gu, ∃ mi, ∃ sp, (L[k]? = some (b, (w, hh, cs, cl, fs), α, kp, gd, gu, mi, sp)) ∧ (x = zJ k) ∧ (zin y 3) ∧ (¬ gu = 0) ∧ kc = 3 ∧ LN = L)
theorem cs90_len {nb : Nat} {L : List yBS} {rf : Int32} {αt : yAS} {x : Int32} {y : Int32} {kc : Nat} {vv : Int32} {LN : List yBS} (H : cs90 nb L rf αt x y kc vv LN) : LN.length = L.length := by
  rcases H with ⟨_, _, _, _, _, _, _, _, _, _, _, _, _, _, _, _, _, _, _, -, -, rfl⟩ | ⟨_, -, rfl⟩ | ⟨_, _, _, _, _, _, _, _, _, _, _, _, _, _, _, _, -, rfl⟩ | ⟨_, _, _, _, _, _, _, _, _, _, _, _, _, _, _, _, _, -, rfl⟩
  all_goals first | rfl | exact List.length_set
theorem c89 {E : zEnv} {h : zPH} {Q : zOut → zPH → Prop} (S : ySs E h) {a o : Nat} {L : List yBS} {rf : Int32} {τ : yGS} {αt : yAS} (C : yC h a L rf τ αt) (O : yO h o) (hO : ∀ x, yPb a (L.map (·.1)) x → x ≠ o) (I : yI L) {x : Int32} {y : Int32} (K : ∀ h1 kc vv LN L1, cs90 h.2.1 L rf αt x y kc vv LN → kc ≤ 3 → yEqA LN L1 → yT h h1 a o L L1 rf 1 6 → (kc = 0 → ∃ u1 u2, h1.1 o = some (3, [.long vv.toInt64, u1, u2])) → Q (.inl (some (.int (zJ kc)))) h1) : zcall E 4 89 [.ref a, .int x, .int y, .ref o] h Q := by
  have H := C.1
  have GO := O
  obtain ⟨u0, u1, u2, G⟩ := GO
  show zwp E _ 89 (0, [some (.ref _), some (.int _), some (.int _), some (.ref _), none], [], _) Q
  refine zr_aload_n zi89_0 rfl ?_
  refine zr_aload_n zi89_1 rfl ?_
  refine zr_iload_n zi89_2 rfl ?_
  refine zr_iload_n zi89_3 rfl ?_
  refine zr_virtual zi89_4 rfl rfl (H.1.at0 rfl) rfl rfl ?_
  have hx0 : cs90 h.2.1 L rf αt x y 2 0 L → zbk E 4 89 4 7 [some (.ref a), some (.int x), some (.int y), some (.ref o), none] [.ref o] Q (.inr 0) (zex h) := by
    intro hcs
    refine zbk_th rfl rfl rfl rfl ?_
    show zwp E _ 89 (20, [some (.ref a), some (.int x), some (.int y), some (.ref o), none], [], _) Q
    refine zr_iconst (v := zJ 2) zi89_20 rfl ?_
    refine zr_ireturn zi89_21 rfl ?_
    exact K _ _ _ _ _ hcs (by omega) (yEqA.refl L) ((yT.ex C O I).fit (by omega) (by omega)) (fun z => absurd z (by decide))
  have hx1 : cs90 h.2.1 L rf αt x y 3 0 L → zbk E 4 89 4 7 [some (.ref a), some (.int x), some (.int y), some (.ref o), none] [.ref o] Q (.inr 1) (zex h) := by
    intro hcs
    refine zbk_th rfl rfl rfl rfl ?_
    show zwp E _ 89 (24, [some (.ref a), some (.int x), some (.int y), some (.ref o), none], [], _) Q
    refine zr_iconst (v := zJ 3) zi89_24 rfl ?_
    refine zr_ireturn zi89_25 rfl ?_
    exact K _ _ _ _ _ hcs (by omega) (yEqA.refl L) ((yT.ex C O I).fit (by omega) (by omega)) (fun z => absurd z (by decide))
  have hx2 : cs90 h.2.1 L rf αt x y 1 0 L → zbk E 4 89 4 7 [some (.ref a), some (.int x), some (.int y), some (.ref o), none] [.ref o] Q (.inr 2) (zex h) := by
    intro hcs
    refine zbk_th rfl rfl rfl rfl ?_
    show zwp E _ 89 (16, [some (.ref a), some (.int x), some (.int y), some (.ref o), none], [], _) Q
    refine zr_iconst (v := zJ 1) zi89_16 rfl ?_
    refine zr_ireturn zi89_17 rfl ?_
    exact K _ _ _ _ _ hcs (by omega) (yEqA.refl L) ((yT.ex C O I).fit (by omega) (by omega)) (fun z => absurd z (by decide))
  refine zcall_dep (d := 3) (Nat.le_of_ble_eq_true rfl) (c90 S C (fun k b w hh cs cl fs α kp gd gu mi sp hk ex t ht et hg h4 L4 τ4 α4 E4 F4 C4 => zbk_v ?_) (fun h_0 => hx2 (Or.inr (Or.inl ⟨h_0, rfl, rfl⟩))) (fun k_0 b_1 w_2 hh_3 cs_4 cl_5 fs_6 α_7 kp_8 gd_9 gu_10 mi_11 sp_12 h_13 h_14 h_15 => hx0 (Or.inr (Or.inr (Or.inl ⟨k_0, b_1, w_2, hh_3, cs_4, cl_5, fs_6, α_7, kp_8, gd_9, gu_10, mi_11, sp_12, h_13, h_14, h_15, rfl, rfl⟩)))) (fun k_0 b_1 w_2 hh_3 cs_4 cl_5 fs_6 α_7 kp_8 gd_9 gu_10 mi_11 sp_12 h_13 h_14 h_15 h_16 => hx1 (Or.inr (Or.inr (Or.inr ⟨k_0, b_1, w_2, hh_3, cs_4, cl_5, fs_6, α_7, kp_8, gd_9, gu_10, mi_11, sp_12, h_13, h_14, h_15, h_16, rfl, rfl⟩)))))
  refine zr_i2l zi89_7 ?_
  refine zr_putfield zi89_8 ((G.f1 F4 (fun z => hO o z rfl)).at0 rfl) rfl rfl ?_
  refine zw_outS E4 hk (yI.at I hk) hO G I F4 C4 (fun h8 T8 U8 => ?_)
  refine zr_goto zi89_11 rfl ?_
  refine zr_iconst (v := zJ 0) zi89_26 rfl ?_
  refine zr_ireturn zi89_27 rfl ?_
  exact K _ _ _ _ _ (Or.inl ⟨k, b, w, hh, cs, cl, fs, α, kp, gd, gu, mi, sp, hk, ex, t, ht, et, hg, rfl, rfl, rfl⟩) (by omega) E4 (T8.fit (by omega) (by omega)) (fun _ => ⟨_, _, U8⟩)
def cs95 (nb : Nat) (L : List yBS) (rf : Int32) (αt : yAS) (x : Int32) (y : Int32) (z : Int32) (kc : Nat) (vv : Int32) (LN : List yBS) : Prop :=
  (∃ k, ∃ b, ∃ w, ∃ hh, ∃ cs, ∃ cl, ∃ fs, ∃ α, ∃ kp, ∃ gd, ∃ gu, ∃ mi, ∃ sp, (L[k]? = some (b, (w, hh, cs, cl, fs), α, kp, gd, gu, mi, sp)) ∧ (x = zJ k) ∧ (∃ r, (r < hh) ∧ (y = zJ r) ∧ (∃ n, (n < 2 ^ w) ∧ (z = zJ n) ∧ (gu = 0) ∧ kc = 0 ∧ vv = (zJ (zct (zpr w hh r (zJ n) cs w) (zJ 1) (w * hh))) ∧ LN = (L.set k (b, (w, hh, zpr w hh r (zJ n) cs w, cl, fs), α, kp, gd, gu, mi, sp))))) ∨
  ((¬ zin x L.length) ∧ kc = 1 ∧ LN = L) ∨
  (∃ k, ∃ b, ∃ w, ∃ hh, ∃ cs, ∃ cl, ∃ fs, ∃ α, ∃ kp, ∃ gd, ∃ gu, ∃ mi, ∃ sp, (L[k]? = some (b, (w, hh, cs, cl, fs), α, kp, gd, gu, mi, sp)) ∧ (x = zJ k) ∧ (¬ zin y hh) ∧ kc = 1 ∧ LN = L) ∨
  (∃ k, ∃ b, ∃ w, ∃ hh, ∃ cs, ∃ cl, ∃ fs, ∃ α, ∃ kp, ∃ gd, ∃ gu, ∃ mi, ∃ sp, (L[k]? = some (b, (w, hh, cs, cl, fs), α, kp, gd, gu, mi, sp)) ∧ (x = zJ k) ∧ (zin y hh) ∧ (¬ zin z (2 ^ w)) ∧ kc = 2 ∧ LN = L) ∨
  (∃ k, ∃ b, ∃ w, ∃ hh, ∃ cs, ∃ cl, ∃ fs, ∃ α, ∃ kp, ∃ gd, ∃ gu, ∃ mi, ∃ sp, (L[k]? = some (b, (w, hh, cs, cl, fs), α, kp, gd, gu, mi, sp)) ∧ (x = zJ k) ∧ (zin y hh) ∧ (zin z (2 ^ w)) ∧ (¬ gu = 0) ∧ kc = 3 ∧ LN = L)
theorem cs95_len {nb : Nat} {L : List yBS} {rf : Int32} {αt : yAS} {x : Int32} {y : Int32} {z : Int32} {kc : Nat} {vv : Int32} {LN : List yBS} (H : cs95 nb L rf αt x y z kc vv LN) : LN.length = L.length := by
  rcases H with ⟨_, _, _, _, _, _, _, _, _, _, _, _, _, _, _, _, _, _, _, _, _, _, -, -, rfl⟩ | ⟨_, -, rfl⟩ | ⟨_, _, _, _, _, _, _, _, _, _, _, _, _, _, _, _, -, rfl⟩ | ⟨_, _, _, _, _, _, _, _, _, _, _, _, _, _, _, _, _, -, rfl⟩ | ⟨_, _, _, _, _, _, _, _, _, _, _, _, _, _, _, _, _, _, -, rfl⟩
  all_goals first | rfl | exact List.length_set
theorem c94 {E : zEnv} {h : zPH} {Q : zOut → zPH → Prop} (S : ySs E h) {a o : Nat} {L : List yBS} {rf : Int32} {τ : yGS} {αt : yAS} (C : yC h a L rf τ αt) (O : yO h o) (hO : ∀ x, yPb a (L.map (·.1)) x → x ≠ o) (I : yI L) {x : Int32} {y : Int32} {z : Int32} (K : ∀ h1 kc vv LN L1, cs95 h.2.1 L rf αt x y z kc vv LN → kc ≤ 3 → yEqA LN L1 → yT h h1 a o L L1 rf 1 6 → (kc = 0 → ∃ u1 u2, h1.1 o = some (3, [.long vv.toInt64, u1, u2])) → Q (.inl (some (.int (zJ kc)))) h1) : zcall E 3 94 [.ref a, .int x, .int y, .int z, .ref o] h Q := by
  have H := C.1
  have GO := O
  obtain ⟨u0, u1, u2, G⟩ := GO
  show zwp E _ 94 (0, [some (.ref _), some (.int _), some (.int _), some (.int _), some (.ref _), none], [], _) Q
  refine zr_aload zi94_0 rfl ?_
  refine zr_aload_n zi94_2 rfl ?_
  refine zr_iload_n zi94_3 rfl ?_
  refine zr_iload_n zi94_4 rfl ?_
  refine zr_iload_n zi94_5 rfl ?_
  refine zr_virtual zi94_6 rfl rfl (H.1.at0 rfl) rfl rfl ?_
  have hx0 : cs95 h.2.1 L rf αt x y z 2 0 L → zbk E 3 94 6 9 [some (.ref a), some (.int x), some (.int y), some (.int z), some (.ref o), none] [.ref o] Q (.inr 0) (zex h) := by
    intro hcs
    refine zbk_th rfl rfl rfl rfl ?_
    show zwp E _ 94 (22, [some (.ref a), some (.int x), some (.int y), some (.int z), some (.ref o), none], [], _) Q
    refine zr_iconst (v := zJ 2) zi94_22 rfl ?_
    refine zr_ireturn zi94_23 rfl ?_
    exact K _ _ _ _ _ hcs (by omega) (yEqA.refl L) ((yT.ex C O I).fit (by omega) (by omega)) (fun z => absurd z (by decide))
  have hx1 : cs95 h.2.1 L rf αt x y z 3 0 L → zbk E 3 94 6 9 [some (.ref a), some (.int x), some (.int y), some (.int z), some (.ref o), none] [.ref o] Q (.inr 1) (zex h) := by
    intro hcs
    refine zbk_th rfl rfl rfl rfl ?_
    show zwp E _ 94 (26, [some (.ref a), some (.int x), some (.int y), some (.int z), some (.ref o), none], [], _) Q
    refine zr_iconst (v := zJ 3) zi94_26 rfl ?_
    refine zr_ireturn zi94_27 rfl ?_
    exact K _ _ _ _ _ hcs (by omega) (yEqA.refl L) ((yT.ex C O I).fit (by omega) (by omega)) (fun z => absurd z (by decide))
  have hx2 : cs95 h.2.1 L rf αt x y z 1 0 L → zbk E 3 94 6 9 [some (.ref a), some (.int x), some (.int y), some (.int z), some (.ref o), none] [.ref o] Q (.inr 2) (zex h) := by
    intro hcs
    refine zbk_th rfl rfl rfl rfl ?_
    show zwp E _ 94 (18, [some (.ref a), some (.int x), some (.int y), some (.int z), some (.ref o), none], [], _) Q
    refine zr_iconst (v := zJ 1) zi94_18 rfl ?_
    refine zr_ireturn zi94_19 rfl ?_
    exact K _ _ _ _ _ hcs (by omega) (yEqA.refl L) ((yT.ex C O I).fit (by omega) (by omega)) (fun z => absurd z (by decide))
  refine zcall_dep (d := 2) (Nat.le_of_ble_eq_true rfl) (c95 S C (fun k b w hh cs cl fs α kp gd gu mi sp hk ex r hr er n hn en hg h4 L4 τ4 α4 E4 F4 C4 => zbk_v ?_) (fun h_0 => hx2 (Or.inr (Or.inl ⟨h_0, rfl, rfl⟩))) (fun k_0 b_1 w_2 hh_3 cs_4 cl_5 fs_6 α_7 kp_8 gd_9 gu_10 mi_11 sp_12 h_13 h_14 h_15 => hx2 (Or.inr (Or.inr (Or.inl ⟨k_0, b_1, w_2, hh_3, cs_4, cl_5, fs_6, α_7, kp_8, gd_9, gu_10, mi_11, sp_12, h_13, h_14, h_15, rfl, rfl⟩)))) (fun k_0 b_1 w_2 hh_3 cs_4 cl_5 fs_6 α_7 kp_8 gd_9 gu_10 mi_11 sp_12 h_13 h_14 h_15 h_16 => hx0 (Or.inr (Or.inr (Or.inr (Or.inl ⟨k_0, b_1, w_2, hh_3, cs_4, cl_5, fs_6, α_7, kp_8, gd_9, gu_10, mi_11, sp_12, h_13, h_14, h_15, h_16, rfl, rfl⟩))))) (fun k_0 b_1 w_2 hh_3 cs_4 cl_5 fs_6 α_7 kp_8 gd_9 gu_10 mi_11 sp_12 h_13 h_14 h_15 h_16 h_17 => hx1 (Or.inr (Or.inr (Or.inr (Or.inr ⟨k_0, b_1, w_2, hh_3, cs_4, cl_5, fs_6, α_7, kp_8, gd_9, gu_10, mi_11, sp_12, h_13, h_14, h_15, h_16, h_17, rfl, rfl⟩))))))
  refine zr_i2l zi94_9 ?_
  refine zr_putfield zi94_10 ((G.f1 F4 (fun z => hO o z rfl)).at0 rfl) rfl rfl ?_
  refine zw_outS E4 hk (yI.at I hk) hO G I F4 C4 (fun h8 T8 U8 => ?_)
  refine zr_goto zi94_13 rfl ?_
  refine zr_iconst (v := zJ 0) zi94_28 rfl ?_
  refine zr_ireturn zi94_29 rfl ?_
  exact K _ _ _ _ _ (Or.inl ⟨k, b, w, hh, cs, cl, fs, α, kp, gd, gu, mi, sp, hk, ex, r, hr, er, n, hn, en, hg, rfl, rfl, rfl⟩) (by omega) E4 (T8.fit (by omega) (by omega)) (fun _ => ⟨_, _, U8⟩)
def cs98 (nb : Nat) (L : List yBS) (rf : Int32) (αt : yAS) (x : Int32) (kc : Nat) (vv : Int32) (LN : List yBS) : Prop :=
  (∃ k, ∃ b, ∃ w, ∃ hh, ∃ cs, ∃ cl, ∃ fs, ∃ α, ∃ kp, ∃ gd, ∃ gu, ∃ mi, ∃ sp, (L[k]? = some (b, (w, hh, cs, cl, fs), α, kp, gd, gu, mi, sp)) ∧ (x = zJ k) ∧ (gu = 0) ∧ (zct cs (zJ 0) (w * hh) = 0) ∧ kc = 0 ∧ vv = (zts w hh cs cl fs (w + hh)).2.2 ∧ LN = (L.set k (b, (w, hh, zclr cs 25, (zts w hh cs cl fs (w + hh)).1, (zts w hh cs cl fs (w + hh)).2.1), α, kp, gd, gu, mi, sp))) ∨
  ((¬ zin x L.length) ∧ kc = 1 ∧ LN = L) ∨
  (∃ k, ∃ b, ∃ w, ∃ hh, ∃ cs, ∃ cl, ∃ fs, ∃ α, ∃ kp, ∃ gd, ∃ gu, ∃ mi, ∃ sp, (L[k]? = some (b, (w, hh, cs, cl, fs), α, kp, gd, gu, mi, sp)) ∧ (x = zJ k) ∧ (¬ gu = 0) ∧ kc = 2 ∧ LN = L) ∨
  (∃ k, ∃ b, ∃ w, ∃ hh, ∃ cs, ∃ cl, ∃ fs, ∃ α, ∃ kp, ∃ gd, ∃ gu, ∃ mi, ∃ sp, (L[k]? = some (b, (w, hh, cs, cl, fs), α, kp, gd, gu, mi, sp)) ∧ (x = zJ k) ∧ (¬ zct cs (zJ 0) (w * hh) = 0) ∧ kc = 2 ∧ LN = L)
theorem cs98_len {nb : Nat} {L : List yBS} {rf : Int32} {αt : yAS} {x : Int32} {kc : Nat} {vv : Int32} {LN : List yBS} (H : cs98 nb L rf αt x kc vv LN) : LN.length = L.length := by
  rcases H with ⟨_, _, _, _, _, _, _, _, _, _, _, _, _, _, _, _, _, -, -, rfl⟩ | ⟨_, -, rfl⟩ | ⟨_, _, _, _, _, _, _, _, _, _, _, _, _, _, _, _, -, rfl⟩ | ⟨_, _, _, _, _, _, _, _, _, _, _, _, _, _, _, _, -, rfl⟩
  all_goals first | rfl | exact List.length_set
theorem c97 {E : zEnv} {h : zPH} {Q : zOut → zPH → Prop} (S : ySs E h) {a o : Nat} {L : List yBS} {rf : Int32} {τ : yGS} {αt : yAS} (C : yC h a L rf τ αt) (O : yO h o) (hO : ∀ x, yPb a (L.map (·.1)) x → x ≠ o) (I : yI L) {x : Int32} (K : ∀ h1 kc vv LN L1, cs98 h.2.1 L rf αt x kc vv LN → kc ≤ 3 → yEqA LN L1 → yT h h1 a o L L1 rf 1 6 → (kc = 0 → ∃ u1 u2, h1.1 o = some (3, [.long vv.toInt64, u1, u2])) → Q (.inl (some (.int (zJ kc)))) h1) : zcall E 4 97 [.ref a, .int x, .ref o] h Q := by
  have H := C.1
  have GO := O
  obtain ⟨u0, u1, u2, G⟩ := GO
  show zwp E _ 97 (0, [some (.ref _), some (.int _), some (.ref _), none], [], _) Q
  refine zr_aload_n zi97_0 rfl ?_
  refine zr_aload_n zi97_1 rfl ?_
  refine zr_iload_n zi97_2 rfl ?_
  refine zr_virtual zi97_3 rfl rfl (H.1.at0 rfl) rfl rfl ?_
  have hx1 : cs98 h.2.1 L rf αt x 2 0 L → zbk E 4 97 3 6 [some (.ref a), some (.int x), some (.ref o), none] [.ref o] Q (.inr 1) (zex h) := by
    intro hcs
    refine zbk_th rfl rfl rfl rfl ?_
    show zwp E _ 97 (17, [some (.ref a), some (.int x), some (.ref o), none], [], _) Q
    refine zr_iconst (v := zJ 2) zi97_17 rfl ?_
    refine zr_ireturn zi97_18 rfl ?_
    exact K _ _ _ _ _ hcs (by omega) (yEqA.refl L) ((yT.ex C O I).fit (by omega) (by omega)) (fun z => absurd z (by decide))
  have hx2 : cs98 h.2.1 L rf αt x 1 0 L → zbk E 4 97 3 6 [some (.ref a), some (.int x), some (.ref o), none] [.ref o] Q (.inr 2) (zex h) := by
    intro hcs
    refine zbk_th rfl rfl rfl rfl ?_
    show zwp E _ 97 (14, [some (.ref a), some (.int x), some (.ref o), none], [], _) Q
    refine zr_iconst (v := zJ 1) zi97_14 rfl ?_
    refine zr_ireturn zi97_15 rfl ?_
    exact K _ _ _ _ _ hcs (by omega) (yEqA.refl L) ((yT.ex C O I).fit (by omega) (by omega)) (fun z => absurd z (by decide))
  refine zcall_dep (d := 3) (Nat.le_of_ble_eq_true rfl) (c98 S C (fun k b w hh cs cl fs α kp gd gu mi sp hk ex hg hz h4 L4 τ4 α4 E4 F4 C4 => zbk_v ?_) (fun h_0 => hx2 (Or.inr (Or.inl ⟨h_0, rfl, rfl⟩))) (fun k_0 b_1 w_2 hh_3 cs_4 cl_5 fs_6 α_7 kp_8 gd_9 gu_10 mi_11 sp_12 h_13 h_14 h_15 => hx1 (Or.inr (Or.inr (Or.inl ⟨k_0, b_1, w_2, hh_3, cs_4, cl_5, fs_6, α_7, kp_8, gd_9, gu_10, mi_11, sp_12, h_13, h_14, h_15, rfl, rfl⟩)))) (fun k_0 b_1 w_2 hh_3 cs_4 cl_5 fs_6 α_7 kp_8 gd_9 gu_10 mi_11 sp_12 h_13 h_14 h_15 => hx1 (Or.inr (Or.inr (Or.inr ⟨k_0, b_1, w_2, hh_3, cs_4, cl_5, fs_6, α_7, kp_8, gd_9, gu_10, mi_11, sp_12, h_13, h_14, h_15, rfl, rfl⟩)))))
  refine zr_i2l zi97_6 ?_
  refine zr_putfield zi97_7 ((G.f1 F4 (fun z => hO o z rfl)).at0 rfl) rfl rfl ?_
  refine zw_outS E4 hk (yI.at I hk) hO G I F4 C4 (fun h8 T8 U8 => ?_)
  refine zr_goto zi97_10 rfl ?_
  refine zr_iconst (v := zJ 0) zi97_19 rfl ?_
  refine zr_ireturn zi97_20 rfl ?_
  exact K _ _ _ _ _ (Or.inl ⟨k, b, w, hh, cs, cl, fs, α, kp, gd, gu, mi, sp, hk, ex, hg, hz, rfl, rfl, rfl⟩) (by omega) E4 (T8.fit (by omega) (by omega)) (fun _ => ⟨_, _, U8⟩)
def cs103 (nb : Nat) (L : List yBS) (rf : Int32) (αt : yAS) (x : Int32) (kc : Nat) (vv : Int32) (LN : List yBS) : Prop :=
  (∃ k, ∃ b, ∃ w, ∃ hh, ∃ cs, ∃ cl, ∃ fs, ∃ α, ∃ kp, ∃ gd, ∃ gu, ∃ mi, ∃ sp, (L[k]? = some (b, (w, hh, cs, cl, fs), α, kp, gd, gu, mi, sp)) ∧ (x = zJ k) ∧ kc = 0 ∧ vv = (zJ (w * hh - zct cs (zJ 0) (w * hh))) ∧ LN = (L.set k (b, (w, hh, zclr cs 25, cl, fs), α, kp, gd, 0, mi, sp))) ∨
  ((¬ zin x L.length) ∧ kc = 1 ∧ LN = L)
theorem cs103_len {nb : Nat} {L : List yBS} {rf : Int32} {αt : yAS} {x : Int32} {kc : Nat} {vv : Int32} {LN : List yBS} (H : cs103 nb L rf αt x kc vv LN) : LN.length = L.length := by
  rcases H with ⟨_, _, _, _, _, _, _, _, _, _, _, _, _, _, _, -, -, rfl⟩ | ⟨_, -, rfl⟩
  all_goals first | rfl | exact List.length_set
theorem c102 {E : zEnv} {h : zPH} {Q : zOut → zPH → Prop} (S : ySs E h) {a o : Nat} {L : List yBS} {rf : Int32} {τ : yGS} {αt : yAS} (C : yC h a L rf τ αt) (O : yO h o) (hO : ∀ x, yPb a (L.map (·.1)) x → x ≠ o) (I : yI L) {x : Int32} (K : ∀ h1 kc vv LN L1, cs103 h.2.1 L rf αt x kc vv LN → kc ≤ 3 → yEqA LN L1 → yT h h1 a o L L1 rf 1 6 → (kc = 0 → ∃ u1 u2, h1.1 o = some (3, [.long vv.toInt64, u1, u2])) → Q (.inl (some (.int (zJ kc)))) h1) : zcall E 3 102 [.ref a, .int x, .ref o] h Q := by
  have H := C.1
  have GO := O
  obtain ⟨u0, u1, u2, G⟩ := GO
  show zwp E _ 102 (0, [some (.ref _), some (.int _), some (.ref _), none], [], _) Q
  refine zr_aload_n zi102_0 rfl ?_
  refine zr_aload_n zi102_1 rfl ?_
  refine zr_iload_n zi102_2 rfl ?_
  refine zr_virtual zi102_3 rfl rfl (H.1.at0 rfl) rfl rfl ?_
  have hx2 : cs103 h.2.1 L rf αt x 1 0 L → zbk E 3 102 3 6 [some (.ref a), some (.int x), some (.ref o), none] [.ref o] Q (.inr 2) (zex h) := by
    intro hcs
    refine zbk_th rfl rfl rfl rfl ?_
    show zwp E _ 102 (14, [some (.ref a), some (.int x), some (.ref o), none], [], _) Q
    refine zr_iconst (v := zJ 1) zi102_14 rfl ?_
    refine zr_ireturn zi102_15 rfl ?_
    exact K _ _ _ _ _ hcs (by omega) (yEqA.refl L) ((yT.ex C O I).fit (by omega) (by omega)) (fun z => absurd z (by decide))
  refine zcall_dep (d := 2) (Nat.le_of_ble_eq_true rfl) (c103 S C (fun k b w hh cs cl fs α kp gd gu mi sp hk ex  h4 L4 τ4 α4 E4 F4 C4 => zbk_v ?_) (fun h_0 => hx2 (Or.inr ⟨h_0, rfl, rfl⟩)))
  refine zr_i2l zi102_6 ?_
  refine zr_putfield zi102_7 ((G.f1 F4 (fun z => hO o z rfl)).at0 rfl) rfl rfl ?_
  refine zw_outS E4 hk (fun i z => absurd z (Nat.not_lt_zero i)) hO G I F4 C4 (fun h8 T8 U8 => ?_)
  refine zr_goto zi102_10 rfl ?_
  refine zr_iconst (v := zJ 0) zi102_16 rfl ?_
  refine zr_ireturn zi102_17 rfl ?_
  exact K _ _ _ _ _ (Or.inl ⟨k, b, w, hh, cs, cl, fs, α, kp, gd, gu, mi, sp, hk, ex, rfl, rfl, rfl⟩) (by omega) E4 (T8.fit (by omega) (by omega)) (fun _ => ⟨_, _, U8⟩)
def cs39 (nb : Nat) (L : List yBS) (rf : Int32) (αt : yAS) (x : Int32) (y : Int32) (z : Int32) (kc : Nat) (vv : Int32) (LN : List yBS) : Prop :=
  (∃ k, ∃ b, ∃ w, ∃ hh, ∃ cs, ∃ cl, ∃ fs, ∃ α, ∃ kp, ∃ gd, ∃ gu, ∃ mi, ∃ sp, (L[k]? = some (b, (w, hh, cs, cl, fs), α, kp, gd, gu, mi, sp)) ∧ (x = zJ k) ∧ (∃ c, (c < w * hh) ∧ (y = zJ c) ∧ (∃ t, (t < 4) ∧ (z = zJ t) ∧ kc = 0 ∧ vv = (cs.getD (c * 4 + t) 0) ∧ LN = L))) ∨
  ((¬ zin x L.length) ∧ kc = 1 ∧ LN = L) ∨
  (∃ k, ∃ b, ∃ w, ∃ hh, ∃ cs, ∃ cl, ∃ fs, ∃ α, ∃ kp, ∃ gd, ∃ gu, ∃ mi, ∃ sp, (L[k]? = some (b, (w, hh, cs, cl, fs), α, kp, gd, gu, mi, sp)) ∧ (x = zJ k) ∧ (¬ zin y (w * hh)) ∧ kc = 1 ∧ LN = L) ∨
  (∃ k, ∃ b, ∃ w, ∃ hh, ∃ cs, ∃ cl, ∃ fs, ∃ α, ∃ kp, ∃ gd, ∃ gu, ∃ mi, ∃ sp, (L[k]? = some (b, (w, hh, cs, cl, fs), α, kp, gd, gu, mi, sp)) ∧ (x = zJ k) ∧ (zin y (w * hh)) ∧ (¬ zin z 4) ∧ kc = 2 ∧ LN = L)
theorem cs39_len {nb : Nat} {L : List yBS} {rf : Int32} {αt : yAS} {x : Int32} {y : Int32} {z : Int32} {kc : Nat} {vv : Int32} {LN : List yBS} (H : cs39 nb L rf αt x y z kc vv LN) : LN.length = L.length := by
  rcases H with ⟨_, _, _, _, _, _, _, _, _, _, _, _, _, _, _, _, _, _, _, _, _, -, -, rfl⟩ | ⟨_, -, rfl⟩ | ⟨_, _, _, _, _, _, _, _, _, _, _, _, _, _, _, _, -, rfl⟩ | ⟨_, _, _, _, _, _, _, _, _, _, _, _, _, _, _, _, _, -, rfl⟩
  all_goals first | rfl | exact List.length_set
theorem c104 {E : zEnv} {h : zPH} {Q : zOut → zPH → Prop} (S : ySs E h) {a o : Nat} {L : List yBS} {rf : Int32} {τ : yGS} {αt : yAS} (C : yC h a L rf τ αt) (O : yO h o) (hO : ∀ x, yPb a (L.map (·.1)) x → x ≠ o) (I : yI L) {x : Int32} {y : Int32} {z : Int32} (K : ∀ h1 kc vv LN L1, cs39 h.2.1 L rf αt x y z kc vv LN → kc ≤ 3 → yEqA LN L1 → yT h h1 a o L L1 rf 1 6 → (kc = 0 → ∃ u1 u2, h1.1 o = some (3, [.long vv.toInt64, u1, u2])) → Q (.inl (some (.int (zJ kc)))) h1) : zcall E 3 104 [.ref a, .int x, .int y, .int z, .ref o] h Q := by
  have H := C.1
  have GO := O
  obtain ⟨u0, u1, u2, G⟩ := GO
  show zwp E _ 104 (0, [some (.ref _), some (.int _), some (.int _), some (.int _), some (.ref _), none], [], _) Q
  refine zr_aload zi104_0 rfl ?_
  refine zr_aload_n zi104_2 rfl ?_
  refine zr_iload_n zi104_3 rfl ?_
  refine zr_iload_n zi104_4 rfl ?_
  refine zr_iload_n zi104_5 rfl ?_
  refine zr_virtual zi104_6 rfl rfl (H.1.at0 rfl) rfl rfl ?_
  have hx0 : cs39 h.2.1 L rf αt x y z 2 0 L → zbk E 3 104 6 9 [some (.ref a), some (.int x), some (.int y), some (.int z), some (.ref o), none] [.ref o] Q (.inr 0) (zex h) := by
    intro hcs
    refine zbk_th rfl rfl rfl rfl ?_
    show zwp E _ 104 (22, [some (.ref a), some (.int x), some (.int y), some (.int z), some (.ref o), none], [], _) Q
    refine zr_iconst (v := zJ 2) zi104_22 rfl ?_
    refine zr_ireturn zi104_23 rfl ?_
    exact K _ _ _ _ _ hcs (by omega) (yEqA.refl L) ((yT.ex C O I).fit (by omega) (by omega)) (fun z => absurd z (by decide))
  have hx2 : cs39 h.2.1 L rf αt x y z 1 0 L → zbk E 3 104 6 9 [some (.ref a), some (.int x), some (.int y), some (.int z), some (.ref o), none] [.ref o] Q (.inr 2) (zex h) := by
    intro hcs
    refine zbk_th rfl rfl rfl rfl ?_
    show zwp E _ 104 (18, [some (.ref a), some (.int x), some (.int y), some (.int z), some (.ref o), none], [], _) Q
    refine zr_iconst (v := zJ 1) zi104_18 rfl ?_
    refine zr_ireturn zi104_19 rfl ?_
    exact K _ _ _ _ _ hcs (by omega) (yEqA.refl L) ((yT.ex C O I).fit (by omega) (by omega)) (fun z => absurd z (by decide))
  refine zcall_dep (d := 2) (Nat.le_of_ble_eq_true rfl) (c39 S C (fun k b w hh cs cl fs α kp gd gu mi sp hk ex c hc ec t ht et h4 L4 τ4 α4 E4 F4 C4 => zbk_v ?_) (fun h_0 => hx2 (Or.inr (Or.inl ⟨h_0, rfl, rfl⟩))) (fun k_0 b_1 w_2 hh_3 cs_4 cl_5 fs_6 α_7 kp_8 gd_9 gu_10 mi_11 sp_12 h_13 h_14 h_15 => hx2 (Or.inr (Or.inr (Or.inl ⟨k_0, b_1, w_2, hh_3, cs_4, cl_5, fs_6, α_7, kp_8, gd_9, gu_10, mi_11, sp_12, h_13, h_14, h_15, rfl, rfl⟩)))) (fun k_0 b_1 w_2 hh_3 cs_4 cl_5 fs_6 α_7 kp_8 gd_9 gu_10 mi_11 sp_12 h_13 h_14 h_15 h_16 => hx0 (Or.inr (Or.inr (Or.inr ⟨k_0, b_1, w_2, hh_3, cs_4, cl_5, fs_6, α_7, kp_8, gd_9, gu_10, mi_11, sp_12, h_13, h_14, h_15, h_16, rfl, rfl⟩)))))
  refine zr_i2l zi104_9 ?_
  refine zr_putfield zi104_10 ((G.f1 F4 (fun z => hO o z rfl)).at0 rfl) rfl rfl ?_
  refine zw_out hO G (yR.map rfl) I E4 F4 C4 (fun h8 T8 U8 => ?_)
  refine zr_goto zi104_13 rfl ?_
  refine zr_iconst (v := zJ 0) zi104_24 rfl ?_
  refine zr_ireturn zi104_25 rfl ?_
  exact K _ _ _ _ _ (Or.inl ⟨k, b, w, hh, cs, cl, fs, α, kp, gd, gu, mi, sp, hk, ex, c, hc, ec, t, ht, et, rfl, rfl, rfl⟩) (by omega) E4 (T8.fit (by omega) (by omega)) (fun _ => ⟨_, _, U8⟩)
def cs42 (nb : Nat) (L : List yBS) (rf : Int32) (αt : yAS) (x : Int32) (y : Int32) (z : Int32) (kc : Nat) (vv : Int32) (LN : List yBS) : Prop :=
  (∃ k, ∃ b, ∃ w, ∃ hh, ∃ cs, ∃ cl, ∃ fs, ∃ α, ∃ kp, ∃ gd, ∃ gu, ∃ mi, ∃ sp, (L[k]? = some (b, (w, hh, cs, cl, fs), α, kp, gd, gu, mi, sp)) ∧ (x = zJ k) ∧ (∃ i, (i < w + hh) ∧ (y = zJ i) ∧ (∃ t, (t < 6) ∧ (z = zJ t) ∧ kc = 0 ∧ vv = (zof w hh cs cl fs i t) ∧ LN = L))) ∨
  ((¬ zin x L.length) ∧ kc = 1 ∧ LN = L) ∨
  (∃ k, ∃ b, ∃ w, ∃ hh, ∃ cs, ∃ cl, ∃ fs, ∃ α, ∃ kp, ∃ gd, ∃ gu, ∃ mi, ∃ sp, (L[k]? = some (b, (w, hh, cs, cl, fs), α, kp, gd, gu, mi, sp)) ∧ (x = zJ k) ∧ (¬ zin y (w + hh)) ∧ kc = 1 ∧ LN = L) ∨
  (∃ k, ∃ b, ∃ w, ∃ hh, ∃ cs, ∃ cl, ∃ fs, ∃ α, ∃ kp, ∃ gd, ∃ gu, ∃ mi, ∃ sp, (L[k]? = some (b, (w, hh, cs, cl, fs), α, kp, gd, gu, mi, sp)) ∧ (x = zJ k) ∧ (zin y (w + hh)) ∧ (¬ zin z 6) ∧ kc = 2 ∧ LN = L)
theorem cs42_len {nb : Nat} {L : List yBS} {rf : Int32} {αt : yAS} {x : Int32} {y : Int32} {z : Int32} {kc : Nat} {vv : Int32} {LN : List yBS} (H : cs42 nb L rf αt x y z kc vv LN) : LN.length = L.length := by
  rcases H with ⟨_, _, _, _, _, _, _, _, _, _, _, _, _, _, _, _, _, _, _, _, _, -, -, rfl⟩ | ⟨_, -, rfl⟩ | ⟨_, _, _, _, _, _, _, _, _, _, _, _, _, _, _, _, -, rfl⟩ | ⟨_, _, _, _, _, _, _, _, _, _, _, _, _, _, _, _, _, -, rfl⟩
  all_goals first | rfl | exact List.length_set
theorem c105 {E : zEnv} {h : zPH} {Q : zOut → zPH → Prop} (S : ySs E h) {a o : Nat} {L : List yBS} {rf : Int32} {τ : yGS} {αt : yAS} (C : yC h a L rf τ αt) (O : yO h o) (hO : ∀ x, yPb a (L.map (·.1)) x → x ≠ o) (I : yI L) {x : Int32} {y : Int32} {z : Int32} (K : ∀ h1 kc vv LN L1, cs42 h.2.1 L rf αt x y z kc vv LN → kc ≤ 3 → yEqA LN L1 → yT h h1 a o L L1 rf 1 6 → (kc = 0 → ∃ u1 u2, h1.1 o = some (3, [.long vv.toInt64, u1, u2])) → Q (.inl (some (.int (zJ kc)))) h1) : zcall E 4 105 [.ref a, .int x, .int y, .int z, .ref o] h Q := by
  have H := C.1
  have GO := O
  obtain ⟨u0, u1, u2, G⟩ := GO
  show zwp E _ 105 (0, [some (.ref _), some (.int _), some (.int _), some (.int _), some (.ref _), none], [], _) Q
  refine zr_aload zi105_0 rfl ?_
  refine zr_aload_n zi105_2 rfl ?_
  refine zr_iload_n zi105_3 rfl ?_
  refine zr_iload_n zi105_4 rfl ?_
  refine zr_iload_n zi105_5 rfl ?_
  refine zr_virtual zi105_6 rfl rfl (H.1.at0 rfl) rfl rfl ?_
  have hx0 : cs42 h.2.1 L rf αt x y z 2 0 L → zbk E 4 105 6 9 [some (.ref a), some (.int x), some (.int y), some (.int z), some (.ref o), none] [.ref o] Q (.inr 0) (zex h) := by
    intro hcs
    refine zbk_th rfl rfl rfl rfl ?_
    show zwp E _ 105 (22, [some (.ref a), some (.int x), some (.int y), some (.int z), some (.ref o), none], [], _) Q
    refine zr_iconst (v := zJ 2) zi105_22 rfl ?_
    refine zr_ireturn zi105_23 rfl ?_
    exact K _ _ _ _ _ hcs (by omega) (yEqA.refl L) ((yT.ex C O I).fit (by omega) (by omega)) (fun z => absurd z (by decide))
  have hx2 : cs42 h.2.1 L rf αt x y z 1 0 L → zbk E 4 105 6 9 [some (.ref a), some (.int x), some (.int y), some (.int z), some (.ref o), none] [.ref o] Q (.inr 2) (zex h) := by
    intro hcs
    refine zbk_th rfl rfl rfl rfl ?_
    show zwp E _ 105 (18, [some (.ref a), some (.int x), some (.int y), some (.int z), some (.ref o), none], [], _) Q
    refine zr_iconst (v := zJ 1) zi105_18 rfl ?_
    refine zr_ireturn zi105_19 rfl ?_
    exact K _ _ _ _ _ hcs (by omega) (yEqA.refl L) ((yT.ex C O I).fit (by omega) (by omega)) (fun z => absurd z (by decide))
  refine zcall_dep (d := 3) (Nat.le_of_ble_eq_true rfl) (c42 S C (fun k b w hh cs cl fs α kp gd gu mi sp hk ex i hi ei t ht et h4 L4 τ4 α4 E4 F4 C4 => zbk_v ?_) (fun h_0 => hx2 (Or.inr (Or.inl ⟨h_0, rfl, rfl⟩))) (fun k_0 b_1 w_2 hh_3 cs_4 cl_5 fs_6 α_7 kp_8 gd_9 gu_10 mi_11 sp_12 h_13 h_14 h_15 => hx2 (Or.inr (Or.inr (Or.inl ⟨k_0, b_1, w_2, hh_3, cs_4, cl_5, fs_6, α_7, kp_8, gd_9, gu_10, mi_11, sp_12, h_13, h_14, h_15, rfl, rfl⟩)))) (fun k_0 b_1 w_2 hh_3 cs_4 cl_5 fs_6 α_7 kp_8 gd_9 gu_10 mi_11 sp_12 h_13 h_14 h_15 h_16 => hx0 (Or.inr (Or.inr (Or.inr ⟨k_0, b_1, w_2, hh_3, cs_4, cl_5, fs_6, α_7, kp_8, gd_9, gu_10, mi_11, sp_12, h_13, h_14, h_15, h_16, rfl, rfl⟩)))))
  refine zr_i2l zi105_9 ?_
  refine zr_putfield zi105_10 ((G.f1 F4 (fun z => hO o z rfl)).at0 rfl) rfl rfl ?_
  refine zw_out hO G (yR.map rfl) I E4 F4 C4 (fun h8 T8 U8 => ?_)
  refine zr_goto zi105_13 rfl ?_
  refine zr_iconst (v := zJ 0) zi105_24 rfl ?_
  refine zr_ireturn zi105_25 rfl ?_
  exact K _ _ _ _ _ (Or.inl ⟨k, b, w, hh, cs, cl, fs, α, kp, gd, gu, mi, sp, hk, ex, i, hi, ei, t, ht, et, rfl, rfl, rfl⟩) (by omega) E4 (T8.fit (by omega) (by omega)) (fun _ => ⟨_, _, U8⟩)
def cs46 (nb : Nat) (L : List yBS) (rf : Int32) (αt : yAS) (x : Int32) (y : Int32) (z : Int32) (kc : Nat) (vv : Int32) (LN : List yBS) : Prop :=
  (∃ k, ∃ b, ∃ w, ∃ hh, ∃ cs, ∃ cl, ∃ fs, ∃ α, ∃ kp, ∃ gd, ∃ gu, ∃ mi, ∃ sp, (L[k]? = some (b, (w, hh, cs, cl, fs), α, kp, gd, gu, mi, sp)) ∧ (x = zJ k) ∧ (∃ i, (i < w + hh) ∧ (y = zJ i) ∧ (∃ n, (n < 2147483648) ∧ (z = zJ n) ∧ kc = 0 ∧ vv = (zwF (zws w hh cs fs i) n 32 0 0) ∧ LN = L))) ∨
  ((¬ zin x L.length) ∧ kc = 1 ∧ LN = L) ∨
  (∃ k, ∃ b, ∃ w, ∃ hh, ∃ cs, ∃ cl, ∃ fs, ∃ α, ∃ kp, ∃ gd, ∃ gu, ∃ mi, ∃ sp, (L[k]? = some (b, (w, hh, cs, cl, fs), α, kp, gd, gu, mi, sp)) ∧ (x = zJ k) ∧ (¬ zin y (w + hh)) ∧ kc = 1 ∧ LN = L) ∨
  (∃ k, ∃ b, ∃ w, ∃ hh, ∃ cs, ∃ cl, ∃ fs, ∃ α, ∃ kp, ∃ gd, ∃ gu, ∃ mi, ∃ sp, (L[k]? = some (b, (w, hh, cs, cl, fs), α, kp, gd, gu, mi, sp)) ∧ (x = zJ k) ∧ (zin y (w + hh)) ∧ (z < 0) ∧ kc = 2 ∧ LN = L)
theorem cs46_len {nb : Nat} {L : List yBS} {rf : Int32} {αt : yAS} {x : Int32} {y : Int32} {z : Int32} {kc : Nat} {vv : Int32} {LN : List yBS} (H : cs46 nb L rf αt x y z kc vv LN) : LN.length = L.length := by
  rcases H with ⟨_, _, _, _, _, _, _, _, _, _, _, _, _, _, _, _, _, _, _, _, _, -, -, rfl⟩ | ⟨_, -, rfl⟩ | ⟨_, _, _, _, _, _, _, _, _, _, _, _, _, _, _, _, -, rfl⟩ | ⟨_, _, _, _, _, _, _, _, _, _, _, _, _, _, _, _, _, -, rfl⟩
  all_goals first | rfl | exact List.length_set
theorem c106 {E : zEnv} {h : zPH} {Q : zOut → zPH → Prop} (S : ySs E h) {a o : Nat} {L : List yBS} {rf : Int32} {τ : yGS} {αt : yAS} (C : yC h a L rf τ αt) (O : yO h o) (hO : ∀ x, yPb a (L.map (·.1)) x → x ≠ o) (I : yI L) {x : Int32} {y : Int32} {z : Int32} (K : ∀ h1 kc vv LN L1, cs46 h.2.1 L rf αt x y z kc vv LN → kc ≤ 3 → yEqA LN L1 → yT h h1 a o L L1 rf 1 6 → (kc = 0 → ∃ u1 u2, h1.1 o = some (3, [.long vv.toInt64, u1, u2])) → Q (.inl (some (.int (zJ kc)))) h1) : zcall E 3 106 [.ref a, .int x, .int y, .int z, .ref o] h Q := by
  have H := C.1
  have GO := O
  obtain ⟨u0, u1, u2, G⟩ := GO
  show zwp E _ 106 (0, [some (.ref _), some (.int _), some (.int _), some (.int _), some (.ref _), none], [], _) Q
  refine zr_aload zi106_0 rfl ?_
  refine zr_aload_n zi106_2 rfl ?_
  refine zr_iload_n zi106_3 rfl ?_
  refine zr_iload_n zi106_4 rfl ?_
  refine zr_iload_n zi106_5 rfl ?_
  refine zr_virtual zi106_6 rfl rfl (H.1.at0 rfl) rfl rfl ?_
  have hx0 : cs46 h.2.1 L rf αt x y z 2 0 L → zbk E 3 106 6 9 [some (.ref a), some (.int x), some (.int y), some (.int z), some (.ref o), none] [.ref o] Q (.inr 0) (zex h) := by
    intro hcs
    refine zbk_th rfl rfl rfl rfl ?_
    show zwp E _ 106 (22, [some (.ref a), some (.int x), some (.int y), some (.int z), some (.ref o), none], [], _) Q
    refine zr_iconst (v := zJ 2) zi106_22 rfl ?_
    refine zr_ireturn zi106_23 rfl ?_
    exact K _ _ _ _ _ hcs (by omega) (yEqA.refl L) ((yT.ex C O I).fit (by omega) (by omega)) (fun z => absurd z (by decide))
  have hx2 : cs46 h.2.1 L rf αt x y z 1 0 L → zbk E 3 106 6 9 [some (.ref a), some (.int x), some (.int y), some (.int z), some (.ref o), none] [.ref o] Q (.inr 2) (zex h) := by
    intro hcs
    refine zbk_th rfl rfl rfl rfl ?_
    show zwp E _ 106 (18, [some (.ref a), some (.int x), some (.int y), some (.int z), some (.ref o), none], [], _) Q
    refine zr_iconst (v := zJ 1) zi106_18 rfl ?_
    refine zr_ireturn zi106_19 rfl ?_
    exact K _ _ _ _ _ hcs (by omega) (yEqA.refl L) ((yT.ex C O I).fit (by omega) (by omega)) (fun z => absurd z (by decide))
  refine zcall_dep (d := 2) (Nat.le_of_ble_eq_true rfl) (c46 S C (fun k b w hh cs cl fs α kp gd gu mi sp hk ex i hi ei n hn en h4 L4 τ4 α4 E4 F4 C4 => zbk_v ?_) (fun h_0 => hx2 (Or.inr (Or.inl ⟨h_0, rfl, rfl⟩))) (fun k_0 b_1 w_2 hh_3 cs_4 cl_5 fs_6 α_7 kp_8 gd_9 gu_10 mi_11 sp_12 h_13 h_14 h_15 => hx2 (Or.inr (Or.inr (Or.inl ⟨k_0, b_1, w_2, hh_3, cs_4, cl_5, fs_6, α_7, kp_8, gd_9, gu_10, mi_11, sp_12, h_13, h_14, h_15, rfl, rfl⟩)))) (fun k_0 b_1 w_2 hh_3 cs_4 cl_5 fs_6 α_7 kp_8 gd_9 gu_10 mi_11 sp_12 h_13 h_14 h_15 h_16 => hx0 (Or.inr (Or.inr (Or.inr ⟨k_0, b_1, w_2, hh_3, cs_4, cl_5, fs_6, α_7, kp_8, gd_9, gu_10, mi_11, sp_12, h_13, h_14, h_15, h_16, rfl, rfl⟩)))))
  refine zr_i2l zi106_9 ?_
  refine zr_putfield zi106_10 ((G.f1 F4 (fun z => hO o z rfl)).at0 rfl) rfl rfl ?_
  refine zw_out hO G (yR.map rfl) I E4 F4 C4 (fun h8 T8 U8 => ?_)
  refine zr_goto zi106_13 rfl ?_
  refine zr_iconst (v := zJ 0) zi106_24 rfl ?_
  refine zr_ireturn zi106_25 rfl ?_
  exact K _ _ _ _ _ (Or.inl ⟨k, b, w, hh, cs, cl, fs, α, kp, gd, gu, mi, sp, hk, ex, i, hi, ei, n, hn, en, rfl, rfl, rfl⟩) (by omega) E4 (T8.fit (by omega) (by omega)) (fun _ => ⟨_, _, U8⟩)
def cs18 (nb : Nat) (L : List yBS) (rf : Int32) (αt : yAS) (x : Int32) (y : Int32) (kc : Nat) (vv : Int32) (LN : List yBS) : Prop :=
  (∃ k, ∃ b, ∃ w, ∃ hh, ∃ cs, ∃ cl, ∃ fs, ∃ α, ∃ kp, ∃ gd, ∃ gu, ∃ mi, ∃ sp, (L[k]? = some (b, (w, hh, cs, cl, fs), α, kp, gd, gu, mi, sp)) ∧ (x = zJ k) ∧ (∃ t, (t < 11) ∧ (y = zJ t) ∧ (∃ v, (v = (if t = 7 ∨ t = 10 then yoa w hh cs cl fs α t else yob w hh cs cl fs gu mi sp t)) ∧ kc = 0 ∧ vv = v ∧ LN = L))) ∨
  ((¬ zin x L.length) ∧ kc = 1 ∧ LN = L) ∨
  (∃ k, ∃ b, ∃ w, ∃ hh, ∃ cs, ∃ cl, ∃ fs, ∃ α, ∃ kp, ∃ gd, ∃ gu, ∃ mi, ∃ sp, (L[k]? = some (b, (w, hh, cs, cl, fs), α, kp, gd, gu, mi, sp)) ∧ (x = zJ k) ∧ (¬ zin y 11) ∧ kc = 2 ∧ LN = L)
theorem cs18_len {nb : Nat} {L : List yBS} {rf : Int32} {αt : yAS} {x : Int32} {y : Int32} {kc : Nat} {vv : Int32} {LN : List yBS} (H : cs18 nb L rf αt x y kc vv LN) : LN.length = L.length := by
  rcases H with ⟨_, _, _, _, _, _, _, _, _, _, _, _, _, _, _, _, _, _, _, _, -, -, rfl⟩ | ⟨_, -, rfl⟩ | ⟨_, _, _, _, _, _, _, _, _, _, _, _, _, _, _, _, -, rfl⟩
  all_goals first | rfl | exact List.length_set
theorem c107 {E : zEnv} {h : zPH} {Q : zOut → zPH → Prop} (S : ySs E h) {a o : Nat} {L : List yBS} {rf : Int32} {τ : yGS} {αt : yAS} (C : yC h a L rf τ αt) (O : yO h o) (hO : ∀ x, yPb a (L.map (·.1)) x → x ≠ o) (I : yI L) {x : Int32} {y : Int32} (K : ∀ h1 kc vv LN L1, cs18 h.2.1 L rf αt x y kc vv LN → kc ≤ 3 → yEqA LN L1 → yT h h1 a o L L1 rf 1 6 → (kc = 0 → ∃ u1 u2, h1.1 o = some (3, [.long vv.toInt64, u1, u2])) → Q (.inl (some (.int (zJ kc)))) h1) : zcall E 17 107 [.ref a, .int x, .int y, .ref o] h Q := by
  have H := C.1
  have GO := O
  obtain ⟨u0, u1, u2, G⟩ := GO
  show zwp E _ 107 (0, [some (.ref _), some (.int _), some (.int _), some (.ref _), none], [], _) Q
  refine zr_aload_n zi107_0 rfl ?_
  refine zr_aload_n zi107_1 rfl ?_
  refine zr_iload_n zi107_2 rfl ?_
  refine zr_iload_n zi107_3 rfl ?_
  refine zr_virtual zi107_4 rfl rfl (H.1.at0 rfl) rfl rfl ?_
  have hx0 : cs18 h.2.1 L rf αt x y 2 0 L → zbk E 17 107 4 7 [some (.ref a), some (.int x), some (.int y), some (.ref o), none] [.ref o] Q (.inr 0) (zex h) := by
    intro hcs
    refine zbk_th rfl rfl rfl rfl ?_
    show zwp E _ 107 (20, [some (.ref a), some (.int x), some (.int y), some (.ref o), none], [], _) Q
    refine zr_iconst (v := zJ 2) zi107_20 rfl ?_
    refine zr_ireturn zi107_21 rfl ?_
    exact K _ _ _ _ _ hcs (by omega) (yEqA.refl L) ((yT.ex C O I).fit (by omega) (by omega)) (fun z => absurd z (by decide))
  have hx2 : cs18 h.2.1 L rf αt x y 1 0 L → zbk E 17 107 4 7 [some (.ref a), some (.int x), some (.int y), some (.ref o), none] [.ref o] Q (.inr 2) (zex h) := by
    intro hcs
    refine zbk_th rfl rfl rfl rfl ?_
    show zwp E _ 107 (16, [some (.ref a), some (.int x), some (.int y), some (.ref o), none], [], _) Q
    refine zr_iconst (v := zJ 1) zi107_16 rfl ?_
    refine zr_ireturn zi107_17 rfl ?_
    exact K _ _ _ _ _ hcs (by omega) (yEqA.refl L) ((yT.ex C O I).fit (by omega) (by omega)) (fun z => absurd z (by decide))
  refine zcall_dep (d := 16) (Nat.le_of_ble_eq_true rfl) (c18 S C (fun k b w hh cs cl fs α kp gd gu mi sp hk ex t ht et v hv h4 L4 τ4 α4 E4 F4 C4 => zbk_v ?_) (fun h_0 => hx2 (Or.inr (Or.inl ⟨h_0, rfl, rfl⟩))) (fun k_0 b_1 w_2 hh_3 cs_4 cl_5 fs_6 α_7 kp_8 gd_9 gu_10 mi_11 sp_12 h_13 h_14 h_15 => hx0 (Or.inr (Or.inr ⟨k_0, b_1, w_2, hh_3, cs_4, cl_5, fs_6, α_7, kp_8, gd_9, gu_10, mi_11, sp_12, h_13, h_14, h_15, rfl, rfl⟩))))
  refine zr_i2l zi107_7 ?_
  refine zr_putfield zi107_8 ((G.f1 F4 (fun z => hO o z rfl)).at0 rfl) rfl rfl ?_
  refine zw_out hO G (yR.map rfl) I E4 F4 C4 (fun h8 T8 U8 => ?_)
  refine zr_goto zi107_11 rfl ?_
  refine zr_iconst (v := zJ 0) zi107_22 rfl ?_
  refine zr_ireturn zi107_23 rfl ?_
  exact K _ _ _ _ _ (Or.inl ⟨k, b, w, hh, cs, cl, fs, α, kp, gd, gu, mi, sp, hk, ex, t, ht, et, v, hv, rfl, rfl, rfl⟩) (by omega) E4 (T8.fit (by omega) (by omega)) (fun _ => ⟨_, _, U8⟩)
def cs109 (nb : Nat) (L : List yBS) (rf : Int32) (αt : yAS) (x : Int32) (kc : Nat) (vv : Nat) (LN : List yBS) : Prop :=
  (∃ k, ∃ b, ∃ w, ∃ hh, ∃ cs, ∃ cl, ∃ fs, ∃ α, ∃ kp, ∃ gd, ∃ gu, ∃ mi, ∃ sp, (L[k]? = some (b, (w, hh, cs, cl, fs), α, kp, gd, gu, mi, sp)) ∧ (x = zJ k) ∧ (∃ s, kc = 0 ∧ vv = s ∧ LN = L)) ∨
  ((¬ zin x L.length) ∧ kc = 1 ∧ LN = L)
theorem cs109_len {nb : Nat} {L : List yBS} {rf : Int32} {αt : yAS} {x : Int32} {kc : Nat} {vv : Nat} {LN : List yBS} (H : cs109 nb L rf αt x kc vv LN) : LN.length = L.length := by
  rcases H with ⟨_, _, _, _, _, _, _, _, _, _, _, _, _, _, _, _, -, -, rfl⟩ | ⟨_, -, rfl⟩
  all_goals first | rfl | exact List.length_set
theorem c108 {E : zEnv} {h : zPH} {Q : zOut → zPH → Prop} (S : ySs E h) {a o : Nat} {L : List yBS} {rf : Int32} {τ : yGS} {αt : yAS} (C : yC h a L rf τ αt) (O : yO h o) (hO : ∀ x, yPb a (L.map (·.1)) x → x ≠ o) (I : yI L) {x : Int32} (K : ∀ h1 kc vv LN L1, cs109 h.2.1 L rf αt x kc vv LN → kc ≤ 3 → yEqA LN L1 → yT h h1 a o L L1 rf 5 100 → (kc = 0 → ∃ u0 u1, h1.1 o = some (3, [u0, u1, .ref vv])) → Q (.inl (some (.int (zJ kc)))) h1) : zcall E 9 108 [.ref a, .int x, .ref o] h Q := by
  have H := C.1
  have GO := O
  obtain ⟨u0, u1, u2, G⟩ := GO
  show zwp E _ 108 (0, [some (.ref _), some (.int _), some (.ref _), none], [], _) Q
  refine zr_aload_n zi108_0 rfl ?_
  refine zr_aload_n zi108_1 rfl ?_
  refine zr_iload_n zi108_2 rfl ?_
  refine zr_virtual zi108_3 rfl rfl (H.1.at0 rfl) rfl rfl ?_
  have hx2 : cs109 h.2.1 L rf αt x 1 0 L → zbk E 9 108 3 6 [some (.ref a), some (.int x), some (.ref o), none] [.ref o] Q (.inr 2) (zex h) := by
    intro hcs
    refine zbk_th rfl rfl rfl rfl ?_
    show zwp E _ 108 (13, [some (.ref a), some (.int x), some (.ref o), none], [], _) Q
    refine zr_iconst (v := zJ 1) zi108_13 rfl ?_
    refine zr_ireturn zi108_14 rfl ?_
    exact K _ _ _ _ _ hcs (by omega) (yEqA.refl L) ((yT.ex C O I).fit (by omega) (by omega)) (fun z => absurd z (by decide))
  refine zcall_dep (d := 8) (Nat.le_of_ble_eq_true rfl) (c109 S C (fun k b w hh cs cl fs α kp gd gu mi sp hk ex s h4 L4 τ4 α4 E4 F4 C4 => zbk_v ?_) (fun h_0 => hx2 (Or.inr ⟨h_0, rfl, rfl⟩)))
  refine zr_putfield zi108_6 ((G.f1 F4 (fun z => hO o z rfl)).at0 rfl) rfl rfl ?_
  refine zw_out hO G (yR.map rfl) I E4 F4 C4 (fun h8 T8 U8 => ?_)
  refine zr_goto zi108_9 rfl ?_
  refine zr_iconst (v := zJ 0) zi108_15 rfl ?_
  refine zr_ireturn zi108_16 rfl ?_
  exact K _ _ _ _ _ (Or.inl ⟨k, b, w, hh, cs, cl, fs, α, kp, gd, gu, mi, sp, hk, ex, s, rfl, rfl, rfl⟩) (by omega) E4 (T8.fit (by omega) (by omega)) (fun _ => ⟨_, _, U8⟩)
def cs47 (nb : Nat) (L : List yBS) (rf : Int32) (αt : yAS) (x : Int32) (y : Int32) (kc : Nat) (vv : Int32) (LN : List yBS) : Prop :=
  (∃ k, ∃ b, ∃ w, ∃ hh, ∃ cs, ∃ cl, ∃ fs, ∃ α, ∃ kp, ∃ gd, ∃ gu, ∃ mi, ∃ sp, (L[k]? = some (b, (w, hh, cs, cl, fs), α, kp, gd, gu, mi, sp)) ∧ (x = zJ k) ∧ (∃ n, (n < 500) ∧ (y = zJ n) ∧ kc = 0 ∧ vv = (ypn (yLk w hh 500 cs cl fs α).1.1 (yLk w hh 500 cs cl fs α).2.2.2.2.2.2 n) ∧ LN = L)) ∨
  ((¬ zin x L.length) ∧ kc = 1 ∧ LN = L) ∨
  (∃ k, ∃ b, ∃ w, ∃ hh, ∃ cs, ∃ cl, ∃ fs, ∃ α, ∃ kp, ∃ gd, ∃ gu, ∃ mi, ∃ sp, (L[k]? = some (b, (w, hh, cs, cl, fs), α, kp, gd, gu, mi, sp)) ∧ (x = zJ k) ∧ (¬ zin y 500) ∧ kc = 2 ∧ LN = L)
theorem cs47_len {nb : Nat} {L : List yBS} {rf : Int32} {αt : yAS} {x : Int32} {y : Int32} {kc : Nat} {vv : Int32} {LN : List yBS} (H : cs47 nb L rf αt x y kc vv LN) : LN.length = L.length := by
  rcases H with ⟨_, _, _, _, _, _, _, _, _, _, _, _, _, _, _, _, _, _, -, -, rfl⟩ | ⟨_, -, rfl⟩ | ⟨_, _, _, _, _, _, _, _, _, _, _, _, _, _, _, _, -, rfl⟩
  all_goals first | rfl | exact List.length_set
theorem c135 {E : zEnv} {h : zPH} {Q : zOut → zPH → Prop} (S : ySs E h) {a o : Nat} {L : List yBS} {rf : Int32} {τ : yGS} {αt : yAS} (C : yC h a L rf τ αt) (O : yO h o) (hO : ∀ x, yPb a (L.map (·.1)) x → x ≠ o) (I : yI L) {x : Int32} {y : Int32} (K : ∀ h1 kc vv LN L1, cs47 h.2.1 L rf αt x y kc vv LN → kc ≤ 3 → yEqA LN L1 → yT h h1 a o L L1 rf 1 6 → (kc = 0 → ∃ u1 u2, h1.1 o = some (3, [.long vv.toInt64, u1, u2])) → Q (.inl (some (.int (zJ kc)))) h1) : zcall E 17 135 [.ref a, .int x, .int y, .ref o] h Q := by
  have H := C.1
  have GO := O
  obtain ⟨u0, u1, u2, G⟩ := GO
  show zwp E _ 135 (0, [some (.ref _), some (.int _), some (.int _), some (.ref _), none], [], _) Q
  refine zr_aload_n zi135_0 rfl ?_
  refine zr_aload_n zi135_1 rfl ?_
  refine zr_iload_n zi135_2 rfl ?_
  refine zr_iload_n zi135_3 rfl ?_
  refine zr_virtual zi135_4 rfl rfl (H.1.at0 rfl) rfl rfl ?_
  have hx0 : cs47 h.2.1 L rf αt x y 2 0 L → zbk E 17 135 4 7 [some (.ref a), some (.int x), some (.int y), some (.ref o), none] [.ref o] Q (.inr 0) (zex h) := by
    intro hcs
    refine zbk_th rfl rfl rfl rfl ?_
    show zwp E _ 135 (20, [some (.ref a), some (.int x), some (.int y), some (.ref o), none], [], _) Q
    refine zr_iconst (v := zJ 2) zi135_20 rfl ?_
    refine zr_ireturn zi135_21 rfl ?_
    exact K _ _ _ _ _ hcs (by omega) (yEqA.refl L) ((yT.ex C O I).fit (by omega) (by omega)) (fun z => absurd z (by decide))
  have hx2 : cs47 h.2.1 L rf αt x y 1 0 L → zbk E 17 135 4 7 [some (.ref a), some (.int x), some (.int y), some (.ref o), none] [.ref o] Q (.inr 2) (zex h) := by
    intro hcs
    refine zbk_th rfl rfl rfl rfl ?_
    show zwp E _ 135 (16, [some (.ref a), some (.int x), some (.int y), some (.ref o), none], [], _) Q
    refine zr_iconst (v := zJ 1) zi135_16 rfl ?_
    refine zr_ireturn zi135_17 rfl ?_
    exact K _ _ _ _ _ hcs (by omega) (yEqA.refl L) ((yT.ex C O I).fit (by omega) (by omega)) (fun z => absurd z (by decide))
  refine zcall_dep (d := 16) (Nat.le_of_ble_eq_true rfl) (c47 S C (fun k b w hh cs cl fs α kp gd gu mi sp hk ex n hn en h4 L4 τ4 α4 E4 F4 C4 => zbk_v ?_) (fun h_0 => hx2 (Or.inr (Or.inl ⟨h_0, rfl, rfl⟩))) (fun k_0 b_1 w_2 hh_3 cs_4 cl_5 fs_6 α_7 kp_8 gd_9 gu_10 mi_11 sp_12 h_13 h_14 h_15 => hx0 (Or.inr (Or.inr ⟨k_0, b_1, w_2, hh_3, cs_4, cl_5, fs_6, α_7, kp_8, gd_9, gu_10, mi_11, sp_12, h_13, h_14, h_15, rfl, rfl⟩))))
  refine zr_i2l zi135_7 ?_
  refine zr_putfield zi135_8 ((G.f1 F4 (fun z => hO o z rfl)).at0 rfl) rfl rfl ?_
  refine zw_out hO G (yR.map rfl) I E4 F4 C4 (fun h8 T8 U8 => ?_)
  refine zr_goto zi135_11 rfl ?_
  refine zr_iconst (v := zJ 0) zi135_22 rfl ?_
  refine zr_ireturn zi135_23 rfl ?_
  exact K _ _ _ _ _ (Or.inl ⟨k, b, w, hh, cs, cl, fs, α, kp, gd, gu, mi, sp, hk, ex, n, hn, en, rfl, rfl, rfl⟩) (by omega) E4 (T8.fit (by omega) (by omega)) (fun _ => ⟨_, _, U8⟩)
def cs137 (nb : Nat) (L : List yBS) (rf : Int32) (αt : yAS) (x : Int32) (y : Int32) (kc : Nat) (vv : UInt64) (LN : List yBS) : Prop :=
  (∃ k, ∃ b, ∃ w, ∃ hh, ∃ cs, ∃ cl, ∃ fs, ∃ α, ∃ kp, ∃ gd, ∃ gu, ∃ mi, ∃ sp, (L[k]? = some (b, (w, hh, cs, cl, fs), α, kp, gd, gu, mi, sp)) ∧ (x = zJ k) ∧ (∃ c, (c < w * hh) ∧ (y = zJ c) ∧ (∃ v, (yM64 1057 v) ∧ (v = ych (yLk w hh 500 cs cl fs α) c) ∧ kc = 0 ∧ vv = v ∧ LN = L))) ∨
  ((¬ zin x L.length) ∧ kc = 1 ∧ LN = L) ∨
  (∃ k, ∃ b, ∃ w, ∃ hh, ∃ cs, ∃ cl, ∃ fs, ∃ α, ∃ kp, ∃ gd, ∃ gu, ∃ mi, ∃ sp, (L[k]? = some (b, (w, hh, cs, cl, fs), α, kp, gd, gu, mi, sp)) ∧ (x = zJ k) ∧ (¬ zin y (w * hh)) ∧ kc = 1 ∧ LN = L)
theorem cs137_len {nb : Nat} {L : List yBS} {rf : Int32} {αt : yAS} {x : Int32} {y : Int32} {kc : Nat} {vv : UInt64} {LN : List yBS} (H : cs137 nb L rf αt x y kc vv LN) : LN.length = L.length := by
  rcases H with ⟨_, _, _, _, _, _, _, _, _, _, _, _, _, _, _, _, _, _, _, _, _, -, -, rfl⟩ | ⟨_, -, rfl⟩ | ⟨_, _, _, _, _, _, _, _, _, _, _, _, _, _, _, _, -, rfl⟩
  all_goals first | rfl | exact List.length_set
theorem c136 {E : zEnv} {h : zPH} {Q : zOut → zPH → Prop} (S : ySs E h) {a o : Nat} {L : List yBS} {rf : Int32} {τ : yGS} {αt : yAS} (C : yC h a L rf τ αt) (O : yO h o) (hO : ∀ x, yPb a (L.map (·.1)) x → x ≠ o) (I : yI L) {x : Int32} {y : Int32} (K : ∀ h1 kc vv LN L1, cs137 h.2.1 L rf αt x y kc vv LN → kc ≤ 3 → yEqA LN L1 → yT h h1 a o L L1 rf 1 6 → (kc = 0 → ∃ u0 u2, h1.1 o = some (3, [u0, .double vv, u2])) → Q (.inl (some (.int (zJ kc)))) h1) : zcall E 17 136 [.ref a, .int x, .int y, .ref o] h Q := by
  have H := C.1
  have GO := O
  obtain ⟨u0, u1, u2, G⟩ := GO
  show zwp E _ 136 (0, [some (.ref _), some (.int _), some (.int _), some (.ref _), none], [], _) Q
  refine zr_aload_n zi136_0 rfl ?_
  refine zr_aload_n zi136_1 rfl ?_
  refine zr_iload_n zi136_2 rfl ?_
  refine zr_iload_n zi136_3 rfl ?_
  refine zr_virtual zi136_4 rfl rfl (H.1.at0 rfl) rfl rfl ?_
  have hx2 : cs137 h.2.1 L rf αt x y 1 0 L → zbk E 17 136 4 7 [some (.ref a), some (.int x), some (.int y), some (.ref o), none] [.ref o] Q (.inr 2) (zex h) := by
    intro hcs
    refine zbk_th rfl rfl rfl rfl ?_
    show zwp E _ 136 (15, [some (.ref a), some (.int x), some (.int y), some (.ref o), none], [], _) Q
    refine zr_iconst (v := zJ 1) zi136_15 rfl ?_
    refine zr_ireturn zi136_16 rfl ?_
    exact K _ _ _ _ _ hcs (by omega) (yEqA.refl L) ((yT.ex C O I).fit (by omega) (by omega)) (fun z => absurd z (by decide))
  refine zcall_dep (d := 16) (Nat.le_of_ble_eq_true rfl) (c137 S C (fun k b w hh cs cl fs α kp gd gu mi sp hk ex c hc ec v M z_ h4 L4 τ4 α4 E4 F4 C4 => zbk_v ?_) (fun h_0 => hx2 (Or.inr (Or.inl ⟨h_0, rfl, rfl⟩))) (fun k_0 b_1 w_2 hh_3 cs_4 cl_5 fs_6 α_7 kp_8 gd_9 gu_10 mi_11 sp_12 h_13 h_14 h_15 => hx2 (Or.inr (Or.inr ⟨k_0, b_1, w_2, hh_3, cs_4, cl_5, fs_6, α_7, kp_8, gd_9, gu_10, mi_11, sp_12, h_13, h_14, h_15, rfl, rfl⟩))))
  refine zr_putfield zi136_7 ((G.f1 F4 (fun z => hO o z rfl)).at0 rfl) rfl rfl ?_
  refine zw_out hO G (yR.map rfl) I E4 F4 C4 (fun h8 T8 U8 => ?_)
  refine zr_goto zi136_10 rfl ?_
  refine zr_iconst (v := zJ 0) zi136_17 rfl ?_
  refine zr_ireturn zi136_18 rfl ?_
  exact K _ _ _ _ _ (Or.inl ⟨k, b, w, hh, cs, cl, fs, α, kp, gd, gu, mi, sp, hk, ex, c, hc, ec, v, M, z_, rfl, rfl, rfl⟩) (by omega) E4 (T8.fit (by omega) (by omega)) (fun _ => ⟨_, _, U8⟩)
def cs49 (nb : Nat) (L : List yBS) (rf : Int32) (αt : yAS) (x : Int32) (y : Int32) (kc : Nat) (vv : UInt64) (LN : List yBS) : Prop :=
  (∃ k, ∃ b, ∃ w, ∃ hh, ∃ cs, ∃ cl, ∃ fs, ∃ α, ∃ kp, ∃ gd, ∃ gu, ∃ mi, ∃ sp, (L[k]? = some (b, (w, hh, cs, cl, fs), α, kp, gd, gu, mi, sp)) ∧ (x = zJ k) ∧ (∃ t, (t < 2) ∧ (y = zJ t) ∧ (∃ v, (FP.Core.DFin v) ∧ (v = (if t = 0 then ylo w hh cs fs else FP.f2d (yfo .g cs (yLk w hh 500 cs cl fs α) (w * hh)).1)) ∧ kc = 0 ∧ vv = v ∧ LN = L))) ∨
  ((¬ zin x L.length) ∧ kc = 1 ∧ LN = L) ∨
  (∃ k, ∃ b, ∃ w, ∃ hh, ∃ cs, ∃ cl, ∃ fs, ∃ α, ∃ kp, ∃ gd, ∃ gu, ∃ mi, ∃ sp, (L[k]? = some (b, (w, hh, cs, cl, fs), α, kp, gd, gu, mi, sp)) ∧ (x = zJ k) ∧ (¬ zin y 2) ∧ kc = 2 ∧ LN = L)
theorem cs49_len {nb : Nat} {L : List yBS} {rf : Int32} {αt : yAS} {x : Int32} {y : Int32} {kc : Nat} {vv : UInt64} {LN : List yBS} (H : cs49 nb L rf αt x y kc vv LN) : LN.length = L.length := by
  rcases H with ⟨_, _, _, _, _, _, _, _, _, _, _, _, _, _, _, _, _, _, _, _, _, -, -, rfl⟩ | ⟨_, -, rfl⟩ | ⟨_, _, _, _, _, _, _, _, _, _, _, _, _, _, _, _, -, rfl⟩
  all_goals first | rfl | exact List.length_set
theorem c138 {E : zEnv} {h : zPH} {Q : zOut → zPH → Prop} (S : ySs E h) {a o : Nat} {L : List yBS} {rf : Int32} {τ : yGS} {αt : yAS} (C : yC h a L rf τ αt) (O : yO h o) (hO : ∀ x, yPb a (L.map (·.1)) x → x ≠ o) (I : yI L) {x : Int32} {y : Int32} (K : ∀ h1 kc vv LN L1, cs49 h.2.1 L rf αt x y kc vv LN → kc ≤ 3 → yEqA LN L1 → yT h h1 a o L L1 rf 1 6 → (kc = 0 → ∃ u0 u2, h1.1 o = some (3, [u0, .double vv, u2])) → Q (.inl (some (.int (zJ kc)))) h1) : zcall E 17 138 [.ref a, .int x, .int y, .ref o] h Q := by
  have H := C.1
  have GO := O
  obtain ⟨u0, u1, u2, G⟩ := GO
  show zwp E _ 138 (0, [some (.ref _), some (.int _), some (.int _), some (.ref _), none], [], _) Q
  refine zr_aload_n zi138_0 rfl ?_
  refine zr_aload_n zi138_1 rfl ?_
  refine zr_iload_n zi138_2 rfl ?_
  refine zr_iload_n zi138_3 rfl ?_
  refine zr_virtual zi138_4 rfl rfl (H.1.at0 rfl) rfl rfl ?_
  have hx0 : cs49 h.2.1 L rf αt x y 2 0 L → zbk E 17 138 4 7 [some (.ref a), some (.int x), some (.int y), some (.ref o), none] [.ref o] Q (.inr 0) (zex h) := by
    intro hcs
    refine zbk_th rfl rfl rfl rfl ?_
    show zwp E _ 138 (19, [some (.ref a), some (.int x), some (.int y), some (.ref o), none], [], _) Q
    refine zr_iconst (v := zJ 2) zi138_19 rfl ?_
    refine zr_ireturn zi138_20 rfl ?_
    exact K _ _ _ _ _ hcs (by omega) (yEqA.refl L) ((yT.ex C O I).fit (by omega) (by omega)) (fun z => absurd z (by decide))
  have hx2 : cs49 h.2.1 L rf αt x y 1 0 L → zbk E 17 138 4 7 [some (.ref a), some (.int x), some (.int y), some (.ref o), none] [.ref o] Q (.inr 2) (zex h) := by
    intro hcs
    refine zbk_th rfl rfl rfl rfl ?_
    show zwp E _ 138 (15, [some (.ref a), some (.int x), some (.int y), some (.ref o), none], [], _) Q
    refine zr_iconst (v := zJ 1) zi138_15 rfl ?_
    refine zr_ireturn zi138_16 rfl ?_
    exact K _ _ _ _ _ hcs (by omega) (yEqA.refl L) ((yT.ex C O I).fit (by omega) (by omega)) (fun z => absurd z (by decide))
  refine zcall_dep (d := 16) (Nat.le_of_ble_eq_true rfl) (c49 S C (fun k b w hh cs cl fs α kp gd gu mi sp hk ex t ht et v M z_ h4 L4 τ4 α4 E4 F4 C4 => zbk_v ?_) (fun h_0 => hx2 (Or.inr (Or.inl ⟨h_0, rfl, rfl⟩))) (fun k_0 b_1 w_2 hh_3 cs_4 cl_5 fs_6 α_7 kp_8 gd_9 gu_10 mi_11 sp_12 h_13 h_14 h_15 => hx0 (Or.inr (Or.inr ⟨k_0, b_1, w_2, hh_3, cs_4, cl_5, fs_6, α_7, kp_8, gd_9, gu_10, mi_11, sp_12, h_13, h_14, h_15, rfl, rfl⟩))))
  refine zr_putfield zi138_7 ((G.f1 F4 (fun z => hO o z rfl)).at0 rfl) rfl rfl ?_
  refine zw_out hO G (yR.map rfl) I E4 F4 C4 (fun h8 T8 U8 => ?_)
  refine zr_goto zi138_10 rfl ?_
  refine zr_iconst (v := zJ 0) zi138_21 rfl ?_
  refine zr_ireturn zi138_22 rfl ?_
  exact K _ _ _ _ _ (Or.inl ⟨k, b, w, hh, cs, cl, fs, α, kp, gd, gu, mi, sp, hk, ex, t, ht, et, v, M, z_, rfl, rfl, rfl⟩) (by omega) E4 (T8.fit (by omega) (by omega)) (fun _ => ⟨_, _, U8⟩)
def cs11 (nb : Nat) (L : List yBS) (rf : Int32) (αt : yAS) (x : Int32) (kc : Nat) (vv : Int32) (LN : List yBS) : Prop :=
  (∃ t, (t < 5) ∧ (x = zJ t) ∧ kc = 0 ∧ vv = (zmy L rf t) ∧ LN = L) ∨
  ((¬ zin x 5) ∧ kc = 1 ∧ LN = L)
theorem cs11_len {nb : Nat} {L : List yBS} {rf : Int32} {αt : yAS} {x : Int32} {kc : Nat} {vv : Int32} {LN : List yBS} (H : cs11 nb L rf αt x kc vv LN) : LN.length = L.length := by
  rcases H with ⟨_, _, _, -, -, rfl⟩ | ⟨_, -, rfl⟩
  all_goals first | rfl | exact List.length_set
theorem c139 {E : zEnv} {h : zPH} {Q : zOut → zPH → Prop} (S : ySs E h) {a o : Nat} {L : List yBS} {rf : Int32} {τ : yGS} {αt : yAS} (C : yC h a L rf τ αt) (O : yO h o) (hO : ∀ x, yPb a (L.map (·.1)) x → x ≠ o) (I : yI L) {x : Int32} (K : ∀ h1 kc vv LN L1, cs11 h.2.1 L rf αt x kc vv LN → kc ≤ 3 → yEqA LN L1 → yT h h1 a o L L1 rf 1 6 → (kc = 0 → ∃ u1 u2, h1.1 o = some (3, [.long vv.toInt64, u1, u2])) → Q (.inl (some (.int (zJ kc)))) h1) : zcall E 3 139 [.ref a, .int x, .ref o] h Q := by
  have H := C.1
  have GO := O
  obtain ⟨u0, u1, u2, G⟩ := GO
  show zwp E _ 139 (0, [some (.ref _), some (.int _), some (.ref _), none], [], _) Q
  refine zr_aload_n zi139_0 rfl ?_
  refine zr_aload_n zi139_1 rfl ?_
  refine zr_iload_n zi139_2 rfl ?_
  refine zr_virtual zi139_3 rfl rfl (H.1.at0 rfl) rfl rfl ?_
  have hx0 : cs11 h.2.1 L rf αt x 1 0 L → zbk E 3 139 3 6 [some (.ref a), some (.int x), some (.ref o), none] [.ref o] Q (.inr 0) (zex h) := by
    intro hcs
    refine zbk_th rfl rfl rfl rfl ?_
    show zwp E _ 139 (14, [some (.ref a), some (.int x), some (.ref o), none], [], _) Q
    refine zr_iconst (v := zJ 1) zi139_14 rfl ?_
    refine zr_ireturn zi139_15 rfl ?_
    exact K _ _ _ _ _ hcs (by omega) (yEqA.refl L) ((yT.ex C O I).fit (by omega) (by omega)) (fun z => absurd z (by decide))
  refine zcall_dep (d := 2) (Nat.le_of_ble_eq_true rfl) (c11 S C (fun t ht et h4 L4 τ4 α4 E4 F4 C4 => zbk_v ?_) (fun h_0 => hx0 (Or.inr ⟨h_0, rfl, rfl⟩)))
  refine zr_i2l zi139_6 ?_
  refine zr_putfield zi139_7 ((G.f1 F4 (fun z => hO o z rfl)).at0 rfl) rfl rfl ?_
  refine zw_out hO G (yR.map rfl) I E4 F4 C4 (fun h8 T8 U8 => ?_)
  refine zr_goto zi139_10 rfl ?_
  refine zr_iconst (v := zJ 0) zi139_16 rfl ?_
  refine zr_ireturn zi139_17 rfl ?_
  exact K _ _ _ _ _ (Or.inl ⟨t, ht, et, rfl, rfl, rfl⟩) (by omega) E4 (T8.fit (by omega) (by omega)) (fun _ => ⟨_, _, U8⟩)
def cs55 (nb : Nat) (L : List yBS) (rf : Int32) (αt : yAS) (x : Int32) (kc : Nat) (vv : Int32) (LN : List yBS) : Prop :=
  (∃ k, ∃ b, ∃ w, ∃ hh, ∃ cs, ∃ cl, ∃ fs, ∃ α, ∃ kp, ∃ gd, ∃ gu, ∃ mi, ∃ sp, (L[k]? = some (b, (w, hh, cs, cl, fs), α, kp, gd, gu, mi, sp)) ∧ (x = zJ k) ∧ kc = 0 ∧ vv = (zhn w hh cs fs (w + hh)).1 ∧ LN = L) ∨
  ((¬ zin x L.length) ∧ kc = 1 ∧ LN = L)
theorem cs55_len {nb : Nat} {L : List yBS} {rf : Int32} {αt : yAS} {x : Int32} {kc : Nat} {vv : Int32} {LN : List yBS} (H : cs55 nb L rf αt x kc vv LN) : LN.length = L.length := by
  rcases H with ⟨_, _, _, _, _, _, _, _, _, _, _, _, _, _, _, -, -, rfl⟩ | ⟨_, -, rfl⟩
  all_goals first | rfl | exact List.length_set
theorem c140 {E : zEnv} {h : zPH} {Q : zOut → zPH → Prop} (S : ySs E h) {a o : Nat} {L : List yBS} {rf : Int32} {τ : yGS} {αt : yAS} (C : yC h a L rf τ αt) (O : yO h o) (hO : ∀ x, yPb a (L.map (·.1)) x → x ≠ o) (I : yI L) {x : Int32} (K : ∀ h1 kc vv LN L1, cs55 h.2.1 L rf αt x kc vv LN → kc ≤ 3 → yEqA LN L1 → yT h h1 a o L L1 rf 1 6 → (kc = 0 → ∃ u1 u2, h1.1 o = some (3, [.long vv.toInt64, u1, u2])) → Q (.inl (some (.int (zJ kc)))) h1) : zcall E 4 140 [.ref a, .int x, .ref o] h Q := by
  have H := C.1
  have GO := O
  obtain ⟨u0, u1, u2, G⟩ := GO
  show zwp E _ 140 (0, [some (.ref _), some (.int _), some (.ref _), none], [], _) Q
  refine zr_aload_n zi140_0 rfl ?_
  refine zr_aload_n zi140_1 rfl ?_
  refine zr_iload_n zi140_2 rfl ?_
  refine zr_virtual zi140_3 rfl rfl (H.1.at0 rfl) rfl rfl ?_
  have hx2 : cs55 h.2.1 L rf αt x 1 0 L → zbk E 4 140 3 6 [some (.ref a), some (.int x), some (.ref o), none] [.ref o] Q (.inr 2) (zex h) := by
    intro hcs
    refine zbk_th rfl rfl rfl rfl ?_
    show zwp E _ 140 (14, [some (.ref a), some (.int x), some (.ref o), none], [], _) Q
    refine zr_iconst (v := zJ 1) zi140_14 rfl ?_
    refine zr_ireturn zi140_15 rfl ?_
    exact K _ _ _ _ _ hcs (by omega) (yEqA.refl L) ((yT.ex C O I).fit (by omega) (by omega)) (fun z => absurd z (by decide))
  refine zcall_dep (d := 3) (Nat.le_of_ble_eq_true rfl) (c55 S C (fun k b w hh cs cl fs α kp gd gu mi sp hk ex  h4 L4 τ4 α4 E4 F4 C4 => zbk_v ?_) (fun h_0 => hx2 (Or.inr ⟨h_0, rfl, rfl⟩)))
  refine zr_i2l zi140_6 ?_
  refine zr_putfield zi140_7 ((G.f1 F4 (fun z => hO o z rfl)).at0 rfl) rfl rfl ?_
  refine zw_out hO G (yR.map rfl) I E4 F4 C4 (fun h8 T8 U8 => ?_)
  refine zr_goto zi140_10 rfl ?_
  refine zr_iconst (v := zJ 0) zi140_16 rfl ?_
  refine zr_ireturn zi140_17 rfl ?_
  exact K _ _ _ _ _ (Or.inl ⟨k, b, w, hh, cs, cl, fs, α, kp, gd, gu, mi, sp, hk, ex, rfl, rfl, rfl⟩) (by omega) E4 (T8.fit (by omega) (by omega)) (fun _ => ⟨_, _, U8⟩)
def cs56 (nb : Nat) (L : List yBS) (rf : Int32) (αt : yAS) (x : Int32) (kc : Nat) (vv : Int32) (LN : List yBS) : Prop :=
  (∃ k, ∃ b, ∃ w, ∃ hh, ∃ cs, ∃ cl, ∃ fs, ∃ α, ∃ kp, ∃ gd, ∃ gu, ∃ mi, ∃ sp, (L[k]? = some (b, (w, hh, cs, cl, fs), α, kp, gd, gu, mi, sp)) ∧ (x = zJ k) ∧ (∃ v, (v = (if (yLk w hh 500 cs cl fs α).2.2.2.2.2.2 = 0 then -1 else (yts cs (yLk w hh 500 cs cl fs α) (w * hh)).1)) ∧ kc = 0 ∧ vv = v ∧ LN = L)) ∨
  ((¬ zin x L.length) ∧ kc = 1 ∧ LN = L)
theorem cs56_len {nb : Nat} {L : List yBS} {rf : Int32} {αt : yAS} {x : Int32} {kc : Nat} {vv : Int32} {LN : List yBS} (H : cs56 nb L rf αt x kc vv LN) : LN.length = L.length := by
  rcases H with ⟨_, _, _, _, _, _, _, _, _, _, _, _, _, _, _, _, _, -, -, rfl⟩ | ⟨_, -, rfl⟩
  all_goals first | rfl | exact List.length_set
theorem c141 {E : zEnv} {h : zPH} {Q : zOut → zPH → Prop} (S : ySs E h) {a o : Nat} {L : List yBS} {rf : Int32} {τ : yGS} {αt : yAS} (C : yC h a L rf τ αt) (O : yO h o) (hO : ∀ x, yPb a (L.map (·.1)) x → x ≠ o) (I : yI L) {x : Int32} (K : ∀ h1 kc vv LN L1, cs56 h.2.1 L rf αt x kc vv LN → kc ≤ 3 → yEqA LN L1 → yT h h1 a o L L1 rf 1 6 → (kc = 0 → ∃ u1 u2, h1.1 o = some (3, [.long vv.toInt64, u1, u2])) → Q (.inl (some (.int (zJ kc)))) h1) : zcall E 17 141 [.ref a, .int x, .ref o] h Q := by
  have H := C.1
  have GO := O
  obtain ⟨u0, u1, u2, G⟩ := GO
  show zwp E _ 141 (0, [some (.ref _), some (.int _), some (.ref _), none], [], _) Q
  refine zr_aload_n zi141_0 rfl ?_
  refine zr_aload_n zi141_1 rfl ?_
  refine zr_iload_n zi141_2 rfl ?_
  refine zr_virtual zi141_3 rfl rfl (H.1.at0 rfl) rfl rfl ?_
  have hx2 : cs56 h.2.1 L rf αt x 1 0 L → zbk E 17 141 3 6 [some (.ref a), some (.int x), some (.ref o), none] [.ref o] Q (.inr 2) (zex h) := by
    intro hcs
    refine zbk_th rfl rfl rfl rfl ?_
    show zwp E _ 141 (14, [some (.ref a), some (.int x), some (.ref o), none], [], _) Q
    refine zr_iconst (v := zJ 1) zi141_14 rfl ?_
    refine zr_ireturn zi141_15 rfl ?_
    exact K _ _ _ _ _ hcs (by omega) (yEqA.refl L) ((yT.ex C O I).fit (by omega) (by omega)) (fun z => absurd z (by decide))
  refine zcall_dep (d := 16) (Nat.le_of_ble_eq_true rfl) (c56 S C (fun k b w hh cs cl fs α kp gd gu mi sp hk ex v z_ h4 L4 τ4 α4 E4 F4 C4 => zbk_v ?_) (fun h_0 => hx2 (Or.inr ⟨h_0, rfl, rfl⟩)))
  refine zr_i2l zi141_6 ?_
  refine zr_putfield zi141_7 ((G.f1 F4 (fun z => hO o z rfl)).at0 rfl) rfl rfl ?_
  refine zw_out hO G (yR.map rfl) I E4 F4 C4 (fun h8 T8 U8 => ?_)
  refine zr_goto zi141_10 rfl ?_
  refine zr_iconst (v := zJ 0) zi141_16 rfl ?_
  refine zr_ireturn zi141_17 rfl ?_
  exact K _ _ _ _ _ (Or.inl ⟨k, b, w, hh, cs, cl, fs, α, kp, gd, gu, mi, sp, hk, ex, v, z_, rfl, rfl, rfl⟩) (by omega) E4 (T8.fit (by omega) (by omega)) (fun _ => ⟨_, _, U8⟩)
def cs143 (nb : Nat) (L : List yBS) (rf : Int32) (αt : yAS) (x : Int32) (y : Int32) (q : Bool) (z : Int32) (kc : Nat) (vv : Int32) (LN : List yBS) : Prop :=
  (∃ k, ∃ b, ∃ w, ∃ hh, ∃ cs, ∃ cl, ∃ fs, ∃ α, ∃ kp, ∃ gd, ∃ gu, ∃ mi, ∃ sp, (L[k]? = some (b, (w, hh, cs, cl, fs), α, kp, gd, gu, mi, sp)) ∧ (x = zJ k) ∧ (∃ c, (c < w * hh) ∧ (y = zJ c) ∧ (∃ t, (t < 3) ∧ (z = zJ t) ∧ (zst cs c = 0) ∧ (∃ v, (v = (if t = 2 then zJ (yLk w hh 500 (zpt cs c (if q = true then zJ 1 else zJ 2) (-1) (zJ 0) (zJ 0)) cl fs αt).2.2.2.2.2.2 else zwd w hh cs fs c q t)) ∧ kc = 0 ∧ vv = v ∧ LN = L)))) ∨
  ((¬ zin x L.length) ∧ kc = 1 ∧ LN = L) ∨
  (∃ k, ∃ b, ∃ w, ∃ hh, ∃ cs, ∃ cl, ∃ fs, ∃ α, ∃ kp, ∃ gd, ∃ gu, ∃ mi, ∃ sp, (L[k]? = some (b, (w, hh, cs, cl, fs), α, kp, gd, gu, mi, sp)) ∧ (x = zJ k) ∧ (¬ zin y (w * hh)) ∧ kc = 1 ∧ LN = L) ∨
  (∃ k, ∃ b, ∃ w, ∃ hh, ∃ cs, ∃ cl, ∃ fs, ∃ α, ∃ kp, ∃ gd, ∃ gu, ∃ mi, ∃ sp, (L[k]? = some (b, (w, hh, cs, cl, fs), α, kp, gd, gu, mi, sp)) ∧ (x = zJ k) ∧ (zin y (w * hh)) ∧ (¬ zin z 3) ∧ kc = 2 ∧ LN = L) ∨
  (∃ k, ∃ b, ∃ w, ∃ hh, ∃ cs, ∃ cl, ∃ fs, ∃ α, ∃ kp, ∃ gd, ∃ gu, ∃ mi, ∃ sp, (L[k]? = some (b, (w, hh, cs, cl, fs), α, kp, gd, gu, mi, sp)) ∧ (x = zJ k) ∧ (zin z 3) ∧ (∃ c, (c < w * hh) ∧ (y = zJ c) ∧ (¬ zst cs c = 0) ∧ kc = 3 ∧ LN = L))
theorem cs143_len {nb : Nat} {L : List yBS} {rf : Int32} {αt : yAS} {x : Int32} {y : Int32} {q : Bool} {z : Int32} {kc : Nat} {vv : Int32} {LN : List yBS} (H : cs143 nb L rf αt x y q z kc vv LN) : LN.length = L.length := by
  rcases H with ⟨_, _, _, _, _, _, _, _, _, _, _, _, _, _, _, _, _, _, _, _, _, _, _, _, -, -, rfl⟩ | ⟨_, -, rfl⟩ | ⟨_, _, _, _, _, _, _, _, _, _, _, _, _, _, _, _, -, rfl⟩ | ⟨_, _, _, _, _, _, _, _, _, _, _, _, _, _, _, _, _, -, rfl⟩ | ⟨_, _, _, _, _, _, _, _, _, _, _, _, _, _, _, _, _, _, _, _, -, rfl⟩
  all_goals first | rfl | exact List.length_set
theorem c142 {E : zEnv} {h : zPH} {Q : zOut → zPH → Prop} (S : ySs E h) {a o : Nat} {L : List yBS} {rf : Int32} {τ : yGS} {αt : yAS} (C : yC h a L rf τ αt) (O : yO h o) (hO : ∀ x, yPb a (L.map (·.1)) x → x ≠ o) (I : yI L) {x : Int32} {y : Int32} {q : Bool} {z : Int32} (K : ∀ h1 kc vv LN L1, cs143 h.2.1 L rf αt x y q z kc vv LN → kc ≤ 3 → yEqA LN L1 → yT h h1 a o L L1 rf 1 6 → (kc = 0 → ∃ u1 u2, h1.1 o = some (3, [.long vv.toInt64, u1, u2])) → Q (.inl (some (.int (zJ kc)))) h1) : zcall E 17 142 [.ref a, .int x, .int y, .int (zB q), .int z, .ref o] h Q := by
  have H := C.1
  have GO := O
  obtain ⟨u0, u1, u2, G⟩ := GO
  show zwp E _ 142 (0, [some (.ref _), some (.int _), some (.int _), some (.int (zB _)), some (.int _), some (.ref _), none], [], _) Q
  refine zr_aload zi142_0 rfl ?_
  refine zr_aload_n zi142_2 rfl ?_
  refine zr_iload_n zi142_3 rfl ?_
  refine zr_iload_n zi142_4 rfl ?_
  refine zr_iload_n zi142_5 rfl ?_
  refine zr_iload zi142_6 rfl ?_
  refine zr_virtual zi142_8 rfl rfl (H.1.at0 rfl) rfl rfl ?_
  have hx0 : cs143 h.2.1 L rf αt x y q z 2 0 L → zbk E 17 142 8 11 [some (.ref a), some (.int x), some (.int y), some (.int (zB q)), some (.int z), some (.ref o), none] [.ref o] Q (.inr 0) (zex h) := by
    intro hcs
    refine zbk_th rfl rfl rfl rfl ?_
    show zwp E _ 142 (24, [some (.ref a), some (.int x), some (.int y), some (.int (zB q)), some (.int z), some (.ref o), none], [], _) Q
    refine zr_iconst (v := zJ 2) zi142_24 rfl ?_
    refine zr_ireturn zi142_25 rfl ?_
    exact K _ _ _ _ _ hcs (by omega) (yEqA.refl L) ((yT.ex C O I).fit (by omega) (by omega)) (fun z => absurd z (by decide))
  have hx1 : cs143 h.2.1 L rf αt x y q z 3 0 L → zbk E 17 142 8 11 [some (.ref a), some (.int x), some (.int y), some (.int (zB q)), some (.int z), some (.ref o), none] [.ref o] Q (.inr 1) (zex h) := by
    intro hcs
    refine zbk_th rfl rfl rfl rfl ?_
    show zwp E _ 142 (28, [some (.ref a), some (.int x), some (.int y), some (.int (zB q)), some (.int z), some (.ref o), none], [], _) Q
    refine zr_iconst (v := zJ 3) zi142_28 rfl ?_
    refine zr_ireturn zi142_29 rfl ?_
    exact K _ _ _ _ _ hcs (by omega) (yEqA.refl L) ((yT.ex C O I).fit (by omega) (by omega)) (fun z => absurd z (by decide))
  have hx2 : cs143 h.2.1 L rf αt x y q z 1 0 L → zbk E 17 142 8 11 [some (.ref a), some (.int x), some (.int y), some (.int (zB q)), some (.int z), some (.ref o), none] [.ref o] Q (.inr 2) (zex h) := by
    intro hcs
    refine zbk_th rfl rfl rfl rfl ?_
    show zwp E _ 142 (20, [some (.ref a), some (.int x), some (.int y), some (.int (zB q)), some (.int z), some (.ref o), none], [], _) Q
    refine zr_iconst (v := zJ 1) zi142_20 rfl ?_
    refine zr_ireturn zi142_21 rfl ?_
    exact K _ _ _ _ _ hcs (by omega) (yEqA.refl L) ((yT.ex C O I).fit (by omega) (by omega)) (fun z => absurd z (by decide))
  refine zcall_dep (d := 16) (Nat.le_of_ble_eq_true rfl) (c143 S C (fun k b w hh cs cl fs α kp gd gu mi sp hk ex c hc ec t ht et hu v hv h4 L4 τ4 α4 E4 F4 C4 => zbk_v ?_) (fun h_0 => hx2 (Or.inr (Or.inl ⟨h_0, rfl, rfl⟩))) (fun k_0 b_1 w_2 hh_3 cs_4 cl_5 fs_6 α_7 kp_8 gd_9 gu_10 mi_11 sp_12 h_13 h_14 h_15 => hx2 (Or.inr (Or.inr (Or.inl ⟨k_0, b_1, w_2, hh_3, cs_4, cl_5, fs_6, α_7, kp_8, gd_9, gu_10, mi_11, sp_12, h_13, h_14, h_15, rfl, rfl⟩)))) (fun k_0 b_1 w_2 hh_3 cs_4 cl_5 fs_6 α_7 kp_8 gd_9 gu_10 mi_11 sp_12 h_13 h_14 h_15 h_16 => hx0 (Or.inr (Or.inr (Or.inr (Or.inl ⟨k_0, b_1, w_2, hh_3, cs_4, cl_5, fs_6, α_7, kp_8, gd_9, gu_10, mi_11, sp_12, h_13, h_14, h_15, h_16, rfl, rfl⟩))))) (fun k_0 b_1 w_2 hh_3 cs_4 cl_5 fs_6 α_7 kp_8 gd_9 gu_10 mi_11 sp_12 h_13 h_14 h_15 c_16 h_17 h_18 h_19 => hx1 (Or.inr (Or.inr (Or.inr (Or.inr ⟨k_0, b_1, w_2, hh_3, cs_4, cl_5, fs_6, α_7, kp_8, gd_9, gu_10, mi_11, sp_12, h_13, h_14, h_15, c_16, h_17, h_18, h_19, rfl, rfl⟩))))))
  refine zr_i2l zi142_11 ?_
  refine zr_putfield zi142_12 ((G.f1 F4 (fun z => hO o z rfl)).at0 rfl) rfl rfl ?_
  refine zw_out hO G (yR.map rfl) I E4 F4 C4 (fun h8 T8 U8 => ?_)
  refine zr_goto zi142_15 rfl ?_
  refine zr_iconst (v := zJ 0) zi142_30 rfl ?_
  refine zr_ireturn zi142_31 rfl ?_
  exact K _ _ _ _ _ (Or.inl ⟨k, b, w, hh, cs, cl, fs, α, kp, gd, gu, mi, sp, hk, ex, c, hc, ec, t, ht, et, hu, v, hv, rfl, rfl, rfl⟩) (by omega) E4 (T8.fit (by omega) (by omega)) (fun _ => ⟨_, _, U8⟩)
def cs58 (nb : Nat) (L : List yBS) (rf : Int32) (αt : yAS) (x : Int32) (kc : Nat) (vv : Int32) (LN : List yBS) : Prop :=
  (∃ k, ∃ b, ∃ w, ∃ hh, ∃ cs, ∃ cl, ∃ fs, ∃ α, ∃ kp, ∃ gd, ∃ gu, ∃ mi, ∃ sp, (L[k]? = some (b, (w, hh, cs, cl, fs), α, kp, gd, gu, mi, sp)) ∧ (x = zJ k) ∧ kc = 0 ∧ vv = (ynd (yLk w hh 500 cs cl fs α).1.1 (yLk w hh 500 cs cl fs α).2.2.2.2.2.2 ((yLk w hh 500 cs cl fs α).2.2.2.1 * (yLk w hh 500 cs cl fs α).2.2.2.2.1)) ∧ LN = L) ∨
  ((¬ zin x L.length) ∧ kc = 1 ∧ LN = L)
theorem cs58_len {nb : Nat} {L : List yBS} {rf : Int32} {αt : yAS} {x : Int32} {kc : Nat} {vv : Int32} {LN : List yBS} (H : cs58 nb L rf αt x kc vv LN) : LN.length = L.length := by
  rcases H with ⟨_, _, _, _, _, _, _, _, _, _, _, _, _, _, _, -, -, rfl⟩ | ⟨_, -, rfl⟩
  all_goals first | rfl | exact List.length_set
theorem c144 {E : zEnv} {h : zPH} {Q : zOut → zPH → Prop} (S : ySs E h) {a o : Nat} {L : List yBS} {rf : Int32} {τ : yGS} {αt : yAS} (C : yC h a L rf τ αt) (O : yO h o) (hO : ∀ x, yPb a (L.map (·.1)) x → x ≠ o) (I : yI L) {x : Int32} (K : ∀ h1 kc vv LN L1, cs58 h.2.1 L rf αt x kc vv LN → kc ≤ 3 → yEqA LN L1 → yT h h1 a o L L1 rf 1 6 → (kc = 0 → ∃ u1 u2, h1.1 o = some (3, [.long vv.toInt64, u1, u2])) → Q (.inl (some (.int (zJ kc)))) h1) : zcall E 17 144 [.ref a, .int x, .ref o] h Q := by
  have H := C.1
  have GO := O
  obtain ⟨u0, u1, u2, G⟩ := GO
  show zwp E _ 144 (0, [some (.ref _), some (.int _), some (.ref _), none], [], _) Q
  refine zr_aload_n zi144_0 rfl ?_
  refine zr_aload_n zi144_1 rfl ?_
  refine zr_iload_n zi144_2 rfl ?_
  refine zr_virtual zi144_3 rfl rfl (H.1.at0 rfl) rfl rfl ?_
  have hx2 : cs58 h.2.1 L rf αt x 1 0 L → zbk E 17 144 3 6 [some (.ref a), some (.int x), some (.ref o), none] [.ref o] Q (.inr 2) (zex h) := by
    intro hcs
    refine zbk_th rfl rfl rfl rfl ?_
    show zwp E _ 144 (14, [some (.ref a), some (.int x), some (.ref o), none], [], _) Q
    refine zr_iconst (v := zJ 1) zi144_14 rfl ?_
    refine zr_ireturn zi144_15 rfl ?_
    exact K _ _ _ _ _ hcs (by omega) (yEqA.refl L) ((yT.ex C O I).fit (by omega) (by omega)) (fun z => absurd z (by decide))
  refine zcall_dep (d := 16) (Nat.le_of_ble_eq_true rfl) (c58 S C (fun k b w hh cs cl fs α kp gd gu mi sp hk ex  h4 L4 τ4 α4 E4 F4 C4 => zbk_v ?_) (fun h_0 => hx2 (Or.inr ⟨h_0, rfl, rfl⟩)))
  refine zr_i2l zi144_6 ?_
  refine zr_putfield zi144_7 ((G.f1 F4 (fun z => hO o z rfl)).at0 rfl) rfl rfl ?_
  refine zw_out hO G (yR.map rfl) I E4 F4 C4 (fun h8 T8 U8 => ?_)
  refine zr_goto zi144_10 rfl ?_
  refine zr_iconst (v := zJ 0) zi144_16 rfl ?_
  refine zr_ireturn zi144_17 rfl ?_
  exact K _ _ _ _ _ (Or.inl ⟨k, b, w, hh, cs, cl, fs, α, kp, gd, gu, mi, sp, hk, ex, rfl, rfl, rfl⟩) (by omega) E4 (T8.fit (by omega) (by omega)) (fun _ => ⟨_, _, U8⟩)
def cs61 (nb : Nat) (L : List yBS) (rf : Int32) (αt : yAS) (x : Int32) (y : Int32) (kc : Nat) (vv : Int32) (LN : List yBS) : Prop :=
  ((zin x L.length) ∧ (zin y L.length) ∧ (∃ v, (zaK L x y v) ∧ kc = 0 ∧ vv = v ∧ LN = L)) ∨
  ((¬ zin x L.length) ∧ kc = 1 ∧ LN = L) ∨
  ((¬ zin y L.length) ∧ kc = 1 ∧ LN = L)
theorem cs61_len {nb : Nat} {L : List yBS} {rf : Int32} {αt : yAS} {x : Int32} {y : Int32} {kc : Nat} {vv : Int32} {LN : List yBS} (H : cs61 nb L rf αt x y kc vv LN) : LN.length = L.length := by
  rcases H with ⟨_, _, _, _, -, -, rfl⟩ | ⟨_, -, rfl⟩ | ⟨_, -, rfl⟩
  all_goals first | rfl | exact List.length_set
theorem c145 {E : zEnv} {h : zPH} {Q : zOut → zPH → Prop} (S : ySs E h) {a o : Nat} {L : List yBS} {rf : Int32} {τ : yGS} {αt : yAS} (C : yC h a L rf τ αt) (O : yO h o) (hO : ∀ x, yPb a (L.map (·.1)) x → x ≠ o) (I : yI L) {x : Int32} {y : Int32} (K : ∀ h1 kc vv LN L1, cs61 h.2.1 L rf αt x y kc vv LN → kc ≤ 3 → yEqA LN L1 → yT h h1 a o L L1 rf 1 6 → (kc = 0 → ∃ u1 u2, h1.1 o = some (3, [.long vv.toInt64, u1, u2])) → Q (.inl (some (.int (zJ kc)))) h1) : zcall E 3 145 [.ref a, .int x, .int y, .ref o] h Q := by
  have H := C.1
  have GO := O
  obtain ⟨u0, u1, u2, G⟩ := GO
  show zwp E _ 145 (0, [some (.ref _), some (.int _), some (.int _), some (.ref _), none], [], _) Q
  refine zr_aload_n zi145_0 rfl ?_
  refine zr_aload_n zi145_1 rfl ?_
  refine zr_iload_n zi145_2 rfl ?_
  refine zr_iload_n zi145_3 rfl ?_
  refine zr_virtual zi145_4 rfl rfl (H.1.at0 rfl) rfl rfl ?_
  have hx2 : cs61 h.2.1 L rf αt x y 1 0 L → zbk E 3 145 4 7 [some (.ref a), some (.int x), some (.int y), some (.ref o), none] [.ref o] Q (.inr 2) (zex h) := by
    intro hcs
    refine zbk_th rfl rfl rfl rfl ?_
    show zwp E _ 145 (16, [some (.ref a), some (.int x), some (.int y), some (.ref o), none], [], _) Q
    refine zr_iconst (v := zJ 1) zi145_16 rfl ?_
    refine zr_ireturn zi145_17 rfl ?_
    exact K _ _ _ _ _ hcs (by omega) (yEqA.refl L) ((yT.ex C O I).fit (by omega) (by omega)) (fun z => absurd z (by decide))
  refine zcall_dep (d := 2) (Nat.le_of_ble_eq_true rfl) (c61 S C (fun hx hy v hv h4 L4 τ4 α4 E4 F4 C4 => zbk_v ?_) (fun h_0 => hx2 (Or.inr (Or.inl ⟨h_0, rfl, rfl⟩))) (fun h_0 => hx2 (Or.inr (Or.inr ⟨h_0, rfl, rfl⟩))))
  refine zr_i2l zi145_7 ?_
  refine zr_putfield zi145_8 ((G.f1 F4 (fun z => hO o z rfl)).at0 rfl) rfl rfl ?_
  refine zw_out hO G (yR.map rfl) I E4 F4 C4 (fun h8 T8 U8 => ?_)
  refine zr_goto zi145_11 rfl ?_
  refine zr_iconst (v := zJ 0) zi145_18 rfl ?_
  refine zr_ireturn zi145_19 rfl ?_
  exact K _ _ _ _ _ (Or.inl ⟨hx, hy, v, hv, rfl, rfl, rfl⟩) (by omega) E4 (T8.fit (by omega) (by omega)) (fun _ => ⟨_, _, U8⟩)
