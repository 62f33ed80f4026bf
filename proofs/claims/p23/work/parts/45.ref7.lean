/-! ===== the reference: pictures ===== -/
theorem zB_inj {p q : Bool} (h : zB p = zB q) : p = q := by cases p <;> cases q <;> first | rfl | exact absurd h (by decide)
theorem zB_orb {a p q : Bool} (h : zB p = zB q) : zB a ||| zJ 1 = zB (a || (p == q)) := by
  rw [zB_inj h]
  cases a <;> cases q <;> decide
theorem zB_orn {a p q : Bool} (h : ¬ zB p = zB q) : zB a ||| zJ 0 = zB (a || (p == q)) := by
  cases a <;> cases p <;> cases q <;> first | decide | exact absurd rfl h
theorem c184 {E : zEnv} {h : zPH} {Q : zOut → zPH → Prop} {b r c g w hh : Nat} {x0 x1 x2 x3 cl : List Int32} {mi sp : Int32} (P : rB h b r c g w hh x0 x1 x2 x3 cl mi sp) {rw : Nat} {x : Int32} {k : Nat} {Wf : Nat → List Int32} (W : rMat h rw hh Wf) (hW : ∀ i, i < hh → (Wf i).length ≤ 32) (hk : k < 32) (K : Q (.inl (some (.int (zB (rlt Wf x k hh))))) h) : zcall E 1 184 [.ref b, .ref rw, .int x, .int (zJ k)] h Q := by
  obtain ⟨⟨gw1, gw2, gh1, gh2⟩, ⟨l0, l1, l2, l3, lcl⟩, d1, d2, d3⟩ := P.2.2.2
  have hwh := zwh_b (w := w) (hh := hh) ⟨gw1, gw2, gh1, gh2⟩
  show zwp E _ 184 (0, [some (.ref _), some (.ref _), some (.int _), some (.int (zJ _)), none, none, none, none, none, none], [], _) Q
  refine zr_iconst (v := zJ 0) zi184_0 rfl ?_
  refine zr_istore (L' := [some (.ref _), some (.ref _), some (.int _), some (.int (zJ _)), some (.int (zJ _)), none, none, none, none, none]) zi184_1 rfl rfl ?_
  suffices key3 : ∀ x5 x6 x7 x8 x9, (rlt Wf x k 0 = true) → zwp E 1 184 (3, [some (.ref b), some (.ref rw), some (.int x), some (.int (zJ k)), some (.int (zJ 0)), x5, x6, x7, x8, x9], [], h) Q from key3 _ _ _ _ _ rfl
  refine zloop (P := fun i => ∀ x5 x6 x7 x8 x9, (rlt Wf x k i = true) → zwp E 1 184 (3, [some (.ref b), some (.ref rw), some (.int x), some (.int (zJ k)), some (.int (zJ i)), x5, x6, x7, x8, x9], [], h) Q) (n := hh) fun i hk3 ih3 => ?_
  intro x5 x6 x7 x8 x9 hT
  refine zr_iload zi184_3 rfl ?_
  refine zr_aload_n zi184_5 rfl ?_
  refine zr_getfield zi184_6 (P.1.at0 rfl) rfl ?_
  refine zr_icmp_geN zi184_9 rfl (by omega) (by omega) (fun q9 => ?_) (fun q9 => ?_)
  · refine zr_iconst (v := zJ 1) zi184_87 rfl ?_
    refine zr_zreturn zi184_88 rfl (by decide) ?_
    obtain rfl : hh = i := by omega
    rw [hT] at K
    exact K
  · refine zr_iconst (v := zJ 0) zi184_12 rfl ?_
    refine zr_istore (L' := [some (.ref _), some (.ref _), some (.int _), some (.int (zJ _)), some (.int (zJ _)), some (.int (zJ _)), _, _, _, _]) zi184_13 rfl rfl ?_
    have hl32 := hW i (by omega)
    have Xl2 : h.1 (rw + 1 + i * 1) = some (64, zis (Wf i)) := by rw [Nat.mul_one]; exact W.2 i (by omega)
    refine zr_aload_n zi184_15 rfl ?_
    refine zr_iload zi184_16 rfl ?_
    refine zr_aaloadN zi184_18 W.1 rfl (by omega) (yrefs_at (by omega)) ?_
    refine zr_astore (L' := [some (.ref _), some (.ref _), some (.int _), some (.int (zJ _)), some (.int (zJ _)), some (.int (zJ _)), some (.ref _), _, _, _]) zi184_19 rfl rfl ?_
    refine zr_aload zi184_21 rfl ?_
    refine zr_arraylength (v := zJ (Wf i).length) zi184_23 Xl2 rfl (zlenJ rfl) ?_
    refine zr_istore (L' := [some (.ref _), some (.ref _), some (.int _), some (.int (zJ _)), some (.int (zJ _)), some (.int (zJ _)), some (.ref _), some (.int (zJ _)), _, _]) zi184_24 rfl rfl ?_
    refine zr_iconst (v := zJ 0) zi184_26 rfl ?_
    refine zr_istore (L' := [some (.ref _), some (.ref _), some (.int _), some (.int (zJ _)), some (.int (zJ _)), some (.int (zJ _)), some (.ref _), some (.int (zJ _)), some (.int (zJ _)), _]) zi184_27 rfl rfl ?_
    suffices key29 : ∀ x9, zwp E 1 184 (29, [some (.ref b), some (.ref rw), some (.int x), some (.int (zJ k)), some (.int (zJ i)), some (.int (zB (rl1 (Wf i) k (zbit x i) 0))), some (.ref (rw + 1 + i * 1)), some (.int (zJ (Wf i).length)), some (.int (zJ 0)), x9], [], h) Q from key29 _
    refine zloop (P := fun j => ∀ x9, zwp E 1 184 (29, [some (.ref b), some (.ref rw), some (.int x), some (.int (zJ k)), some (.int (zJ i)), some (.int (zB (rl1 (Wf i) k (zbit x i) j))), some (.ref (rw + 1 + i * 1)), some (.int (zJ (Wf i).length)), some (.int (zJ j)), x9], [], h) Q) (n := (Wf i).length) fun j hk29 ih29 => ?_
    intro x9
    refine zr_iload zi184_29 rfl ?_
    refine zr_iload zi184_31 rfl ?_
    refine zr_icmp_geN zi184_33 rfl (by omega) (by omega) (fun q33 => ?_) (fun q33 => ?_)
    · refine zr_iload zi184_74 rfl ?_
      refine zr_if_ne zi184_76 rfl (fun q76 => ?_) (fun q76 => ?_)
      · refine zr_iincN (z := 1) (L' := [some (.ref _), some (.ref _), some (.int _), some (.int (zJ _)), some (.int (zJ _)), some (.int _), some (.ref _), some (.int (zJ _)), some (.int (zJ _)), _]) zi184_81 rfl rfl rfl rfl ?_
        refine zr_goto zi184_84 rfl ?_
        exact ih3 (by omega) _ _ _ _ _ (by
          obtain rfl : j = (Wf i).length := by omega
          rw [rlt, hT]
          cases hz : rl1 (Wf i) k (zbit x i) (Wf i).length with
          | true => rfl
          | false => exact absurd ((zB_ne _).mpr hz) q76)
      · refine zr_iconst (v := zJ 0) zi184_79 rfl ?_
        refine zr_zreturn zi184_80 rfl (by decide) ?_
        obtain rfl : j = (Wf i).length := by omega
        rw [rlt_f (k := i + 1) (by rw [rlt, hT, (zB_ne _).mp q76]; rfl) hh (by omega)] at K
        exact K
    · refine zr_aload zi184_36 rfl ?_
      refine zr_iload zi184_38 rfl ?_
      refine zr_ialoadN zi184_40 Xl2 rfl (by omega) (by first | omega | (simp only [List.length_set, zpt_len]; omega)) ?_
      refine zr_istore (L' := [some (.ref _), some (.ref _), some (.int _), some (.int (zJ _)), some (.int (zJ _)), some (.int _), some (.ref _), some (.int (zJ _)), some (.int (zJ _)), some (.int _)]) zi184_41 rfl rfl ?_
      refine zr_iload zi184_43 rfl ?_
      refine zr_iload zi184_45 rfl ?_
      refine zr_iload_n zi184_47 rfl ?_
      refine zr_static zi184_48 rfl rfl rfl rfl ?_
      refine zcall_dep (d := 0) (Nat.le_of_ble_eq_true rfl) (c175 (by omega) (zbk_v ?_))
      refine zr_iload_n zi184_51 rfl ?_
      refine zr_iload zi184_52 rfl ?_
      refine zr_static zi184_54 rfl rfl rfl rfl ?_
      refine zcall_dep (d := 0) (Nat.le_of_ble_eq_true rfl) (c175 (by omega) (zbk_v ?_))
      refine zr_icmp_ne zi184_57 rfl (fun q57 => ?_) (fun q57 => ?_)
      · refine zr_iconst (v := zJ 0) zi184_64 rfl ?_
        refine zr_ior zi184_65 ?_
        refine zr_istore (L' := [some (.ref _), some (.ref _), some (.int _), some (.int (zJ _)), some (.int (zJ _)), some (.int _), some (.ref _), some (.int (zJ _)), some (.int (zJ _)), some (.int _)]) zi184_66 rfl rfl ?_
        refine zr_iincN (z := 1) (L' := [some (.ref _), some (.ref _), some (.int _), some (.int (zJ _)), some (.int (zJ _)), some (.int _), some (.ref _), some (.int (zJ _)), some (.int (zJ _)), some (.int _)]) zi184_68 rfl rfl rfl rfl ?_
        refine zr_goto zi184_71 rfl ?_
        have en := ih29 (by omega)
        rw [rl1] at en
        first
          | (rw [← zB_orb q57] at en; exact en _)
          | (rw [← zB_orn q57] at en; exact en _)
      · refine zr_iconst (v := zJ 1) zi184_60 rfl ?_
        refine zr_goto zi184_61 rfl ?_
        refine zr_ior zi184_65 ?_
        refine zr_istore (L' := [some (.ref _), some (.ref _), some (.int _), some (.int (zJ _)), some (.int (zJ _)), some (.int _), some (.ref _), some (.int (zJ _)), some (.int (zJ _)), some (.int _)]) zi184_66 rfl rfl ?_
        refine zr_iincN (z := 1) (L' := [some (.ref _), some (.ref _), some (.int _), some (.int (zJ _)), some (.int (zJ _)), some (.int _), some (.ref _), some (.int (zJ _)), some (.int (zJ _)), some (.int _)]) zi184_68 rfl rfl rfl rfl ?_
        refine zr_goto zi184_71 rfl ?_
        have en := ih29 (by omega)
        rw [rl1] at en
        first
          | (rw [← zB_orb q57] at en; exact en _)
          | (rw [← zB_orn q57] at en; exact en _)
theorem c185 {E : zEnv} {b r c g w hh : Nat} {x0 x1 x2 x3 cl : List Int32} {mi sp : Int32} {mk rw ft lf : Nat} {W : Nat → List Int32} {Fc : Nat → Nat → List Int32} (hPm : b < mk ∧ r + 5 ≤ mk ∧ c < mk) (m : Nat) : ∀ (d row : Nat) (x : Int32) (h : zPH) (Q : zOut → zPH → Prop) (lm : List Int32) (cnt : Nat) (Lf : Nat → List Int32), hh - row = m → row ≤ hh → 3 + m ≤ d → rPS h w hh mk rw ft lf W Fc lm cnt Lf → rB h b r c g w hh x0 x1 x2 x3 cl mi sp → (∀ h1, yFr (rPL mk lf) h h1 0 0 → rPS h1 w hh mk rw ft lf W Fc ((rLk w W Fc (hh - row) row x (lm, cnt, Lf))).1 ((rLk w W Fc (hh - row) row x (lm, cnt, Lf))).2.1 ((rLk w W Fc (hh - row) row x (lm, cnt, Lf))).2.2 → Q (.inl none) h1) → zcall E d 185 [.ref b, .ref mk, .ref rw, .ref ft, .ref lf, .int (zJ row), .int x] h Q := by
  refine zfall (P := fun m => ∀ (d row : Nat) (x : Int32) (h : zPH) (Q : zOut → zPH → Prop) (lm : List Int32) (cnt : Nat) (Lf : Nat → List Int32), hh - row = m → row ≤ hh → 3 + m ≤ d → rPS h w hh mk rw ft lf W Fc lm cnt Lf → rB h b r c g w hh x0 x1 x2 x3 cl mi sp → (∀ h1, yFr (rPL mk lf) h h1 0 0 → rPS h1 w hh mk rw ft lf W Fc ((rLk w W Fc (hh - row) row x (lm, cnt, Lf))).1 ((rLk w W Fc (hh - row) row x (lm, cnt, Lf))).2.1 ((rLk w W Fc (hh - row) row x (lm, cnt, Lf))).2.2 → Q (.inl none) h1) → zcall E d 185 [.ref b, .ref mk, .ref rw, .ref ft, .ref lf, .int (zJ row), .int x] h Q) (fun m ih => ?_) m
  intro d0 row x h Q lm cnt Lf hm hr hd0 T P K
  obtain ⟨d, rfl⟩ : ∃ d, d0 = d + 1 := ⟨d0 - 1, by omega⟩
  obtain ⟨⟨gw1, gw2, gh1, gh2⟩, ⟨l0, l1, l2, l3, lcl⟩, d1, d2, d3⟩ := P.2.2.2
  have hwh := zwh_b (w := w) (hh := hh) ⟨gw1, gw2, gh1, gh2⟩
  show zwp E (d + 1) 185 (0, [some (.ref _), some (.ref _), some (.ref _), some (.ref _), some (.ref _), some (.int (zJ _)), some (.int _), none, none, none, none, none, none], [], _) Q
  obtain ⟨⟨Xm, hlm, hcnt, hc5⟩, ⟨Wr, hW⟩, ⟨W3, h3⟩, ⟨WL, hL⟩, o1, o2, o3, o4⟩ := (id T)
  refine zr_aload_n zi185_0 rfl ?_
  refine zr_sipush (v := zJ 500) zi185_1 rfl ?_
  refine zr_ialoadN zi185_4 Xm rfl (by omega) (by first | omega | (simp only [List.length_set, zpt_len]; omega)) ?_
  rw [hc5]
  refine zr_sipush (v := zJ 500) zi185_5 rfl ?_
  refine zr_icmp_neN zi185_8 rfl (by omega) (by omega) (fun q8 => ?_) (fun q8 => ?_)
  · refine zr_iload zi185_12 rfl ?_
    refine zr_aload_n zi185_14 rfl ?_
    refine zr_getfield zi185_15 (P.1.at0 rfl) rfl ?_
    refine zr_icmp_neN zi185_18 rfl (by omega) (by omega) (fun q18 => ?_) (fun q18 => ?_)
    · have hl32 := hW row (by omega)
      have Xl2 : h.1 (rw + 1 + row * 1) = some (64, zis (W row)) := by rw [Nat.mul_one]; exact Wr.2 row (by omega)
      refine zr_aload_n zi185_40 rfl ?_
      refine zr_iload zi185_41 rfl ?_
      refine zr_aaloadN zi185_43 Wr.1 rfl (by omega) (yrefs_at (by omega)) ?_
      refine zr_astore (L' := [some (.ref _), some (.ref _), some (.ref _), some (.ref _), some (.ref _), some (.int (zJ _)), some (.int _), some (.ref _), none, none, none, none, none]) zi185_44 rfl rfl ?_
      refine zr_aload zi185_46 rfl ?_
      refine zr_arraylength (v := zJ (W row).length) zi185_48 Xl2 rfl (zlenJ rfl) ?_
      refine zr_istore (L' := [some (.ref _), some (.ref _), some (.ref _), some (.ref _), some (.ref _), some (.int (zJ _)), some (.int _), some (.ref _), some (.int (zJ _)), none, none, none, none]) zi185_49 rfl rfl ?_
      refine zr_iconst (v := zJ 0) zi185_51 rfl ?_
      refine zr_istore (L' := [some (.ref _), some (.ref _), some (.ref _), some (.ref _), some (.ref _), some (.int (zJ _)), some (.int _), some (.ref _), some (.int (zJ _)), some (.int (zJ _)), none, none, none]) zi185_52 rfl rfl ?_
      suffices key54 : ∀ h1 x10 x11 x12, (yFr (rPL mk lf) h h1 0 0) → (rPS h1 w hh mk rw ft lf W Fc ((rLp (rst w Fc (rLk w W Fc (hh - (row + 1)) (row + 1)) row x (W row)) (0) (lm, cnt, Lf))).1 ((rLp (rst w Fc (rLk w W Fc (hh - (row + 1)) (row + 1)) row x (W row)) (0) (lm, cnt, Lf))).2.1 ((rLp (rst w Fc (rLk w W Fc (hh - (row + 1)) (row + 1)) row x (W row)) (0) (lm, cnt, Lf))).2.2) → (h1.1 (rw + 1 + row * 1) = some (64, zis (W row))) → (rB h1 b r c g w hh x0 x1 x2 x3 cl mi sp) → zwp E (d + 1) 185 (54, [some (.ref b), some (.ref mk), some (.ref rw), some (.ref ft), some (.ref lf), some (.int (zJ row)), some (.int x), some (.ref (rw + 1 + row * 1)), some (.int (zJ (W row).length)), some (.int (zJ 0)), x10, x11, x12], [], h1) Q from key54 _ _ _ _ (yFr.refl _ _) T Xl2 P
      refine zloop (P := fun u => ∀ h1 x10 x11 x12, (yFr (rPL mk lf) h h1 0 0) → (rPS h1 w hh mk rw ft lf W Fc ((rLp (rst w Fc (rLk w W Fc (hh - (row + 1)) (row + 1)) row x (W row)) (u) (lm, cnt, Lf))).1 ((rLp (rst w Fc (rLk w W Fc (hh - (row + 1)) (row + 1)) row x (W row)) (u) (lm, cnt, Lf))).2.1 ((rLp (rst w Fc (rLk w W Fc (hh - (row + 1)) (row + 1)) row x (W row)) (u) (lm, cnt, Lf))).2.2) → (h1.1 (rw + 1 + row * 1) = some (64, zis (W row))) → (rB h1 b r c g w hh x0 x1 x2 x3 cl mi sp) → zwp E (d + 1) 185 (54, [some (.ref b), some (.ref mk), some (.ref rw), some (.ref ft), some (.ref lf), some (.int (zJ row)), some (.int x), some (.ref (rw + 1 + row * 1)), some (.int (zJ (W row).length)), some (.int (zJ u)), x10, x11, x12], [], h1) Q) (n := (W row).length) fun u hk54 ih54 => ?_
      intro h1 x10 x11 x12 F1 T1 Xl1 P1
      skip
      refine zr_iload zi185_54 rfl ?_
      refine zr_iload zi185_56 rfl ?_
      refine zr_icmp_geN zi185_58 rfl (by omega) (by omega) (fun q58 => ?_) (fun q58 => ?_)
      · refine zr_return zi185_193 rfl ?_
        have eL : rLk w W Fc (hh - row) row x (lm, cnt, Lf) = (rLp (rst w Fc (rLk w W Fc (hh - (row + 1)) (row + 1)) row x (W row)) ((W row).length) (lm, cnt, Lf)) := by
          rw [show hh - row = (hh - (row + 1)) + 1 by omega, rLk]
          exact if_neg q8
        obtain rfl : u = (W row).length := by omega
        rw [eL] at K
        exact K _ F1 T1
      · refine zr_aload zi185_61 rfl ?_
        refine zr_iload zi185_63 rfl ?_
        refine zr_ialoadN zi185_65 Xl1 rfl (by omega) (by first | omega | (simp only [List.length_set, zpt_len]; omega)) ?_
        refine zr_istore (L' := [some (.ref _), some (.ref _), some (.ref _), some (.ref _), some (.ref _), some (.int (zJ _)), some (.int _), some (.ref _), some (.int (zJ _)), some (.int (zJ _)), some (.int _), _, _]) zi185_66 rfl rfl ?_
        refine zr_iconst (v := zB true) zi185_68 rfl ?_
        refine zr_istore (L' := [some (.ref _), some (.ref _), some (.ref _), some (.ref _), some (.ref _), some (.int (zJ _)), some (.int _), some (.ref _), some (.int (zJ _)), some (.int (zJ _)), some (.int _), some (.int (zB _)), _]) zi185_69 rfl rfl ?_
        refine zr_iconst (v := zJ 0) zi185_71 rfl ?_
        refine zr_istore (L' := [some (.ref _), some (.ref _), some (.ref _), some (.ref _), some (.ref _), some (.int (zJ _)), some (.int _), some (.ref _), some (.int (zJ _)), some (.int (zJ _)), some (.int _), some (.int (zB _)), some (.int (zJ _))]) zi185_72 rfl rfl ?_
        suffices key74 : ∀ h2, (yFr (rPL mk lf) h h2 0 0) → (rPS h2 w hh mk rw ft lf W Fc (rLp (rst w Fc (rLk w W Fc (hh - (row + 1)) (row + 1)) row x (W row)) (u) (lm, cnt, Lf)).1 (rLp (rst w Fc (rLk w W Fc (hh - (row + 1)) (row + 1)) row x (W row)) (u) (lm, cnt, Lf)).2.1 (rlc Fc row ((W row).getD u 0) (rLp (rst w Fc (rLk w W Fc (hh - (row + 1)) (row + 1)) row x (W row)) (u) (lm, cnt, Lf)).2.2 (0)).2) → (h2.1 (rw + 1 + row * 1) = some (64, zis (W row))) → (rB h2 b r c g w hh x0 x1 x2 x3 cl mi sp) → zwp E (d + 1) 185 (74, [some (.ref b), some (.ref mk), some (.ref rw), some (.ref ft), some (.ref lf), some (.int (zJ row)), some (.int x), some (.ref (rw + 1 + row * 1)), some (.int (zJ (W row).length)), some (.int (zJ u)), some (.int ((W row).getD u 0)), some (.int (zB (rlc Fc row ((W row).getD u 0) (rLp (rst w Fc (rLk w W Fc (hh - (row + 1)) (row + 1)) row x (W row)) (u) (lm, cnt, Lf)).2.2 (0)).1)), some (.int (zJ 0))], [], h2) Q from key74 _ F1 T1 Xl1 P1
        refine zloop (P := fun i => ∀ h2, (yFr (rPL mk lf) h h2 0 0) → (rPS h2 w hh mk rw ft lf W Fc (rLp (rst w Fc (rLk w W Fc (hh - (row + 1)) (row + 1)) row x (W row)) (u) (lm, cnt, Lf)).1 (rLp (rst w Fc (rLk w W Fc (hh - (row + 1)) (row + 1)) row x (W row)) (u) (lm, cnt, Lf)).2.1 (rlc Fc row ((W row).getD u 0) (rLp (rst w Fc (rLk w W Fc (hh - (row + 1)) (row + 1)) row x (W row)) (u) (lm, cnt, Lf)).2.2 (i)).2) → (h2.1 (rw + 1 + row * 1) = some (64, zis (W row))) → (rB h2 b r c g w hh x0 x1 x2 x3 cl mi sp) → zwp E (d + 1) 185 (74, [some (.ref b), some (.ref mk), some (.ref rw), some (.ref ft), some (.ref lf), some (.int (zJ row)), some (.int x), some (.ref (rw + 1 + row * 1)), some (.int (zJ (W row).length)), some (.int (zJ u)), some (.int ((W row).getD u 0)), some (.int (zB (rlc Fc row ((W row).getD u 0) (rLp (rst w Fc (rLk w W Fc (hh - (row + 1)) (row + 1)) row x (W row)) (u) (lm, cnt, Lf)).2.2 (i)).1)), some (.int (zJ i))], [], h2) Q) (n := w) fun i hk74 ih74 => ?_
        intro h2 F2 T2 Xl2_ P2
        have hPl := P2.lt
        obtain ⟨⟨Ym, hlm2, _, _⟩, ⟨Wr2, _⟩, ⟨W32, h32⟩, ⟨WL2, hL2⟩, _, _, _, o42⟩ := id T2
        refine zr_iload zi185_74 rfl ?_
        refine zr_aload_n zi185_76 rfl ?_
        refine zr_getfield zi185_77 (P2.1.at0 rfl) rfl ?_
        refine zr_icmp_geN zi185_80 rfl (by omega) (by omega) (fun q80 => ?_) (fun q80 => ?_)
        · have hR : (rlc Fc row ((W row).getD u 0) (rLp (rst w Fc (rLk w W Fc (hh - (row + 1)) (row + 1)) row x (W row)) (u) (lm, cnt, Lf)).2.2 (w)) = (rlc Fc row ((W row).getD u 0) (rLp (rst w Fc (rLk w W Fc (hh - (row + 1)) (row + 1)) row x (W row)) (u) (lm, cnt, Lf)).2.2 (i)) := by
            first
            | exact rlc_f q85 w (by omega)
            | exact congrArg _ (show w = i by omega)
          refine zr_iload zi185_156 rfl ?_
          refine zr_if_eqB zi185_158 rfl (fun q158 => ?_) (fun q158 => ?_)
          · refine zr_iincN (z := 1) (L' := [some (.ref _), some (.ref _), some (.ref _), some (.ref _), some (.ref _), some (.int (zJ _)), some (.int _), some (.ref _), some (.int (zJ _)), some (.int (zJ _)), some (.int _), some (.int (zB _)), some (.int (zJ _))]) zi185_187 rfl rfl rfl rfl ?_
            refine zr_goto zi185_190 rfl ?_
            exact ih54 (by omega) _ _ _ _ F2 (by rw [rLp, rst]; first | (rw [if_neg (by rw [hR, q158]; decide)]; rw [hR]; exact T2) | (rw [if_pos (by rw [hR]; exact q158)]; rw [hR]; exact T2)) Xl2_ P2
          · refine zr_aload_n zi185_161 rfl ?_
            refine zr_aload_n zi185_162 rfl ?_
            refine zr_aload_n zi185_163 rfl ?_
            refine zr_aload_n zi185_164 rfl ?_
            refine zr_aload zi185_165 rfl ?_
            refine zr_iload zi185_167 rfl ?_
            refine zr_iconst (v := zJ 1) zi185_169 rfl ?_
            refine zr_iaddN zi185_170 ?_
            refine zr_iload zi185_171 rfl ?_
            refine zr_iload zi185_173 rfl ?_
            refine zr_aload_n zi185_175 rfl ?_
            refine zr_getfield zi185_176 (P2.1.at0 rfl) rfl ?_
            refine zr_iload zi185_179 rfl ?_
            refine zr_imulN zi185_181 ?_
            refine zr_ishl zi185_182 ?_
            refine zr_ior zi185_183 ?_
            refine zr_virtual zi185_184 rfl rfl (P2.1.at0 rfl) rfl rfl ?_
            refine ih (hh - (row + 1)) (by omega) d (row + 1) _ _ _ _ _ _ rfl (by omega) (by omega) T2 P2 (fun h184 F184 T184 => zbk_0 ?_)
            have P184 := P2.fr F184 (fun x z1 z2 => by rcases z2 with z2 | z2 <;> (rcases z1 with z | z | z <;> (have := z.2; omega)))
            have Xl184 := F184.c (by omega) (fun z => by rcases z with z | z <;> omega) Xl2_
            refine zr_iincN (z := 1) (L' := [some (.ref _), some (.ref _), some (.ref _), some (.ref _), some (.ref _), some (.int (zJ _)), some (.int _), some (.ref _), some (.int (zJ _)), some (.int (zJ _)), some (.int _), some (.int (zB _)), some (.int (zJ _))]) zi185_187 rfl rfl rfl rfl ?_
            refine zr_goto zi185_190 rfl ?_
            exact ih54 (by omega) _ _ _ _ (F2.trans F184) (by rw [rLp, rst]; first | (rw [if_neg (by rw [hR, q158]; decide)]; rw [hR]; exact T184) | (rw [if_pos (by rw [hR]; exact q158)]; rw [hR]; exact T184)) Xl184 P184
        · refine zr_iload zi185_83 rfl ?_
          refine zr_if_eqB zi185_85 rfl (fun q85 => ?_) (fun q85 => ?_)
          · have hR : (rlc Fc row ((W row).getD u 0) (rLp (rst w Fc (rLk w W Fc (hh - (row + 1)) (row + 1)) row x (W row)) (u) (lm, cnt, Lf)).2.2 (w)) = (rlc Fc row ((W row).getD u 0) (rLp (rst w Fc (rLk w W Fc (hh - (row + 1)) (row + 1)) row x (W row)) (u) (lm, cnt, Lf)).2.2 (i)) := by
              first
              | exact rlc_f q85 w (by omega)
              | exact congrArg _ (show w = i by omega)
            refine zr_iload zi185_156 rfl ?_
            refine zr_if_eqB zi185_158 rfl (fun q158 => ?_) (fun q158 => ?_)
            · refine zr_iincN (z := 1) (L' := [some (.ref _), some (.ref _), some (.ref _), some (.ref _), some (.ref _), some (.int (zJ _)), some (.int _), some (.ref _), some (.int (zJ _)), some (.int (zJ _)), some (.int _), some (.int (zB _)), some (.int (zJ _))]) zi185_187 rfl rfl rfl rfl ?_
              refine zr_goto zi185_190 rfl ?_
              exact ih54 (by omega) _ _ _ _ F2 (by rw [rLp, rst]; first | (rw [if_neg (by rw [hR, q158]; decide)]; rw [hR]; exact T2) | (rw [if_pos (by rw [hR]; exact q158)]; rw [hR]; exact T2)) Xl2_ P2
            · refine zr_aload_n zi185_161 rfl ?_
              refine zr_aload_n zi185_162 rfl ?_
              refine zr_aload_n zi185_163 rfl ?_
              refine zr_aload_n zi185_164 rfl ?_
              refine zr_aload zi185_165 rfl ?_
              refine zr_iload zi185_167 rfl ?_
              refine zr_iconst (v := zJ 1) zi185_169 rfl ?_
              refine zr_iaddN zi185_170 ?_
              refine zr_iload zi185_171 rfl ?_
              refine zr_iload zi185_173 rfl ?_
              refine zr_aload_n zi185_175 rfl ?_
              refine zr_getfield zi185_176 (P2.1.at0 rfl) rfl ?_
              refine zr_iload zi185_179 rfl ?_
              refine zr_imulN zi185_181 ?_
              refine zr_ishl zi185_182 ?_
              refine zr_ior zi185_183 ?_
              refine zr_virtual zi185_184 rfl rfl (P2.1.at0 rfl) rfl rfl ?_
              refine ih (hh - (row + 1)) (by omega) d (row + 1) _ _ _ _ _ _ rfl (by omega) (by omega) T2 P2 (fun h184 F184 T184 => zbk_0 ?_)
              have P184 := P2.fr F184 (fun x z1 z2 => by rcases z2 with z2 | z2 <;> (rcases z1 with z | z | z <;> (have := z.2; omega)))
              have Xl184 := F184.c (by omega) (fun z => by rcases z with z | z <;> omega) Xl2_
              refine zr_iincN (z := 1) (L' := [some (.ref _), some (.ref _), some (.ref _), some (.ref _), some (.ref _), some (.int (zJ _)), some (.int _), some (.ref _), some (.int (zJ _)), some (.int (zJ _)), some (.int _), some (.int (zB _)), some (.int (zJ _))]) zi185_187 rfl rfl rfl rfl ?_
              refine zr_goto zi185_190 rfl ?_
              exact ih54 (by omega) _ _ _ _ (F2.trans F184) (by rw [rLp, rst]; first | (rw [if_neg (by rw [hR, q158]; decide)]; rw [hR]; exact T184) | (rw [if_pos (by rw [hR]; exact q158)]; rw [hR]; exact T184)) Xl184 P184
          · have hla := hL2 (row + 1) (by omega)
            have hlb := hL2 row (by omega)
            have hlc := h32 i row (by omega) (by omega)
            have M1 := (W32.2 i (by omega)).1
            have Xa2 : h2.1 (lf + 1 + (row + 1) * 1) = some (64, zis ((rlc Fc row ((W row).getD u 0) (rLp (rst w Fc (rLk w W Fc (hh - (row + 1)) (row + 1)) row x (W row)) (u) (lm, cnt, Lf)).2.2 (i)).2 (row + 1))) := by rw [Nat.mul_one]; exact WL2.2 (row + 1) (by omega)
            have Xb2 : h2.1 (lf + 1 + (row) * 1) = some (64, zis ((rlc Fc row ((W row).getD u 0) (rLp (rst w Fc (rLk w W Fc (hh - (row + 1)) (row + 1)) row x (W row)) (u) (lm, cnt, Lf)).2.2 (i)).2 (row))) := by rw [Nat.mul_one]; exact WL2.2 (row) (by omega)
            have Xc2 : h2.1 (ft + 1 + i * (1 + hh) + 1 + row * 1) = some (64, zis (Fc i row)) := by rw [Nat.mul_one]; exact (W32.2 i (by omega)).2 row (by omega)
            refine zr_aload zi185_88 rfl ?_
            refine zr_iload zi185_90 rfl ?_
            refine zr_iconst (v := zJ 1) zi185_92 rfl ?_
            refine zr_iaddN zi185_93 ?_
            refine zr_aaloadN zi185_94 WL2.1 rfl (by omega) (yrefs_at (by omega)) ?_
            refine zr_iload zi185_95 rfl ?_
            refine zr_aload zi185_97 rfl ?_
            refine zr_iload zi185_99 rfl ?_
            refine zr_aaloadN zi185_101 WL2.1 rfl (by omega) (yrefs_at (by omega)) ?_
            refine zr_iload zi185_102 rfl ?_
            refine zr_ialoadN zi185_104 Xb2 rfl (by omega) (by first | omega | (simp only [List.length_set, zpt_len]; omega)) ?_
            refine zr_aload_n zi185_105 rfl ?_
            refine zr_iload zi185_106 rfl ?_
            refine zr_aaloadN zi185_108 W32.1 rfl (by omega) (yrefs_at (by omega)) ?_
            refine zr_iload zi185_109 rfl ?_
            refine zr_aaloadN zi185_111 M1 rfl (by omega) (yrefs_at (by omega)) ?_
            refine zr_iload zi185_112 rfl ?_
            refine zr_iload zi185_114 rfl ?_
            refine zr_static zi185_116 rfl rfl rfl rfl ?_
            refine zcall_dep (d := 0) (by omega) (c175 (by omega) (zbk_v ?_))
            refine zr_if_eqB zi185_119 rfl (fun q119 => ?_) (fun q119 => ?_)
            · refine zr_iconst (v := zJ 0) zi185_126 rfl ?_
              refine zr_ialoadN zi185_127 Xc2 rfl (by omega) (by first | omega | (simp only [List.length_set, zpt_len]; omega)) ?_
              refine zr_iand zi185_128 ?_
              refine zr_iastoreN zi185_129 Xa2 (by omega) (by first | omega | (simp only [List.length_set, zpt_len]; omega)) ?_
              refine zw_cP (P := rPL mk lf) Xa2 (by decide) (Or.inr (by omega)) (fun h129 F129 X129 N129 d129 => ?_)
              have X129b := X129
              rw [Nat.mul_one] at X129
              have hsl : i < ((rlc Fc row ((W row).getD u 0) (rLp (rst w Fc (rLk w W Fc (hh - (row + 1)) (row + 1)) row x (W row)) (u) (lm, cnt, Lf)).2.2 (i)).2 (row + 1)).length := by omega
              have T129 := rPS.wl T2 (show row + 1 < hh + 1 by omega) X129 (fun b o q e => N129 b o (by rw [Nat.mul_one]; exact q) e) d129
              have Xl129 := N129 _ _ (by omega) Xl2_
              have P129 := P2.fr F129 (fun x z1 z2 => by rcases z2 with z2 | z2 <;> (rcases z1 with z | z | z <;> (have := z.2; omega)))
              have L129 := N129 lf _ (by omega) WL2.1
              refine zr_aload zi185_130 rfl ?_
              refine zr_iload zi185_132 rfl ?_
              refine zr_iconst (v := zJ 1) zi185_134 rfl ?_
              refine zr_iaddN zi185_135 ?_
              refine zr_aaloadN zi185_136 L129 rfl (by omega) (yrefs_at (by omega)) ?_
              refine zr_iload zi185_137 rfl ?_
              refine zr_ialoadN zi185_139 X129b rfl (by omega) (by first | omega | (simp only [List.length_set, zpt_len]; omega)) ?_
              refine zr_if_eq zi185_140 rfl (fun q140 => ?_) (fun q140 => ?_)
              · refine zr_iconst (v := zB false) zi185_147 rfl ?_
                refine zr_istore (L' := [some (.ref _), some (.ref _), some (.ref _), some (.ref _), some (.ref _), some (.int (zJ _)), some (.int _), some (.ref _), some (.int (zJ _)), some (.int (zJ _)), some (.int _), some (.int (zB _)), some (.int (zJ _))]) zi185_148 rfl rfl ?_
                refine zr_iincN (z := 1) (L' := [some (.ref _), some (.ref _), some (.ref _), some (.ref _), some (.ref _), some (.int (zJ _)), some (.int _), some (.ref _), some (.int (zJ _)), some (.int (zJ _)), some (.int _), some (.int (zB _)), some (.int (zJ _))]) zi185_150 rfl rfl rfl rfl ?_
                refine zr_goto zi185_153 rfl ?_
                have en := ih74 (by omega) _ (F2.trans F129)
                rw [rlc, if_pos q85, rlv] at en
                first
                  | (rw [q119, show rbi true = 1 from rfl] at en; first | (rw [rgetD_set hsl] at q140; rw [decide_eq_true q140] at en; exact en T129 Xl129 P129) | (rw [rgetD_set hsl] at q140; rw [decide_eq_false q140] at en; exact en T129 Xl129 P129))
                  | (rw [q119, show rbi false = 0 from rfl] at en; first | (rw [rgetD_set hsl] at q140; rw [decide_eq_true q140] at en; exact en T129 Xl129 P129) | (rw [rgetD_set hsl] at q140; rw [decide_eq_false q140] at en; exact en T129 Xl129 P129))
              · refine zr_iconst (v := zB true) zi185_143 rfl ?_
                refine zr_goto zi185_144 rfl ?_
                refine zr_istore (L' := [some (.ref _), some (.ref _), some (.ref _), some (.ref _), some (.ref _), some (.int (zJ _)), some (.int _), some (.ref _), some (.int (zJ _)), some (.int (zJ _)), some (.int _), some (.int (zB _)), some (.int (zJ _))]) zi185_148 rfl rfl ?_
                refine zr_iincN (z := 1) (L' := [some (.ref _), some (.ref _), some (.ref _), some (.ref _), some (.ref _), some (.int (zJ _)), some (.int _), some (.ref _), some (.int (zJ _)), some (.int (zJ _)), some (.int _), some (.int (zB _)), some (.int (zJ _))]) zi185_150 rfl rfl rfl rfl ?_
                refine zr_goto zi185_153 rfl ?_
                have en := ih74 (by omega) _ (F2.trans F129)
                rw [rlc, if_pos q85, rlv] at en
                first
                  | (rw [q119, show rbi true = 1 from rfl] at en; first | (rw [rgetD_set hsl] at q140; rw [decide_eq_true q140] at en; exact en T129 Xl129 P129) | (rw [rgetD_set hsl] at q140; rw [decide_eq_false q140] at en; exact en T129 Xl129 P129))
                  | (rw [q119, show rbi false = 0 from rfl] at en; first | (rw [rgetD_set hsl] at q140; rw [decide_eq_true q140] at en; exact en T129 Xl129 P129) | (rw [rgetD_set hsl] at q140; rw [decide_eq_false q140] at en; exact en T129 Xl129 P129))
            · refine zr_iconst (v := zJ 1) zi185_122 rfl ?_
              refine zr_goto zi185_123 rfl ?_
              refine zr_ialoadN zi185_127 Xc2 rfl (by omega) (by first | omega | (simp only [List.length_set, zpt_len]; omega)) ?_
              refine zr_iand zi185_128 ?_
              refine zr_iastoreN zi185_129 Xa2 (by omega) (by first | omega | (simp only [List.length_set, zpt_len]; omega)) ?_
              refine zw_cP (P := rPL mk lf) Xa2 (by decide) (Or.inr (by omega)) (fun h129 F129 X129 N129 d129 => ?_)
              have X129b := X129
              rw [Nat.mul_one] at X129
              have hsl : i < ((rlc Fc row ((W row).getD u 0) (rLp (rst w Fc (rLk w W Fc (hh - (row + 1)) (row + 1)) row x (W row)) (u) (lm, cnt, Lf)).2.2 (i)).2 (row + 1)).length := by omega
              have T129 := rPS.wl T2 (show row + 1 < hh + 1 by omega) X129 (fun b o q e => N129 b o (by rw [Nat.mul_one]; exact q) e) d129
              have Xl129 := N129 _ _ (by omega) Xl2_
              have P129 := P2.fr F129 (fun x z1 z2 => by rcases z2 with z2 | z2 <;> (rcases z1 with z | z | z <;> (have := z.2; omega)))
              have L129 := N129 lf _ (by omega) WL2.1
              refine zr_aload zi185_130 rfl ?_
              refine zr_iload zi185_132 rfl ?_
              refine zr_iconst (v := zJ 1) zi185_134 rfl ?_
              refine zr_iaddN zi185_135 ?_
              refine zr_aaloadN zi185_136 L129 rfl (by omega) (yrefs_at (by omega)) ?_
              refine zr_iload zi185_137 rfl ?_
              refine zr_ialoadN zi185_139 X129b rfl (by omega) (by first | omega | (simp only [List.length_set, zpt_len]; omega)) ?_
              refine zr_if_eq zi185_140 rfl (fun q140 => ?_) (fun q140 => ?_)
              · refine zr_iconst (v := zB false) zi185_147 rfl ?_
                refine zr_istore (L' := [some (.ref _), some (.ref _), some (.ref _), some (.ref _), some (.ref _), some (.int (zJ _)), some (.int _), some (.ref _), some (.int (zJ _)), some (.int (zJ _)), some (.int _), some (.int (zB _)), some (.int (zJ _))]) zi185_148 rfl rfl ?_
                refine zr_iincN (z := 1) (L' := [some (.ref _), some (.ref _), some (.ref _), some (.ref _), some (.ref _), some (.int (zJ _)), some (.int _), some (.ref _), some (.int (zJ _)), some (.int (zJ _)), some (.int _), some (.int (zB _)), some (.int (zJ _))]) zi185_150 rfl rfl rfl rfl ?_
                refine zr_goto zi185_153 rfl ?_
                have en := ih74 (by omega) _ (F2.trans F129)
                rw [rlc, if_pos q85, rlv] at en
                first
                  | (rw [q119, show rbi true = 1 from rfl] at en; first | (rw [rgetD_set hsl] at q140; rw [decide_eq_true q140] at en; exact en T129 Xl129 P129) | (rw [rgetD_set hsl] at q140; rw [decide_eq_false q140] at en; exact en T129 Xl129 P129))
                  | (rw [q119, show rbi false = 0 from rfl] at en; first | (rw [rgetD_set hsl] at q140; rw [decide_eq_true q140] at en; exact en T129 Xl129 P129) | (rw [rgetD_set hsl] at q140; rw [decide_eq_false q140] at en; exact en T129 Xl129 P129))
              · refine zr_iconst (v := zB true) zi185_143 rfl ?_
                refine zr_goto zi185_144 rfl ?_
                refine zr_istore (L' := [some (.ref _), some (.ref _), some (.ref _), some (.ref _), some (.ref _), some (.int (zJ _)), some (.int _), some (.ref _), some (.int (zJ _)), some (.int (zJ _)), some (.int _), some (.int (zB _)), some (.int (zJ _))]) zi185_148 rfl rfl ?_
                refine zr_iincN (z := 1) (L' := [some (.ref _), some (.ref _), some (.ref _), some (.ref _), some (.ref _), some (.int (zJ _)), some (.int _), some (.ref _), some (.int (zJ _)), some (.int (zJ _)), some (.int _), some (.int (zB _)), some (.int (zJ _))]) zi185_150 rfl rfl rfl rfl ?_
                refine zr_goto zi185_153 rfl ?_
                have en := ih74 (by omega) _ (F2.trans F129)
                rw [rlc, if_pos q85, rlv] at en
                first
                  | (rw [q119, show rbi true = 1 from rfl] at en; first | (rw [rgetD_set hsl] at q140; rw [decide_eq_true q140] at en; exact en T129 Xl129 P129) | (rw [rgetD_set hsl] at q140; rw [decide_eq_false q140] at en; exact en T129 Xl129 P129))
                  | (rw [q119, show rbi false = 0 from rfl] at en; first | (rw [rgetD_set hsl] at q140; rw [decide_eq_true q140] at en; exact en T129 Xl129 P129) | (rw [rgetD_set hsl] at q140; rw [decide_eq_false q140] at en; exact en T129 Xl129 P129))
    · refine zr_aload_n zi185_21 rfl ?_
      refine zr_aload_n zi185_22 rfl ?_
      refine zr_sipush (v := zJ 500) zi185_23 rfl ?_
      refine zr_ialoadN zi185_26 Xm rfl (by omega) (by first | omega | (simp only [List.length_set, zpt_len]; omega)) ?_
      rw [hc5]
      refine zr_iload zi185_27 rfl ?_
      refine zr_iastoreN zi185_29 Xm (by omega) (by first | omega | (simp only [List.length_set, zpt_len]; omega)) ?_
      refine zw_cP (P := rPL mk lf) Xm (by decide) (Or.inl rfl) (fun h29 F29 X29 N29 d29 => ?_)
      have hc29 : (lm.set cnt x).getD 500 0 = zJ cnt := by rw [List.getD_eq_getElem?_getD, List.getElem?_set_ne (by omega), ← List.getD_eq_getElem?_getD]; exact hc5
      refine zr_aload_n zi185_30 rfl ?_
      refine zr_sipush (v := zJ 500) zi185_31 rfl ?_
      refine zr_dup2 zi185_34 rfl rfl ?_
      refine zr_ialoadN zi185_35 X29 rfl (by omega) (by first | omega | (simp only [List.length_set, zpt_len]; omega)) ?_
      rw [hc29]
      refine zr_iconst (v := zJ 1) zi185_36 rfl ?_
      refine zr_iaddN zi185_37 ?_
      refine zr_iastoreN zi185_38 X29 (by omega) (by first | omega | (simp only [List.length_set, zpt_len]; omega)) ?_
      refine zw_cP (P := rPL mk lf) X29 (by decide) (Or.inl rfl) (fun h38 F38 X38 N38 d38 => ?_)
      refine zr_return zi185_39 rfl ?_
      have eL : rLk w W Fc (hh - row) row x (lm, cnt, Lf) = rad x (lm, cnt, Lf) := by
        rw [show hh - row = 0 by omega, rLk]
        exact if_neg q8
      rw [eL] at K
      exact K _ (F29.trans F38) (rPS.wm T (lm' := (lm.set cnt x).set 500 (zJ (cnt + 1))) (cnt' := cnt + 1) X38 (by rw [List.length_set, List.length_set]; exact hlm) (by omega) (by rw [List.getD_eq_getElem?_getD, List.getElem?_set_self (by rw [List.length_set]; omega)]; rfl) (fun b o q e => N38 b o q (N29 b o q e)) (by rw [d38, d29]))
  · refine zr_return zi185_11 rfl ?_
    have eL : rLk w W Fc (hh - row) row x (lm, cnt, Lf) = (lm, cnt, Lf) := by
      rcases Nat.eq_zero_or_pos (hh - row) with z | z
      · rw [z, rLk]
        exact if_pos q8
      · obtain ⟨m1, e1⟩ : ∃ m1, hh - row = m1 + 1 := ⟨hh - row - 1, by omega⟩
        rw [e1, rLk]
        exact if_pos q8
    rw [eL] at K
    exact K _ (yFr.refl _ _) T
