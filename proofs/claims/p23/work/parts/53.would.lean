/-! ===== the model: would, text ===== -/
theorem rbk_le (w hh : Nat) (x0 cl : List Int32) (k : Nat) : rbk w hh x0 cl k ≤ k := by
  induction k with
  | zero => exact Nat.le_refl _
  | succ k ih => rw [rbk]; split <;> omega
theorem c229 {E : zEnv} {h : zPH} {Q : zOut → zPH → Prop} {m le : Nat} {n0 n2 : Int32} {B : List rBS} (C : rC h E m le n0 n2 B) (S : ySs E h) {x y z : Int32} {q : Bool} (K : ∀ h1 v n0 le1 B1, (ms229 B x y z q n0 v B1) → rNx h h1 E m n2 n2 le B le1 B1 64 1670 → rC h1 E m le1 n0 n2 B1 → Q (.inl (some (.int v))) h1) : zcall E 16 229 [.ref m, .int x, .int y, .int (zB q), .int z] h Q := by
  show zwp E _ 229 (0, [some (.ref _), some (.int _), some (.int _), some (.int (zB _)), some (.int _), none, none], [], _) Q
  obtain ⟨qM0, mM0, GM0⟩ := C.hd
  refine zr_aload_n zi229_0 rfl ?_
  refine zr_iconst (v := zJ 0) zi229_1 rfl ?_
  refine zr_putfield zi229_2 (C.1.at0 rfl) rfl rfl ?_
  refine rC.wm (E := E) C (fun h2 N2 C2 e2 => ?_)
  obtain ⟨qM2, mM2, GM2⟩ := C2.hd
  refine zr_aload_n zi229_5 rfl ?_
  refine zr_iload_n zi229_6 rfl ?_
  refine zr_iload_n zi229_7 rfl ?_
  refine zr_virtual zi229_8 rfl rfl (C2.1.at0 rfl) rfl rfl ?_
  refine zcall_dep (d := 3) (Nat.le_of_ble_eq_true rfl) (c179 C2 (fun y8 Y8 => zbk_v ?_))
  refine zr_if_neB zi229_11 rfl (fun q11 => ?_) (fun q11 => ?_)
  · obtain ⟨k, b, r, g, e, w, hh, X, cl, mi, sp, KS, rfl, hk, c, hc, rfl⟩ := Y8.mp q11
    obtain ⟨⟨gw1, gw2, gh1, gh2⟩, ⟨l0, l1, l2, l3, lcl⟩, d1, d2, d3⟩ := (C2.bd hk).1.2.2.2
    have hwh := zwh_b (w := w) (hh := hh) ⟨gw1, gw2, gh1, gh2⟩
    have hkl := C2.2.2.1
    have hKS := (C2.bd hk).2.2.2.1
    have hki : k < B.length := by
      rcases Nat.lt_or_ge k B.length with z | z
      · exact z
      · rw [List.getElem?_eq_none z] at hk; cases hk
    refine zr_iload zi229_20 rfl ?_
    refine zr_iconst (v := zJ 0) zi229_22 rfl ?_
    refine zr_iconst (v := zJ 2) zi229_23 rfl ?_
    refine zr_static zi229_24 rfl rfl rfl rfl ?_
    refine zcall_dep (d := 0) (Nat.le_of_ble_eq_true rfl) (c151 (fun y24 Y24 => zbk_v ?_))
    refine zr_if_neB zi229_27 rfl (fun q27 => ?_) (fun q27 => ?_)
    · obtain ⟨t, ht, rfl⟩ := (zin_le (by omega)).mp (Y24.mp q27)
      refine zr_aload_n zi229_36 rfl ?_
      refine zr_getfield zi229_37 (C2.1.at0 rfl) rfl ?_
      refine zr_iload_n zi229_40 rfl ?_
      refine zr_iface zi229_41 rfl (GM2.at0 rfl) rfl rfl ?_
      refine zcall_dep (d := 2) (Nat.le_of_ble_eq_true rfl) (c164M C2 hk (zbk_v ?_))
      have D41 := C2.bd hk
      have P41 := D41.1
      obtain ⟨qg41, mg41, Lg41⟩ := D41.hd
      refine zr_checkcast zi229_46 (P41.1.at0 rfl) rfl ?_
      refine zr_iload_n zi229_49 rfl ?_
      refine zr_virtual zi229_50 rfl rfl (P41.1.at0 rfl) rfl rfl ?_
      refine zcall_dep (d := 0) (Nat.le_of_ble_eq_true rfl) (c174 P41 (by omega) (zbk_v ?_))
      refine zr_if_eq zi229_53 rfl (fun q53 => ?_) (fun q53 => ?_)
      · refine zr_aload_n zi229_62 rfl ?_
        refine zr_getfield zi229_63 (C2.1.at0 rfl) rfl ?_
        refine zr_iload_n zi229_66 rfl ?_
        refine zr_iface zi229_67 rfl (GM2.at0 rfl) rfl rfl ?_
        refine zcall_dep (d := 2) (Nat.le_of_ble_eq_true rfl) (c164M C2 hk (zbk_v ?_))
        have D67 := C2.bd hk
        have P67 := D67.1
        obtain ⟨qg67, mg67, Lg67⟩ := D67.hd
        refine zr_checkcast zi229_72 (P67.1.at0 rfl) rfl ?_
        refine zr_virtual zi229_75 rfl rfl (P67.1.at0 rfl) rfl rfl ?_
        have S2 := N2.1.ss S
        refine zcall_dep (d := 4) (Nat.le_of_ble_eq_true rfl) (c198 S2 P67 (fun h75 bT F75 eT n75 R75 L75 => zbk_v ?_))
        obtain ⟨eLT, eE, LT75⟩ := L75
        have C75 := rC.nw C2 F75
        obtain ⟨qM75, mM75, GM75⟩ := C75.hd
        have hs1 := rsl_le (w := w) (hh := hh) ⟨gw2, gh2⟩
        refine zr_astore (L' := [some (.ref _), some (.int (zJ _)), some (.int (zJ _)), some (.int (zB _)), some (.int (zJ _)), some (.ref _), none]) zi229_78 rfl rfl ?_
        refine zr_aload zi229_80 rfl ?_
        refine zr_iload_n zi229_82 rfl ?_
        refine zr_iload_n zi229_83 rfl ?_
        refine zr_if_eqB zi229_84 rfl (fun q84 => ?_) (fun q84 => ?_)
        · refine zr_iconst (v := zJ 2) zi229_91 rfl ?_
          refine zr_iconst (v := (-1)) zi229_92 rfl ?_
          refine zr_iconst (v := zJ 0) zi229_93 rfl ?_
          refine zr_virtual zi229_94 rfl rfl (R75.1.at0 rfl) rfl rfl ?_
          refine zcall_dep (d := 1) (Nat.le_of_ble_eq_true rfl) (c180 R75 LT75 (by omega) hc (fun h94 F94 R94 => zbk_0 ?_))
          have G94 := (F75.lo F94 (fun x z => by have := z.1; omega))
          have n94 := F94.2.1
          have C94 := rC.nw C2 G94
          obtain ⟨qM94, mM94, GM94⟩ := C94.hd
          have LT94 := LT75.f1 F94 (fun z => by have := z.1; have := z.2; omega)
          refine zr_iload zi229_97 rfl ?_
          refine zr_iconst (v := zJ 2) zi229_99 rfl ?_
          refine zr_icmp_neN zi229_100 rfl (by omega) (by omega) (fun q100 => ?_) (fun q100 => ?_)
          · refine zr_aload zi229_109 rfl ?_
            refine zr_virtual zi229_111 rfl rfl (R94.1.at0 rfl) rfl rfl ?_
            refine zcall_dep (d := 4) (Nat.le_of_ble_eq_true rfl) (c187 R94 LT94 (by omega) (fun h111 F111 R111 => zbk_v ?_))
            have G111 := (G94.lo F111 (fun x z => by have := z.1; omega))
            have n111 := F111.2.1
            have C111 := rC.nw C2 G111
            obtain ⟨qM111, mM111, GM111⟩ := C111.hd
            have LT111 := LT94.f1 F111 (fun z => by have := z.1; have := z.2; omega)
            refine zr_istore (L' := [some (.ref _), some (.int (zJ _)), some (.int (zJ _)), some (.int (zB _)), some (.int (zJ _)), some (.ref _), some (.int _)]) zi229_114 rfl rfl ?_
            refine zr_iload zi229_116 rfl ?_
            refine zr_if_neN zi229_118 rfl (by omega) (fun q118 => ?_) (fun q118 => ?_)
            · refine zr_aload zi229_126 rfl ?_
              refine zr_virtual zi229_128 rfl rfl (R111.1.at0 rfl) rfl rfl ?_
              refine zcall_dep (d := 4) (Nat.le_of_ble_eq_true rfl) (c213 R111 (zbk_v ?_))
              generalize hrb : rbk _ _ _ _ _ = rb
              have hrb2 : rb ≤ w + hh := by rw [← hrb]; exact rbk_le _ _ _ _ _
              refine zr_if_leN zi229_131 rfl (by omega) (fun q131 => ?_) (fun q131 => ?_)
              · refine zr_iconst (v := zJ 0) zi229_138 rfl ?_
                refine zr_ireturn zi229_139 rfl ?_
                exact K _ _ _ _ _ ⟨rfl, (Or.inr (Or.inr (Or.inr ⟨rfl, ⟨k, w, hh, X, cl, mi, sp, KS, ⟨b, r, g, e, hk⟩, rfl, c, hc, rfl, t, ht, rfl, q53, Or.inr ⟨q100, (by first | (rw [rwd, if_pos q118, q84]; rfl) | (have e : rbk w hh (rsS w hh cl 0 (rbe X c (mdk q) (-1) (zJ 0) 0)).1.1 cl (w + hh) = rb := (by rw [q84]; exact hrb); rw [rwd, if_neg q118, e]; first | rw [if_pos q131] | rw [if_neg (by omega)]))⟩⟩⟩)))⟩ ((N2.trans (rNx.new C2 G111)).fit (by omega) (by omega)) C111
              · refine zr_iconst (v := zJ 1) zi229_134 rfl ?_
                refine zr_goto zi229_135 rfl ?_
                refine zr_ireturn zi229_139 rfl ?_
                exact K _ _ _ _ _ ⟨rfl, (Or.inr (Or.inr (Or.inr ⟨rfl, ⟨k, w, hh, X, cl, mi, sp, KS, ⟨b, r, g, e, hk⟩, rfl, c, hc, rfl, t, ht, rfl, q53, Or.inr ⟨q100, (by first | (rw [rwd, if_pos q118, q84]; rfl) | (have e : rbk w hh (rsS w hh cl 0 (rbe X c (mdk q) (-1) (zJ 0) 0)).1.1 cl (w + hh) = rb := (by rw [q84]; exact hrb); rw [rwd, if_neg q118, e]; first | rw [if_pos q131] | rw [if_neg (by omega)]))⟩⟩⟩)))⟩ ((N2.trans (rNx.new C2 G111)).fit (by omega) (by omega)) C111
            · refine zr_iload zi229_121 rfl ?_
              refine zr_goto zi229_123 rfl ?_
              refine zr_ireturn zi229_139 rfl ?_
              exact K _ _ _ _ _ ⟨rfl, (Or.inr (Or.inr (Or.inr ⟨rfl, ⟨k, w, hh, X, cl, mi, sp, KS, ⟨b, r, g, e, hk⟩, rfl, c, hc, rfl, t, ht, rfl, q53, Or.inr ⟨q100, (by first | (rw [rwd, if_pos q118, q84]; rfl) | (have e : rbk w hh (rsS w hh cl 0 (rbe X c (mdk q) (-1) (zJ 0) 0)).1.1 cl (w + hh) = rb := (by rw [q84]; exact hrb); rw [rwd, if_neg q118, e]; first | rw [if_pos q131] | rw [if_neg (by omega)]))⟩⟩⟩)))⟩ ((N2.trans (rNx.new C2 G111)).fit (by omega) (by omega)) C111
          · refine zr_aload zi229_103 rfl ?_
            refine zr_virtual zi229_105 rfl rfl (R94.1.at0 rfl) rfl rfl ?_
            refine zcall_dep (d := 15) (Nat.le_of_ble_eq_true rfl) (c181 R94 (fun h105 l105 F105 px105 hl105 => zbk_v ?_))
            have G105 := (G94.lo F105 (fun x z => by have z : _ ≤ x := z; omega))
            have n105 := F105.2.1
            have C105 := rC.nw C2 G105
            obtain ⟨qM105, mM105, GM105⟩ := C105.hd
            refine zr_ireturn zi229_108 rfl ?_
            exact K _ _ _ _ _ ⟨rfl, (Or.inr (Or.inr (Or.inr ⟨rfl, ⟨k, w, hh, X, cl, mi, sp, KS, ⟨b, r, g, e, hk⟩, rfl, c, hc, rfl, t, ht, rfl, q53, Or.inl ⟨q100, l105, by rw [q84]; exact px105, rfl⟩⟩⟩)))⟩ ((N2.trans (rNx.new C2 G105)).fit (by omega) (by omega)) C105
        · refine zr_iconst (v := zJ 1) zi229_87 rfl ?_
          refine zr_goto zi229_88 rfl ?_
          refine zr_iconst (v := (-1)) zi229_92 rfl ?_
          refine zr_iconst (v := zJ 0) zi229_93 rfl ?_
          refine zr_virtual zi229_94 rfl rfl (R75.1.at0 rfl) rfl rfl ?_
          refine zcall_dep (d := 1) (Nat.le_of_ble_eq_true rfl) (c180 R75 LT75 (by omega) hc (fun h94 F94 R94 => zbk_0 ?_))
          have G94 := (F75.lo F94 (fun x z => by have := z.1; omega))
          have n94 := F94.2.1
          have C94 := rC.nw C2 G94
          obtain ⟨qM94, mM94, GM94⟩ := C94.hd
          have LT94 := LT75.f1 F94 (fun z => by have := z.1; have := z.2; omega)
          refine zr_iload zi229_97 rfl ?_
          refine zr_iconst (v := zJ 2) zi229_99 rfl ?_
          refine zr_icmp_neN zi229_100 rfl (by omega) (by omega) (fun q100 => ?_) (fun q100 => ?_)
          · refine zr_aload zi229_109 rfl ?_
            refine zr_virtual zi229_111 rfl rfl (R94.1.at0 rfl) rfl rfl ?_
            refine zcall_dep (d := 4) (Nat.le_of_ble_eq_true rfl) (c187 R94 LT94 (by omega) (fun h111 F111 R111 => zbk_v ?_))
            have G111 := (G94.lo F111 (fun x z => by have := z.1; omega))
            have n111 := F111.2.1
            have C111 := rC.nw C2 G111
            obtain ⟨qM111, mM111, GM111⟩ := C111.hd
            have LT111 := LT94.f1 F111 (fun z => by have := z.1; have := z.2; omega)
            refine zr_istore (L' := [some (.ref _), some (.int (zJ _)), some (.int (zJ _)), some (.int (zB _)), some (.int (zJ _)), some (.ref _), some (.int _)]) zi229_114 rfl rfl ?_
            refine zr_iload zi229_116 rfl ?_
            refine zr_if_neN zi229_118 rfl (by omega) (fun q118 => ?_) (fun q118 => ?_)
            · refine zr_aload zi229_126 rfl ?_
              refine zr_virtual zi229_128 rfl rfl (R111.1.at0 rfl) rfl rfl ?_
              refine zcall_dep (d := 4) (Nat.le_of_ble_eq_true rfl) (c213 R111 (zbk_v ?_))
              generalize hrb : rbk _ _ _ _ _ = rb
              have hrb2 : rb ≤ w + hh := by rw [← hrb]; exact rbk_le _ _ _ _ _
              refine zr_if_leN zi229_131 rfl (by omega) (fun q131 => ?_) (fun q131 => ?_)
              · refine zr_iconst (v := zJ 0) zi229_138 rfl ?_
                refine zr_ireturn zi229_139 rfl ?_
                exact K _ _ _ _ _ ⟨rfl, (Or.inr (Or.inr (Or.inr ⟨rfl, ⟨k, w, hh, X, cl, mi, sp, KS, ⟨b, r, g, e, hk⟩, rfl, c, hc, rfl, t, ht, rfl, q53, Or.inr ⟨q100, (by first | (rw [rwd, if_pos q118, q84]; rfl) | (have e : rbk w hh (rsS w hh cl 0 (rbe X c (mdk q) (-1) (zJ 0) 0)).1.1 cl (w + hh) = rb := (by rw [q84]; exact hrb); rw [rwd, if_neg q118, e]; first | rw [if_pos q131] | rw [if_neg (by omega)]))⟩⟩⟩)))⟩ ((N2.trans (rNx.new C2 G111)).fit (by omega) (by omega)) C111
              · refine zr_iconst (v := zJ 1) zi229_134 rfl ?_
                refine zr_goto zi229_135 rfl ?_
                refine zr_ireturn zi229_139 rfl ?_
                exact K _ _ _ _ _ ⟨rfl, (Or.inr (Or.inr (Or.inr ⟨rfl, ⟨k, w, hh, X, cl, mi, sp, KS, ⟨b, r, g, e, hk⟩, rfl, c, hc, rfl, t, ht, rfl, q53, Or.inr ⟨q100, (by first | (rw [rwd, if_pos q118, q84]; rfl) | (have e : rbk w hh (rsS w hh cl 0 (rbe X c (mdk q) (-1) (zJ 0) 0)).1.1 cl (w + hh) = rb := (by rw [q84]; exact hrb); rw [rwd, if_neg q118, e]; first | rw [if_pos q131] | rw [if_neg (by omega)]))⟩⟩⟩)))⟩ ((N2.trans (rNx.new C2 G111)).fit (by omega) (by omega)) C111
            · refine zr_iload zi229_121 rfl ?_
              refine zr_goto zi229_123 rfl ?_
              refine zr_ireturn zi229_139 rfl ?_
              exact K _ _ _ _ _ ⟨rfl, (Or.inr (Or.inr (Or.inr ⟨rfl, ⟨k, w, hh, X, cl, mi, sp, KS, ⟨b, r, g, e, hk⟩, rfl, c, hc, rfl, t, ht, rfl, q53, Or.inr ⟨q100, (by first | (rw [rwd, if_pos q118, q84]; rfl) | (have e : rbk w hh (rsS w hh cl 0 (rbe X c (mdk q) (-1) (zJ 0) 0)).1.1 cl (w + hh) = rb := (by rw [q84]; exact hrb); rw [rwd, if_neg q118, e]; first | rw [if_pos q131] | rw [if_neg (by omega)]))⟩⟩⟩)))⟩ ((N2.trans (rNx.new C2 G111)).fit (by omega) (by omega)) C111
          · refine zr_aload zi229_103 rfl ?_
            refine zr_virtual zi229_105 rfl rfl (R94.1.at0 rfl) rfl rfl ?_
            refine zcall_dep (d := 15) (Nat.le_of_ble_eq_true rfl) (c181 R94 (fun h105 l105 F105 px105 hl105 => zbk_v ?_))
            have G105 := (G94.lo F105 (fun x z => by have z : _ ≤ x := z; omega))
            have n105 := F105.2.1
            have C105 := rC.nw C2 G105
            obtain ⟨qM105, mM105, GM105⟩ := C105.hd
            refine zr_ireturn zi229_108 rfl ?_
            exact K _ _ _ _ _ ⟨rfl, (Or.inr (Or.inr (Or.inr ⟨rfl, ⟨k, w, hh, X, cl, mi, sp, KS, ⟨b, r, g, e, hk⟩, rfl, c, hc, rfl, t, ht, rfl, q53, Or.inl ⟨q100, l105, by rw [q84]; exact px105, rfl⟩⟩⟩)))⟩ ((N2.trans (rNx.new C2 G105)).fit (by omega) (by omega)) C105
      · refine zr_aload_n zi229_56 rfl ?_
        refine zr_iconst (v := zJ 3) zi229_57 rfl ?_
        refine zr_virtual zi229_58 rfl rfl (C2.1.at0 rfl) rfl rfl ?_
        refine zcall_dep (d := 0) (Nat.le_of_ble_eq_true rfl) (c152 C2 (fun h58 N58 C58 e58 => zbk_v ?_))
        obtain ⟨qM58, mM58, GM58⟩ := C58.hd
        refine zr_ireturn zi229_61 rfl ?_
        exact K _ _ _ _ _ ⟨rfl, (Or.inr (Or.inr (Or.inl ⟨rfl, ⟨t, ht, rfl⟩, ⟨k, w, hh, X, cl, mi, sp, KS, ⟨b, r, g, e, hk⟩, rfl, c, hc, rfl, q53⟩⟩)))⟩ ((((rNx.refl C).trans N2).trans N58).fit (by omega) (by omega)) C58
    · refine zr_aload_n zi229_30 rfl ?_
      refine zr_iconst (v := zJ 2) zi229_31 rfl ?_
      refine zr_virtual zi229_32 rfl rfl (C2.1.at0 rfl) rfl rfl ?_
      refine zcall_dep (d := 0) (Nat.le_of_ble_eq_true rfl) (c152 C2 (fun h32 N32 C32 e32 => zbk_v ?_))
      obtain ⟨qM32, mM32, GM32⟩ := C32.hd
      refine zr_ireturn zi229_35 rfl ?_
      exact K _ _ _ _ _ ⟨rfl, (Or.inr (Or.inl ⟨rfl, mNo_t (n := nCell) (⟨b, r, g, e, hk⟩ : mAt B k w hh X cl mi sp KS) rfl ⟨_, hc, rfl⟩, fun hz => absurd (Y24.mpr ((zin_le (by omega)).mpr hz)) (by rw [q27]; decide)⟩))⟩ ((((rNx.refl C).trans N2).trans N32).fit (by omega) (by omega)) C32
  · refine zr_aload_n zi229_14 rfl ?_
    refine zr_iconst (v := zJ 1) zi229_15 rfl ?_
    refine zr_virtual zi229_16 rfl rfl (C2.1.at0 rfl) rfl rfl ?_
    refine zcall_dep (d := 0) (Nat.le_of_ble_eq_true rfl) (c152 C2 (fun h16 N16 C16 e16 => zbk_v ?_))
    obtain ⟨qM16, mM16, GM16⟩ := C16.hd
    refine zr_ireturn zi229_19 rfl ?_
    exact K _ _ _ _ _ ⟨rfl, (Or.inl ⟨rfl, (fun k w hh X cl mi sp KS ⟨b, r, g, e, hk⟩ ex hz => absurd (Y8.mpr ⟨k, b, r, g, e, w, hh, X, cl, mi, sp, KS, ex, hk, hz⟩) (by rw [q11]; decide))⟩)⟩ ((((rNx.refl C).trans N2).trans N16).fit (by omega) (by omega)) C16
theorem rsep {w i : Nat} (hw : 2 ≤ w ∧ w ≤ 5) : (i = 0 ∨ i % w ≠ 0 → (i - 1) / w = i / w) ∧ (0 < i → i % w = 0 → (i - 1) / w + 1 = i / w) := by
  rcases (show w = 2 ∨ w = 3 ∨ w = 4 ∨ w = 5 by omega) with rfl | rfl | rfl | rfl <;> omega
theorem c215 {E : zEnv} {h : zPH} {Q : zOut → zPH → Prop} {m le : Nat} {n0 n2 : Int32} {B : List rBS} (C : rC h E m le n0 n2 B) (S : ySs E h) {x : Int32} (K : ∀ h1 v n0 le1 B1, (B1 = B) → rNx h h1 E m n2 n2 le B le1 B1 5 100 → rC h1 E m le1 n0 n2 B1 → Q (.inl (some (.ref v))) h1) : zcall E 8 215 [.ref m, .int x] h Q := by
  show zwp E _ 215 (0, [some (.ref _), some (.int _), none, none, none], [], _) Q
  obtain ⟨qM0, mM0, GM0⟩ := C.hd
  refine zr_aload_n zi215_0 rfl ?_
  refine zr_iconst (v := zJ 0) zi215_1 rfl ?_
  refine zr_putfield zi215_2 (C.1.at0 rfl) rfl rfl ?_
  refine rC.wm (E := E) C (fun h2 N2 C2 e2 => ?_)
  obtain ⟨qM2, mM2, GM2⟩ := C2.hd
  refine zr_new zi215_5 rfl rfl ?_
  refine zw_n (fun h5 s F5 ev5 Xs5 N5 n5 => ?_)
  have S5 := (F5 (fun _ => True)).ss (N2.1.ss S)
  obtain ⟨N, hN⟩ : ∃ N, N = h2.2.1 := ⟨_, rfl⟩
  have C5 := rC.nw C2 (F5 (fun x => h2.2.1 ≤ x))
  obtain ⟨qM5, mM5, GM5⟩ := C5.hd
  refine zr_dup zi215_8 rfl ?_
  refine zr_special zi215_9 rfl rfl rfl rfl ?_
  refine zcall_dep (d := 1) (Nat.le_of_ble_eq_true rfl) (c110 S5 (N := N) (by omega) (by omega) Xs5 (fun h9 v9 F9 X9 => zbk_0 ?_))
  have G9 := (F5 (fun x => N ≤ x)).trans F9
  have C9 := rC.nw C2 (G9.mono (fun x _ z => by rw [hN] at z; exact z) (Nat.le_refl _) (Nat.le_refl _))
  obtain ⟨qM9, mM9, GM9⟩ := C9.hd
  refine zr_astore_n (L' := [some (.ref _), some (.int _), some (.ref _), none, none]) zi215_12 rfl rfl ?_
  refine zr_aload_n zi215_13 rfl ?_
  refine zr_iload_n zi215_14 rfl ?_
  refine zr_virtual zi215_15 rfl rfl (C9.1.at0 rfl) rfl rfl ?_
  refine zcall_dep (d := 1) (Nat.le_of_ble_eq_true rfl) (c163 C9 (fun y15 Y15 => zbk_v ?_))
  refine zr_if_neB zi215_18 rfl (fun q18 => ?_) (fun q18 => ?_)
  · obtain ⟨k, rfl, b, r, g, e, w, hh, X, cl, mi, sp, KS, hk⟩ := rC.at (Y15.mp q18)
    obtain ⟨⟨gw1, gw2, gh1, gh2⟩, ⟨l0, l1, l2, l3, lcl⟩, d1, d2, d3⟩ := (C9.bd hk).1.2.2.2
    have hwh := zwh_b (w := w) (hh := hh) ⟨gw1, gw2, gh1, gh2⟩
    have hkl := C9.2.2.1
    have hKS := (C9.bd hk).2.2.2.1
    have hki : k < B.length := by
      rcases Nat.lt_or_ge k B.length with z | z
      · exact z
      · rw [List.getElem?_eq_none z] at hk; cases hk
    refine zr_aload_n zi215_29 rfl ?_
    refine zr_getfield zi215_30 (C9.1.at0 rfl) rfl ?_
    refine zr_iload_n zi215_33 rfl ?_
    refine zr_iface zi215_34 rfl (GM9.at0 rfl) rfl rfl ?_
    refine zcall_dep (d := 2) (Nat.le_of_ble_eq_true rfl) (c164M C9 hk (zbk_v ?_))
    have D34 := C9.bd hk
    have P34 := D34.1
    obtain ⟨qg34, mg34, Lg34⟩ := D34.hd
    refine zr_checkcast zi215_39 (P34.1.at0 rfl) rfl ?_
    refine zr_astore_n (L' := [some (.ref _), some (.int (zJ _)), some (.ref _), some (.ref _), none]) zi215_42 rfl rfl ?_
    refine zr_iconst (v := zJ 0) zi215_43 rfl ?_
    refine zr_istore (L' := [some (.ref _), some (.int (zJ _)), some (.ref _), some (.ref _), some (.int (zJ _))]) zi215_44 rfl rfl ?_
    suffices key46 : ∀ h1 v1 l1 m1 s1, (yFr (fun x => N ≤ x) h2 h1 m1 s1) → (ySX N h1 s v1 l1 0 (0 + (0 - 1) / w)) → (((l1.length = 16 ∧ m1 ≤ 2 ∧ s1 ≤ 20) ∨ (l1.length = 34 ∧ m1 ≤ 3 ∧ s1 ≤ 54))) → (rC h1 E m le (zJ 0) n2 B) → zwp E 8 215 (46, [some (.ref m), some (.int (zJ k)), some (.ref s), some (.ref b), some (.int (zJ 0))], [], h1) Q from key46 _ _ _ _ _ G9 (by show ySX N h9 s v9 _ 0 (0 + (0 - 1) / w); rw [Nat.zero_sub, Nat.zero_div]; exact X9) (by left; exact ⟨List.length_replicate, by omega, by omega⟩) C9
    refine zloop (P := fun i => ∀ h1 v1 l1 m1 s1, (yFr (fun x => N ≤ x) h2 h1 m1 s1) → (ySX N h1 s v1 l1 0 (i + (i - 1) / w)) → (((l1.length = 16 ∧ m1 ≤ 2 ∧ s1 ≤ 20) ∨ (l1.length = 34 ∧ m1 ≤ 3 ∧ s1 ≤ 54))) → (rC h1 E m le (zJ 0) n2 B) → zwp E 8 215 (46, [some (.ref m), some (.int (zJ k)), some (.ref s), some (.ref b), some (.int (zJ i))], [], h1) Q) (n := w * hh) fun i hk46 ih46 => ?_
    intro h1 v1 l1 m1 s1 F1 X1 Z1 C1
    have S1 := F1.ss (N2.1.ss S)
    obtain ⟨qM1, mM1, GM1⟩ := C1.hd
    have D1 := C1.bd hk
    have P1 := D1.1
    obtain ⟨qg1, mg1, Lg1⟩ := D1.hd
    have hx1 := X1.2.2.2.2.2.2.1
    have hse := rsep (w := w) (i := i) ⟨gw1, gw2⟩
    have hdv : (i - 1) / w < hh := Nat.div_lt_of_lt_mul (by omega)
    have hmw := Nat.mod_lt i (show 0 < w by omega)
    refine zr_iload zi215_46 rfl ?_
    refine zr_aload_n zi215_48 rfl ?_
    refine zr_virtual zi215_49 rfl rfl (P1.1.at0 rfl) rfl rfl ?_
    refine zcall_dep (d := 0) (Nat.le_of_ble_eq_true rfl) (c156 P1 (zbk_v ?_))
    refine zr_icmp_geN zi215_52 rfl (by omega) (by omega) (fun q52 => ?_) (fun q52 => ?_)
    · refine zr_aload_n zi215_119 rfl ?_
      refine zr_virtual zi215_120 rfl rfl X1.2.2.2.2.1 rfl rfl ?_
      obtain rfl : i = w * hh := by omega
      have hne : w * hh + (w * hh - 1) / w ≠ 16 ∧ w * hh + (w * hh - 1) / w ≤ 29 := by rcases (show w = 2 ∨ w = 3 ∨ w = 4 ∨ w = 5 by omega) with rfl | rfl | rfl | rfl <;> rcases (show hh = 2 ∨ hh = 3 ∨ hh = 4 ∨ hh = 5 by omega) with rfl | rfl | rfl | rfl <;> omega
      refine zcall_dep (d := 7) (Nat.le_of_ble_eq_true rfl) (c124 S1 X1 (by omega) (by omega) (fun h120 t120 F120 => zbk_v ?_))
      have G120 := (F1.trans F120).mono (P' := fun x => h2.2.1 ≤ x) (m' := 5) (s' := 100) (fun x _ z => by rw [hN] at z; exact z) (by omega) (by omega)
      refine zr_areturn zi215_123 rfl ?_
      exact K _ _ _ _ _ rfl ((N2.trans (rNx.new C2 G120)).fit (by omega) (by omega)) (rC.nw C2 G120)
    · refine zr_iload zi215_55 rfl ?_
      refine zr_if_leN zi215_57 rfl (by omega) (fun q57 => ?_) (fun q57 => ?_)
      · refine zr_aload_n zi215_77 rfl ?_
        refine zr_aload_n zi215_78 rfl ?_
        refine zr_iload zi215_79 rfl ?_
        refine zr_virtual zi215_81 rfl rfl (P1.1.at0 rfl) rfl rfl ?_
        refine zcall_dep (d := 0) (Nat.le_of_ble_eq_true rfl) (c174 P1 (by omega) (zbk_v ?_))
        refine zr_if_ne zi215_84 rfl (fun q84 => ?_) (fun q84 => ?_)
        · refine zr_aload_n zi215_92 rfl ?_
          refine zr_iload zi215_93 rfl ?_
          refine zr_virtual zi215_95 rfl rfl (P1.1.at0 rfl) rfl rfl ?_
          refine zcall_dep (d := 0) (Nat.le_of_ble_eq_true rfl) (c174 P1 (by omega) (zbk_v ?_))
          refine zr_iconst (v := zJ 1) zi215_98 rfl ?_
          refine zr_icmp_ne zi215_99 rfl (fun q99 => ?_) (fun q99 => ?_)
          · refine zr_bipush (v := zJ 46) zi215_107 rfl ?_
            refine zr_virtual zi215_109 rfl rfl X1.2.2.2.2.1 rfl rfl ?_
            refine zcall_dep (d := 5) (Nat.le_of_ble_eq_true rfl) (c112 S1 X1 (by omega) (by omega) (by omega) (by omega) (fun h109 v109 l109 m109 s109 F109 X109 Z109 D109 => zbk_v ?_))
            have S109 := F109.ss S1
            have G109 := F1.trans F109
            have C109 := rC.nw C2 (G109.mono (fun x _ z => by rw [hN] at z; exact z) (Nat.le_refl _) (Nat.le_refl _))
            obtain ⟨qM109, mM109, GM109⟩ := C109.hd
            have D109 := C109.bd hk
            have P109 := D109.1
            obtain ⟨qg109, mg109, Lg109⟩ := D109.hd
            refine zr_pop zi215_112 rfl ?_
            refine zr_iincN (z := 1) (L' := [some (.ref _), some (.int (zJ _)), some (.ref _), some (.ref _), some (.int (zJ _))]) zi215_113 rfl rfl rfl rfl ?_
            refine zr_goto zi215_116 rfl ?_
            exact ih46 (by omega) _ _ _ _ _ G109 (by rw [show (i + 1) + (i + 1 - 1) / w = i + (i - 1) / w + 1 by rw [Nat.add_sub_cancel]; omega]; exact X109) (by omega) C109
          · refine zr_bipush (v := zJ 35) zi215_102 rfl ?_
            refine zr_goto zi215_104 rfl ?_
            refine zr_virtual zi215_109 rfl rfl X1.2.2.2.2.1 rfl rfl ?_
            refine zcall_dep (d := 5) (Nat.le_of_ble_eq_true rfl) (c112 S1 X1 (by omega) (by omega) (by omega) (by omega) (fun h109 v109 l109 m109 s109 F109 X109 Z109 D109 => zbk_v ?_))
            have S109 := F109.ss S1
            have G109 := F1.trans F109
            have C109 := rC.nw C2 (G109.mono (fun x _ z => by rw [hN] at z; exact z) (Nat.le_refl _) (Nat.le_refl _))
            obtain ⟨qM109, mM109, GM109⟩ := C109.hd
            have D109 := C109.bd hk
            have P109 := D109.1
            obtain ⟨qg109, mg109, Lg109⟩ := D109.hd
            refine zr_pop zi215_112 rfl ?_
            refine zr_iincN (z := 1) (L' := [some (.ref _), some (.int (zJ _)), some (.ref _), some (.ref _), some (.int (zJ _))]) zi215_113 rfl rfl rfl rfl ?_
            refine zr_goto zi215_116 rfl ?_
            exact ih46 (by omega) _ _ _ _ _ G109 (by rw [show (i + 1) + (i + 1 - 1) / w = i + (i - 1) / w + 1 by rw [Nat.add_sub_cancel]; omega]; exact X109) (by omega) C109
        · refine zr_bipush (v := zJ 63) zi215_87 rfl ?_
          refine zr_goto zi215_89 rfl ?_
          refine zr_virtual zi215_109 rfl rfl X1.2.2.2.2.1 rfl rfl ?_
          refine zcall_dep (d := 5) (Nat.le_of_ble_eq_true rfl) (c112 S1 X1 (by omega) (by omega) (by omega) (by omega) (fun h109 v109 l109 m109 s109 F109 X109 Z109 D109 => zbk_v ?_))
          have S109 := F109.ss S1
          have G109 := F1.trans F109
          have C109 := rC.nw C2 (G109.mono (fun x _ z => by rw [hN] at z; exact z) (Nat.le_refl _) (Nat.le_refl _))
          obtain ⟨qM109, mM109, GM109⟩ := C109.hd
          have D109 := C109.bd hk
          have P109 := D109.1
          obtain ⟨qg109, mg109, Lg109⟩ := D109.hd
          refine zr_pop zi215_112 rfl ?_
          refine zr_iincN (z := 1) (L' := [some (.ref _), some (.int (zJ _)), some (.ref _), some (.ref _), some (.int (zJ _))]) zi215_113 rfl rfl rfl rfl ?_
          refine zr_goto zi215_116 rfl ?_
          exact ih46 (by omega) _ _ _ _ _ G109 (by rw [show (i + 1) + (i + 1 - 1) / w = i + (i - 1) / w + 1 by rw [Nat.add_sub_cancel]; omega]; exact X109) (by omega) C109
      · refine zr_iload zi215_60 rfl ?_
        refine zr_aload_n zi215_62 rfl ?_
        refine zr_getfield zi215_63 (P1.1.at0 rfl) rfl ?_
        refine zr_iremN zi215_66 (by omega) (by omega) (by omega) ?_
        refine zr_if_neN zi215_67 rfl (by omega) (fun q67 => ?_) (fun q67 => ?_)
        · refine zr_aload_n zi215_77 rfl ?_
          refine zr_aload_n zi215_78 rfl ?_
          refine zr_iload zi215_79 rfl ?_
          refine zr_virtual zi215_81 rfl rfl (P1.1.at0 rfl) rfl rfl ?_
          refine zcall_dep (d := 0) (Nat.le_of_ble_eq_true rfl) (c174 P1 (by omega) (zbk_v ?_))
          refine zr_if_ne zi215_84 rfl (fun q84 => ?_) (fun q84 => ?_)
          · refine zr_aload_n zi215_92 rfl ?_
            refine zr_iload zi215_93 rfl ?_
            refine zr_virtual zi215_95 rfl rfl (P1.1.at0 rfl) rfl rfl ?_
            refine zcall_dep (d := 0) (Nat.le_of_ble_eq_true rfl) (c174 P1 (by omega) (zbk_v ?_))
            refine zr_iconst (v := zJ 1) zi215_98 rfl ?_
            refine zr_icmp_ne zi215_99 rfl (fun q99 => ?_) (fun q99 => ?_)
            · refine zr_bipush (v := zJ 46) zi215_107 rfl ?_
              refine zr_virtual zi215_109 rfl rfl X1.2.2.2.2.1 rfl rfl ?_
              refine zcall_dep (d := 5) (Nat.le_of_ble_eq_true rfl) (c112 S1 X1 (by omega) (by omega) (by omega) (by omega) (fun h109 v109 l109 m109 s109 F109 X109 Z109 D109 => zbk_v ?_))
              have S109 := F109.ss S1
              have G109 := F1.trans F109
              have C109 := rC.nw C2 (G109.mono (fun x _ z => by rw [hN] at z; exact z) (Nat.le_refl _) (Nat.le_refl _))
              obtain ⟨qM109, mM109, GM109⟩ := C109.hd
              have D109 := C109.bd hk
              have P109 := D109.1
              obtain ⟨qg109, mg109, Lg109⟩ := D109.hd
              refine zr_pop zi215_112 rfl ?_
              refine zr_iincN (z := 1) (L' := [some (.ref _), some (.int (zJ _)), some (.ref _), some (.ref _), some (.int (zJ _))]) zi215_113 rfl rfl rfl rfl ?_
              refine zr_goto zi215_116 rfl ?_
              exact ih46 (by omega) _ _ _ _ _ G109 (by rw [show (i + 1) + (i + 1 - 1) / w = i + (i - 1) / w + 1 by rw [Nat.add_sub_cancel]; omega]; exact X109) (by omega) C109
            · refine zr_bipush (v := zJ 35) zi215_102 rfl ?_
              refine zr_goto zi215_104 rfl ?_
              refine zr_virtual zi215_109 rfl rfl X1.2.2.2.2.1 rfl rfl ?_
              refine zcall_dep (d := 5) (Nat.le_of_ble_eq_true rfl) (c112 S1 X1 (by omega) (by omega) (by omega) (by omega) (fun h109 v109 l109 m109 s109 F109 X109 Z109 D109 => zbk_v ?_))
              have S109 := F109.ss S1
              have G109 := F1.trans F109
              have C109 := rC.nw C2 (G109.mono (fun x _ z => by rw [hN] at z; exact z) (Nat.le_refl _) (Nat.le_refl _))
              obtain ⟨qM109, mM109, GM109⟩ := C109.hd
              have D109 := C109.bd hk
              have P109 := D109.1
              obtain ⟨qg109, mg109, Lg109⟩ := D109.hd
              refine zr_pop zi215_112 rfl ?_
              refine zr_iincN (z := 1) (L' := [some (.ref _), some (.int (zJ _)), some (.ref _), some (.ref _), some (.int (zJ _))]) zi215_113 rfl rfl rfl rfl ?_
              refine zr_goto zi215_116 rfl ?_
              exact ih46 (by omega) _ _ _ _ _ G109 (by rw [show (i + 1) + (i + 1 - 1) / w = i + (i - 1) / w + 1 by rw [Nat.add_sub_cancel]; omega]; exact X109) (by omega) C109
          · refine zr_bipush (v := zJ 63) zi215_87 rfl ?_
            refine zr_goto zi215_89 rfl ?_
            refine zr_virtual zi215_109 rfl rfl X1.2.2.2.2.1 rfl rfl ?_
            refine zcall_dep (d := 5) (Nat.le_of_ble_eq_true rfl) (c112 S1 X1 (by omega) (by omega) (by omega) (by omega) (fun h109 v109 l109 m109 s109 F109 X109 Z109 D109 => zbk_v ?_))
            have S109 := F109.ss S1
            have G109 := F1.trans F109
            have C109 := rC.nw C2 (G109.mono (fun x _ z => by rw [hN] at z; exact z) (Nat.le_refl _) (Nat.le_refl _))
            obtain ⟨qM109, mM109, GM109⟩ := C109.hd
            have D109 := C109.bd hk
            have P109 := D109.1
            obtain ⟨qg109, mg109, Lg109⟩ := D109.hd
            refine zr_pop zi215_112 rfl ?_
            refine zr_iincN (z := 1) (L' := [some (.ref _), some (.int (zJ _)), some (.ref _), some (.ref _), some (.int (zJ _))]) zi215_113 rfl rfl rfl rfl ?_
            refine zr_goto zi215_116 rfl ?_
            exact ih46 (by omega) _ _ _ _ _ G109 (by rw [show (i + 1) + (i + 1 - 1) / w = i + (i - 1) / w + 1 by rw [Nat.add_sub_cancel]; omega]; exact X109) (by omega) C109
        · refine zr_aload_n zi215_70 rfl ?_
          refine zr_bipush (v := zJ 47) zi215_71 rfl ?_
          refine zr_virtual zi215_73 rfl rfl X1.2.2.2.2.1 rfl rfl ?_
          refine zcall_dep (d := 5) (Nat.le_of_ble_eq_true rfl) (c112 S1 X1 (by omega) (by omega) (by omega) (by omega) (fun h73 v73 l73 m73 s73 F73 X73 Z73 D73 => zbk_v ?_))
          have S73 := F73.ss S1
          have G73 := F1.trans F73
          have C73 := rC.nw C2 (G73.mono (fun x _ z => by rw [hN] at z; exact z) (Nat.le_refl _) (Nat.le_refl _))
          obtain ⟨qM73, mM73, GM73⟩ := C73.hd
          have D73 := C73.bd hk
          have P73 := D73.1
          obtain ⟨qg73, mg73, Lg73⟩ := D73.hd
          refine zr_pop zi215_76 rfl ?_
          refine zr_aload_n zi215_77 rfl ?_
          refine zr_aload_n zi215_78 rfl ?_
          refine zr_iload zi215_79 rfl ?_
          refine zr_virtual zi215_81 rfl rfl (P73.1.at0 rfl) rfl rfl ?_
          refine zcall_dep (d := 0) (Nat.le_of_ble_eq_true rfl) (c174 P73 (by omega) (zbk_v ?_))
          refine zr_if_ne zi215_84 rfl (fun q84 => ?_) (fun q84 => ?_)
          · refine zr_aload_n zi215_92 rfl ?_
            refine zr_iload zi215_93 rfl ?_
            refine zr_virtual zi215_95 rfl rfl (P73.1.at0 rfl) rfl rfl ?_
            refine zcall_dep (d := 0) (Nat.le_of_ble_eq_true rfl) (c174 P73 (by omega) (zbk_v ?_))
            refine zr_iconst (v := zJ 1) zi215_98 rfl ?_
            refine zr_icmp_ne zi215_99 rfl (fun q99 => ?_) (fun q99 => ?_)
            · refine zr_bipush (v := zJ 46) zi215_107 rfl ?_
              refine zr_virtual zi215_109 rfl rfl X73.2.2.2.2.1 rfl rfl ?_
              refine zcall_dep (d := 5) (Nat.le_of_ble_eq_true rfl) (c112 S73 X73 (by omega) (by omega) (by omega) (by omega) (fun h109 v109 l109 m109 s109 F109 X109 Z109 D109 => zbk_v ?_))
              have S109 := F109.ss S73
              have G109 := G73.trans F109
              have C109 := rC.nw C2 (G109.mono (fun x _ z => by rw [hN] at z; exact z) (Nat.le_refl _) (Nat.le_refl _))
              obtain ⟨qM109, mM109, GM109⟩ := C109.hd
              have D109 := C109.bd hk
              have P109 := D109.1
              obtain ⟨qg109, mg109, Lg109⟩ := D109.hd
              refine zr_pop zi215_112 rfl ?_
              refine zr_iincN (z := 1) (L' := [some (.ref _), some (.int (zJ _)), some (.ref _), some (.ref _), some (.int (zJ _))]) zi215_113 rfl rfl rfl rfl ?_
              refine zr_goto zi215_116 rfl ?_
              exact ih46 (by omega) _ _ _ _ _ G109 (by rw [show (i + 1) + (i + 1 - 1) / w = i + (i - 1) / w + 1 + 1 by rw [Nat.add_sub_cancel]; omega]; exact X109) (by omega) C109
            · refine zr_bipush (v := zJ 35) zi215_102 rfl ?_
              refine zr_goto zi215_104 rfl ?_
              refine zr_virtual zi215_109 rfl rfl X73.2.2.2.2.1 rfl rfl ?_
              refine zcall_dep (d := 5) (Nat.le_of_ble_eq_true rfl) (c112 S73 X73 (by omega) (by omega) (by omega) (by omega) (fun h109 v109 l109 m109 s109 F109 X109 Z109 D109 => zbk_v ?_))
              have S109 := F109.ss S73
              have G109 := G73.trans F109
              have C109 := rC.nw C2 (G109.mono (fun x _ z => by rw [hN] at z; exact z) (Nat.le_refl _) (Nat.le_refl _))
              obtain ⟨qM109, mM109, GM109⟩ := C109.hd
              have D109 := C109.bd hk
              have P109 := D109.1
              obtain ⟨qg109, mg109, Lg109⟩ := D109.hd
              refine zr_pop zi215_112 rfl ?_
              refine zr_iincN (z := 1) (L' := [some (.ref _), some (.int (zJ _)), some (.ref _), some (.ref _), some (.int (zJ _))]) zi215_113 rfl rfl rfl rfl ?_
              refine zr_goto zi215_116 rfl ?_
              exact ih46 (by omega) _ _ _ _ _ G109 (by rw [show (i + 1) + (i + 1 - 1) / w = i + (i - 1) / w + 1 + 1 by rw [Nat.add_sub_cancel]; omega]; exact X109) (by omega) C109
          · refine zr_bipush (v := zJ 63) zi215_87 rfl ?_
            refine zr_goto zi215_89 rfl ?_
            refine zr_virtual zi215_109 rfl rfl X73.2.2.2.2.1 rfl rfl ?_
            refine zcall_dep (d := 5) (Nat.le_of_ble_eq_true rfl) (c112 S73 X73 (by omega) (by omega) (by omega) (by omega) (fun h109 v109 l109 m109 s109 F109 X109 Z109 D109 => zbk_v ?_))
            have S109 := F109.ss S73
            have G109 := G73.trans F109
            have C109 := rC.nw C2 (G109.mono (fun x _ z => by rw [hN] at z; exact z) (Nat.le_refl _) (Nat.le_refl _))
            obtain ⟨qM109, mM109, GM109⟩ := C109.hd
            have D109 := C109.bd hk
            have P109 := D109.1
            obtain ⟨qg109, mg109, Lg109⟩ := D109.hd
            refine zr_pop zi215_112 rfl ?_
            refine zr_iincN (z := 1) (L' := [some (.ref _), some (.int (zJ _)), some (.ref _), some (.ref _), some (.int (zJ _))]) zi215_113 rfl rfl rfl rfl ?_
            refine zr_goto zi215_116 rfl ?_
            exact ih46 (by omega) _ _ _ _ _ G109 (by rw [show (i + 1) + (i + 1 - 1) / w = i + (i - 1) / w + 1 + 1 by rw [Nat.add_sub_cancel]; omega]; exact X109) (by omega) C109
  · refine zr_aload_n zi215_21 rfl ?_
    refine zr_iconst (v := zJ 1) zi215_22 rfl ?_
    refine zr_putfield zi215_23 (C9.1.at0 rfl) rfl rfl ?_
    refine rC.wm (E := E) C9 (fun h23 N23 C23 e23 => ?_)
    obtain ⟨qM23, mM23, GM23⟩ := C23.hd
    refine zr_ldcs zi215_26 ?_
    refine zr_areturn zi215_28 rfl ?_
    exact K _ _ _ _ _ rfl (((N2.trans (rNx.new C2 (G9.mono (fun x _ z => by rw [hN] at z; exact z) (Nat.le_refl _) (Nat.le_refl _)))).trans N23).fit (by omega) (by omega)) C23
