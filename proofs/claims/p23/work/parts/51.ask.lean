/-! ===== the model: what is asked ===== -/
theorem zin_le {x : Int32} {n : Nat} (hn : n < 999) : (zJ 0 ≤ x ∧ x ≤ zJ n) ↔ zin x (n + 1) := by
  rw [← zin_rng (by omega), show zJ (n + 1) - zJ 1 = zJ n from by rw [zJ_sub (by omega), Nat.add_sub_cancel]]
theorem rC.ix {B : List rBS} {i : Nat} (hi : i < B.length) : ∃ b r g e w hh X cl mi sp KS, B[i]? = some (b, r, g, e, (w, hh), X, cl, (mi, sp), KS) := ⟨_, _, _, _, _, _, _, _, _, _, _, List.getElem?_eq_getElem hi⟩
theorem rC.nw {h h1 : zPH} {E : zEnv} {mm s : Nat} {m le : Nat} {n0 n2 : Int32} {B : List rBS} (C : rC h E m le n0 n2 B) (F : yFr (fun x => h.2.1 ≤ x) h h1 mm s) : rC h1 E m le n0 n2 B := by
  have hlt : ∀ x, rAl m le B x → x < h.2.1 := fun x => C.lt
  obtain ⟨M, L, hl, hle, D, J⟩ := C
  have av : ∀ x, rAl m le B x → ¬ h.2.1 ≤ x := fun x z => Nat.not_le.mpr (hlt x z)
  exact ⟨M.f1 F (av _ (Or.inl rfl)), L.fr F (av _ (Or.inr (Or.inl rfl))) (av _ (Or.inr (Or.inr (Or.inl rfl)))), hl, hle, fun i β hi => ⟨(D i β hi).1.fr F (fun x z => av x (Or.inr (Or.inr (Or.inr ⟨i, β, hi, z⟩)))), (D i β hi).2⟩, J⟩
theorem rB.row {h : zPH} {b r c g w hh : Nat} {X : rX4} {cl : List Int32} {mi sp : Int32} (P : rB h b r c g w hh X.1 X.2.1 X.2.2.1 X.2.2.2 cl mi sp) {t : Nat} (ht : t < 4) : ∃ l, rrow X t = l ∧ h.1 (r + 1 + t) = some (64, zis l) ∧ l.length = w * hh := by
  obtain ⟨-, R, -, -, ⟨l0, l1, l2, l3, -⟩, -⟩ := P
  match t, ht with
  | 0, _ => exact ⟨X.1, rfl, R.at 1 rfl, l0⟩
  | 1, _ => exact ⟨X.2.1, rfl, R.at 2 rfl, l1⟩
  | 2, _ => exact ⟨X.2.2.1, rfl, R.at 3 rfl, l2⟩
  | 3, _ => exact ⟨X.2.2.2, rfl, R.at 4 rfl, l3⟩
theorem c205 {E : zEnv} {h : zPH} {Q : zOut → zPH → Prop} {m le : Nat} {n0 n2 : Int32} {B : List rBS} (C : rC h E m le n0 n2 B)  (K : ∀ h1, rNx h h1 E m n2 (n2 + zJ 1) le B le B 0 0 → rC h1 E m le (zJ 0) (n2 + zJ 1) B → Q (.inl (some (.int (n2 + zJ 1)))) h1) : zcall E 0 205 [.ref m] h Q := by
  show zwp E _ 205 (0, [some (.ref _)], [], _) Q
  obtain ⟨qM0, mM0, GM0⟩ := C.hd
  refine zr_aload_n zi205_0 rfl ?_
  refine zr_iconst (v := zJ 0) zi205_1 rfl ?_
  refine zr_putfield zi205_2 (C.1.at0 rfl) rfl rfl ?_
  refine rC.wm (E := E) C (fun h2 N2 C2 e2 => ?_)
  obtain ⟨qM2, mM2, GM2⟩ := C2.hd
  refine zr_aload_n zi205_5 rfl ?_
  refine zr_dup zi205_6 rfl ?_
  refine zr_getfield zi205_7 (C2.1.at0 rfl) rfl ?_
  refine zr_iconst (v := zJ 1) zi205_10 rfl ?_
  refine zr_iadd zi205_11 ?_
  refine zr_putfield zi205_12 (C2.1.at0 rfl) rfl rfl ?_
  refine rC.wm (E := E) C2 (fun h12 N12 C12 e12 => ?_)
  obtain ⟨qM12, mM12, GM12⟩ := C12.hd
  refine zr_aload_n zi205_15 rfl ?_
  refine zr_getfield zi205_16 (C12.1.at0 rfl) rfl ?_
  refine zr_ireturn zi205_19 rfl ?_
  exact K _ (N2.trans N12) C12
theorem c206 {E : zEnv} {h : zPH} {Q : zOut → zPH → Prop} {m le : Nat} {n0 n2 : Int32} {B : List rBS} (C : rC h E m le n0 n2 B) {x y z : Int32} (K : ∀ h1 v n0 le1 B1, (ms206 B x y z n0 v B1) → rNx h h1 E m n2 n2 le B le1 B1 0 0 → rC h1 E m le1 n0 n2 B1 → Q (.inl (some (.int v))) h1) : zcall E 4 206 [.ref m, .int x, .int y, .int z] h Q := by
  show zwp E _ 206 (0, [some (.ref _), some (.int _), some (.int _), some (.int _)], [], _) Q
  obtain ⟨qM0, mM0, GM0⟩ := C.hd
  refine zr_aload_n zi206_0 rfl ?_
  refine zr_iconst (v := zJ 0) zi206_1 rfl ?_
  refine zr_putfield zi206_2 (C.1.at0 rfl) rfl rfl ?_
  refine rC.wm (E := E) C (fun h2 N2 C2 e2 => ?_)
  obtain ⟨qM2, mM2, GM2⟩ := C2.hd
  refine zr_aload_n zi206_5 rfl ?_
  refine zr_iload_n zi206_6 rfl ?_
  refine zr_iload_n zi206_7 rfl ?_
  refine zr_virtual zi206_8 rfl rfl (C2.1.at0 rfl) rfl rfl ?_
  refine zcall_dep (d := 3) (Nat.le_of_ble_eq_true rfl) (c179 C2 (fun y8 Y8 => zbk_v ?_))
  refine zr_if_neB zi206_11 rfl (fun q11 => ?_) (fun q11 => ?_)
  · obtain ⟨k, b, r, g, e, w, hh, X, cl, mi, sp, KS, rfl, hk, c, hc, rfl⟩ := Y8.mp q11
    obtain ⟨⟨gw1, gw2, gh1, gh2⟩, ⟨l0, l1, l2, l3, lcl⟩, d1, d2, d3⟩ := (C2.bd hk).1.2.2.2
    have hwh := zwh_b (w := w) (hh := hh) ⟨gw1, gw2, gh1, gh2⟩
    have hkl := C2.2.2.1
    have hKS := (C2.bd hk).2.2.2.1
    have hki : k < B.length := by
      rcases Nat.lt_or_ge k B.length with z | z
      · exact z
      · rw [List.getElem?_eq_none z] at hk; cases hk
    refine zr_iload_n zi206_20 rfl ?_
    refine zr_iconst (v := zJ 0) zi206_21 rfl ?_
    refine zr_iconst (v := zJ 3) zi206_22 rfl ?_
    refine zr_static zi206_23 rfl rfl rfl rfl ?_
    refine zcall_dep (d := 0) (Nat.le_of_ble_eq_true rfl) (c151 (fun y23 Y23 => zbk_v ?_))
    refine zr_if_neB zi206_26 rfl (fun q26 => ?_) (fun q26 => ?_)
    · obtain ⟨t, ht, rfl⟩ := (zin_le (by omega)).mp (Y23.mp q26)
      refine zr_aload_n zi206_35 rfl ?_
      refine zr_getfield zi206_36 (C2.1.at0 rfl) rfl ?_
      refine zr_iload_n zi206_39 rfl ?_
      refine zr_iface zi206_40 rfl (GM2.at0 rfl) rfl rfl ?_
      refine zcall_dep (d := 2) (Nat.le_of_ble_eq_true rfl) (c164M C2 hk (zbk_v ?_))
      have D40 := C2.bd hk
      have P40 := D40.1
      obtain ⟨qg40, mg40, Lg40⟩ := D40.hd
      refine zr_checkcast zi206_45 (P40.1.at0 rfl) rfl ?_
      refine zr_getfield zi206_48 (P40.1.at0 rfl) rfl ?_
      obtain ⟨lx, ex, Xx, hlx⟩ := rB.row (X := X) P40 ht
      refine zr_iload_n zi206_51 rfl ?_
      refine zr_aaloadN zi206_52 (P40.rw.at0 rfl) rfl (by omega) (show [Value.ref (r + 1), .ref (r + 2), .ref (r + 3), .ref (r + 4)][t]? = some (.ref (r + 1 + t)) from by match t, ht with | 0, _ => rfl | 1, _ => rfl | 2, _ => rfl | 3, _ => rfl) ?_
      refine zr_iload_n zi206_53 rfl ?_
      refine zr_ialoadN zi206_54 Xx rfl (by omega) (by first | omega | (simp only [List.length_set, zpt_len]; omega)) ?_
      refine zr_ireturn zi206_55 rfl ?_
      exact K _ _ _ _ _ ⟨rfl, (Or.inr (Or.inr ⟨rfl, ⟨k, w, hh, X, cl, mi, sp, KS, ⟨b, r, g, e, hk⟩, rfl, c, hc, rfl, t, ht, rfl, by rw [← ex]⟩⟩))⟩ (((rNx.refl C).trans N2).fit (by omega) (by omega)) C2
    · refine zr_aload_n zi206_29 rfl ?_
      refine zr_iconst (v := zJ 2) zi206_30 rfl ?_
      refine zr_virtual zi206_31 rfl rfl (C2.1.at0 rfl) rfl rfl ?_
      refine zcall_dep (d := 0) (Nat.le_of_ble_eq_true rfl) (c152 C2 (fun h31 N31 C31 e31 => zbk_v ?_))
      obtain ⟨qM31, mM31, GM31⟩ := C31.hd
      refine zr_ireturn zi206_34 rfl ?_
      exact K _ _ _ _ _ ⟨rfl, (Or.inr (Or.inl ⟨rfl, mNo_t (n := nCell) (⟨b, r, g, e, hk⟩ : mAt B k w hh X cl mi sp KS) rfl ⟨_, hc, rfl⟩, fun hz => absurd (Y23.mpr ((zin_le (by omega)).mpr hz)) (by rw [q26]; decide)⟩))⟩ ((((rNx.refl C).trans N2).trans N31).fit (by omega) (by omega)) C31
  · refine zr_aload_n zi206_14 rfl ?_
    refine zr_iconst (v := zJ 1) zi206_15 rfl ?_
    refine zr_virtual zi206_16 rfl rfl (C2.1.at0 rfl) rfl rfl ?_
    refine zcall_dep (d := 0) (Nat.le_of_ble_eq_true rfl) (c152 C2 (fun h16 N16 C16 e16 => zbk_v ?_))
    obtain ⟨qM16, mM16, GM16⟩ := C16.hd
    refine zr_ireturn zi206_19 rfl ?_
    exact K _ _ _ _ _ ⟨rfl, (Or.inl ⟨rfl, (fun k w hh X cl mi sp KS ⟨b, r, g, e, hk⟩ ex hz => absurd (Y8.mpr ⟨k, b, r, g, e, w, hh, X, cl, mi, sp, KS, ex, hk, hz⟩) (by rw [q11]; decide))⟩)⟩ ((((rNx.refl C).trans N2).trans N16).fit (by omega) (by omega)) C16
theorem c207 {E : zEnv} {h : zPH} {Q : zOut → zPH → Prop} {m le : Nat} {n0 n2 : Int32} {B : List rBS} (C : rC h E m le n0 n2 B) {x y z : Int32} (K : ∀ h1 v n0 le1 B1, (ms207 B x y z n0 v B1) → rNx h h1 E m n2 n2 le B le1 B1 0 0 → rC h1 E m le1 n0 n2 B1 → Q (.inl (some (.int v))) h1) : zcall E 5 207 [.ref m, .int x, .int y, .int z] h Q := by
  show zwp E _ 207 (0, [some (.ref _), some (.int _), some (.int _), some (.int _)], [], _) Q
  obtain ⟨qM0, mM0, GM0⟩ := C.hd
  refine zr_aload_n zi207_0 rfl ?_
  refine zr_iconst (v := zJ 0) zi207_1 rfl ?_
  refine zr_putfield zi207_2 (C.1.at0 rfl) rfl rfl ?_
  refine rC.wm (E := E) C (fun h2 N2 C2 e2 => ?_)
  obtain ⟨qM2, mM2, GM2⟩ := C2.hd
  refine zr_aload_n zi207_5 rfl ?_
  refine zr_iload_n zi207_6 rfl ?_
  refine zr_iload_n zi207_7 rfl ?_
  refine zr_virtual zi207_8 rfl rfl (C2.1.at0 rfl) rfl rfl ?_
  refine zcall_dep (d := 3) (Nat.le_of_ble_eq_true rfl) (c162 C2 (fun y8 Y8 => zbk_v ?_))
  refine zr_if_neB zi207_11 rfl (fun q11 => ?_) (fun q11 => ?_)
  · obtain ⟨k, b, r, g, e, w, hh, X, cl, mi, sp, KS, rfl, hk, i, hi, rfl⟩ := Y8.mp q11
    obtain ⟨⟨gw1, gw2, gh1, gh2⟩, ⟨l0, l1, l2, l3, lcl⟩, d1, d2, d3⟩ := (C2.bd hk).1.2.2.2
    have hwh := zwh_b (w := w) (hh := hh) ⟨gw1, gw2, gh1, gh2⟩
    have hkl := C2.2.2.1
    have hKS := (C2.bd hk).2.2.2.1
    have hki : k < B.length := by
      rcases Nat.lt_or_ge k B.length with z | z
      · exact z
      · rw [List.getElem?_eq_none z] at hk; cases hk
    refine zr_iload_n zi207_20 rfl ?_
    refine zr_iconst (v := zJ 0) zi207_21 rfl ?_
    refine zr_iconst (v := zJ 5) zi207_22 rfl ?_
    refine zr_static zi207_23 rfl rfl rfl rfl ?_
    refine zcall_dep (d := 0) (Nat.le_of_ble_eq_true rfl) (c151 (fun y23 Y23 => zbk_v ?_))
    refine zr_if_neB zi207_26 rfl (fun q26 => ?_) (fun q26 => ?_)
    · obtain ⟨t, ht, rfl⟩ := (zin_le (by omega)).mp (Y23.mp q26)
      refine zr_aload_n zi207_35 rfl ?_
      refine zr_getfield zi207_36 (C2.1.at0 rfl) rfl ?_
      refine zr_iload_n zi207_39 rfl ?_
      refine zr_iface zi207_40 rfl (GM2.at0 rfl) rfl rfl ?_
      refine zcall_dep (d := 2) (Nat.le_of_ble_eq_true rfl) (c164M C2 hk (zbk_v ?_))
      have D40 := C2.bd hk
      have P40 := D40.1
      obtain ⟨qg40, mg40, Lg40⟩ := D40.hd
      refine zr_checkcast zi207_45 (P40.1.at0 rfl) rfl ?_
      refine zr_iload_n zi207_48 rfl ?_
      refine zr_iload_n zi207_49 rfl ?_
      refine zr_static zi207_50 rfl rfl rfl rfl ?_
      refine zcall_dep (d := 4) (Nat.le_of_ble_eq_true rfl) (c208 P40 (by omega) (by omega) (zbk_v ?_))
      refine zr_ireturn zi207_53 rfl ?_
      exact K _ _ _ _ _ ⟨rfl, (Or.inr (Or.inr ⟨rfl, ⟨k, w, hh, X, cl, mi, sp, KS, ⟨b, r, g, e, hk⟩, rfl, i, hi, rfl, t, ht, rfl, rfl⟩⟩))⟩ (((rNx.refl C).trans N2).fit (by omega) (by omega)) C2
    · refine zr_aload_n zi207_29 rfl ?_
      refine zr_iconst (v := zJ 2) zi207_30 rfl ?_
      refine zr_virtual zi207_31 rfl rfl (C2.1.at0 rfl) rfl rfl ?_
      refine zcall_dep (d := 0) (Nat.le_of_ble_eq_true rfl) (c152 C2 (fun h31 N31 C31 e31 => zbk_v ?_))
      obtain ⟨qM31, mM31, GM31⟩ := C31.hd
      refine zr_ireturn zi207_34 rfl ?_
      exact K _ _ _ _ _ ⟨rfl, (Or.inr (Or.inl ⟨rfl, mNo_t (n := nLine) (⟨b, r, g, e, hk⟩ : mAt B k w hh X cl mi sp KS) rfl ⟨_, hi, rfl⟩, fun hz => absurd (Y23.mpr ((zin_le (by omega)).mpr hz)) (by rw [q26]; decide)⟩))⟩ ((((rNx.refl C).trans N2).trans N31).fit (by omega) (by omega)) C31
  · refine zr_aload_n zi207_14 rfl ?_
    refine zr_iconst (v := zJ 1) zi207_15 rfl ?_
    refine zr_virtual zi207_16 rfl rfl (C2.1.at0 rfl) rfl rfl ?_
    refine zcall_dep (d := 0) (Nat.le_of_ble_eq_true rfl) (c152 C2 (fun h16 N16 C16 e16 => zbk_v ?_))
    obtain ⟨qM16, mM16, GM16⟩ := C16.hd
    refine zr_ireturn zi207_19 rfl ?_
    exact K _ _ _ _ _ ⟨rfl, (Or.inl ⟨rfl, (fun k w hh X cl mi sp KS ⟨b, r, g, e, hk⟩ ex hz => absurd (Y8.mpr ⟨k, b, r, g, e, w, hh, X, cl, mi, sp, KS, ex, hk, hz⟩) (by rw [q11]; decide))⟩)⟩ ((((rNx.refl C).trans N2).trans N16).fit (by omega) (by omega)) C16
theorem c209 {E : zEnv} {h : zPH} {Q : zOut → zPH → Prop} {m le : Nat} {n0 n2 : Int32} {B : List rBS} (C : rC h E m le n0 n2 B) {x y z : Int32} (K : ∀ h1 v n0 le1 B1, (ms209 B x y z n0 v B1) → rNx h h1 E m n2 n2 le B le1 B1 0 0 → rC h1 E m le1 n0 n2 B1 → Q (.inl (some (.int v))) h1) : zcall E 4 209 [.ref m, .int x, .int y, .int z] h Q := by
  show zwp E _ 209 (0, [some (.ref _), some (.int _), some (.int _), some (.int _)], [], _) Q
  obtain ⟨qM0, mM0, GM0⟩ := C.hd
  refine zr_aload_n zi209_0 rfl ?_
  refine zr_iconst (v := zJ 0) zi209_1 rfl ?_
  refine zr_putfield zi209_2 (C.1.at0 rfl) rfl rfl ?_
  refine rC.wm (E := E) C (fun h2 N2 C2 e2 => ?_)
  obtain ⟨qM2, mM2, GM2⟩ := C2.hd
  refine zr_aload_n zi209_5 rfl ?_
  refine zr_iload_n zi209_6 rfl ?_
  refine zr_iload_n zi209_7 rfl ?_
  refine zr_virtual zi209_8 rfl rfl (C2.1.at0 rfl) rfl rfl ?_
  refine zcall_dep (d := 3) (Nat.le_of_ble_eq_true rfl) (c162 C2 (fun y8 Y8 => zbk_v ?_))
  refine zr_if_neB zi209_11 rfl (fun q11 => ?_) (fun q11 => ?_)
  · obtain ⟨k, b, r, g, e, w, hh, X, cl, mi, sp, KS, rfl, hk, i, hi, rfl⟩ := Y8.mp q11
    obtain ⟨⟨gw1, gw2, gh1, gh2⟩, ⟨l0, l1, l2, l3, lcl⟩, d1, d2, d3⟩ := (C2.bd hk).1.2.2.2
    have hwh := zwh_b (w := w) (hh := hh) ⟨gw1, gw2, gh1, gh2⟩
    have hkl := C2.2.2.1
    have hKS := (C2.bd hk).2.2.2.1
    have hki : k < B.length := by
      rcases Nat.lt_or_ge k B.length with z | z
      · exact z
      · rw [List.getElem?_eq_none z] at hk; cases hk
    refine zr_iload_n zi209_20 rfl ?_
    refine zr_if_ge zi209_21 rfl (fun q21 => ?_) (fun q21 => ?_)
    · refine zr_aload_n zi209_30 rfl ?_
      refine zr_getfield zi209_31 (C2.1.at0 rfl) rfl ?_
      refine zr_iload_n zi209_34 rfl ?_
      refine zr_iface zi209_35 rfl (GM2.at0 rfl) rfl rfl ?_
      refine zcall_dep (d := 2) (Nat.le_of_ble_eq_true rfl) (c164M C2 hk (zbk_v ?_))
      have D35 := C2.bd hk
      have P35 := D35.1
      obtain ⟨qg35, mg35, Lg35⟩ := D35.hd
      refine zr_checkcast zi209_40 (P35.1.at0 rfl) rfl ?_
      refine zr_iload_n zi209_43 rfl ?_
      refine zr_iload_n zi209_44 rfl ?_
      refine zr_virtual zi209_45 rfl rfl (P35.1.at0 rfl) rfl rfl ?_
      refine zcall_dep (d := 3) (Nat.le_of_ble_eq_true rfl) (c210 P35 (by omega) (zbk_v ?_))
      refine zr_ireturn zi209_48 rfl ?_
      exact K _ _ _ _ _ ⟨rfl, (Or.inr (Or.inr ⟨rfl, ⟨k, w, hh, X, cl, mi, sp, KS, ⟨b, r, g, e, hk⟩, rfl, i, hi, rfl, (by first | exact q21 | exact Int32.not_lt.mpr q21), rfl⟩⟩))⟩ (((rNx.refl C).trans N2).fit (by omega) (by omega)) C2
    · refine zr_aload_n zi209_24 rfl ?_
      refine zr_iconst (v := zJ 2) zi209_25 rfl ?_
      refine zr_virtual zi209_26 rfl rfl (C2.1.at0 rfl) rfl rfl ?_
      refine zcall_dep (d := 0) (Nat.le_of_ble_eq_true rfl) (c152 C2 (fun h26 N26 C26 e26 => zbk_v ?_))
      obtain ⟨qM26, mM26, GM26⟩ := C26.hd
      refine zr_ireturn zi209_29 rfl ?_
      exact K _ _ _ _ _ ⟨rfl, (Or.inr (Or.inl ⟨rfl, mNo_t (n := nLine) (⟨b, r, g, e, hk⟩ : mAt B k w hh X cl mi sp KS) rfl ⟨_, hi, rfl⟩, (by first | exact q21 | exact Int32.not_le.mp q21)⟩))⟩ ((((rNx.refl C).trans N2).trans N26).fit (by omega) (by omega)) C26
  · refine zr_aload_n zi209_14 rfl ?_
    refine zr_iconst (v := zJ 1) zi209_15 rfl ?_
    refine zr_virtual zi209_16 rfl rfl (C2.1.at0 rfl) rfl rfl ?_
    refine zcall_dep (d := 0) (Nat.le_of_ble_eq_true rfl) (c152 C2 (fun h16 N16 C16 e16 => zbk_v ?_))
    obtain ⟨qM16, mM16, GM16⟩ := C16.hd
    refine zr_ireturn zi209_19 rfl ?_
    exact K _ _ _ _ _ ⟨rfl, (Or.inl ⟨rfl, (fun k w hh X cl mi sp KS ⟨b, r, g, e, hk⟩ ex hz => absurd (Y8.mpr ⟨k, b, r, g, e, w, hh, X, cl, mi, sp, KS, ex, hk, hz⟩) (by rw [q11]; decide))⟩)⟩ ((((rNx.refl C).trans N2).trans N16).fit (by omega) (by omega)) C16
theorem c211 {E : zEnv} {h : zPH} {Q : zOut → zPH → Prop} {m le : Nat} {n0 n2 : Int32} {B : List rBS} (C : rC h E m le n0 n2 B) {x y : Int32} (K : ∀ h1 v n0 le1 B1, (ms211 B x y n0 v B1) → rNx h h1 E m n2 n2 le B le1 B1 52 1453 → rC h1 E m le1 n0 n2 B1 → Q (.inl (some (.int v))) h1) : zcall E 15 211 [.ref m, .int x, .int y] h Q := by
  show zwp E _ 211 (0, [some (.ref _), some (.int _), some (.int _)], [], _) Q
  obtain ⟨qM0, mM0, GM0⟩ := C.hd
  refine zr_aload_n zi211_0 rfl ?_
  refine zr_iconst (v := zJ 0) zi211_1 rfl ?_
  refine zr_putfield zi211_2 (C.1.at0 rfl) rfl rfl ?_
  refine rC.wm (E := E) C (fun h2 N2 C2 e2 => ?_)
  obtain ⟨qM2, mM2, GM2⟩ := C2.hd
  refine zr_aload_n zi211_5 rfl ?_
  refine zr_iload_n zi211_6 rfl ?_
  refine zr_virtual zi211_7 rfl rfl (C2.1.at0 rfl) rfl rfl ?_
  refine zcall_dep (d := 1) (Nat.le_of_ble_eq_true rfl) (c163 C2 (fun y7 Y7 => zbk_v ?_))
  refine zr_if_neB zi211_10 rfl (fun q10 => ?_) (fun q10 => ?_)
  · obtain ⟨k, rfl, b, r, g, e, w, hh, X, cl, mi, sp, KS, hk⟩ := rC.at (Y7.mp q10)
    obtain ⟨⟨gw1, gw2, gh1, gh2⟩, ⟨l0, l1, l2, l3, lcl⟩, d1, d2, d3⟩ := (C2.bd hk).1.2.2.2
    have hwh := zwh_b (w := w) (hh := hh) ⟨gw1, gw2, gh1, gh2⟩
    have hkl := C2.2.2.1
    have hKS := (C2.bd hk).2.2.2.1
    have hki : k < B.length := by
      rcases Nat.lt_or_ge k B.length with z | z
      · exact z
      · rw [List.getElem?_eq_none z] at hk; cases hk
    refine zr_iload_n zi211_19 rfl ?_
    refine zr_iconst (v := zJ 0) zi211_20 rfl ?_
    refine zr_bipush (v := zJ 10) zi211_21 rfl ?_
    refine zr_static zi211_23 rfl rfl rfl rfl ?_
    refine zcall_dep (d := 0) (Nat.le_of_ble_eq_true rfl) (c151 (fun y23 Y23 => zbk_v ?_))
    refine zr_if_neB zi211_26 rfl (fun q26 => ?_) (fun q26 => ?_)
    · obtain ⟨t, ht, rfl⟩ := (zin_le (by omega)).mp (Y23.mp q26)
      refine zr_aload_n zi211_35 rfl ?_
      refine zr_getfield zi211_36 (C2.1.at0 rfl) rfl ?_
      refine zr_iload_n zi211_39 rfl ?_
      refine zr_iface zi211_40 rfl (GM2.at0 rfl) rfl rfl ?_
      refine zcall_dep (d := 2) (Nat.le_of_ble_eq_true rfl) (c164M C2 hk (zbk_v ?_))
      have D40 := C2.bd hk
      have P40 := D40.1
      obtain ⟨qg40, mg40, Lg40⟩ := D40.hd
      refine zr_checkcast zi211_45 (P40.1.at0 rfl) rfl ?_
      refine zr_aload_n zi211_48 rfl ?_
      refine zr_getfield zi211_49 (C2.1.at0 rfl) rfl ?_
      refine zr_iload_n zi211_52 rfl ?_
      refine zr_iface zi211_53 rfl (GM2.at0 rfl) rfl rfl ?_
      refine zcall_dep (d := 2) (Nat.le_of_ble_eq_true rfl) (c164M C2 hk (zbk_v ?_))
      have D53 := C2.bd hk
      have P53 := D53.1
      obtain ⟨qg53, mg53, Lg53⟩ := D53.hd
      refine zr_checkcast zi211_58 (P53.1.at0 rfl) rfl ?_
      refine zr_virtual zi211_61 rfl rfl (P53.1.at0 rfl) rfl rfl ?_
      refine zcall_dep (d := 14) (Nat.le_of_ble_eq_true rfl) (c182 P53 (fun h61 q61 l61 F61 i61 j61 X61 px61 hl61 => zbk_v ?_))
      have C61 := rC.nw C2 F61
      obtain ⟨qM61, mM61, GM61⟩ := C61.hd
      have D61 := C61.bd hk
      have P61 := D61.1
      obtain ⟨qg61, mg61, Lg61⟩ := D61.hd
      refine zr_iload_n zi211_64 rfl ?_
      refine zr_static zi211_65 rfl rfl rfl rfl ?_
      refine zcall_dep (d := 5) (Nat.le_of_ble_eq_true rfl) (c212 P61 Lg61 X61 hl61 (by omega) (by omega) (fun h65 v65 F65 ev65 => zbk_v ?_))
      subst ev65
      have C65 := rC.nw C61 F65
      obtain ⟨qM65, mM65, GM65⟩ := C65.hd
      have Xq61_65 := F65.c (by omega) (fun z => by have z : _ ≤ q61 := z; omega) X61
      have nq61_65 := F65.2.1
      have D65 := C65.bd hk
      have P65 := D65.1
      obtain ⟨qg65, mg65, Lg65⟩ := D65.hd
      refine zr_ireturn zi211_68 rfl ?_
      exact K _ _ _ _ _ ⟨rfl, (Or.inr (Or.inr ⟨rfl, ⟨k, w, hh, X, cl, mi, sp, KS, ⟨b, r, g, e, hk⟩, rfl, t, ht, rfl, l61, px61, rfl⟩⟩))⟩ (((((rNx.refl C).trans N2).trans (rNx.new C2 F61)).trans (rNx.new C61 F65)).fit (by omega) (by omega)) C65
    · refine zr_aload_n zi211_29 rfl ?_
      refine zr_iconst (v := zJ 2) zi211_30 rfl ?_
      refine zr_virtual zi211_31 rfl rfl (C2.1.at0 rfl) rfl rfl ?_
      refine zcall_dep (d := 0) (Nat.le_of_ble_eq_true rfl) (c152 C2 (fun h31 N31 C31 e31 => zbk_v ?_))
      obtain ⟨qM31, mM31, GM31⟩ := C31.hd
      refine zr_ireturn zi211_34 rfl ?_
      exact K _ _ _ _ _ ⟨rfl, (Or.inr (Or.inl ⟨rfl, ⟨k, rlt_of hk, rfl⟩, fun hz => absurd (Y23.mpr ((zin_le (by omega)).mpr hz)) (by rw [q26]; decide)⟩))⟩ ((((rNx.refl C).trans N2).trans N31).fit (by omega) (by omega)) C31
  · refine zr_aload_n zi211_13 rfl ?_
    refine zr_iconst (v := zJ 1) zi211_14 rfl ?_
    refine zr_virtual zi211_15 rfl rfl (C2.1.at0 rfl) rfl rfl ?_
    refine zcall_dep (d := 0) (Nat.le_of_ble_eq_true rfl) (c152 C2 (fun h15 N15 C15 e15 => zbk_v ?_))
    obtain ⟨qM15, mM15, GM15⟩ := C15.hd
    refine zr_ireturn zi211_18 rfl ?_
    exact K _ _ _ _ _ ⟨rfl, (Or.inl ⟨rfl, (fun hz => absurd (Y7.mpr hz) (by rw [q10]; decide))⟩)⟩ ((((rNx.refl C).trans N2).trans N15).fit (by omega) (by omega)) C15
theorem c216 {E : zEnv} {h : zPH} {Q : zOut → zPH → Prop} {m le : Nat} {n0 n2 : Int32} {B : List rBS} (C : rC h E m le n0 n2 B) {x y : Int32} (K : ∀ h1 v n0 le1 B1, (ms216 B x y n0 v B1) → rNx h h1 E m n2 n2 le B le1 B1 51 1442 → rC h1 E m le1 n0 n2 B1 → Q (.inl (some (.int v))) h1) : zcall E 15 216 [.ref m, .int x, .int y] h Q := by
  show zwp E _ 216 (0, [some (.ref _), some (.int _), some (.int _), none], [], _) Q
  obtain ⟨qM0, mM0, GM0⟩ := C.hd
  refine zr_aload_n zi216_0 rfl ?_
  refine zr_iconst (v := zJ 0) zi216_1 rfl ?_
  refine zr_putfield zi216_2 (C.1.at0 rfl) rfl rfl ?_
  refine rC.wm (E := E) C (fun h2 N2 C2 e2 => ?_)
  obtain ⟨qM2, mM2, GM2⟩ := C2.hd
  refine zr_aload_n zi216_5 rfl ?_
  refine zr_iload_n zi216_6 rfl ?_
  refine zr_virtual zi216_7 rfl rfl (C2.1.at0 rfl) rfl rfl ?_
  refine zcall_dep (d := 1) (Nat.le_of_ble_eq_true rfl) (c163 C2 (fun y7 Y7 => zbk_v ?_))
  refine zr_if_neB zi216_10 rfl (fun q10 => ?_) (fun q10 => ?_)
  · obtain ⟨k, rfl, b, r, g, e, w, hh, X, cl, mi, sp, KS, hk⟩ := rC.at (Y7.mp q10)
    obtain ⟨⟨gw1, gw2, gh1, gh2⟩, ⟨l0, l1, l2, l3, lcl⟩, d1, d2, d3⟩ := (C2.bd hk).1.2.2.2
    have hwh := zwh_b (w := w) (hh := hh) ⟨gw1, gw2, gh1, gh2⟩
    have hkl := C2.2.2.1
    have hKS := (C2.bd hk).2.2.2.1
    have hki : k < B.length := by
      rcases Nat.lt_or_ge k B.length with z | z
      · exact z
      · rw [List.getElem?_eq_none z] at hk; cases hk
    refine zr_iload_n zi216_19 rfl ?_
    refine zr_iconst (v := zJ 0) zi216_20 rfl ?_
    refine zr_sipush (v := zJ 499) zi216_21 rfl ?_
    refine zr_static zi216_24 rfl rfl rfl rfl ?_
    refine zcall_dep (d := 0) (Nat.le_of_ble_eq_true rfl) (c151 (fun y24 Y24 => zbk_v ?_))
    refine zr_if_neB zi216_27 rfl (fun q27 => ?_) (fun q27 => ?_)
    · obtain ⟨t, ht, rfl⟩ := (zin_le (by omega)).mp (Y24.mp q27)
      refine zr_aload_n zi216_36 rfl ?_
      refine zr_getfield zi216_37 (C2.1.at0 rfl) rfl ?_
      refine zr_iload_n zi216_40 rfl ?_
      refine zr_iface zi216_41 rfl (GM2.at0 rfl) rfl rfl ?_
      refine zcall_dep (d := 2) (Nat.le_of_ble_eq_true rfl) (c164M C2 hk (zbk_v ?_))
      have D41 := C2.bd hk
      have P41 := D41.1
      obtain ⟨qg41, mg41, Lg41⟩ := D41.hd
      refine zr_checkcast zi216_46 (P41.1.at0 rfl) rfl ?_
      refine zr_virtual zi216_49 rfl rfl (P41.1.at0 rfl) rfl rfl ?_
      refine zcall_dep (d := 14) (Nat.le_of_ble_eq_true rfl) (c182 P41 (fun h49 q49 l49 F49 i49 j49 X49 px49 hl49 => zbk_v ?_))
      have C49 := rC.nw C2 F49
      obtain ⟨qM49, mM49, GM49⟩ := C49.hd
      have D49 := C49.bd hk
      have P49 := D49.1
      obtain ⟨qg49, mg49, Lg49⟩ := D49.hd
      refine zr_astore_n (L' := [some (.ref _), some (.int (zJ _)), some (.int (zJ _)), some (.ref _)]) zi216_52 rfl rfl ?_
      refine zr_iload_n zi216_53 rfl ?_
      refine zr_aload_n zi216_54 rfl ?_
      refine zr_arraylength (v := zJ l49.length) zi216_55 X49 rfl (zlenJ rfl) ?_
      refine zr_icmp_geN zi216_56 rfl (by omega) (by omega) (fun q56 => ?_) (fun q56 => ?_)
      · refine zr_iconst (v := (-1)) zi216_65 rfl ?_
        refine zr_ireturn zi216_66 rfl ?_
        exact K _ _ _ _ _ ⟨rfl, (Or.inr (Or.inr ⟨rfl, ⟨k, w, hh, X, cl, mi, sp, KS, ⟨b, r, g, e, hk⟩, rfl, t, ht, rfl, l49, px49, by first | rw [if_pos q56] | rw [if_neg (by omega)]⟩⟩))⟩ ((((rNx.refl C).trans N2).trans (rNx.new C2 F49)).fit (by omega) (by omega)) C49
      · refine zr_aload_n zi216_59 rfl ?_
        refine zr_iload_n zi216_60 rfl ?_
        refine zr_ialoadN zi216_61 X49 rfl (by omega) (by first | omega | (simp only [List.length_set, zpt_len]; omega)) ?_
        refine zr_goto zi216_62 rfl ?_
        refine zr_ireturn zi216_66 rfl ?_
        exact K _ _ _ _ _ ⟨rfl, (Or.inr (Or.inr ⟨rfl, ⟨k, w, hh, X, cl, mi, sp, KS, ⟨b, r, g, e, hk⟩, rfl, t, ht, rfl, l49, px49, by first | rw [if_pos q56] | rw [if_neg (by omega)]⟩⟩))⟩ ((((rNx.refl C).trans N2).trans (rNx.new C2 F49)).fit (by omega) (by omega)) C49
    · refine zr_aload_n zi216_30 rfl ?_
      refine zr_iconst (v := zJ 2) zi216_31 rfl ?_
      refine zr_virtual zi216_32 rfl rfl (C2.1.at0 rfl) rfl rfl ?_
      refine zcall_dep (d := 0) (Nat.le_of_ble_eq_true rfl) (c152 C2 (fun h32 N32 C32 e32 => zbk_v ?_))
      obtain ⟨qM32, mM32, GM32⟩ := C32.hd
      refine zr_ireturn zi216_35 rfl ?_
      exact K _ _ _ _ _ ⟨rfl, (Or.inr (Or.inl ⟨rfl, ⟨k, rlt_of hk, rfl⟩, fun hz => absurd (Y24.mpr ((zin_le (by omega)).mpr hz)) (by rw [q27]; decide)⟩))⟩ ((((rNx.refl C).trans N2).trans N32).fit (by omega) (by omega)) C32
  · refine zr_aload_n zi216_13 rfl ?_
    refine zr_iconst (v := zJ 1) zi216_14 rfl ?_
    refine zr_virtual zi216_15 rfl rfl (C2.1.at0 rfl) rfl rfl ?_
    refine zcall_dep (d := 0) (Nat.le_of_ble_eq_true rfl) (c152 C2 (fun h15 N15 C15 e15 => zbk_v ?_))
    obtain ⟨qM15, mM15, GM15⟩ := C15.hd
    refine zr_ireturn zi216_18 rfl ?_
    exact K _ _ _ _ _ ⟨rfl, (Or.inl ⟨rfl, (fun hz => absurd (Y7.mpr hz) (by rw [q10]; decide))⟩)⟩ ((((rNx.refl C).trans N2).trans N15).fit (by omega) (by omega)) C15
theorem c217 {E : zEnv} {h : zPH} {Q : zOut → zPH → Prop} {m le : Nat} {n0 n2 : Int32} {B : List rBS} (C : rC h E m le n0 n2 B) {x y : Int32} (K : ∀ h1 v n0 le1 B1, FP.Core.DFin v → (ms217 B x y n0 v B1) → rNx h h1 E m n2 n2 le B le1 B1 51 1442 → rC h1 E m le1 n0 n2 B1 → Q (.inl (some (.double v))) h1) : zcall E 15 217 [.ref m, .int x, .int y] h Q := by
  show zwp E _ 217 (0, [some (.ref _), some (.int _), some (.int _)], [], _) Q
  obtain ⟨qM0, mM0, GM0⟩ := C.hd
  refine zr_aload_n zi217_0 rfl ?_
  refine zr_iconst (v := zJ 0) zi217_1 rfl ?_
  refine zr_putfield zi217_2 (C.1.at0 rfl) rfl rfl ?_
  refine rC.wm (E := E) C (fun h2 N2 C2 e2 => ?_)
  obtain ⟨qM2, mM2, GM2⟩ := C2.hd
  refine zr_aload_n zi217_5 rfl ?_
  refine zr_iload_n zi217_6 rfl ?_
  refine zr_iload_n zi217_7 rfl ?_
  refine zr_virtual zi217_8 rfl rfl (C2.1.at0 rfl) rfl rfl ?_
  refine zcall_dep (d := 3) (Nat.le_of_ble_eq_true rfl) (c179 C2 (fun y8 Y8 => zbk_v ?_))
  refine zr_if_neB zi217_11 rfl (fun q11 => ?_) (fun q11 => ?_)
  · obtain ⟨k, b, r, g, e, w, hh, X, cl, mi, sp, KS, rfl, hk, c, hc, rfl⟩ := Y8.mp q11
    obtain ⟨⟨gw1, gw2, gh1, gh2⟩, ⟨l0, l1, l2, l3, lcl⟩, d1, d2, d3⟩ := (C2.bd hk).1.2.2.2
    have hwh := zwh_b (w := w) (hh := hh) ⟨gw1, gw2, gh1, gh2⟩
    have hkl := C2.2.2.1
    have hKS := (C2.bd hk).2.2.2.1
    have hki : k < B.length := by
      rcases Nat.lt_or_ge k B.length with z | z
      · exact z
      · rw [List.getElem?_eq_none z] at hk; cases hk
    refine zr_aload_n zi217_21 rfl ?_
    refine zr_getfield zi217_22 (C2.1.at0 rfl) rfl ?_
    refine zr_iload_n zi217_25 rfl ?_
    refine zr_iface zi217_26 rfl (GM2.at0 rfl) rfl rfl ?_
    refine zcall_dep (d := 2) (Nat.le_of_ble_eq_true rfl) (c164M C2 hk (zbk_v ?_))
    have D26 := C2.bd hk
    have P26 := D26.1
    obtain ⟨qg26, mg26, Lg26⟩ := D26.hd
    refine zr_checkcast zi217_31 (P26.1.at0 rfl) rfl ?_
    refine zr_virtual zi217_34 rfl rfl (P26.1.at0 rfl) rfl rfl ?_
    refine zcall_dep (d := 14) (Nat.le_of_ble_eq_true rfl) (c182 P26 (fun h34 q34 l34 F34 i34 j34 X34 px34 hl34 => zbk_v ?_))
    have C34 := rC.nw C2 F34
    obtain ⟨qM34, mM34, GM34⟩ := C34.hd
    have D34 := C34.bd hk
    have P34 := D34.1
    obtain ⟨qg34, mg34, Lg34⟩ := D34.hd
    refine zr_iload_n zi217_37 rfl ?_
    refine zr_static zi217_38 rfl rfl rfl rfl ?_
    refine zcall_dep (d := 1) (Nat.le_of_ble_eq_true rfl) (c218 X34 hl34 (fun v38 M38 ev38 => zbk_v ?_))
    subst ev38
    refine zr_dreturn zi217_41 rfl ?_
    exact K _ _ _ _ _ (yDF_of M38 (by omega)) ⟨rfl, Or.inr ⟨rfl, ⟨k, w, hh, X, cl, mi, sp, KS, ⟨b, r, g, e, hk⟩, rfl, c, hc, rfl, l34, px34, rfl⟩⟩⟩ ((((rNx.refl C).trans N2).trans (rNx.new C2 F34)).fit (by omega) (by omega)) C34
  · refine zr_aload_n zi217_14 rfl ?_
    refine zr_iconst (v := zJ 1) zi217_15 rfl ?_
    refine zr_virtual zi217_16 rfl rfl (C2.1.at0 rfl) rfl rfl ?_
    refine zcall_dep (d := 0) (Nat.le_of_ble_eq_true rfl) (c152 C2 (fun h16 N16 C16 e16 => zbk_v ?_))
    obtain ⟨qM16, mM16, GM16⟩ := C16.hd
    refine zr_i2d zi217_19 ?_
    refine zr_dreturn zi217_20 rfl ?_
    exact K _ _ _ _ _ (yDF_of (yM_i2d _) (by omega)) ⟨rfl, Or.inl ⟨rfl, (fun k w hh X cl mi sp KS ⟨b, r, g, e, hk⟩ ex hz => absurd (Y8.mpr ⟨k, b, r, g, e, w, hh, X, cl, mi, sp, KS, ex, hk, hz⟩) (by rw [q11]; decide))⟩⟩ ((((rNx.refl C).trans N2).trans N16).fit (by omega) (by omega)) C16
theorem c220 {E : zEnv} {h : zPH} {Q : zOut → zPH → Prop} {m le : Nat} {n0 n2 : Int32} {B : List rBS} (C : rC h E m le n0 n2 B) {x y : Int32} (K : ∀ h1 v n0 le1 B1, FP.Core.DFin v → (ms220 B x y n0 v B1) → rNx h h1 E m n2 n2 le B le1 B1 51 1442 → rC h1 E m le1 n0 n2 B1 → Q (.inl (some (.double v))) h1) : zcall E 15 220 [.ref m, .int x, .int y] h Q := by
  show zwp E _ 220 (0, [some (.ref _), some (.int _), some (.int _), none], [], _) Q
  obtain ⟨qM0, mM0, GM0⟩ := C.hd
  refine zr_aload_n zi220_0 rfl ?_
  refine zr_iconst (v := zJ 0) zi220_1 rfl ?_
  refine zr_putfield zi220_2 (C.1.at0 rfl) rfl rfl ?_
  refine rC.wm (E := E) C (fun h2 N2 C2 e2 => ?_)
  obtain ⟨qM2, mM2, GM2⟩ := C2.hd
  refine zr_aload_n zi220_5 rfl ?_
  refine zr_iload_n zi220_6 rfl ?_
  refine zr_virtual zi220_7 rfl rfl (C2.1.at0 rfl) rfl rfl ?_
  refine zcall_dep (d := 1) (Nat.le_of_ble_eq_true rfl) (c163 C2 (fun y7 Y7 => zbk_v ?_))
  refine zr_if_neB zi220_10 rfl (fun q10 => ?_) (fun q10 => ?_)
  · obtain ⟨k, rfl, b, r, g, e, w, hh, X, cl, mi, sp, KS, hk⟩ := rC.at (Y7.mp q10)
    obtain ⟨⟨gw1, gw2, gh1, gh2⟩, ⟨l0, l1, l2, l3, lcl⟩, d1, d2, d3⟩ := (C2.bd hk).1.2.2.2
    have hwh := zwh_b (w := w) (hh := hh) ⟨gw1, gw2, gh1, gh2⟩
    have hkl := C2.2.2.1
    have hKS := (C2.bd hk).2.2.2.1
    have hki : k < B.length := by
      rcases Nat.lt_or_ge k B.length with z | z
      · exact z
      · rw [List.getElem?_eq_none z] at hk; cases hk
    refine zr_iload_n zi220_20 rfl ?_
    refine zr_iconst (v := zJ 0) zi220_21 rfl ?_
    refine zr_iconst (v := zJ 1) zi220_22 rfl ?_
    refine zr_static zi220_23 rfl rfl rfl rfl ?_
    refine zcall_dep (d := 0) (Nat.le_of_ble_eq_true rfl) (c151 (fun y23 Y23 => zbk_v ?_))
    refine zr_if_neB zi220_26 rfl (fun q26 => ?_) (fun q26 => ?_)
    · obtain ⟨t, ht, rfl⟩ := (zin_le (by omega)).mp (Y23.mp q26)
      refine zr_aload_n zi220_36 rfl ?_
      refine zr_getfield zi220_37 (C2.1.at0 rfl) rfl ?_
      refine zr_iload_n zi220_40 rfl ?_
      refine zr_iface zi220_41 rfl (GM2.at0 rfl) rfl rfl ?_
      refine zcall_dep (d := 2) (Nat.le_of_ble_eq_true rfl) (c164M C2 hk (zbk_v ?_))
      have D41 := C2.bd hk
      have P41 := D41.1
      obtain ⟨qg41, mg41, Lg41⟩ := D41.hd
      refine zr_checkcast zi220_46 (P41.1.at0 rfl) rfl ?_
      refine zr_astore_n (L' := [some (.ref _), some (.int (zJ _)), some (.int (zJ _)), some (.ref _)]) zi220_49 rfl rfl ?_
      refine zr_iload_n zi220_50 rfl ?_
      refine zr_if_neN zi220_51 rfl (by omega) (fun q51 => ?_) (fun q51 => ?_)
      · refine zr_aload_n zi220_61 rfl ?_
        refine zr_aload_n zi220_62 rfl ?_
        refine zr_virtual zi220_63 rfl rfl (P41.1.at0 rfl) rfl rfl ?_
        refine zcall_dep (d := 14) (Nat.le_of_ble_eq_true rfl) (c182 P41 (fun h63 q63 l63 F63 i63 j63 X63 px63 hl63 => zbk_v ?_))
        have C63 := rC.nw C2 F63
        obtain ⟨qM63, mM63, GM63⟩ := C63.hd
        have D63 := C63.bd hk
        have P63 := D63.1
        obtain ⟨qg63, mg63, Lg63⟩ := D63.hd
        refine zr_static zi220_66 rfl rfl rfl rfl ?_
        refine zcall_dep (d := 1) (Nat.le_of_ble_eq_true rfl) (c222 P63 X63 hl63 (fun v66 M66 ev66 => zbk_v ?_))
        subst ev66
        refine zr_f2d zi220_69 (yzn_of (yDF_f2d M66 (by omega)).notNaN) ?_
        refine zr_dreturn zi220_70 rfl ?_
        exact K _ _ _ _ _ (yDF_f2d M66 (by omega)) ⟨rfl, (Or.inr (Or.inr ⟨rfl, ⟨k, w, hh, X, cl, mi, sp, KS, ⟨b, r, g, e, hk⟩, rfl, t, ht, rfl, Or.inr ⟨q51, l63, px63, rfl⟩⟩⟩))⟩ ((((rNx.refl C).trans N2).trans (rNx.new C2 F63)).fit (by omega) (by omega)) C63
      · refine zr_aload_n zi220_54 rfl ?_
        refine zr_static zi220_55 rfl rfl rfl rfl ?_
        refine zcall_dep (d := 4) (Nat.le_of_ble_eq_true rfl) (c221 P41 (fun v55 M55 ev55 => zbk_v ?_))
        subst ev55
        refine zr_goto zi220_58 rfl ?_
        refine zr_dreturn zi220_70 rfl ?_
        exact K _ _ _ _ _ (yDF_of M55 (by omega)) ⟨rfl, (Or.inr (Or.inr ⟨rfl, ⟨k, w, hh, X, cl, mi, sp, KS, ⟨b, r, g, e, hk⟩, rfl, t, ht, rfl, Or.inl ⟨q51, rfl⟩⟩⟩))⟩ (((rNx.refl C).trans N2).fit (by omega) (by omega)) C2
    · refine zr_aload_n zi220_29 rfl ?_
      refine zr_iconst (v := zJ 2) zi220_30 rfl ?_
      refine zr_virtual zi220_31 rfl rfl (C2.1.at0 rfl) rfl rfl ?_
      refine zcall_dep (d := 0) (Nat.le_of_ble_eq_true rfl) (c152 C2 (fun h31 N31 C31 e31 => zbk_v ?_))
      obtain ⟨qM31, mM31, GM31⟩ := C31.hd
      refine zr_i2d zi220_34 ?_
      refine zr_dreturn zi220_35 rfl ?_
      exact K _ _ _ _ _ (yDF_of (yM_i2d _) (by omega)) ⟨rfl, (Or.inr (Or.inl ⟨rfl, ⟨k, rlt_of hk, rfl⟩, fun hz => absurd (Y23.mpr ((zin_le (by omega)).mpr hz)) (by rw [q26]; decide)⟩))⟩ ((((rNx.refl C).trans N2).trans N31).fit (by omega) (by omega)) C31
  · refine zr_aload_n zi220_13 rfl ?_
    refine zr_iconst (v := zJ 1) zi220_14 rfl ?_
    refine zr_virtual zi220_15 rfl rfl (C2.1.at0 rfl) rfl rfl ?_
    refine zcall_dep (d := 0) (Nat.le_of_ble_eq_true rfl) (c152 C2 (fun h15 N15 C15 e15 => zbk_v ?_))
    obtain ⟨qM15, mM15, GM15⟩ := C15.hd
    refine zr_i2d zi220_18 ?_
    refine zr_dreturn zi220_19 rfl ?_
    exact K _ _ _ _ _ (yDF_of (yM_i2d _) (by omega)) ⟨rfl, (Or.inl ⟨rfl, (fun hz => absurd (Y7.mpr hz) (by rw [q10]; decide))⟩)⟩ ((((rNx.refl C).trans N2).trans N15).fit (by omega) (by omega)) C15
theorem c225 {E : zEnv} {h : zPH} {Q : zOut → zPH → Prop} {m le : Nat} {n0 n2 : Int32} {B : List rBS} (C : rC h E m le n0 n2 B) {x : Int32} (K : ∀ h1 v n0 le1 B1, (ms225 B x n0 v B1) → rNx h h1 E m n2 n2 le B le1 B1 0 0 → rC h1 E m le1 n0 n2 B1 → Q (.inl (some (.int v))) h1) : zcall E 5 225 [.ref m, .int x] h Q := by
  show zwp E _ 225 (0, [some (.ref _), some (.int _)], [], _) Q
  obtain ⟨qM0, mM0, GM0⟩ := C.hd
  refine zr_aload_n zi225_0 rfl ?_
  refine zr_iconst (v := zJ 0) zi225_1 rfl ?_
  refine zr_putfield zi225_2 (C.1.at0 rfl) rfl rfl ?_
  refine rC.wm (E := E) C (fun h2 N2 C2 e2 => ?_)
  obtain ⟨qM2, mM2, GM2⟩ := C2.hd
  refine zr_aload_n zi225_5 rfl ?_
  refine zr_iload_n zi225_6 rfl ?_
  refine zr_virtual zi225_7 rfl rfl (C2.1.at0 rfl) rfl rfl ?_
  refine zcall_dep (d := 1) (Nat.le_of_ble_eq_true rfl) (c163 C2 (fun y7 Y7 => zbk_v ?_))
  refine zr_if_neB zi225_10 rfl (fun q10 => ?_) (fun q10 => ?_)
  · obtain ⟨k, rfl, b, r, g, e, w, hh, X, cl, mi, sp, KS, hk⟩ := rC.at (Y7.mp q10)
    obtain ⟨⟨gw1, gw2, gh1, gh2⟩, ⟨l0, l1, l2, l3, lcl⟩, d1, d2, d3⟩ := (C2.bd hk).1.2.2.2
    have hwh := zwh_b (w := w) (hh := hh) ⟨gw1, gw2, gh1, gh2⟩
    have hkl := C2.2.2.1
    have hKS := (C2.bd hk).2.2.2.1
    have hki : k < B.length := by
      rcases Nat.lt_or_ge k B.length with z | z
      · exact z
      · rw [List.getElem?_eq_none z] at hk; cases hk
    refine zr_aload_n zi225_19 rfl ?_
    refine zr_getfield zi225_20 (C2.1.at0 rfl) rfl ?_
    refine zr_iload_n zi225_23 rfl ?_
    refine zr_iface zi225_24 rfl (GM2.at0 rfl) rfl rfl ?_
    refine zcall_dep (d := 2) (Nat.le_of_ble_eq_true rfl) (c164M C2 hk (zbk_v ?_))
    have D24 := C2.bd hk
    have P24 := D24.1
    obtain ⟨qg24, mg24, Lg24⟩ := D24.hd
    refine zr_checkcast zi225_29 (P24.1.at0 rfl) rfl ?_
    refine zr_static zi225_32 rfl rfl rfl rfl ?_
    refine zcall_dep (d := 4) (Nat.le_of_ble_eq_true rfl) (c226 P24 (fun v32 ev32 => zbk_v ?_))
    subst ev32
    refine zr_ireturn zi225_35 rfl ?_
    exact K _ _ _ _ _ ⟨rfl, Or.inr ⟨rfl, ⟨k, w, hh, X, cl, mi, sp, KS, ⟨b, r, g, e, hk⟩, rfl, rfl⟩⟩⟩ (((rNx.refl C).trans N2).fit (by omega) (by omega)) C2
  · refine zr_aload_n zi225_13 rfl ?_
    refine zr_iconst (v := zJ 1) zi225_14 rfl ?_
    refine zr_virtual zi225_15 rfl rfl (C2.1.at0 rfl) rfl rfl ?_
    refine zcall_dep (d := 0) (Nat.le_of_ble_eq_true rfl) (c152 C2 (fun h15 N15 C15 e15 => zbk_v ?_))
    obtain ⟨qM15, mM15, GM15⟩ := C15.hd
    refine zr_ireturn zi225_18 rfl ?_
    exact K _ _ _ _ _ ⟨rfl, Or.inl ⟨rfl, (fun hz => absurd (Y7.mpr hz) (by rw [q10]; decide))⟩⟩ ((((rNx.refl C).trans N2).trans N15).fit (by omega) (by omega)) C15
theorem c227 {E : zEnv} {h : zPH} {Q : zOut → zPH → Prop} {m le : Nat} {n0 n2 : Int32} {B : List rBS} (C : rC h E m le n0 n2 B) {x : Int32} (K : ∀ h1 v n0 le1 B1, (ms227 B x n0 v B1) → rNx h h1 E m n2 n2 le B le1 B1 51 1442 → rC h1 E m le1 n0 n2 B1 → Q (.inl (some (.int v))) h1) : zcall E 15 227 [.ref m, .int x] h Q := by
  show zwp E _ 227 (0, [some (.ref _), some (.int _)], [], _) Q
  obtain ⟨qM0, mM0, GM0⟩ := C.hd
  refine zr_aload_n zi227_0 rfl ?_
  refine zr_iconst (v := zJ 0) zi227_1 rfl ?_
  refine zr_putfield zi227_2 (C.1.at0 rfl) rfl rfl ?_
  refine rC.wm (E := E) C (fun h2 N2 C2 e2 => ?_)
  obtain ⟨qM2, mM2, GM2⟩ := C2.hd
  refine zr_aload_n zi227_5 rfl ?_
  refine zr_iload_n zi227_6 rfl ?_
  refine zr_virtual zi227_7 rfl rfl (C2.1.at0 rfl) rfl rfl ?_
  refine zcall_dep (d := 1) (Nat.le_of_ble_eq_true rfl) (c163 C2 (fun y7 Y7 => zbk_v ?_))
  refine zr_if_neB zi227_10 rfl (fun q10 => ?_) (fun q10 => ?_)
  · obtain ⟨k, rfl, b, r, g, e, w, hh, X, cl, mi, sp, KS, hk⟩ := rC.at (Y7.mp q10)
    obtain ⟨⟨gw1, gw2, gh1, gh2⟩, ⟨l0, l1, l2, l3, lcl⟩, d1, d2, d3⟩ := (C2.bd hk).1.2.2.2
    have hwh := zwh_b (w := w) (hh := hh) ⟨gw1, gw2, gh1, gh2⟩
    have hkl := C2.2.2.1
    have hKS := (C2.bd hk).2.2.2.1
    have hki : k < B.length := by
      rcases Nat.lt_or_ge k B.length with z | z
      · exact z
      · rw [List.getElem?_eq_none z] at hk; cases hk
    refine zr_aload_n zi227_19 rfl ?_
    refine zr_getfield zi227_20 (C2.1.at0 rfl) rfl ?_
    refine zr_iload_n zi227_23 rfl ?_
    refine zr_iface zi227_24 rfl (GM2.at0 rfl) rfl rfl ?_
    refine zcall_dep (d := 2) (Nat.le_of_ble_eq_true rfl) (c164M C2 hk (zbk_v ?_))
    have D24 := C2.bd hk
    have P24 := D24.1
    obtain ⟨qg24, mg24, Lg24⟩ := D24.hd
    refine zr_checkcast zi227_29 (P24.1.at0 rfl) rfl ?_
    refine zr_aload_n zi227_32 rfl ?_
    refine zr_getfield zi227_33 (C2.1.at0 rfl) rfl ?_
    refine zr_iload_n zi227_36 rfl ?_
    refine zr_iface zi227_37 rfl (GM2.at0 rfl) rfl rfl ?_
    refine zcall_dep (d := 2) (Nat.le_of_ble_eq_true rfl) (c164M C2 hk (zbk_v ?_))
    have D37 := C2.bd hk
    have P37 := D37.1
    obtain ⟨qg37, mg37, Lg37⟩ := D37.hd
    refine zr_checkcast zi227_42 (P37.1.at0 rfl) rfl ?_
    refine zr_virtual zi227_45 rfl rfl (P37.1.at0 rfl) rfl rfl ?_
    refine zcall_dep (d := 14) (Nat.le_of_ble_eq_true rfl) (c182 P37 (fun h45 q45 l45 F45 i45 j45 X45 px45 hl45 => zbk_v ?_))
    have C45 := rC.nw C2 F45
    obtain ⟨qM45, mM45, GM45⟩ := C45.hd
    have D45 := C45.bd hk
    have P45 := D45.1
    obtain ⟨qg45, mg45, Lg45⟩ := D45.hd
    refine zr_static zi227_48 rfl rfl rfl rfl ?_
    refine zcall_dep (d := 2) (Nat.le_of_ble_eq_true rfl) (c228 P45 X45 hl45 (fun v48 ev48 => zbk_v ?_))
    subst ev48
    refine zr_ireturn zi227_51 rfl ?_
    exact K _ _ _ _ _ ⟨rfl, Or.inr ⟨rfl, ⟨k, w, hh, X, cl, mi, sp, KS, ⟨b, r, g, e, hk⟩, rfl, l45, px45, rfl⟩⟩⟩ ((((rNx.refl C).trans N2).trans (rNx.new C2 F45)).fit (by omega) (by omega)) C45
  · refine zr_aload_n zi227_13 rfl ?_
    refine zr_iconst (v := zJ 1) zi227_14 rfl ?_
    refine zr_virtual zi227_15 rfl rfl (C2.1.at0 rfl) rfl rfl ?_
    refine zcall_dep (d := 0) (Nat.le_of_ble_eq_true rfl) (c152 C2 (fun h15 N15 C15 e15 => zbk_v ?_))
    obtain ⟨qM15, mM15, GM15⟩ := C15.hd
    refine zr_ireturn zi227_18 rfl ?_
    exact K _ _ _ _ _ ⟨rfl, Or.inl ⟨rfl, (fun hz => absurd (Y7.mpr hz) (by rw [q10]; decide))⟩⟩ ((((rNx.refl C).trans N2).trans N15).fit (by omega) (by omega)) C15
theorem c230 {E : zEnv} {h : zPH} {Q : zOut → zPH → Prop} {m le : Nat} {n0 n2 : Int32} {B : List rBS} (C : rC h E m le n0 n2 B) {x : Int32} (K : ∀ h1 v n0 le1 B1, (ms230 B x n0 v B1) → rNx h h1 E m n2 n2 le B le1 B1 51 1442 → rC h1 E m le1 n0 n2 B1 → Q (.inl (some (.int v))) h1) : zcall E 15 230 [.ref m, .int x] h Q := by
  show zwp E _ 230 (0, [some (.ref _), some (.int _)], [], _) Q
  obtain ⟨qM0, mM0, GM0⟩ := C.hd
  refine zr_aload_n zi230_0 rfl ?_
  refine zr_iconst (v := zJ 0) zi230_1 rfl ?_
  refine zr_putfield zi230_2 (C.1.at0 rfl) rfl rfl ?_
  refine rC.wm (E := E) C (fun h2 N2 C2 e2 => ?_)
  obtain ⟨qM2, mM2, GM2⟩ := C2.hd
  refine zr_aload_n zi230_5 rfl ?_
  refine zr_iload_n zi230_6 rfl ?_
  refine zr_virtual zi230_7 rfl rfl (C2.1.at0 rfl) rfl rfl ?_
  refine zcall_dep (d := 1) (Nat.le_of_ble_eq_true rfl) (c163 C2 (fun y7 Y7 => zbk_v ?_))
  refine zr_if_neB zi230_10 rfl (fun q10 => ?_) (fun q10 => ?_)
  · obtain ⟨k, rfl, b, r, g, e, w, hh, X, cl, mi, sp, KS, hk⟩ := rC.at (Y7.mp q10)
    obtain ⟨⟨gw1, gw2, gh1, gh2⟩, ⟨l0, l1, l2, l3, lcl⟩, d1, d2, d3⟩ := (C2.bd hk).1.2.2.2
    have hwh := zwh_b (w := w) (hh := hh) ⟨gw1, gw2, gh1, gh2⟩
    have hkl := C2.2.2.1
    have hKS := (C2.bd hk).2.2.2.1
    have hki : k < B.length := by
      rcases Nat.lt_or_ge k B.length with z | z
      · exact z
      · rw [List.getElem?_eq_none z] at hk; cases hk
    refine zr_aload_n zi230_19 rfl ?_
    refine zr_getfield zi230_20 (C2.1.at0 rfl) rfl ?_
    refine zr_iload_n zi230_23 rfl ?_
    refine zr_iface zi230_24 rfl (GM2.at0 rfl) rfl rfl ?_
    refine zcall_dep (d := 2) (Nat.le_of_ble_eq_true rfl) (c164M C2 hk (zbk_v ?_))
    have D24 := C2.bd hk
    have P24 := D24.1
    obtain ⟨qg24, mg24, Lg24⟩ := D24.hd
    refine zr_checkcast zi230_29 (P24.1.at0 rfl) rfl ?_
    refine zr_aload_n zi230_32 rfl ?_
    refine zr_getfield zi230_33 (C2.1.at0 rfl) rfl ?_
    refine zr_iload_n zi230_36 rfl ?_
    refine zr_iface zi230_37 rfl (GM2.at0 rfl) rfl rfl ?_
    refine zcall_dep (d := 2) (Nat.le_of_ble_eq_true rfl) (c164M C2 hk (zbk_v ?_))
    have D37 := C2.bd hk
    have P37 := D37.1
    obtain ⟨qg37, mg37, Lg37⟩ := D37.hd
    refine zr_checkcast zi230_42 (P37.1.at0 rfl) rfl ?_
    refine zr_virtual zi230_45 rfl rfl (P37.1.at0 rfl) rfl rfl ?_
    refine zcall_dep (d := 14) (Nat.le_of_ble_eq_true rfl) (c182 P37 (fun h45 q45 l45 F45 i45 j45 X45 px45 hl45 => zbk_v ?_))
    have C45 := rC.nw C2 F45
    obtain ⟨qM45, mM45, GM45⟩ := C45.hd
    have D45 := C45.bd hk
    have P45 := D45.1
    obtain ⟨qg45, mg45, Lg45⟩ := D45.hd
    refine zr_static zi230_48 rfl rfl rfl rfl ?_
    refine zcall_dep (d := 2) (Nat.le_of_ble_eq_true rfl) (c231 P45 X45 hl45 (fun v48 ev48 => zbk_v ?_))
    subst ev48
    refine zr_ireturn zi230_51 rfl ?_
    exact K _ _ _ _ _ ⟨rfl, Or.inr ⟨rfl, ⟨k, w, hh, X, cl, mi, sp, KS, ⟨b, r, g, e, hk⟩, rfl, l45, px45, rfl⟩⟩⟩ ((((rNx.refl C).trans N2).trans (rNx.new C2 F45)).fit (by omega) (by omega)) C45
  · refine zr_aload_n zi230_13 rfl ?_
    refine zr_iconst (v := zJ 1) zi230_14 rfl ?_
    refine zr_virtual zi230_15 rfl rfl (C2.1.at0 rfl) rfl rfl ?_
    refine zcall_dep (d := 0) (Nat.le_of_ble_eq_true rfl) (c152 C2 (fun h15 N15 C15 e15 => zbk_v ?_))
    obtain ⟨qM15, mM15, GM15⟩ := C15.hd
    refine zr_ireturn zi230_18 rfl ?_
    exact K _ _ _ _ _ ⟨rfl, Or.inl ⟨rfl, (fun hz => absurd (Y7.mpr hz) (by rw [q10]; decide))⟩⟩ ((((rNx.refl C).trans N2).trans N15).fit (by omega) (by omega)) C15
