/-! ===== the hall: walks ===== -/
theorem ylt_of {γ : Type} {l : List γ} {k : Nat} {b : γ} (hk : l[k]? = some b) : k < l.length := by
  rcases Nat.lt_or_ge k l.length with q | q
  · exact q
  · rw [List.getElem?_eq_none q] at hk; cases hk
theorem c13k {E : zEnv} {h : zPH} {Q : zOut → zPH → Prop} {a : Nat} {bs : List Nat} {rf : Int32} {τ : yGS} {α : yAS} (H : yH h a bs rf τ α) {k b : Nat} (hk : bs[k]? = some b) (K : Q (.inl (some (.ref b))) h) : zcall E 0 13 [.ref a, .int (zJ k)] h Q := by
  have hl := ylt_of hk
  have hb := H.2.2.2
  show zwp E _ 13 (0, [some (.ref _), some (.int (zJ _)), none], [], _) Q
  refine zr_iload_n zi13_0 rfl ?_
  refine zr_if_ltN zi13_1 rfl (by omega) ?_
  refine zr_iload_n zi13_4 rfl ?_
  refine zr_aload_n zi13_5 rfl ?_
  refine zr_getfield zi13_6 (H.1.at0 rfl) rfl ?_
  refine zr_arraylength (v := zJ 3) zi13_9 (H.1.at 1 rfl) rfl (by show Int32.ofNat (zbs _).length = zJ 3; rw [zbs_len H.2.2.2]; rfl) ?_
  refine zr_icmp_geN zi13_10 rfl (by omega) (by omega) (fun q10 => absurd q10 (by omega)) (fun q10 => ?_)
  refine zr_aload_n zi13_13 rfl ?_
  refine zr_getfield zi13_14 (H.1.at0 rfl) rfl ?_
  refine zr_iload_n zi13_17 rfl ?_
  refine zr_aaloadN zi13_18 (H.1.at 1 rfl) rfl (by omega) (zbs_lt hk) ?_
  refine zr_goto zi13_19 rfl ?_
  refine zr_astore_n (L' := [some (.ref _), some (.int (zJ _)), some (.ref _)]) zi13_23 rfl rfl ?_
  refine zr_aload_n zi13_24 rfl ?_
  refine zr_ifnonnull zi13_25 rfl ?_
  refine zr_aload_n zi13_39 rfl ?_
  refine zr_areturn zi13_40 rfl ?_
  exact K
theorem c13n {E : zEnv} {h : zPH} {Q : zOut → zPH → Prop} {a : Nat} {bs : List Nat} {rf : Int32} {τ : yGS} {α : yAS} (H : yH h a bs rf τ α) {k : Nat} (h3 : k < 3) (hk : bs.length ≤ k) (X : Q (.inr 2) (zex h)) : zcall E 0 13 [.ref a, .int (zJ k)] h Q := by
  have hb := H.2.2.2
  show zwp E _ 13 (0, [some (.ref _), some (.int (zJ _)), none], [], _) Q
  refine zr_iload_n zi13_0 rfl ?_
  refine zr_if_ltN zi13_1 rfl (by omega) ?_
  refine zr_iload_n zi13_4 rfl ?_
  refine zr_aload_n zi13_5 rfl ?_
  refine zr_getfield zi13_6 (H.1.at0 rfl) rfl ?_
  refine zr_arraylength (v := zJ 3) zi13_9 (H.1.at 1 rfl) rfl (by show Int32.ofNat (zbs _).length = zJ 3; rw [zbs_len H.2.2.2]; rfl) ?_
  refine zr_icmp_geN zi13_10 rfl (by omega) (by omega) (fun q10 => absurd q10 (by omega)) (fun q10 => ?_)
  refine zr_aload_n zi13_13 rfl ?_
  refine zr_getfield zi13_14 (H.1.at0 rfl) rfl ?_
  refine zr_iload_n zi13_17 rfl ?_
  refine zr_aaloadN zi13_18 (H.1.at 1 rfl) rfl (by omega) (zbs_ge h3 hb hk) ?_
  refine zr_goto zi13_19 rfl ?_
  refine zr_astore_n_N (L' := [some (.ref _), some (.int (zJ _)), some .null]) zi13_23 rfl rfl ?_
  refine zr_aload_n_N zi13_24 rfl ?_
  refine zr_ifnonnull_N zi13_25 ?_
  refine zr_throw zi13_28 rfl rfl rfl ?_
  exact X
theorem yin3 {x : Int32} {n : Nat} (h0 : ¬ x < 0) (h1 : ¬ zJ n ≤ x) (hn : n < 2147483648) : zin x n := by
  obtain ⟨k, hk, rfl⟩ := zJ_of h0
  exact ⟨k, Nat.lt_of_not_le fun q => h1 ((zJ_le hn hk).mpr q), rfl⟩
theorem c13r {E : zEnv} {h : zPH} {Q : zOut → zPH → Prop} {a : Nat} {bs : List Nat} {rf : Int32} {τ : yGS} {α : yAS} (H : yH h a bs rf τ α) {x : Int32} (hx : ¬ zin x 3) (X : Q (.inr 2) (zex h)) : zcall E 0 13 [.ref a, .int x] h Q := by
  show zwp E _ 13 (0, [some (.ref _), some (.int _), none], [], _) Q
  refine zr_iload_n zi13_0 rfl ?_
  refine zr_if_lt zi13_1 rfl (fun q1 => ?_) (fun q1 => ?_)
  · refine zr_null zi13_22 ?_
    refine zr_astore_n_N (L' := [some (.ref _), some (.int _), some .null]) zi13_23 rfl rfl ?_
    refine zr_aload_n_N zi13_24 rfl ?_
    refine zr_ifnonnull_N zi13_25 ?_
    refine zr_throw zi13_28 rfl rfl rfl ?_
    exact X
  · refine zr_iload_n zi13_4 rfl ?_
    refine zr_aload_n zi13_5 rfl ?_
    refine zr_getfield zi13_6 (H.1.at0 rfl) rfl ?_
    refine zr_arraylength (v := zJ 3) zi13_9 (H.1.at 1 rfl) rfl (by show Int32.ofNat (zbs _).length = zJ 3; rw [zbs_len H.2.2.2]; rfl) ?_
    refine zr_icmp_ge zi13_10 rfl (fun q10 => ?_) (fun q10 => absurd (yin3 q1 q10 (by omega)) hx)
    refine zr_null zi13_22 ?_
    refine zr_astore_n_N (L' := [some (.ref _), some (.int _), some .null]) zi13_23 rfl rfl ?_
    refine zr_aload_n_N zi13_24 rfl ?_
    refine zr_ifnonnull_N zi13_25 ?_
    refine zr_throw zi13_28 rfl rfl rfl ?_
    exact X
theorem c13 {E : zEnv} {h : zPH} {Q : zOut → zPH → Prop} {a : Nat} {L : List yBS} {rf : Int32} {τ : yGS} {αt : yAS} (C : yC h a L rf τ αt) {x : Int32} (K : ∀ k β, L[k]? = some β → x = zJ k → Q (.inl (some (.ref β.1))) h) (X : ¬ zin x L.length → Q (.inr 2) (zex h)) : zcall E 0 13 [.ref a, .int x] h Q := by
  have hb := C.len
  by_cases h3 : zin x 3
  · obtain ⟨k, hk3, rfl⟩ := h3
    rcases Nat.lt_or_ge k L.length with q | q
    · have hk : L[k]? = some L[k] := List.getElem?_eq_getElem q
      exact c13k C.1 (b := L[k].1) (by rw [List.getElem?_map, hk]; rfl) (K k _ hk rfl)
    · refine c13n C.1 hk3 (by rw [List.length_map]; exact q) (X ?_)
      rintro ⟨i, hi, e⟩
      have := (zJ_eq (by omega) (by omega)).mp e
      omega
  · refine c13r C.1 h3 (X ?_)
    rintro ⟨i, hi, e⟩
    exact h3 ⟨i, by omega, e⟩
theorem c9 {E : zEnv} {h : zPH} {Q : zOut → zPH → Prop} {a : Nat} {L : List yBS} {rf : Int32} {τ : yGS} {αt : yAS} (C : yC h a L rf τ αt) (K : yK Q h a L L (rf + zJ 1) 0 0 (.inl (some (.int (rf + zJ 1))))) : zcall E 0 9 [.ref a] h Q := by
  have H := C.1
  have hlen := C.len
  have hbl : (L.map (·.1)).length = L.length := by rw [List.length_map]
  show zwp E _ 9 (0, [some (.ref _)], [], _) Q
  refine zr_aload_n zi9_0 rfl ?_
  refine zr_dup zi9_1 rfl ?_
  refine zr_getfield zi9_2 (H.1.at0 rfl) rfl ?_
  refine zr_iconst (v := zJ 1) zi9_5 rfl ?_
  refine zr_iadd zi9_6 ?_
  refine zr_putfield zi9_7 (H.1.at0 rfl) rfl rfl ?_
  refine yH.wob H (fun h7 F7 H7 => ?_)
  refine zr_aload_n zi9_10 rfl ?_
  refine zr_getfield zi9_11 (H7.1.at0 rfl) rfl ?_
  refine zr_ireturn zi9_14 rfl ?_
  exact K _ _ _ _ (yEqA.refl L) F7.ph ⟨H7, fun β hβ => (C.2.1 β hβ).fr F7 (fun x z1 z2 z3 => by have := C.2.2.1 β hβ; have := z3.2; omega), C.2.2⟩
def zicF (n : Nat) : Nat → Nat → Int32 → Bool
  | 0, _, acc => decide (acc ≤ zJ n)
  | f + 1, k, acc => if k = 0 then decide (acc ≤ zJ n) else if k % 10 = 0 then false else zicF n f (k / 10) (acc + zJ (k % 10 + 1))
def zic (x : Int32) (n : Nat) : Bool := if 0 < x then zicF n 10 x.toNatClampNeg (-1) else decide (x = 0)
theorem zicF_0 (n f : Nat) (acc : Int32) : zicF n f 0 acc = decide (acc ≤ zJ n) := by cases f <;> simp [zicF]
theorem zicF_s {n f k : Nat} {acc : Int32} (h0 : 0 < k) (hf : k < 10 ^ f) : ∃ f', f = f' + 1 ∧ k / 10 < 10 ^ f' ∧ zicF n f k acc = if k % 10 = 0 then false else zicF n f' (k / 10) (acc + zJ (k % 10 + 1)) := by
  cases f with
  | zero => exact absurd hf (by simp; omega)
  | succ f =>
    refine ⟨f, rfl, ?_, ?_⟩
    · rw [Nat.pow_succ] at hf
      omega
    · rw [zicF, if_neg (by omega)]
theorem c72 {E : zEnv} {h : zPH} {Q : zOut → zPH → Prop} {x : Int32} {n : Nat} (hn : n < 1000) (K : Q (.inl (some (.int (zB (zic x n))))) h) : zcall E 0 72 [.int x, .int (zJ n)] h Q := by
  show zwp E _ 72 (0, [some (.int _), some (.int (zJ _)), none, none], [], _) Q
  refine zr_iload_n zi72_0 rfl ?_
  refine zr_if_gt zi72_1 rfl (fun q1 => ?_) (fun q1 => ?_)
  · obtain ⟨n0, hn0, rfl⟩ := zJ_of (zgt_nn q1)
    rw [zic, if_pos q1, zJ_c hn0] at K
    refine zr_iconst (v := (-1)) zi72_14 rfl ?_
    refine zr_istore_n (L' := [some (.int (zJ _)), some (.int (zJ _)), some (.int _), none]) zi72_15 rfl rfl ?_
    refine zr_iload_n zi72_16 rfl ?_
    refine zr_istore_n (L' := [some (.int (zJ _)), some (.int (zJ _)), some (.int _), some (.int (zJ _))]) zi72_17 rfl rfl ?_
    suffices key18 : ∀ k, ∀ f acc, (k < 10 ^ f) → (k < 2147483648) → (zicF n f k acc = zicF n 10 n0 (-1)) → zwp E 0 72 (18, [some (.int (zJ n0)), some (.int (zJ n)), some (.int acc), some (.int (zJ k))], [], h) Q from key18 n0 10 (-1) (by omega) hn0 rfl
    refine zfall fun k ih18 => ?_
    intro f acc hf hk2 hE
    refine zr_iload_n zi72_18 rfl ?_
    refine zr_if_leN zi72_19 rfl (by omega) (fun q19 => ?_) (fun q19 => ?_)
    · rw [q19, zicF_0] at hE
      rw [← hE] at K
      refine zr_iload_n zi72_48 rfl ?_
      refine zr_iload_n zi72_49 rfl ?_
      refine zr_icmp_gt zi72_50 rfl (fun q50 => ?_) (fun q50 => ?_)
      · rw [decide_eq_false (fun q => Int32.not_lt.mpr q q50)] at K
        refine zr_iconst (v := zB false) zi72_57 rfl ?_
        refine zr_zreturnB zi72_58 rfl ?_
        exact K
      · rw [decide_eq_true (Int32.not_lt.mp q50)] at K
        refine zr_iconst (v := zB true) zi72_53 rfl ?_
        refine zr_goto zi72_54 rfl ?_
        refine zr_zreturnB zi72_58 rfl ?_
        exact K
    · obtain ⟨f1, e1, hn1, eq1⟩ := zicF_s (n := n) (acc := acc) q19 hf
      refine zr_iload_n zi72_22 rfl ?_
      refine zr_bipush (v := zJ 10) zi72_23 rfl ?_
      refine zr_iremN zi72_25 (by omega) (by omega) (by omega) ?_
      refine zr_if_neN zi72_26 rfl (by omega) (fun q26 => ?_) (fun q26 => ?_)
      · refine zr_iload_n zi72_31 rfl ?_
        refine zr_iload_n zi72_32 rfl ?_
        refine zr_bipush (v := zJ 10) zi72_33 rfl ?_
        refine zr_iremN zi72_35 (by omega) (by omega) (by omega) ?_
        refine zr_iconst (v := zJ 1) zi72_36 rfl ?_
        refine zr_iaddN zi72_37 ?_
        refine zr_iadd zi72_38 ?_
        refine zr_istore_n (L' := [some (.int (zJ _)), some (.int (zJ _)), some (.int _), some (.int (zJ _))]) zi72_39 rfl rfl ?_
        refine zr_iload_n zi72_40 rfl ?_
        refine zr_bipush (v := zJ 10) zi72_41 rfl ?_
        refine zr_idivN zi72_43 (by omega) (by omega) (by omega) ?_
        refine zr_istore_n (L' := [some (.int (zJ _)), some (.int (zJ _)), some (.int _), some (.int (zJ _))]) zi72_44 rfl rfl ?_
        refine zr_goto zi72_45 rfl ?_
        exact ih18 (k / 10) (by omega) f1 _ hn1 (by omega) (by rw [← hE, eq1, if_neg q26])
      · rw [eq1, if_pos q26] at hE
        rw [← hE] at K
        refine zr_iconst (v := zB false) zi72_29 rfl ?_
        refine zr_zreturnB zi72_30 rfl ?_
        exact K
  · rw [zic, if_neg q1] at K
    refine zr_iload_n zi72_4 rfl ?_
    refine zr_if_ne zi72_5 rfl (fun q5 => ?_) (fun q5 => ?_)
    · rw [decide_eq_false q5] at K
      refine zr_iconst (v := zB false) zi72_12 rfl ?_
      refine zr_zreturnB zi72_13 rfl ?_
      exact K
    · rw [decide_eq_true q5] at K
      refine zr_iconst (v := zB true) zi72_8 rfl ?_
      refine zr_goto zi72_9 rfl ?_
      refine zr_zreturnB zi72_13 rfl ?_
      exact K
theorem c78 {E : zEnv} {h : zPH} {Q : zOut → zPH → Prop} {a : Nat} {bs : List Nat} {rf : Int32} {τ : yGS} {α : yAS} (H : yH h a bs rf τ α) {g w hh : Nat} {cs cl fs : List Int32} (G : yG h g w hh cs cl fs) {c : Nat} {q : Bool} (hc : c < 25) (hd : g + 4 ≤ a ∨ a + 16 ≤ g) (K : ∀ h1, yFr (yIv a 16) h h1 0 0 → yH h1 a bs rf (w, hh, zpt cs c (if q = true then zJ 1 else zJ 2) (-1) (zJ 0) (zJ 0), cl, fs) α → Q (.inl none) h1) : zcall E 1 78 [.ref a, .ref g, .int (zJ c), .int (zB q)] h Q := by
  obtain ⟨⟨gw1, gw2, gh1, gh2⟩, gcs, gcl, gfs⟩ := G.2
  show zwp E _ 78 (0, [some (.ref _), some (.ref _), some (.int (zJ _)), some (.int (zB _))], [], _) Q
  refine zr_aload_n zi78_0 rfl ?_
  refine zr_getfield zi78_1 (H.1.at0 rfl) rfl ?_
  refine zr_aload_n zi78_4 rfl ?_
  refine zr_virtual zi78_5 rfl rfl (H.tr.1.at0 rfl) rfl rfl ?_
  refine zcall_dep (d := 0) (Nat.le_of_ble_eq_true rfl) (c24 H.tr G (by omega) (fun h5 F5 H_tr5 => zbk_0 ?_))
  have H5p := H.putTr F5 H_tr5
  replace F5 := F5.up (N := 16) (by omega)
  have G_5 := G.fr F5 (by intro a z1 z2 z3; simp only [yIv] at z3; omega)
  refine zr_aload_n zi78_8 rfl ?_
  refine zr_getfield zi78_9 (H5p.1.at0 rfl) rfl ?_
  refine zr_iload_n zi78_12 rfl ?_
  refine zr_iload_n zi78_13 rfl ?_
  refine zr_static zi78_14 rfl rfl rfl rfl ?_
  refine zcall_dep (d := 0) (Nat.le_of_ble_eq_true rfl) (c79 (zbk_v ?_))
  refine zr_iconst (v := (-1)) zi78_17 rfl ?_
  refine zr_iconst (v := zJ 0) zi78_18 rfl ?_
  refine zr_iconst (v := zJ 0) zi78_19 rfl ?_
  refine zr_virtual zi78_20 rfl rfl (H5p.tr.1.at0 rfl) rfl rfl ?_
  refine zcall_dep (d := 0) (Nat.le_of_ble_eq_true rfl) (c3 H5p.tr (by omega) (fun h20 F20 H_tr20 => zbk_0 ?_))
  have H20p := H5p.putTr F20 H_tr20
  replace F20 := F20.up (N := 16) (by omega)
  have G_20 := G_5.fr F20 (by intro a z1 z2 z3; simp only [yIv] at z3; omega)
  refine zr_return zi78_23 rfl ?_
  exact K _ (F5.trans F20) H20p
theorem c71 {E : zEnv} {h : zPH} {Q : zOut → zPH → Prop} (S : ySs E h) {a : Nat} {L : List yBS} {rf : Int32} {τ : yGS} {αt : yAS} (C : yC h a L rf τ αt) {x y z : Int32} (K : ∀ k b w hh cs cl fs α kp gd gu mi sp, L[k]? = some (b, (w, hh, cs, cl, fs), α, kp, gd, gu, mi, sp) → x = zJ k → ∀ i, i < w + hh → y = zJ i → zic z (yln w hh i) = true → yK Q h a L (L.set k (b, (w, hh, cs, cl.set i z, fs.set i (zfg z (yln w hh i))), α, kp, gd, gu, mi, sp)) rf 0 0 (.inl (some (.int (zbc (zws w hh cs (fs.set i (zfg z (yln w hh i))) i)))))) (X2 : ¬ zin x L.length → Q (.inr 2) (zex h)) (Y2 : ∀ k b w hh cs cl fs α kp gd gu mi sp, L[k]? = some (b, (w, hh, cs, cl, fs), α, kp, gd, gu, mi, sp) → x = zJ k → ¬ zin y (w + hh) → Q (.inr 2) (zex h)) (Y0 : ∀ k b w hh cs cl fs α kp gd gu mi sp, L[k]? = some (b, (w, hh, cs, cl, fs), α, kp, gd, gu, mi, sp) → x = zJ k → ∀ i, i < w + hh → y = zJ i → zic z (yln w hh i) = false → Q (.inr 0) (zex h)) : zcall E 2 71 [.ref a, .int x, .int y, .int z] h Q := by
  have H := C.1
  have hlen := C.len
  have hbl : (L.map (·.1)).length = L.length := by rw [List.length_map]
  show zwp E _ 71 (0, [some (.ref _), some (.int _), some (.int _), some (.int _), none], [], _) Q
  refine zr_aload_n zi71_0 rfl ?_
  refine zr_iload_n zi71_1 rfl ?_
  refine zr_virtual zi71_2 rfl rfl (H.1.at0 rfl) rfl rfl ?_
  refine zcall_dep (d := 0) (Nat.le_of_ble_eq_true rfl) (c13 C (fun k β hk ex => zbk_v ?_) (fun x2 => zbk_no rfl (X2 x2)))
  subst ex
  obtain ⟨b, ⟨w, hh, cs, cl, fs⟩, α, kp, gd, gu, mi, sp⟩ := β
  have B : yB h b w hh cs cl fs α kp gd gu mi sp := (C.bd hk).1
  have hab : a + 16 ≤ b := (C.bd hk).2
  obtain ⟨⟨gw1, gw2, gh1, gh2⟩, gcs, gcl, gfs⟩ := B.gr.2
  obtain ⟨bkp, bgd, bgu⟩ := B.2.2.2.2
  have hwh := zwh_b B.gr.2.1
  refine zr_getfield zi71_5 (B.1.at0 rfl) rfl ?_
  refine zr_astore (L' := [some (.ref _), some (.int (zJ _)), some (.int _), some (.int _), some (.ref _)]) zi71_8 rfl rfl ?_
  refine zr_aload zi71_10 rfl ?_
  refine zr_iload_n zi71_12 rfl ?_
  refine zr_static zi71_13 rfl rfl rfl rfl ?_
  refine zcall_dep (d := 1) (Nat.le_of_ble_eq_true rfl) (c43 B.gr (fun i hi ei => zbk_0 ?_) (fun x13 => zbk_no rfl (Y2 _ _ _ _ _ _ _ _ _ _ _ _ _ hk rfl x13)))
  subst ei
  refine zr_iload_n zi71_16 rfl ?_
  refine zr_aload zi71_17 rfl ?_
  refine zr_iload_n zi71_19 rfl ?_
  have hln := yln_b i B.gr.2.1
  refine zr_virtual zi71_20 rfl rfl (B.gr.1.at0 rfl) rfl rfl ?_
  refine zcall_dep (d := 0) (Nat.le_of_ble_eq_true rfl) (c6 B.gr (by omega) (zbk_v ?_))
  refine zr_static zi71_23 rfl rfl rfl rfl ?_
  refine zcall_dep (d := 0) (Nat.le_of_ble_eq_true rfl) (c72 (by omega) (zbk_v ?_))
  refine zr_if_neB zi71_26 rfl (fun q26 => ?_) (fun q26 => ?_)
  · refine zr_aload zi71_39 rfl ?_
    refine zr_iload_n zi71_41 rfl ?_
    refine zr_iload_n zi71_42 rfl ?_
    refine zr_virtual zi71_43 rfl rfl (B.gr.1.at0 rfl) rfl rfl ?_
    refine zcall_dep (d := 1) (Nat.le_of_ble_eq_true rfl) (c5 S B.gr (by omega) (fun h43 F43 B_gr43 => zbk_0 ?_))
    have B43p := B.putGr F43 B_gr43
    replace F43 := F43.up (N := 17) (by omega)
    have H_43 := H.fr F43 (by intro a z1 z2 z3; simp only [yIv] at z3; omega)
    have S_43 := F43.ss S
    have F43c : yFr (yP a b) _ _ _ _ := F43.inr
    refine zr_aload zi71_46 rfl ?_
    refine zr_iload_n zi71_48 rfl ?_
    refine zr_virtual zi71_49 rfl rfl (B43p.gr.1.at0 rfl) rfl rfl ?_
    refine zcall_dep (d := 1) (Nat.le_of_ble_eq_true rfl) (c20 S_43 B43p.gr (by omega) (zbk_v ?_))
    refine zr_static zi71_52 rfl rfl rfl rfl ?_
    refine zcall_dep (d := 0) (Nat.le_of_ble_eq_true rfl) (c29 (zbk_v ?_))
    refine zr_ireturn zi71_55 rfl ?_
    exact K _ _ _ _ _ _ _ _ _ _ _ _ _ hk rfl _ hi rfl q26 _ _ _ _ (yEqA_set rfl) (yFr.pb hk F43c) (C.upd hk F43c H_43 (yBt.mk B43p) rfl (show yAI α from C.ai hk) C.ait)
  · refine zr_throw zi71_29 rfl rfl rfl ?_
    exact Y0 _ _ _ _ _ _ _ _ _ _ _ _ _ hk rfl _ hi rfl q26
theorem c74 {E : zEnv} {h : zPH} {Q : zOut → zPH → Prop} (S : ySs E h) {a : Nat} {L : List yBS} {rf : Int32} {τ : yGS} {αt : yAS} (C : yC h a L rf τ αt) {x y : Int32} (K : ∀ k b w hh cs cl fs α kp gd gu mi sp, L[k]? = some (b, (w, hh, cs, cl, fs), α, kp, gd, gu, mi, sp) → x = zJ k → ∀ i, i < w + hh → y = zJ i → yK Q h a L (L.set k (b, (w, hh, cs, cl.set i (-1), fs.set i (zfg (-1) (yln w hh i))), α, kp, gd, gu, mi, sp)) rf 0 0 (.inl (some (.int (cl.getD i 0))))) (X2 : ¬ zin x L.length → Q (.inr 2) (zex h)) (Y2 : ∀ k b w hh cs cl fs α kp gd gu mi sp, L[k]? = some (b, (w, hh, cs, cl, fs), α, kp, gd, gu, mi, sp) → x = zJ k → ¬ zin y (w + hh) → Q (.inr 2) (zex h)) : zcall E 2 74 [.ref a, .int x, .int y] h Q := by
  have H := C.1
  have hlen := C.len
  have hbl : (L.map (·.1)).length = L.length := by rw [List.length_map]
  show zwp E _ 74 (0, [some (.ref _), some (.int _), some (.int _), none, none], [], _) Q
  refine zr_aload_n zi74_0 rfl ?_
  refine zr_iload_n zi74_1 rfl ?_
  refine zr_virtual zi74_2 rfl rfl (H.1.at0 rfl) rfl rfl ?_
  refine zcall_dep (d := 0) (Nat.le_of_ble_eq_true rfl) (c13 C (fun k β hk ex => zbk_v ?_) (fun x2 => zbk_no rfl (X2 x2)))
  subst ex
  obtain ⟨b, ⟨w, hh, cs, cl, fs⟩, α, kp, gd, gu, mi, sp⟩ := β
  have B : yB h b w hh cs cl fs α kp gd gu mi sp := (C.bd hk).1
  have hab : a + 16 ≤ b := (C.bd hk).2
  obtain ⟨⟨gw1, gw2, gh1, gh2⟩, gcs, gcl, gfs⟩ := B.gr.2
  obtain ⟨bkp, bgd, bgu⟩ := B.2.2.2.2
  have hwh := zwh_b B.gr.2.1
  refine zr_getfield zi74_5 (B.1.at0 rfl) rfl ?_
  refine zr_astore_n (L' := [some (.ref _), some (.int (zJ _)), some (.int _), some (.ref _), none]) zi74_8 rfl rfl ?_
  refine zr_aload_n zi74_9 rfl ?_
  refine zr_iload_n zi74_10 rfl ?_
  refine zr_static zi74_11 rfl rfl rfl rfl ?_
  refine zcall_dep (d := 1) (Nat.le_of_ble_eq_true rfl) (c43 B.gr (fun i hi ei => zbk_0 ?_) (fun x11 => zbk_no rfl (Y2 _ _ _ _ _ _ _ _ _ _ _ _ _ hk rfl x11)))
  subst ei
  refine zr_aload_n zi74_14 rfl ?_
  refine zr_iload_n zi74_15 rfl ?_
  refine zr_virtual zi74_16 rfl rfl (B.gr.1.at0 rfl) rfl rfl ?_
  refine zcall_dep (d := 0) (Nat.le_of_ble_eq_true rfl) (c36 B.gr (by omega) (zbk_v ?_))
  refine zr_istore (L' := [some (.ref _), some (.int (zJ _)), some (.int (zJ _)), some (.ref _), some (.int _)]) zi74_19 rfl rfl ?_
  refine zr_aload_n zi74_21 rfl ?_
  refine zr_iload_n zi74_22 rfl ?_
  refine zr_iconst (v := (-1)) zi74_23 rfl ?_
  refine zr_virtual zi74_24 rfl rfl (B.gr.1.at0 rfl) rfl rfl ?_
  refine zcall_dep (d := 1) (Nat.le_of_ble_eq_true rfl) (c5 S B.gr (by omega) (fun h24 F24 B_gr24 => zbk_0 ?_))
  have B24p := B.putGr F24 B_gr24
  replace F24 := F24.up (N := 17) (by omega)
  have H_24 := H.fr F24 (by intro a z1 z2 z3; simp only [yIv] at z3; omega)
  have S_24 := F24.ss S
  have F24c : yFr (yP a b) _ _ _ _ := F24.inr
  refine zr_iload zi74_27 rfl ?_
  refine zr_ireturn zi74_29 rfl ?_
  exact K _ _ _ _ _ _ _ _ _ _ _ _ _ hk rfl _ hi rfl _ _ _ _ (yEqA_set rfl) (yFr.pb hk F24c) (C.upd hk F24c H_24 (yBt.mk B24p) rfl (show yAI α from C.ai hk) C.ait)
theorem c76 {E : zEnv} {h : zPH} {Q : zOut → zPH → Prop} (S : ySs E h) {a : Nat} {L : List yBS} {rf : Int32} {τ : yGS} {αt : yAS} (C : yC h a L rf τ αt) {x y : Int32} {q : Bool} (K : ∀ k b w hh cs cl fs α kp gd gu mi sp, L[k]? = some (b, (w, hh, cs, cl, fs), α, kp, gd, gu, mi, sp) → x = zJ k → ∀ c, c < w * hh → y = zJ c → zst cs c = 0 → ¬ (yLk w hh 1 (zpt cs c (if q = true then zJ 1 else zJ 2) (-1) (zJ 0) (zJ 0)) cl fs αt).2.2.2.2.2.2 = 0 → yK Q h a L (L.set k (b, (w, hh, zpt cs c (if q = true then zJ 1 else zJ 2) (-1) (zJ 0) (zJ gu), cl, fs), α, kp, gd, gu, mi, sp)) rf 0 0 (.inl (some (.int (zB true))))) (K0 : ∀ k b w hh cs cl fs α kp gd gu mi sp, L[k]? = some (b, (w, hh, cs, cl, fs), α, kp, gd, gu, mi, sp) → x = zJ k → ∀ c, c < w * hh → y = zJ c → zst cs c = 0 → (yLk w hh 1 (zpt cs c (if q = true then zJ 1 else zJ 2) (-1) (zJ 0) (zJ 0)) cl fs αt).2.2.2.2.2.2 = 0 → yK Q h a L (L.set k (b, (w, hh, cs, cl, fs), α, kp, gd, gu, mi + zJ 1, sp)) rf 0 0 (.inl (some (.int (zB false))))) (X2 : ¬ zin x L.length → Q (.inr 2) (zex h)) (Y2 : ∀ k b w hh cs cl fs α kp gd gu mi sp, L[k]? = some (b, (w, hh, cs, cl, fs), α, kp, gd, gu, mi, sp) → x = zJ k → ¬ zin y (w * hh) → Q (.inr 2) (zex h)) (Y1 : ∀ k b w hh cs cl fs α kp gd gu mi sp, L[k]? = some (b, (w, hh, cs, cl, fs), α, kp, gd, gu, mi, sp) → x = zJ k → ∀ c, c < w * hh → y = zJ c → ¬ zst cs c = 0 → Q (.inr 1) (zex h)) : zcall E 16 76 [.ref a, .int x, .int y, .int (zB q)] h Q := by
  have H := C.1
  have hlen := C.len
  have hbl : (L.map (·.1)).length = L.length := by rw [List.length_map]
  show zwp E _ 76 (0, [some (.ref _), some (.int _), some (.int _), some (.int (zB _)), none], [], _) Q
  refine zr_aload_n zi76_0 rfl ?_
  refine zr_iload_n zi76_1 rfl ?_
  refine zr_virtual zi76_2 rfl rfl (H.1.at0 rfl) rfl rfl ?_
  refine zcall_dep (d := 0) (Nat.le_of_ble_eq_true rfl) (c13 C (fun k β hk ex => zbk_v ?_) (fun x2 => zbk_no rfl (X2 x2)))
  subst ex
  obtain ⟨b, ⟨w, hh, cs, cl, fs⟩, α, kp, gd, gu, mi, sp⟩ := β
  have B : yB h b w hh cs cl fs α kp gd gu mi sp := (C.bd hk).1
  have hab : a + 16 ≤ b := (C.bd hk).2
  obtain ⟨⟨gw1, gw2, gh1, gh2⟩, gcs, gcl, gfs⟩ := B.gr.2
  obtain ⟨bkp, bgd, bgu⟩ := B.2.2.2.2
  have hwh := zwh_b B.gr.2.1
  refine zr_astore (L' := [some (.ref _), some (.int (zJ _)), some (.int _), some (.int (zB _)), some (.ref _)]) zi76_5 rfl rfl ?_
  refine zr_aload zi76_7 rfl ?_
  refine zr_getfield zi76_9 (B.1.at0 rfl) rfl ?_
  refine zr_iload_n zi76_12 rfl ?_
  refine zr_static zi76_13 rfl rfl rfl rfl ?_
  refine zcall_dep (d := 1) (Nat.le_of_ble_eq_true rfl) (c40 B.gr (fun c hc ec => zbk_0 ?_) (fun x13 => zbk_no rfl (Y2 _ _ _ _ _ _ _ _ _ _ _ _ _ hk rfl x13)))
  subst ec
  refine zr_aload zi76_16 rfl ?_
  refine zr_getfield zi76_18 (B.1.at0 rfl) rfl ?_
  refine zr_iload_n zi76_21 rfl ?_
  refine zr_static zi76_22 rfl rfl rfl rfl ?_
  refine zcall_dep (d := 1) (Nat.le_of_ble_eq_true rfl) (c77 B.gr (by omega) (fun hu => zbk_0 ?_) (fun x22 => zbk_no rfl (Y1 _ _ _ _ _ _ _ _ _ _ _ _ _ hk rfl _ hc rfl x22)))
  refine zr_aload_n zi76_25 rfl ?_
  refine zr_aload zi76_26 rfl ?_
  refine zr_getfield zi76_28 (B.1.at0 rfl) rfl ?_
  refine zr_iload_n zi76_31 rfl ?_
  refine zr_iload_n zi76_32 rfl ?_
  refine zr_virtual zi76_33 rfl rfl (H.1.at0 rfl) rfl rfl ?_
  refine zcall_dep (d := 1) (Nat.le_of_ble_eq_true rfl) (c78 H B.gr (by omega) (by omega) (fun h33 F33 H33 => zbk_0 ?_))
  have S_33 := F33.ss S
  have B_33 := B.fr F33 (by intro a z1 z2 z3; simp only [yIv] at z3; omega)
  have F33c : yFr (yP a b) _ _ _ _ := F33.inl
  refine zr_aload_n zi76_36 rfl ?_
  refine zr_getfield zi76_37 (H33.1.at0 rfl) rfl ?_
  refine zr_aload_n zi76_40 rfl ?_
  refine zr_getfield zi76_41 (H33.1.at0 rfl) rfl ?_
  refine zr_iconst (v := zJ 1) zi76_44 rfl ?_
  refine zr_virtual zi76_45 rfl rfl (H33.ta.1.at0 rfl) rfl rfl ?_
  refine zcall_dep (d := 15) (Nat.le_of_ble_eq_true rfl) (c22t S_33 H33.ta H33.tr (by omega) (by omega) (fun h45 F45 A45 => zbk_v ?_))
  have H45p := H33.putTa F45 A45
  replace F45 := F45.up (N := 16) (by omega)
  have S_45 := F45.ss S_33
  have B_45 := B_33.fr F45 (by intro a z1 z2 z3; simp only [yIv] at z3; omega)
  have F45c : yFr (yP a b) _ _ _ _ := F45.inl
  refine zr_getfield zi76_48 (H45p.ta.1.at0 rfl) rfl ?_
  refine zr_if_neN zi76_51 rfl (Nat.lt_of_le_of_lt H45p.ta.2.2.2.2.2.2 (by decide)) (fun q51 => ?_) (fun q51 => ?_)
  · refine zr_aload zi76_67 rfl ?_
    refine zr_getfield zi76_69 (B_45.1.at0 rfl) rfl ?_
    refine zr_iload_n zi76_72 rfl ?_
    refine zr_iload_n zi76_73 rfl ?_
    refine zr_static zi76_74 rfl rfl rfl rfl ?_
    refine zcall_dep (d := 0) (Nat.le_of_ble_eq_true rfl) (c79 (zbk_v ?_))
    refine zr_iconst (v := (-1)) zi76_77 rfl ?_
    refine zr_iconst (v := zJ 0) zi76_78 rfl ?_
    refine zr_aload zi76_79 rfl ?_
    refine zr_getfield zi76_81 (B_45.1.at0 rfl) rfl ?_
    refine zr_virtual zi76_84 rfl rfl (B_45.gr.1.at0 rfl) rfl rfl ?_
    refine zcall_dep (d := 0) (Nat.le_of_ble_eq_true rfl) (c3 B_45.gr (by omega) (fun h84 F84 B_gr84 => zbk_0 ?_))
    have B84p := B_45.putGr F84 B_gr84
    replace F84 := F84.up (N := 17) (by omega)
    have H_84 := H45p.fr F84 (by intro a z1 z2 z3; simp only [yIv] at z3; omega)
    have S_84 := F84.ss S_45
    have F84c : yFr (yP a b) _ _ _ _ := F84.inr
    refine zr_iconst (v := zB true) zi76_87 rfl ?_
    refine zr_zreturnB zi76_88 rfl ?_
    exact K _ _ _ _ _ _ _ _ _ _ _ _ _ hk rfl _ hc rfl hu q51 _ _ _ _ (yEqA_set rfl) (yFr.pb hk ((F33c.trans F45c).trans F84c)) (C.upd hk ((F33c.trans F45c).trans F84c) H_84 (yBt.mk B84p) rfl (show yAI α from C.ai hk) (yAI.look C.ait H33.ta.lens (by show w + hh ≤ 10; omega)))
  · refine zr_aload zi76_54 rfl ?_
    refine zr_dup zi76_56 rfl ?_
    refine zr_getfield zi76_57 (B_45.1.at0 rfl) rfl ?_
    refine zr_iconst (v := zJ 1) zi76_60 rfl ?_
    refine zr_iadd zi76_61 ?_
    refine zr_putfield zi76_62 (B_45.1.at0 rfl) rfl rfl ?_
    refine yB.wob B_45 (by first | omega | (simp only [List.length_set, zpt_len]; omega)) (fun h62 F62 B62 => ?_)
    have H_62 := H45p.fr F62 (by intro a z1 z2 z3; simp only [yIv] at z3; omega)
    have S_62 := F62.ss S_45
    have F62c : yFr (yP a b) _ _ _ _ := F62.inr
    refine zr_iconst (v := zB false) zi76_65 rfl ?_
    refine zr_zreturnB zi76_66 rfl ?_
    exact K0 _ _ _ _ _ _ _ _ _ _ _ _ _ hk rfl _ hc rfl hu q51 _ _ _ _ (yEqA_set rfl) (yFr.pb hk ((F33c.trans F45c).trans F62c)) (C.upd hk ((F33c.trans F45c).trans F62c) H_62 (yBt.mk B62) rfl (show yAI α from C.ai hk) (yAI.look C.ait H33.ta.lens (by show w + hh ≤ 10; omega)))
theorem c81 {E : zEnv} {h : zPH} {Q : zOut → zPH → Prop} (S : ySs E h) {a : Nat} {L : List yBS} {rf : Int32} {τ : yGS} {αt : yAS} (C : yC h a L rf τ αt) {x : Int32} (K : ∀ k b w hh cs cl fs α kp gd gu mi sp, L[k]? = some (b, (w, hh, cs, cl, fs), α, kp, gd, gu, mi, sp) → x = zJ k → yK Q h a L (L.set k (b, (w, hh, (zsS w hh fs (zJ gu) cs).1, cl, fs), α, kp, gd, gu, mi, sp + zJ 1)) rf 0 0 (.inl (some (.int (zsS w hh fs (zJ gu) cs).2)))) (X2 : ¬ zin x L.length → Q (.inr 2) (zex h)) : zcall E 3 81 [.ref a, .int x] h Q := by
  have H := C.1
  have hlen := C.len
  have hbl : (L.map (·.1)).length = L.length := by rw [List.length_map]
  show zwp E _ 81 (0, [some (.ref _), some (.int _), none], [], _) Q
  refine zr_aload_n zi81_0 rfl ?_
  refine zr_iload_n zi81_1 rfl ?_
  refine zr_virtual zi81_2 rfl rfl (H.1.at0 rfl) rfl rfl ?_
  refine zcall_dep (d := 0) (Nat.le_of_ble_eq_true rfl) (c13 C (fun k β hk ex => zbk_v ?_) (fun x2 => zbk_no rfl (X2 x2)))
  subst ex
  obtain ⟨b, ⟨w, hh, cs, cl, fs⟩, α, kp, gd, gu, mi, sp⟩ := β
  have B : yB h b w hh cs cl fs α kp gd gu mi sp := (C.bd hk).1
  have hab : a + 16 ≤ b := (C.bd hk).2
  obtain ⟨⟨gw1, gw2, gh1, gh2⟩, gcs, gcl, gfs⟩ := B.gr.2
  obtain ⟨bkp, bgd, bgu⟩ := B.2.2.2.2
  have hwh := zwh_b B.gr.2.1
  refine zr_astore_n (L' := [some (.ref _), some (.int (zJ _)), some (.ref _)]) zi81_5 rfl rfl ?_
  refine zr_aload_n zi81_6 rfl ?_
  refine zr_dup zi81_7 rfl ?_
  refine zr_getfield zi81_8 (B.1.at0 rfl) rfl ?_
  refine zr_iconst (v := zJ 1) zi81_11 rfl ?_
  refine zr_iadd zi81_12 ?_
  refine zr_putfield zi81_13 (B.1.at0 rfl) rfl rfl ?_
  refine yB.wob B (by first | omega | (simp only [List.length_set, zpt_len]; omega)) (fun h13 F13 B13 => ?_)
  have H_13 := H.fr F13 (by intro a z1 z2 z3; simp only [yIv] at z3; omega)
  have S_13 := F13.ss S
  have F13c : yFr (yP a b) _ _ _ _ := F13.inr
  refine zr_aload_n zi81_16 rfl ?_
  refine zr_getfield zi81_17 (B13.1.at0 rfl) rfl ?_
  refine zr_aload_n zi81_20 rfl ?_
  refine zr_getfield zi81_21 (B13.1.at0 rfl) rfl ?_
  refine zr_virtual zi81_24 rfl rfl (B13.gr.1.at0 rfl) rfl rfl ?_
  refine zcall_dep (d := 2) (Nat.le_of_ble_eq_true rfl) (c25 S_13 B13.gr (fun h24 F24 B_gr24 => zbk_v ?_))
  have B24p := B13.putGr F24 B_gr24
  replace F24 := F24.up (N := 17) (by omega)
  have H_24 := H_13.fr F24 (by intro a z1 z2 z3; simp only [yIv] at z3; omega)
  have S_24 := F24.ss S_13
  have F24c : yFr (yP a b) _ _ _ _ := F24.inr
  refine zr_ireturn zi81_27 rfl ?_
  exact K _ _ _ _ _ _ _ _ _ _ _ _ _ hk rfl _ _ _ _ (yEqA_set rfl) (yFr.pb hk (F13c.trans F24c)) (C.upd hk (F13c.trans F24c) H_24 (yBt.mk B24p) rfl (show yAI α from C.ai hk) C.ait)
theorem c83 {E : zEnv} {h : zPH} {Q : zOut → zPH → Prop} (S : ySs E h) {a : Nat} {L : List yBS} {rf : Int32} {τ : yGS} {αt : yAS} (C : yC h a L rf τ αt) {x y : Int32} {q : Bool} (K : ∀ k b w hh cs cl fs α kp gd gu mi sp, L[k]? = some (b, (w, hh, cs, cl, fs), α, kp, gd, gu, mi, sp) → x = zJ k → ∀ c, c < w * hh → y = zJ c → zst cs c = 0 → gu < 6 → yK Q h a L (L.set k (b, (w, hh, zpt cs c (if q = true then zJ 1 else zJ 2) (-1) (zJ 0) (zJ (gu + 1)), cl, fs), α, zcpi cs kp 0 (gu * 100) 100, gd.set gu (zJ c), gu + 1, mi, sp)) rf 0 0 (.inl (some (.int (zJ (gu + 1)))))) (X2 : ¬ zin x L.length → Q (.inr 2) (zex h)) (Y2 : ∀ k b w hh cs cl fs α kp gd gu mi sp, L[k]? = some (b, (w, hh, cs, cl, fs), α, kp, gd, gu, mi, sp) → x = zJ k → ¬ zin y (w * hh) → Q (.inr 2) (zex h)) (Y1 : ∀ k b w hh cs cl fs α kp gd gu mi sp, L[k]? = some (b, (w, hh, cs, cl, fs), α, kp, gd, gu, mi, sp) → x = zJ k → ∀ c, c < w * hh → y = zJ c → ¬ zst cs c = 0 → Q (.inr 1) (zex h)) (Y3 : ∀ k b w hh cs cl fs α kp gd gu mi sp, L[k]? = some (b, (w, hh, cs, cl, fs), α, kp, gd, gu, mi, sp) → x = zJ k → zin y (w * hh) → gu = 6 → Q (.inr 1) (zex h)) : zcall E 2 83 [.ref a, .int x, .int y, .int (zB q)] h Q := by
  have H := C.1
  have hlen := C.len
  have hbl : (L.map (·.1)).length = L.length := by rw [List.length_map]
  show zwp E _ 83 (0, [some (.ref _), some (.int _), some (.int _), some (.int (zB _)), none], [], _) Q
  refine zr_aload_n zi83_0 rfl ?_
  refine zr_iload_n zi83_1 rfl ?_
  refine zr_virtual zi83_2 rfl rfl (H.1.at0 rfl) rfl rfl ?_
  refine zcall_dep (d := 0) (Nat.le_of_ble_eq_true rfl) (c13 C (fun k β hk ex => zbk_v ?_) (fun x2 => zbk_no rfl (X2 x2)))
  subst ex
  obtain ⟨b, ⟨w, hh, cs, cl, fs⟩, α, kp, gd, gu, mi, sp⟩ := β
  have B : yB h b w hh cs cl fs α kp gd gu mi sp := (C.bd hk).1
  have hab : a + 16 ≤ b := (C.bd hk).2
  obtain ⟨⟨gw1, gw2, gh1, gh2⟩, gcs, gcl, gfs⟩ := B.gr.2
  obtain ⟨bkp, bgd, bgu⟩ := B.2.2.2.2
  have hwh := zwh_b B.gr.2.1
  refine zr_astore (L' := [some (.ref _), some (.int (zJ _)), some (.int _), some (.int (zB _)), some (.ref _)]) zi83_5 rfl rfl ?_
  refine zr_aload zi83_7 rfl ?_
  refine zr_getfield zi83_9 (B.1.at0 rfl) rfl ?_
  refine zr_iload_n zi83_12 rfl ?_
  refine zr_static zi83_13 rfl rfl rfl rfl ?_
  refine zcall_dep (d := 1) (Nat.le_of_ble_eq_true rfl) (c40 B.gr (fun c hc ec => zbk_0 ?_) (fun x13 => zbk_no rfl (Y2 _ _ _ _ _ _ _ _ _ _ _ _ _ hk rfl x13)))
  subst ec
  refine zr_aload zi83_16 rfl ?_
  refine zr_getfield zi83_18 (B.1.at0 rfl) rfl ?_
  refine zr_iload_n zi83_21 rfl ?_
  refine zr_static zi83_22 rfl rfl rfl rfl ?_
  refine zcall_dep (d := 1) (Nat.le_of_ble_eq_true rfl) (c77 B.gr (by omega) (fun hu => zbk_0 ?_) (fun x22 => zbk_no rfl (Y1 _ _ _ _ _ _ _ _ _ _ _ _ _ hk rfl _ hc rfl x22)))
  refine zr_aload zi83_25 rfl ?_
  refine zr_getfield zi83_27 (B.1.at0 rfl) rfl ?_
  refine zr_bipush (v := zJ 6) zi83_30 rfl ?_
  refine zr_icmp_ltN zi83_32 rfl (by omega) (by omega) (fun q32 => ?_) (fun q32 => ?_)
  · refine zr_aload zi83_45 rfl ?_
    refine zr_iload_n zi83_47 rfl ?_
    refine zr_virtual zi83_48 rfl rfl (B.1.at0 rfl) rfl rfl ?_
    refine zcall_dep (d := 0) (Nat.le_of_ble_eq_true rfl) (c84 B (by omega) (fun h48 F48 B48 => zbk_0 ?_))
    have H_48 := H.fr F48 (by intro a z1 z2 z3; simp only [yIv] at z3; omega)
    have S_48 := F48.ss S
    have F48c : yFr (yP a b) _ _ _ _ := F48.inr
    refine zr_aload zi83_51 rfl ?_
    refine zr_getfield zi83_53 (B48.1.at0 rfl) rfl ?_
    refine zr_iload_n zi83_56 rfl ?_
    refine zr_iload_n zi83_57 rfl ?_
    refine zr_static zi83_58 rfl rfl rfl rfl ?_
    refine zcall_dep (d := 0) (Nat.le_of_ble_eq_true rfl) (c79 (zbk_v ?_))
    refine zr_iconst (v := (-1)) zi83_61 rfl ?_
    refine zr_iconst (v := zJ 0) zi83_62 rfl ?_
    refine zr_aload zi83_63 rfl ?_
    refine zr_getfield zi83_65 (B48.1.at0 rfl) rfl ?_
    refine zr_virtual zi83_68 rfl rfl (B48.gr.1.at0 rfl) rfl rfl ?_
    refine zcall_dep (d := 0) (Nat.le_of_ble_eq_true rfl) (c3 B48.gr (by omega) (fun h68 F68 B_gr68 => zbk_0 ?_))
    have B68p := B48.putGr F68 B_gr68
    replace F68 := F68.up (N := 17) (by omega)
    have H_68 := H_48.fr F68 (by intro a z1 z2 z3; simp only [yIv] at z3; omega)
    have S_68 := F68.ss S_48
    have F68c : yFr (yP a b) _ _ _ _ := F68.inr
    refine zr_aload zi83_71 rfl ?_
    refine zr_getfield zi83_73 (B68p.1.at0 rfl) rfl ?_
    refine zr_ireturn zi83_76 rfl ?_
    exact K _ _ _ _ _ _ _ _ _ _ _ _ _ hk rfl _ hc rfl hu (by omega) _ _ _ _ (yEqA_set rfl) (yFr.pb hk (F48c.trans F68c)) (C.upd hk (F48c.trans F68c) H_68 (yBt.mk B68p) rfl (show yAI α from C.ai hk) C.ait)
  · refine zr_throw zi83_35 rfl rfl rfl ?_
    exact Y3 _ _ _ _ _ _ _ _ _ _ _ _ _ hk rfl ⟨_, hc, rfl⟩ (by omega)
theorem c86 {E : zEnv} {h : zPH} {Q : zOut → zPH → Prop} (S : ySs E h) {a : Nat} {L : List yBS} {rf : Int32} {τ : yGS} {αt : yAS} (C : yC h a L rf τ αt) {x : Int32} {q : Bool} (K : ∀ k b w hh cs cl fs α kp gd gu mi sp, L[k]? = some (b, (w, hh, cs, cl, fs), α, kp, gd, gu, mi, sp) → x = zJ k → ∀ c, c < 25 → gd.getD (gu - 1) 0 = zJ c → 0 < gu → yK Q h a L (L.set k (b, (w, hh, (if q = true then zpt (zcpi kp cs ((gu - 1) * 100) 0 100) c (zJ 3 - zst cs c) (-2) (zJ 0) (zJ (gu - 1)) else zcpi kp cs ((gu - 1) * 100) 0 100), cl, fs), α, kp, gd, gu - 1, mi, sp)) rf 0 0 (.inl (some (.int (zJ c))))) (hI : ∀ k b w hh cs cl fs α kp gd gu mi sp, L[k]? = some (b, (w, hh, cs, cl, fs), α, kp, gd, gu, mi, sp) → x = zJ k → 0 < gu → ∃ c, c < 25 ∧ gd.getD (gu - 1) 0 = zJ c) (X2 : ¬ zin x L.length → Q (.inr 2) (zex h)) (Y1 : ∀ k b w hh cs cl fs α kp gd gu mi sp, L[k]? = some (b, (w, hh, cs, cl, fs), α, kp, gd, gu, mi, sp) → x = zJ k → gu = 0 → Q (.inr 1) (zex h)) : zcall E 1 86 [.ref a, .int x, .int (zB q)] h Q := by
  have H := C.1
  have hlen := C.len
  have hbl : (L.map (·.1)).length = L.length := by rw [List.length_map]
  show zwp E _ 86 (0, [some (.ref _), some (.int _), some (.int (zB _)), none, none, none], [], _) Q
  refine zr_aload_n zi86_0 rfl ?_
  refine zr_iload_n zi86_1 rfl ?_
  refine zr_virtual zi86_2 rfl rfl (H.1.at0 rfl) rfl rfl ?_
  refine zcall_dep (d := 0) (Nat.le_of_ble_eq_true rfl) (c13 C (fun k β hk ex => zbk_v ?_) (fun x2 => zbk_no rfl (X2 x2)))
  subst ex
  obtain ⟨b, ⟨w, hh, cs, cl, fs⟩, α, kp, gd, gu, mi, sp⟩ := β
  have B : yB h b w hh cs cl fs α kp gd gu mi sp := (C.bd hk).1
  have hab : a + 16 ≤ b := (C.bd hk).2
  obtain ⟨⟨gw1, gw2, gh1, gh2⟩, gcs, gcl, gfs⟩ := B.gr.2
  obtain ⟨bkp, bgd, bgu⟩ := B.2.2.2.2
  have hwh := zwh_b B.gr.2.1
  refine zr_astore_n (L' := [some (.ref _), some (.int (zJ _)), some (.int (zB _)), some (.ref _), none, none]) zi86_5 rfl rfl ?_
  refine zr_aload_n zi86_6 rfl ?_
  refine zr_getfield zi86_7 (B.1.at0 rfl) rfl ?_
  refine zr_if_gtN zi86_10 rfl (by omega) (fun q10 => ?_) (fun q10 => ?_)
  · refine zr_aload_n zi86_23 rfl ?_
    refine zr_virtual zi86_24 rfl rfl (B.1.at0 rfl) rfl rfl ?_
    refine zcall_dep (d := 0) (Nat.le_of_ble_eq_true rfl) (c87 B (by omega) (zbk_v ?_))
    obtain ⟨c, hc, ec⟩ := hI _ _ _ _ _ _ _ _ _ _ _ _ _ hk rfl q10
    rw [ec]
    refine zr_istore (L' := [some (.ref _), some (.int (zJ _)), some (.int (zB _)), some (.ref _), some (.int (zJ _)), none]) zi86_27 rfl rfl ?_
    refine zr_iconst (v := zJ 3) zi86_29 rfl ?_
    refine zr_aload_n zi86_30 rfl ?_
    refine zr_getfield zi86_31 (B.1.at0 rfl) rfl ?_
    refine zr_iload zi86_34 rfl ?_
    refine zr_virtual zi86_36 rfl rfl (B.gr.1.at0 rfl) rfl rfl ?_
    refine zcall_dep (d := 0) (Nat.le_of_ble_eq_true rfl) (c16 B.gr (by omega) (zbk_v ?_))
    refine zr_isub zi86_39 ?_
    refine zr_istore (L' := [some (.ref _), some (.int (zJ _)), some (.int (zB _)), some (.ref _), some (.int (zJ _)), some (.int _)]) zi86_40 rfl rfl ?_
    refine zr_aload_n zi86_42 rfl ?_
    refine zr_virtual zi86_43 rfl rfl (B.1.at0 rfl) rfl rfl ?_
    refine zcall_dep (d := 0) (Nat.le_of_ble_eq_true rfl) (c88 B (by omega) (fun h43 F43 B43 => zbk_0 ?_))
    have H_43 := H.fr F43 (by intro a z1 z2 z3; simp only [yIv] at z3; omega)
    have S_43 := F43.ss S
    have F43c : yFr (yP a b) _ _ _ _ := F43.inr
    refine zr_iload_n zi86_46 rfl ?_
    refine zr_if_eqB zi86_47 rfl (fun q47 => ?_) (fun q47 => ?_)
    · refine zr_iload zi86_68 rfl ?_
      refine zr_ireturn zi86_70 rfl ?_
      have KK := K _ _ _ _ _ _ _ _ _ _ _ _ _ hk rfl c hc ec q10
      first | rw [if_pos q47] at KK | rw [if_neg (by rw [q47]; decide)] at KK
      exact KK _ _ _ _ (yEqA_set rfl) (yFr.pb hk F43c) (C.upd hk F43c H_43 (yBt.mk B43) rfl (show yAI α from C.ai hk) C.ait)
    · refine zr_aload_n zi86_50 rfl ?_
      refine zr_getfield zi86_51 (B43.1.at0 rfl) rfl ?_
      refine zr_iload zi86_54 rfl ?_
      refine zr_iload zi86_56 rfl ?_
      refine zr_bipush (v := (-2)) zi86_58 rfl ?_
      refine zr_iconst (v := zJ 0) zi86_60 rfl ?_
      refine zr_aload_n zi86_61 rfl ?_
      refine zr_getfield zi86_62 (B43.1.at0 rfl) rfl ?_
      refine zr_virtual zi86_65 rfl rfl (B43.gr.1.at0 rfl) rfl rfl ?_
      refine zcall_dep (d := 0) (Nat.le_of_ble_eq_true rfl) (c3 B43.gr (by omega) (fun h65 F65 B_gr65 => zbk_0 ?_))
      have B65p := B43.putGr F65 B_gr65
      replace F65 := F65.up (N := 17) (by omega)
      have H_65 := H_43.fr F65 (by intro a z1 z2 z3; simp only [yIv] at z3; omega)
      have S_65 := F65.ss S_43
      have F65c : yFr (yP a b) _ _ _ _ := F65.inr
      refine zr_iload zi86_68 rfl ?_
      refine zr_ireturn zi86_70 rfl ?_
      have KK := K _ _ _ _ _ _ _ _ _ _ _ _ _ hk rfl c hc ec q10
      first | rw [if_pos q47] at KK | rw [if_neg (by rw [q47]; decide)] at KK
      exact KK _ _ _ _ (yEqA_set rfl) (yFr.pb hk (F43c.trans F65c)) (C.upd hk (F43c.trans F65c) H_65 (yBt.mk B65p) rfl (show yAI α from C.ai hk) C.ait)
  · refine zr_throw zi86_13 rfl rfl rfl ?_
    exact Y1 _ _ _ _ _ _ _ _ _ _ _ _ _ hk rfl q10
theorem c91 {E : zEnv} {h : zPH} {Q : zOut → zPH → Prop} {b w hh : Nat} {cs cl fs : List Int32} {α : yAS} {kp gd : List Int32} {gu : Nat} {mi sp : Int32} (B : yB h b w hh cs cl fs α kp gd gu mi sp) (K : gu = 0 → Q (.inl none) h) (X : ¬ gu = 0 → Q (.inr 1) (zex h)) : zcall E 0 91 [.ref b] h Q := by
  obtain ⟨⟨gw1, gw2, gh1, gh2⟩, gcs, gcl, gfs⟩ := B.gr.2
  obtain ⟨bkp, bgd, bgu⟩ := B.2.2.2.2
  show zwp E _ 91 (0, [some (.ref _)], [], _) Q
  refine zr_aload_n zi91_0 rfl ?_
  refine zr_getfield zi91_1 (B.1.at0 rfl) rfl ?_
  refine zr_if_leN zi91_4 rfl (by omega) (fun q4 => ?_) (fun q4 => ?_)
  · refine zr_return zi91_18 rfl ?_
    exact K q4
  · refine zr_throw zi91_7 rfl rfl rfl ?_
    exact X (by omega)
def ynw (w hh t : Nat) : Nat := if t = 2 then hh else w
def ynh (w hh t : Nat) : Nat := if t = 2 then w else hh
theorem c92 {E : zEnv} {h : zPH} {Q : zOut → zPH → Prop} (S : ySs E h) {g w hh : Nat} {cs cl fs : List Int32} (G : yG h g w hh cs cl fs) {o ow oh : Nat} {os ol ofs : List Int32} (O : yG h o ow oh os ol ofs) (hd : g + 4 ≤ o ∨ o + 4 ≤ g) {t : Nat} (ht : t ≤ 2) (K : ∀ h1, yFr (yIv g 4) h h1 0 0 → yG h1 g (ynw ow oh t) (ynh ow oh t) (yTr t (ynw ow oh t) (ynh ow oh t) ow oh os cs oh) (yTl t (ynw ow oh t) (ynh ow oh t) ow oh ol cl fs (ow + oh)).1 (yTl t (ynw ow oh t) (ynh ow oh t) ow oh ol cl fs (ow + oh)).2 → Q (.inl none) h1) : zcall E 2 92 [.ref g, .ref o, .int (zJ t)] h Q := by
  rcases (show t = 0 ∨ t = 1 ∨ t = 2 by omega) with rfl | rfl | rfl
  · exact c92_0 S G O hd K
  · exact c92_1 S G O hd K
  · exact c92_2 S G O hd K
theorem c90 {E : zEnv} {h : zPH} {Q : zOut → zPH → Prop} (S : ySs E h) {a : Nat} {L : List yBS} {rf : Int32} {τ : yGS} {αt : yAS} (C : yC h a L rf τ αt) {x y : Int32} (K : ∀ k b w hh cs cl fs α kp gd gu mi sp, L[k]? = some (b, (w, hh, cs, cl, fs), α, kp, gd, gu, mi, sp) → x = zJ k → ∀ t, t ≤ 2 → y = zJ t → gu = 0 → yK Q h a L (L.set k (b, (ynw w hh t, ynh w hh t, yTr t (ynw w hh t) (ynh w hh t) w hh cs cs hh, (yTl t (ynw w hh t) (ynh w hh t) w hh cl cl fs (w + hh)).1, (yTl t (ynw w hh t) (ynh w hh t) w hh cl cl fs (w + hh)).2), α, kp, gd, gu, mi, sp)) rf 0 0 (.inl (some (.int (zJ (ynw w hh t)))))) (X2 : ¬ zin x L.length → Q (.inr 2) (zex h)) (Y0 : ∀ k b w hh cs cl fs α kp gd gu mi sp, L[k]? = some (b, (w, hh, cs, cl, fs), α, kp, gd, gu, mi, sp) → x = zJ k → ¬ zin y 3 → Q (.inr 0) (zex h)) (Y1 : ∀ k b w hh cs cl fs α kp gd gu mi sp, L[k]? = some (b, (w, hh, cs, cl, fs), α, kp, gd, gu, mi, sp) → x = zJ k → zin y 3 → ¬ gu = 0 → Q (.inr 1) (zex h)) : zcall E 3 90 [.ref a, .int x, .int y] h Q := by
  have H := C.1
  have hlen := C.len
  have hbl : (L.map (·.1)).length = L.length := by rw [List.length_map]
  show zwp E _ 90 (0, [some (.ref _), some (.int _), some (.int _), none], [], _) Q
  refine zr_aload_n zi90_0 rfl ?_
  refine zr_iload_n zi90_1 rfl ?_
  refine zr_virtual zi90_2 rfl rfl (H.1.at0 rfl) rfl rfl ?_
  refine zcall_dep (d := 0) (Nat.le_of_ble_eq_true rfl) (c13 C (fun k β hk ex => zbk_v ?_) (fun x2 => zbk_no rfl (X2 x2)))
  subst ex
  obtain ⟨b, ⟨w, hh, cs, cl, fs⟩, α, kp, gd, gu, mi, sp⟩ := β
  have B : yB h b w hh cs cl fs α kp gd gu mi sp := (C.bd hk).1
  have hab : a + 16 ≤ b := (C.bd hk).2
  obtain ⟨⟨gw1, gw2, gh1, gh2⟩, gcs, gcl, gfs⟩ := B.gr.2
  obtain ⟨bkp, bgd, bgu⟩ := B.2.2.2.2
  have hwh := zwh_b B.gr.2.1
  refine zr_astore_n (L' := [some (.ref _), some (.int (zJ _)), some (.int _), some (.ref _)]) zi90_5 rfl rfl ?_
  refine zr_iload_n zi90_6 rfl ?_
  refine zr_if_lt zi90_7 rfl (fun q7 => ?_) (fun q7 => ?_)
  · refine zr_throw zi90_15 rfl rfl rfl ?_
    refine Y0 _ _ _ _ _ _ _ _ _ _ _ _ _ hk rfl ?_
    first | exact zin_no (by omega) (Or.inl q7) | exact zin_no (by omega) (Or.inr (fun q => by obtain ⟨t, ht3, rfl⟩ := zJ_of q7; have h1 := (zJ_lt ht3 (by omega)).mp q; exact q12 ((zJ_le ht3 (by omega)).mpr (by omega))))
  · refine zr_iload_n zi90_10 rfl ?_
    refine zr_iconst (v := zJ 2) zi90_11 rfl ?_
    refine zr_icmp_le zi90_12 rfl (fun q12 => ?_) (fun q12 => ?_)
    · obtain ⟨t, ht3, rfl⟩ := zJ_of q7
      have ht : t ≤ 2 := (zJ_le ht3 (by omega)).mp q12
      refine zr_aload_n zi90_25 rfl ?_
      refine zr_static zi90_26 rfl rfl rfl rfl ?_
      refine zcall_dep (d := 0) (Nat.le_of_ble_eq_true rfl) (c91 B (fun hg0 => zbk_0 ?_) (fun x26 => zbk_no rfl (Y1 _ _ _ _ _ _ _ _ _ _ _ _ _ hk rfl ⟨_, Nat.lt_succ_of_le ht, rfl⟩ x26)))
      refine zr_aload_n zi90_29 rfl ?_
      refine zr_getfield zi90_30 (H.1.at0 rfl) rfl ?_
      refine zr_aload_n zi90_33 rfl ?_
      refine zr_getfield zi90_34 (B.1.at0 rfl) rfl ?_
      refine zr_virtual zi90_37 rfl rfl (H.tr.1.at0 rfl) rfl rfl ?_
      refine zcall_dep (d := 0) (Nat.le_of_ble_eq_true rfl) (c24 H.tr B.gr (by omega) (fun h37 F37 H_tr37 => zbk_0 ?_))
      have H37p := H.putTr F37 H_tr37
      replace F37 := F37.up (N := 16) (by omega)
      have S_37 := F37.ss S
      have B_37 := B.fr F37 (by intro a z1 z2 z3; simp only [yIv] at z3; omega)
      have F37c : yFr (yP a b) _ _ _ _ := F37.inl
      refine zr_aload_n zi90_40 rfl ?_
      refine zr_getfield zi90_41 (B_37.1.at0 rfl) rfl ?_
      refine zr_aload_n zi90_44 rfl ?_
      refine zr_getfield zi90_45 (H37p.1.at0 rfl) rfl ?_
      refine zr_iload_n zi90_48 rfl ?_
      refine zr_virtual zi90_49 rfl rfl (B_37.gr.1.at0 rfl) rfl rfl ?_
      refine zcall_dep (d := 2) (Nat.le_of_ble_eq_true rfl) (c92 S_37 B_37.gr (o := a + 2) (ow := w) (oh := hh) (os := cs) (ol := cl) (ofs := fs) H37p.tr (by omega) (by omega) (fun h49 F49 B_gr49 => zbk_0 ?_))
      have B49p := B_37.putGr F49 B_gr49
      replace F49 := F49.up (N := 17) (by omega)
      have H_49 := H37p.fr F49 (by intro a z1 z2 z3; simp only [yIv] at z3; omega)
      have S_49 := F49.ss S_37
      have F49c : yFr (yP a b) _ _ _ _ := F49.inr
      refine zr_aload_n zi90_52 rfl ?_
      refine zr_getfield zi90_53 (B49p.1.at0 rfl) rfl ?_
      refine zr_getfield zi90_56 (B49p.gr.1.at0 rfl) rfl ?_
      refine zr_ireturn zi90_59 rfl ?_
      exact K _ _ _ _ _ _ _ _ _ _ _ _ _ hk rfl _ ht rfl hg0 _ _ _ _ (yEqA_set rfl) (yFr.pb hk (F37c.trans F49c)) (C.upd hk (F37c.trans F49c) H_49 (yBt.mk B49p) rfl (show yAI α from C.ai hk) C.ait)
    · refine zr_throw zi90_15 rfl rfl rfl ?_
      refine Y0 _ _ _ _ _ _ _ _ _ _ _ _ _ hk rfl ?_
      first | exact zin_no (by omega) (Or.inl q7) | exact zin_no (by omega) (Or.inr (fun q => by obtain ⟨t, ht3, rfl⟩ := zJ_of q7; have h1 := (zJ_lt ht3 (by omega)).mp q; exact q12 ((zJ_le ht3 (by omega)).mpr (by omega))))
theorem c95 {E : zEnv} {h : zPH} {Q : zOut → zPH → Prop} (S : ySs E h) {a : Nat} {L : List yBS} {rf : Int32} {τ : yGS} {αt : yAS} (C : yC h a L rf τ αt) {x y z : Int32} (K : ∀ k b w hh cs cl fs α kp gd gu mi sp, L[k]? = some (b, (w, hh, cs, cl, fs), α, kp, gd, gu, mi, sp) → x = zJ k → ∀ r, r < hh → y = zJ r → ∀ n, n < 2 ^ w → z = zJ n → gu = 0 → yK Q h a L (L.set k (b, (w, hh, zpr w hh r (zJ n) cs w, cl, fs), α, kp, gd, gu, mi, sp)) rf 0 0 (.inl (some (.int (zJ (zct (zpr w hh r (zJ n) cs w) (zJ 1) (w * hh))))))) (X2 : ¬ zin x L.length → Q (.inr 2) (zex h)) (Y2 : ∀ k b w hh cs cl fs α kp gd gu mi sp, L[k]? = some (b, (w, hh, cs, cl, fs), α, kp, gd, gu, mi, sp) → x = zJ k → ¬ zin y hh → Q (.inr 2) (zex h)) (Y0 : ∀ k b w hh cs cl fs α kp gd gu mi sp, L[k]? = some (b, (w, hh, cs, cl, fs), α, kp, gd, gu, mi, sp) → x = zJ k → zin y hh → ¬ zin z (2 ^ w) → Q (.inr 0) (zex h)) (Y1 : ∀ k b w hh cs cl fs α kp gd gu mi sp, L[k]? = some (b, (w, hh, cs, cl, fs), α, kp, gd, gu, mi, sp) → x = zJ k → zin y hh → zin z (2 ^ w) → ¬ gu = 0 → Q (.inr 1) (zex h)) : zcall E 2 95 [.ref a, .int x, .int y, .int z] h Q := by
  have H := C.1
  have hlen := C.len
  have hbl : (L.map (·.1)).length = L.length := by rw [List.length_map]
  show zwp E _ 95 (0, [some (.ref _), some (.int _), some (.int _), some (.int _), none], [], _) Q
  refine zr_aload_n zi95_0 rfl ?_
  refine zr_iload_n zi95_1 rfl ?_
  refine zr_virtual zi95_2 rfl rfl (H.1.at0 rfl) rfl rfl ?_
  refine zcall_dep (d := 0) (Nat.le_of_ble_eq_true rfl) (c13 C (fun k β hk ex => zbk_v ?_) (fun x2 => zbk_no rfl (X2 x2)))
  subst ex
  obtain ⟨b, ⟨w, hh, cs, cl, fs⟩, α, kp, gd, gu, mi, sp⟩ := β
  have B : yB h b w hh cs cl fs α kp gd gu mi sp := (C.bd hk).1
  have hab : a + 16 ≤ b := (C.bd hk).2
  obtain ⟨⟨gw1, gw2, gh1, gh2⟩, gcs, gcl, gfs⟩ := B.gr.2
  obtain ⟨bkp, bgd, bgu⟩ := B.2.2.2.2
  have hwh := zwh_b B.gr.2.1
  refine zr_astore (L' := [some (.ref _), some (.int (zJ _)), some (.int _), some (.int _), some (.ref _)]) zi95_5 rfl rfl ?_
  refine zr_iload_n zi95_7 rfl ?_
  refine zr_if_lt zi95_8 rfl (fun q8 => ?_) (fun q8 => ?_)
  · refine zr_throw zi95_23 rfl rfl rfl ?_
    exact Y2 _ _ _ _ _ _ _ _ _ _ _ _ _ hk rfl (zin_no (by omega) (by first | exact Or.inl q8 | exact Or.inr q20))
  · refine zr_iload_n zi95_11 rfl ?_
    refine zr_aload zi95_12 rfl ?_
    refine zr_getfield zi95_14 (B.1.at0 rfl) rfl ?_
    refine zr_getfield zi95_17 (B.gr.1.at0 rfl) rfl ?_
    refine zr_icmp_lt zi95_20 rfl (fun q20 => ?_) (fun q20 => ?_)
    · obtain ⟨r, hr3, rfl⟩ := zJ_of q8
      have hr : r < hh := (zJ_lt hr3 (by omega)).mp q20
      have hp := zpow5 gw2
      refine zr_iload_n zi95_33 rfl ?_
      refine zr_if_lt zi95_34 rfl (fun q34 => ?_) (fun q34 => ?_)
      · refine zr_throw zi95_51 rfl rfl rfl ?_
        exact Y0 _ _ _ _ _ _ _ _ _ _ _ _ _ hk rfl ⟨_, hr, rfl⟩ (zin_no (by omega) (by first | exact Or.inl q34 | (rw [Nat.one_mul] at q48; exact Or.inr q48)))
      · refine zr_iload_n zi95_37 rfl ?_
        refine zr_iconst (v := zJ 1) zi95_38 rfl ?_
        refine zr_aload zi95_39 rfl ?_
        refine zr_getfield zi95_41 (B.1.at0 rfl) rfl ?_
        refine zr_getfield zi95_44 (B.gr.1.at0 rfl) rfl ?_
        refine zr_ishlN zi95_47 (by omega) ?_
        refine zr_icmp_lt zi95_48 rfl (fun q48 => ?_) (fun q48 => ?_)
        · obtain ⟨n, hn3, rfl⟩ := zJ_of q34
          have hn : n < 2 ^ w := by have := (zJ_lt hn3 (by omega)).mp q48; omega
          refine zr_aload zi95_61 rfl ?_
          refine zr_static zi95_63 rfl rfl rfl rfl ?_
          refine zcall_dep (d := 0) (Nat.le_of_ble_eq_true rfl) (c91 B (fun hg0 => zbk_0 ?_) (fun x63 => zbk_no rfl (Y1 _ _ _ _ _ _ _ _ _ _ _ _ _ hk rfl ⟨_, hr, rfl⟩ ⟨_, hn, rfl⟩ x63)))
          refine zr_aload zi95_66 rfl ?_
          refine zr_getfield zi95_68 (B.1.at0 rfl) rfl ?_
          refine zr_iload_n zi95_71 rfl ?_
          refine zr_iload_n zi95_72 rfl ?_
          refine zr_virtual zi95_73 rfl rfl (B.gr.1.at0 rfl) rfl rfl ?_
          refine zcall_dep (d := 1) (Nat.le_of_ble_eq_true rfl) (c96 B.gr (by omega) (fun h73 F73 B_gr73 => zbk_0 ?_))
          have B73p := B.putGr F73 B_gr73
          replace F73 := F73.up (N := 17) (by omega)
          have H_73 := H.fr F73 (by intro a z1 z2 z3; simp only [yIv] at z3; omega)
          have S_73 := F73.ss S
          have F73c : yFr (yP a b) _ _ _ _ := F73.inr
          refine zr_aload zi95_76 rfl ?_
          refine zr_getfield zi95_78 (B73p.1.at0 rfl) rfl ?_
          refine zr_iconst (v := zJ 1) zi95_81 rfl ?_
          refine zr_virtual zi95_82 rfl rfl (B73p.gr.1.at0 rfl) rfl rfl ?_
          refine zcall_dep (d := 1) (Nat.le_of_ble_eq_true rfl) (c14 B73p.gr (zbk_v ?_))
          refine zr_ireturn zi95_85 rfl ?_
          exact K _ _ _ _ _ _ _ _ _ _ _ _ _ hk rfl _ hr rfl _ hn rfl hg0 _ _ _ _ (yEqA_set rfl) (yFr.pb hk F73c) (C.upd hk F73c H_73 (yBt.mk B73p) rfl (show yAI α from C.ai hk) C.ait)
        · refine zr_throw zi95_51 rfl rfl rfl ?_
          exact Y0 _ _ _ _ _ _ _ _ _ _ _ _ _ hk rfl ⟨_, hr, rfl⟩ (zin_no (by omega) (by first | exact Or.inl q34 | (rw [Nat.one_mul] at q48; exact Or.inr q48)))
    · refine zr_throw zi95_23 rfl rfl rfl ?_
      exact Y2 _ _ _ _ _ _ _ _ _ _ _ _ _ hk rfl (zin_no (by omega) (by first | exact Or.inl q8 | exact Or.inr q20))
theorem c98 {E : zEnv} {h : zPH} {Q : zOut → zPH → Prop} (S : ySs E h) {a : Nat} {L : List yBS} {rf : Int32} {τ : yGS} {αt : yAS} (C : yC h a L rf τ αt) {x : Int32} (K : ∀ k b w hh cs cl fs α kp gd gu mi sp, L[k]? = some (b, (w, hh, cs, cl, fs), α, kp, gd, gu, mi, sp) → x = zJ k → gu = 0 → zct cs (zJ 0) (w * hh) = 0 → yK Q h a L (L.set k (b, (w, hh, zclr cs 25, (zts w hh cs cl fs (w + hh)).1, (zts w hh cs cl fs (w + hh)).2.1), α, kp, gd, gu, mi, sp)) rf 0 0 (.inl (some (.int (zts w hh cs cl fs (w + hh)).2.2)))) (X2 : ¬ zin x L.length → Q (.inr 2) (zex h)) (Y1 : ∀ k b w hh cs cl fs α kp gd gu mi sp, L[k]? = some (b, (w, hh, cs, cl, fs), α, kp, gd, gu, mi, sp) → x = zJ k → ¬ gu = 0 → Q (.inr 1) (zex h)) (Y3 : ∀ k b w hh cs cl fs α kp gd gu mi sp, L[k]? = some (b, (w, hh, cs, cl, fs), α, kp, gd, gu, mi, sp) → x = zJ k → ¬ zct cs (zJ 0) (w * hh) = 0 → Q (.inr 1) (zex h)) : zcall E 3 98 [.ref a, .int x] h Q := by
  have H := C.1
  have hlen := C.len
  have hbl : (L.map (·.1)).length = L.length := by rw [List.length_map]
  show zwp E _ 98 (0, [some (.ref _), some (.int _), none, none], [], _) Q
  refine zr_aload_n zi98_0 rfl ?_
  refine zr_iload_n zi98_1 rfl ?_
  refine zr_virtual zi98_2 rfl rfl (H.1.at0 rfl) rfl rfl ?_
  refine zcall_dep (d := 0) (Nat.le_of_ble_eq_true rfl) (c13 C (fun k β hk ex => zbk_v ?_) (fun x2 => zbk_no rfl (X2 x2)))
  subst ex
  obtain ⟨b, ⟨w, hh, cs, cl, fs⟩, α, kp, gd, gu, mi, sp⟩ := β
  have B : yB h b w hh cs cl fs α kp gd gu mi sp := (C.bd hk).1
  have hab : a + 16 ≤ b := (C.bd hk).2
  obtain ⟨⟨gw1, gw2, gh1, gh2⟩, gcs, gcl, gfs⟩ := B.gr.2
  obtain ⟨bkp, bgd, bgu⟩ := B.2.2.2.2
  have hwh := zwh_b B.gr.2.1
  refine zr_astore_n (L' := [some (.ref _), some (.int (zJ _)), some (.ref _), none]) zi98_5 rfl rfl ?_
  refine zr_aload_n zi98_6 rfl ?_
  refine zr_static zi98_7 rfl rfl rfl rfl ?_
  refine zcall_dep (d := 0) (Nat.le_of_ble_eq_true rfl) (c91 B (fun hg0 => zbk_0 ?_) (fun x7 => zbk_no rfl (Y1 _ _ _ _ _ _ _ _ _ _ _ _ _ hk rfl x7)))
  refine zr_aload_n zi98_10 rfl ?_
  refine zr_getfield zi98_11 (B.1.at0 rfl) rfl ?_
  refine zr_iconst (v := zJ 0) zi98_14 rfl ?_
  refine zr_virtual zi98_15 rfl rfl (B.gr.1.at0 rfl) rfl rfl ?_
  refine zcall_dep (d := 1) (Nat.le_of_ble_eq_true rfl) (c14 B.gr (zbk_v ?_))
  have hct := zct_le cs (zJ 0) (w * hh)
  refine zr_if_leN zi98_18 rfl (by omega) (fun q18 => ?_) (fun q18 => ?_)
  · refine zr_aload_n zi98_31 rfl ?_
    refine zr_getfield zi98_32 (B.1.at0 rfl) rfl ?_
    refine zr_virtual zi98_35 rfl rfl (B.gr.1.at0 rfl) rfl rfl ?_
    refine zcall_dep (d := 2) (Nat.le_of_ble_eq_true rfl) (c99 S B.gr (fun h35 F35 B_gr35 => zbk_v ?_))
    have B35p := B.putGr F35 B_gr35
    replace F35 := F35.up (N := 17) (by omega)
    have H_35 := H.fr F35 (by intro a z1 z2 z3; simp only [yIv] at z3; omega)
    have S_35 := F35.ss S
    have F35c : yFr (yP a b) _ _ _ _ := F35.inr
    refine zr_istore_n (L' := [some (.ref _), some (.int (zJ _)), some (.ref _), some (.int _)]) zi98_38 rfl rfl ?_
    refine zr_aload_n zi98_39 rfl ?_
    refine zr_getfield zi98_40 (B35p.1.at0 rfl) rfl ?_
    refine zr_virtual zi98_43 rfl rfl (B35p.gr.1.at0 rfl) rfl rfl ?_
    refine zcall_dep (d := 1) (Nat.le_of_ble_eq_true rfl) (c2 B35p.gr (fun h43 F43 B_gr43 => zbk_0 ?_))
    have B43p := B35p.putGr F43 B_gr43
    replace F43 := F43.up (N := 17) (by omega)
    have H_43 := H_35.fr F43 (by intro a z1 z2 z3; simp only [yIv] at z3; omega)
    have S_43 := F43.ss S_35
    have F43c : yFr (yP a b) _ _ _ _ := F43.inr
    refine zr_iload_n zi98_46 rfl ?_
    refine zr_ireturn zi98_47 rfl ?_
    exact K _ _ _ _ _ _ _ _ _ _ _ _ _ hk rfl hg0 q18 _ _ _ _ (yEqA_set rfl) (yFr.pb hk (F35c.trans F43c)) (C.upd hk (F35c.trans F43c) H_43 (yBt.mk B43p) rfl (show yAI α from C.ai hk) C.ait)
  · refine zr_throw zi98_21 rfl rfl rfl ?_
    exact Y3 _ _ _ _ _ _ _ _ _ _ _ _ _ hk rfl (by omega)
theorem c103 {E : zEnv} {h : zPH} {Q : zOut → zPH → Prop} (S : ySs E h) {a : Nat} {L : List yBS} {rf : Int32} {τ : yGS} {αt : yAS} (C : yC h a L rf τ αt) {x : Int32} (K : ∀ k b w hh cs cl fs α kp gd gu mi sp, L[k]? = some (b, (w, hh, cs, cl, fs), α, kp, gd, gu, mi, sp) → x = zJ k → yK Q h a L (L.set k (b, (w, hh, zclr cs 25, cl, fs), α, kp, gd, 0, mi, sp)) rf 0 0 (.inl (some (.int (zJ (w * hh - zct cs (zJ 0) (w * hh))))))) (X2 : ¬ zin x L.length → Q (.inr 2) (zex h)) : zcall E 2 103 [.ref a, .int x] h Q := by
  have H := C.1
  have hlen := C.len
  have hbl : (L.map (·.1)).length = L.length := by rw [List.length_map]
  show zwp E _ 103 (0, [some (.ref _), some (.int _), none, none], [], _) Q
  refine zr_aload_n zi103_0 rfl ?_
  refine zr_iload_n zi103_1 rfl ?_
  refine zr_virtual zi103_2 rfl rfl (H.1.at0 rfl) rfl rfl ?_
  refine zcall_dep (d := 0) (Nat.le_of_ble_eq_true rfl) (c13 C (fun k β hk ex => zbk_v ?_) (fun x2 => zbk_no rfl (X2 x2)))
  subst ex
  obtain ⟨b, ⟨w, hh, cs, cl, fs⟩, α, kp, gd, gu, mi, sp⟩ := β
  have B : yB h b w hh cs cl fs α kp gd gu mi sp := (C.bd hk).1
  have hab : a + 16 ≤ b := (C.bd hk).2
  obtain ⟨⟨gw1, gw2, gh1, gh2⟩, gcs, gcl, gfs⟩ := B.gr.2
  obtain ⟨bkp, bgd, bgu⟩ := B.2.2.2.2
  have hwh := zwh_b B.gr.2.1
  refine zr_astore_n (L' := [some (.ref _), some (.int (zJ _)), some (.ref _), none]) zi103_5 rfl rfl ?_
  refine zr_aload_n zi103_6 rfl ?_
  refine zr_getfield zi103_7 (B.1.at0 rfl) rfl ?_
  refine zr_virtual zi103_10 rfl rfl (B.gr.1.at0 rfl) rfl rfl ?_
  refine zcall_dep (d := 0) (Nat.le_of_ble_eq_true rfl) (c15 B.gr (zbk_v ?_))
  refine zr_aload_n zi103_13 rfl ?_
  refine zr_getfield zi103_14 (B.1.at0 rfl) rfl ?_
  refine zr_iconst (v := zJ 0) zi103_17 rfl ?_
  refine zr_virtual zi103_18 rfl rfl (B.gr.1.at0 rfl) rfl rfl ?_
  refine zcall_dep (d := 1) (Nat.le_of_ble_eq_true rfl) (c14 B.gr (zbk_v ?_))
  refine zr_isubN zi103_21 (zct_le _ _ _) ?_
  refine zr_istore_n (L' := [some (.ref _), some (.int (zJ _)), some (.ref _), some (.int (zJ _))]) zi103_22 rfl rfl ?_
  refine zr_aload_n zi103_23 rfl ?_
  refine zr_getfield zi103_24 (B.1.at0 rfl) rfl ?_
  refine zr_virtual zi103_27 rfl rfl (B.gr.1.at0 rfl) rfl rfl ?_
  refine zcall_dep (d := 1) (Nat.le_of_ble_eq_true rfl) (c2 B.gr (fun h27 F27 B_gr27 => zbk_0 ?_))
  have B27p := B.putGr F27 B_gr27
  replace F27 := F27.up (N := 17) (by omega)
  have H_27 := H.fr F27 (by intro a z1 z2 z3; simp only [yIv] at z3; omega)
  have S_27 := F27.ss S
  have F27c : yFr (yP a b) _ _ _ _ := F27.inr
  refine zr_aload_n zi103_30 rfl ?_
  refine zr_iconst (v := zJ 0) zi103_31 rfl ?_
  refine zr_putfield zi103_32 (B27p.1.at0 rfl) rfl rfl ?_
  refine yB.wob B27p (by first | omega | (simp only [List.length_set, zpt_len]; omega)) (fun h32 F32 B32 => ?_)
  have H_32 := H_27.fr F32 (by intro a z1 z2 z3; simp only [yIv] at z3; omega)
  have S_32 := F32.ss S_27
  have F32c : yFr (yP a b) _ _ _ _ := F32.inr
  refine zr_iload_n zi103_35 rfl ?_
  refine zr_ireturn zi103_36 rfl ?_
  exact K _ _ _ _ _ _ _ _ _ _ _ _ _ hk rfl _ _ _ _ (yEqA_set rfl) (yFr.pb hk (F27c.trans F32c)) (C.upd hk (F27c.trans F32c) H_32 (yBt.mk B32) rfl (show yAI α from C.ai hk) C.ait)
theorem c39 {E : zEnv} {h : zPH} {Q : zOut → zPH → Prop} (S : ySs E h) {a : Nat} {L : List yBS} {rf : Int32} {τ : yGS} {αt : yAS} (C : yC h a L rf τ αt) {x y z : Int32} (K : ∀ k b w hh cs cl fs α kp gd gu mi sp, L[k]? = some (b, (w, hh, cs, cl, fs), α, kp, gd, gu, mi, sp) → x = zJ k → ∀ c, c < w * hh → y = zJ c → ∀ t, t < 4 → z = zJ t → yK Q h a L L rf 0 0 (.inl (some (.int (cs.getD (c * 4 + t) 0))))) (X2 : ¬ zin x L.length → Q (.inr 2) (zex h)) (Y2 : ∀ k b w hh cs cl fs α kp gd gu mi sp, L[k]? = some (b, (w, hh, cs, cl, fs), α, kp, gd, gu, mi, sp) → x = zJ k → ¬ zin y (w * hh) → Q (.inr 2) (zex h)) (Y0 : ∀ k b w hh cs cl fs α kp gd gu mi sp, L[k]? = some (b, (w, hh, cs, cl, fs), α, kp, gd, gu, mi, sp) → x = zJ k → zin y (w * hh) → ¬ zin z 4 → Q (.inr 0) (zex h)) : zcall E 2 39 [.ref a, .int x, .int y, .int z] h Q := by
  have H := C.1
  have hlen := C.len
  have hbl : (L.map (·.1)).length = L.length := by rw [List.length_map]
  show zwp E _ 39 (0, [some (.ref _), some (.int _), some (.int _), some (.int _), none], [], _) Q
  refine zr_aload_n zi39_0 rfl ?_
  refine zr_iload_n zi39_1 rfl ?_
  refine zr_virtual zi39_2 rfl rfl (H.1.at0 rfl) rfl rfl ?_
  refine zcall_dep (d := 0) (Nat.le_of_ble_eq_true rfl) (c13 C (fun k β hk ex => zbk_v ?_) (fun x2 => zbk_no rfl (X2 x2)))
  subst ex
  obtain ⟨b, ⟨w, hh, cs, cl, fs⟩, α, kp, gd, gu, mi, sp⟩ := β
  have B : yB h b w hh cs cl fs α kp gd gu mi sp := (C.bd hk).1
  have hab : a + 16 ≤ b := (C.bd hk).2
  obtain ⟨⟨gw1, gw2, gh1, gh2⟩, gcs, gcl, gfs⟩ := B.gr.2
  obtain ⟨bkp, bgd, bgu⟩ := B.2.2.2.2
  have hwh := zwh_b B.gr.2.1
  refine zr_getfield zi39_5 (B.1.at0 rfl) rfl ?_
  refine zr_astore (L' := [some (.ref _), some (.int (zJ _)), some (.int _), some (.int _), some (.ref _)]) zi39_8 rfl rfl ?_
  refine zr_aload zi39_10 rfl ?_
  refine zr_iload_n zi39_12 rfl ?_
  refine zr_static zi39_13 rfl rfl rfl rfl ?_
  refine zcall_dep (d := 1) (Nat.le_of_ble_eq_true rfl) (c40 B.gr (fun c hc ec => zbk_0 ?_) (fun x13 => zbk_no rfl (Y2 _ _ _ _ _ _ _ _ _ _ _ _ _ hk rfl x13)))
  subst ec
  refine zr_iload_n zi39_16 rfl ?_
  refine zr_iconst (v := zJ 3) zi39_17 rfl ?_
  refine zr_static zi39_18 rfl rfl rfl rfl ?_
  refine zcall_dep (d := 0) (Nat.le_of_ble_eq_true rfl) (c12 (by omega) (fun t ht et => zbk_0 ?_) (fun x18 => zbk_no rfl (Y0 _ _ _ _ _ _ _ _ _ _ _ _ _ hk rfl ⟨_, hc, rfl⟩ x18)))
  subst et
  refine zr_aload zi39_21 rfl ?_
  refine zr_iload_n zi39_23 rfl ?_
  refine zr_iload_n zi39_24 rfl ?_
  refine zr_virtual zi39_25 rfl rfl (B.gr.1.at0 rfl) rfl rfl ?_
  refine zcall_dep (d := 0) (Nat.le_of_ble_eq_true rfl) (c41 B.gr (by omega) (by omega) (zbk_v ?_))
  refine zr_ireturn zi39_28 rfl ?_
  exact K _ _ _ _ _ _ _ _ _ _ _ _ _ hk rfl _ hc rfl _ ht rfl _ _ _ _ (yEqA.refl L) (yFr.refl _ _) C
def zof (w hh : Nat) (cs cl fs : List Int32) (i t : Nat) : Int32 := if t = 0 then cl.getD i 0 else if t = 1 then zrn (cl.getD i 0) else if t = 2 then zbc (zws w hh cs fs i) else if t = 3 then yfl w hh cs (zws w hh cs fs i) i (zJ 1) else if t = 4 then yfl w hh cs (zws w hh cs fs i) i (zJ 2) else zJ (yln w hh i)
theorem zr_tableL {E : zEnv} {d j pc pc' : Nat} {L : zLc} {st : List Value} {h : zPH} {Q : zOut → zPH → Prop} {x : zAux} {y : Int32} {df lo hi' off : Int} {offs : Array Int} {t : Nat} (hi : zat j pc (.tableswitch df lo hi' offs) pc' x) (hy : ¬ (y.toInt < lo ∨ hi' < y.toInt)) (ho : offs[(y.toInt - lo).toNat]? = some off) (ht : ztg pc off = t) (K : zwp E d j (t, L, st, h) Q) : zwp E d j (pc, L, .int y :: st, h) Q := by
  refine zr_table hi rfl (fun q => absurd q hy) (fun _ => ?_)
  rw [ho]
  subst ht
  exact K
theorem zr_tableD {E : zEnv} {d j pc pc' : Nat} {L : zLc} {st : List Value} {h : zPH} {Q : zOut → zPH → Prop} {x : zAux} {y : Int32} {df lo hi' : Int} {offs : Array Int} {t : Nat} (hi : zat j pc (.tableswitch df lo hi' offs) pc' x) (hy : y.toInt < lo ∨ hi' < y.toInt) (ht : ztg pc df = t) (K : zwp E d j (t, L, st, h) Q) : zwp E d j (pc, L, .int y :: st, h) Q :=
  zr_table hi ht (fun _ => K) (fun q => absurd hy q)
theorem c42 {E : zEnv} {h : zPH} {Q : zOut → zPH → Prop} (S : ySs E h) {a : Nat} {L : List yBS} {rf : Int32} {τ : yGS} {αt : yAS} (C : yC h a L rf τ αt) {x y z : Int32} (K : ∀ k b w hh cs cl fs α kp gd gu mi sp, L[k]? = some (b, (w, hh, cs, cl, fs), α, kp, gd, gu, mi, sp) → x = zJ k → ∀ i, i < w + hh → y = zJ i → ∀ t, t < 6 → z = zJ t → yK Q h a L L rf 0 0 (.inl (some (.int (zof w hh cs cl fs i t))))) (X2 : ¬ zin x L.length → Q (.inr 2) (zex h)) (Y2 : ∀ k b w hh cs cl fs α kp gd gu mi sp, L[k]? = some (b, (w, hh, cs, cl, fs), α, kp, gd, gu, mi, sp) → x = zJ k → ¬ zin y (w + hh) → Q (.inr 2) (zex h)) (Y0 : ∀ k b w hh cs cl fs α kp gd gu mi sp, L[k]? = some (b, (w, hh, cs, cl, fs), α, kp, gd, gu, mi, sp) → x = zJ k → zin y (w + hh) → ¬ zin z 6 → Q (.inr 0) (zex h)) : zcall E 3 42 [.ref a, .int x, .int y, .int z] h Q := by
  have H := C.1
  have hlen := C.len
  have hbl : (L.map (·.1)).length = L.length := by rw [List.length_map]
  show zwp E _ 42 (0, [some (.ref _), some (.int _), some (.int _), some (.int _), none], [], _) Q
  refine zr_aload_n zi42_0 rfl ?_
  refine zr_iload_n zi42_1 rfl ?_
  refine zr_virtual zi42_2 rfl rfl (H.1.at0 rfl) rfl rfl ?_
  refine zcall_dep (d := 0) (Nat.le_of_ble_eq_true rfl) (c13 C (fun k β hk ex => zbk_v ?_) (fun x2 => zbk_no rfl (X2 x2)))
  subst ex
  obtain ⟨b, ⟨w, hh, cs, cl, fs⟩, α, kp, gd, gu, mi, sp⟩ := β
  have B : yB h b w hh cs cl fs α kp gd gu mi sp := (C.bd hk).1
  have hab : a + 16 ≤ b := (C.bd hk).2
  obtain ⟨⟨gw1, gw2, gh1, gh2⟩, gcs, gcl, gfs⟩ := B.gr.2
  obtain ⟨bkp, bgd, bgu⟩ := B.2.2.2.2
  have hwh := zwh_b B.gr.2.1
  refine zr_getfield zi42_5 (B.1.at0 rfl) rfl ?_
  refine zr_astore (L' := [some (.ref _), some (.int (zJ _)), some (.int _), some (.int _), some (.ref _)]) zi42_8 rfl rfl ?_
  refine zr_aload zi42_10 rfl ?_
  refine zr_iload_n zi42_12 rfl ?_
  refine zr_static zi42_13 rfl rfl rfl rfl ?_
  refine zcall_dep (d := 1) (Nat.le_of_ble_eq_true rfl) (c43 B.gr (fun i hi ei => zbk_0 ?_) (fun x13 => zbk_no rfl (Y2 _ _ _ _ _ _ _ _ _ _ _ _ _ hk rfl x13)))
  subst ei
  refine zr_iload_n zi42_16 rfl ?_
  refine zr_iconst (v := zJ 5) zi42_17 rfl ?_
  refine zr_static zi42_18 rfl rfl rfl rfl ?_
  refine zcall_dep (d := 0) (Nat.le_of_ble_eq_true rfl) (c12 (by omega) (fun t ht et => zbk_0 ?_) (fun x18 => zbk_no rfl (Y0 _ _ _ _ _ _ _ _ _ _ _ _ _ hk rfl ⟨_, hi, rfl⟩ x18)))
  subst et
  refine zr_iload_n zi42_21 rfl ?_
  rcases (show t = 0 ∨ t = 1 ∨ t = 2 ∨ t = 3 ∨ t = 4 ∨ t = 5 by omega) with rfl | rfl | rfl | rfl | rfl | rfl
  · refine zr_tableL zi42_22 (by decide) rfl rfl ?_
    refine zr_aload zi42_56 rfl ?_
    refine zr_iload_n zi42_58 rfl ?_
    refine zr_virtual zi42_59 rfl rfl (B.gr.1.at0 rfl) rfl rfl ?_
    refine zcall_dep (d := 0) (Nat.le_of_ble_eq_true rfl) (c36 B.gr (by omega) (zbk_v ?_))
    refine zr_ireturn zi42_62 rfl ?_
    exact K _ _ _ _ _ _ _ _ _ _ _ _ _ hk rfl _ hi rfl _ ht rfl _ _ _ _ (yEqA.refl L) (yFr.refl _ _) C
  · refine zr_tableL zi42_22 (by decide) rfl rfl ?_
    refine zr_aload zi42_63 rfl ?_
    refine zr_iload_n zi42_65 rfl ?_
    refine zr_virtual zi42_66 rfl rfl (B.gr.1.at0 rfl) rfl rfl ?_
    refine zcall_dep (d := 0) (Nat.le_of_ble_eq_true rfl) (c36 B.gr (by omega) (zbk_v ?_))
    refine zr_static zi42_69 rfl rfl rfl rfl ?_
    refine zcall_dep (d := 0) (Nat.le_of_ble_eq_true rfl) (c44 (zbk_v ?_))
    refine zr_ireturn zi42_72 rfl ?_
    exact K _ _ _ _ _ _ _ _ _ _ _ _ _ hk rfl _ hi rfl _ ht rfl _ _ _ _ (yEqA.refl L) (yFr.refl _ _) C
  · refine zr_tableL zi42_22 (by decide) rfl rfl ?_
    refine zr_aload zi42_73 rfl ?_
    refine zr_iload_n zi42_75 rfl ?_
    refine zr_virtual zi42_76 rfl rfl (B.gr.1.at0 rfl) rfl rfl ?_
    refine zcall_dep (d := 1) (Nat.le_of_ble_eq_true rfl) (c20 S B.gr (by omega) (zbk_v ?_))
    refine zr_static zi42_79 rfl rfl rfl rfl ?_
    refine zcall_dep (d := 0) (Nat.le_of_ble_eq_true rfl) (c29 (zbk_v ?_))
    refine zr_ireturn zi42_82 rfl ?_
    exact K _ _ _ _ _ _ _ _ _ _ _ _ _ hk rfl _ hi rfl _ ht rfl _ _ _ _ (yEqA.refl L) (yFr.refl _ _) C
  · refine zr_tableL zi42_22 (by decide) rfl rfl ?_
    refine zr_aload zi42_83 rfl ?_
    refine zr_iload_n zi42_85 rfl ?_
    refine zr_iconst (v := zJ 1) zi42_86 rfl ?_
    refine zr_virtual zi42_87 rfl rfl (B.gr.1.at0 rfl) rfl rfl ?_
    refine zcall_dep (d := 2) (Nat.le_of_ble_eq_true rfl) (c45 S B.gr (by omega) (zbk_v ?_))
    refine zr_ireturn zi42_90 rfl ?_
    exact K _ _ _ _ _ _ _ _ _ _ _ _ _ hk rfl _ hi rfl _ ht rfl _ _ _ _ (yEqA.refl L) (yFr.refl _ _) C
  · refine zr_tableL zi42_22 (by decide) rfl rfl ?_
    refine zr_aload zi42_91 rfl ?_
    refine zr_iload_n zi42_93 rfl ?_
    refine zr_iconst (v := zJ 2) zi42_94 rfl ?_
    refine zr_virtual zi42_95 rfl rfl (B.gr.1.at0 rfl) rfl rfl ?_
    refine zcall_dep (d := 2) (Nat.le_of_ble_eq_true rfl) (c45 S B.gr (by omega) (zbk_v ?_))
    refine zr_ireturn zi42_98 rfl ?_
    exact K _ _ _ _ _ _ _ _ _ _ _ _ _ hk rfl _ hi rfl _ ht rfl _ _ _ _ (yEqA.refl L) (yFr.refl _ _) C
  · refine zr_tableD zi42_22 (by decide) rfl ?_
    refine zr_aload zi42_99 rfl ?_
    refine zr_iload_n zi42_101 rfl ?_
    refine zr_virtual zi42_102 rfl rfl (B.gr.1.at0 rfl) rfl rfl ?_
    refine zcall_dep (d := 0) (Nat.le_of_ble_eq_true rfl) (c6 B.gr (by omega) (zbk_v ?_))
    refine zr_ireturn zi42_105 rfl ?_
    exact K _ _ _ _ _ _ _ _ _ _ _ _ _ hk rfl _ hi rfl _ ht rfl _ _ _ _ (yEqA.refl L) (yFr.refl _ _) C
