/-! ===== the reference: more ===== -/
theorem c200n {E : zEnv} {h : zPH} {Q : zOut → zPH → Prop} {n0 : Nat} (hn0 : n0 < 2147483648) (K : Q (.inl (some (.int (rrvF 10 n0 (zJ 0))))) h) : zcall E 0 200 [.int (zJ n0)] h Q := by
  show zwp E _ 200 (0, [some (.int (zJ _)), none, none], [], _) Q
  refine zr_iconst (v := zJ 0) zi200_0 rfl ?_
  refine zr_istore_n (L' := [some (.int (zJ _)), some (.int (zJ _)), none]) zi200_1 rfl rfl ?_
  refine zr_iload_n zi200_2 rfl ?_
  refine zr_istore_n (L' := [some (.int (zJ _)), some (.int (zJ _)), some (.int (zJ _))]) zi200_3 rfl rfl ?_
  suffices key4 : ∀ k, ∀ f acc, (k < 10 ^ f) → (k < 2147483648) → (rrvF f k acc = rrvF 10 n0 (zJ 0)) → zwp E 0 200 (4, [some (.int (zJ n0)), some (.int acc), some (.int (zJ k))], [], h) Q from key4 _ 10 _ (by omega) hn0 rfl
  refine zfall fun k ih4 => ?_
  intro f acc hf hn hE
  refine zr_iload_n zi200_4 rfl ?_
  refine zr_if_leN zi200_5 rfl (by omega) (fun q5 => ?_) (fun q5 => ?_)
  · rw [q5, rrvF_0] at hE
    rw [← hE] at K
    refine zr_iload_n zi200_26 rfl ?_
    refine zr_if_geN zi200_27 rfl (by omega) ?_
    refine zr_iload_n zi200_34 rfl ?_
    refine zr_ireturn zi200_35 rfl ?_
    exact K
  · refine zr_bipush (v := zJ 10) zi200_8 rfl ?_
    refine zr_iload_n zi200_10 rfl ?_
    refine zr_imul zi200_11 ?_
    refine zr_iload_n zi200_12 rfl ?_
    refine zr_bipush (v := zJ 10) zi200_13 rfl ?_
    refine zr_iremN zi200_15 (by omega) (by omega) (by omega) ?_
    refine zr_iadd zi200_16 ?_
    refine zr_istore_n (L' := [some (.int (zJ _)), some (.int _), some (.int (zJ _))]) zi200_17 rfl rfl ?_
    refine zr_iload_n zi200_18 rfl ?_
    refine zr_bipush (v := zJ 10) zi200_19 rfl ?_
    refine zr_idivN zi200_21 (by omega) (by omega) (by omega) ?_
    refine zr_istore_n (L' := [some (.int (zJ _)), some (.int _), some (.int (zJ _))]) zi200_22 rfl rfl ?_
    refine zr_goto zi200_23 rfl ?_
    obtain ⟨f1, e1, hn1, eq1⟩ := rrvF_s (acc := acc) q5 hf
    exact ih4 (k / 10) (by omega) f1 _ hn1 (by omega) (by rw [← eq1]; exact hE)
theorem c200z {E : zEnv} {h : zPH} {Q : zOut → zPH → Prop} {x : Int32} (hx : x < 0) (K : Q (.inl (some (.int x))) h) : zcall E 0 200 [.int x] h Q := by
  show zwp E _ 200 (0, [some (.int _), none, none], [], _) Q
  refine zr_iconst (v := zJ 0) zi200_0 rfl ?_
  refine zr_istore_n (L' := [some (.int _), some (.int (zJ _)), none]) zi200_1 rfl rfl ?_
  refine zr_iload_n zi200_2 rfl ?_
  refine zr_istore_n (L' := [some (.int _), some (.int (zJ _)), some (.int _)]) zi200_3 rfl rfl ?_
  refine zr_iload_n zi200_4 rfl ?_
  refine zr_if_le zi200_5 rfl (fun q5 => ?_) (fun q5 => absurd q5 (fun z => z (Int32.le_of_lt hx)))
  refine zr_iload_n zi200_26 rfl ?_
  refine zr_if_ge zi200_27 rfl (fun q27 => absurd q27 (fun z => zle_no z hx)) (fun q27 => ?_)
  refine zr_iload_n zi200_30 rfl ?_
  refine zr_goto zi200_31 rfl ?_
  refine zr_ireturn zi200_35 rfl ?_
  exact K
theorem c200 {E : zEnv} {h : zPH} {Q : zOut → zPH → Prop} {x : Int32} (K : Q (.inl (some (.int (rrv x)))) h) : zcall E 0 200 [.int x] h Q := by
  by_cases hx : x < 0
  · rw [rrv, if_pos hx] at K
    exact c200z hx K
  · obtain ⟨n, hn, rfl⟩ := zJ_of hx
    rw [rrv, if_neg hx, zJ_c hn] at K
    exact c200n hn K
theorem zJ_eq0 {n : Nat} (hn : n < 2147483648) : zJ n = 0 ↔ n = 0 := zJ_eq (b := 0) hn (by omega)
def rcbF (n : Nat) : Nat → Nat → Int32 → Bool
  | 0, _, acc => decide (acc ≤ zJ n)
  | f + 1, k, acc => if k = 0 then decide (acc ≤ zJ n) else if k % 10 = 0 then false else rcbF n f (k / 10) (acc + zJ (k % 10))
def rcb (x : Int32) (n : Nat) : Bool := if x < 0 then false else if x = 0 then true else rcbF n 10 x.toNatClampNeg (rrn x - zJ 1)
theorem rcbF_0 (n f : Nat) (acc : Int32) : rcbF n f 0 acc = decide (acc ≤ zJ n) := by cases f <;> simp [rcbF]
theorem rcbF_s {n f k : Nat} {acc : Int32} (h0 : 0 < k) (hf : k < 10 ^ f) : ∃ f', f = f' + 1 ∧ k / 10 < 10 ^ f' ∧ rcbF n f k acc = if k % 10 = 0 then false else rcbF n f' (k / 10) (acc + zJ (k % 10)) := by
  cases f with
  | zero => exact absurd hf (by simp; omega)
  | succ f =>
    refine ⟨f, rfl, ?_, ?_⟩
    · rw [Nat.pow_succ] at hf
      omega
    · rw [rcbF, if_neg (by omega)]
theorem c169n {E : zEnv} {h : zPH} {Q : zOut → zPH → Prop} {n0 n : Nat} (hn0 : n0 < 2147483648) (hn : n < 1000) (K : Q (.inl (some (.int (zB (rcb (zJ n0) n))))) h) : zcall E 1 169 [.int (zJ n0), .int (zJ n)] h Q := by
  show zwp E _ 169 (0, [some (.int (zJ _)), some (.int (zJ _)), none, none], [], _) Q
  rw [rcb, if_neg (zJ_nn hn0)] at K
  refine zr_iload_n zi169_0 rfl ?_
  refine zr_if_geN zi169_1 rfl (by omega) ?_
  refine zr_iload_n zi169_6 rfl ?_
  refine zr_static zi169_7 rfl rfl rfl rfl ?_
  refine zcall_dep (d := 0) (Nat.le_of_ble_eq_true rfl) (c170 (zbk_v ?_))
  refine zr_iconst (v := zJ 1) zi169_10 rfl ?_
  refine zr_isub zi169_11 ?_
  refine zr_istore_n (L' := [some (.int (zJ _)), some (.int (zJ _)), some (.int _), none]) zi169_12 rfl rfl ?_
  refine zr_iload_n zi169_13 rfl ?_
  refine zr_istore_n (L' := [some (.int (zJ _)), some (.int (zJ _)), some (.int _), some (.int (zJ _))]) zi169_14 rfl rfl ?_
  suffices key15 : ∀ k, ∀ f acc, (k < 10 ^ f) → (k < 2147483648) → (rcbF n f k acc = rcbF n 10 n0 (rrn (zJ n0) - zJ 1)) → (n0 = 0 → k = 0) → zwp E 1 169 (15, [some (.int (zJ n0)), some (.int (zJ n)), some (.int acc), some (.int (zJ k))], [], h) Q from key15 _ 10 _ (by omega) hn0 rfl id
  refine zfall fun k ih15 => ?_
  intro f acc hf hk hE h0
  refine zr_iload_n zi169_15 rfl ?_
  refine zr_if_leN zi169_16 rfl (by omega) (fun q16 => ?_) (fun q16 => ?_)
  · rw [q16, rcbF_0] at hE
    refine zr_iload_n zi169_43 rfl ?_
    refine zr_if_eqN zi169_44 rfl (by omega) (fun q44 => ?_) (fun q44 => ?_)
    · first | rw [if_pos ((zJ_eq0 hn0).mpr q44)] at K | rw [decide_eq_true (Int32.not_lt.mp q49)] at K
      refine zr_iconst (v := zB true) zi169_52 rfl ?_
      refine zr_goto zi169_53 rfl ?_
      refine zr_zreturnB zi169_57 rfl ?_
      exact K
    · rw [if_neg (fun e => q44 ((zJ_eq0 hn0).mp e)), zJ_c hn0, ← hE] at K
      refine zr_iload_n zi169_47 rfl ?_
      refine zr_iload_n zi169_48 rfl ?_
      refine zr_icmp_gt zi169_49 rfl (fun q49 => ?_) (fun q49 => ?_)
      · rw [decide_eq_false (fun q => Int32.not_lt.mpr q q49)] at K
        refine zr_iconst (v := zB false) zi169_56 rfl ?_
        refine zr_zreturnB zi169_57 rfl ?_
        exact K
      · first | rw [if_pos ((zJ_eq0 hn0).mpr q44)] at K | rw [decide_eq_true (Int32.not_lt.mp q49)] at K
        refine zr_iconst (v := zB true) zi169_52 rfl ?_
        refine zr_goto zi169_53 rfl ?_
        refine zr_zreturnB zi169_57 rfl ?_
        exact K
  · obtain ⟨f1, e1, hn1, eq1⟩ := rcbF_s (n := n) (acc := acc) q16 hf
    rw [if_neg (fun e => by have := (zJ_eq0 hn0).mp e; have := h0 this; omega), zJ_c hn0] at K
    refine zr_iload_n zi169_19 rfl ?_
    refine zr_bipush (v := zJ 10) zi169_20 rfl ?_
    refine zr_iremN zi169_22 (by omega) (by omega) (by omega) ?_
    refine zr_if_neN zi169_23 rfl (by omega) (fun q23 => ?_) (fun q23 => ?_)
    · refine zr_iload_n zi169_28 rfl ?_
      refine zr_iload_n zi169_29 rfl ?_
      refine zr_bipush (v := zJ 10) zi169_30 rfl ?_
      refine zr_iremN zi169_32 (by omega) (by omega) (by omega) ?_
      refine zr_iadd zi169_33 ?_
      refine zr_istore_n (L' := [some (.int (zJ _)), some (.int (zJ _)), some (.int _), some (.int (zJ _))]) zi169_34 rfl rfl ?_
      refine zr_iload_n zi169_35 rfl ?_
      refine zr_bipush (v := zJ 10) zi169_36 rfl ?_
      refine zr_idivN zi169_38 (by omega) (by omega) (by omega) ?_
      refine zr_istore_n (L' := [some (.int (zJ _)), some (.int (zJ _)), some (.int _), some (.int (zJ _))]) zi169_39 rfl rfl ?_
      refine zr_goto zi169_40 rfl ?_
      exact ih15 (k / 10) (by omega) f1 _ hn1 (by omega) (by rw [← hE, eq1, if_neg q23]) (fun z => by have := h0 z; omega)
    · rw [eq1, if_pos q23] at hE
      rw [← hE] at K
      refine zr_iconst (v := zB false) zi169_26 rfl ?_
      refine zr_zreturnB zi169_27 rfl ?_
      exact K
theorem c169z {E : zEnv} {h : zPH} {Q : zOut → zPH → Prop} {x : Int32} {n : Nat} (hx : x < 0) (K : Q (.inl (some (.int (zB false)))) h) : zcall E 1 169 [.int x, .int (zJ n)] h Q := by
  show zwp E _ 169 (0, [some (.int _), some (.int (zJ _)), none, none], [], _) Q
  refine zr_iload_n zi169_0 rfl ?_
  refine zr_if_ge zi169_1 rfl (fun q1 => absurd q1 (fun z => zle_no z hx)) (fun q1 => ?_)
  refine zr_iconst (v := zB false) zi169_4 rfl ?_
  refine zr_zreturnB zi169_5 rfl ?_
  exact K
theorem c169 {E : zEnv} {h : zPH} {Q : zOut → zPH → Prop} {x : Int32} {n : Nat} (hn : n < 1000) (K : Q (.inl (some (.int (zB (rcb x n))))) h) : zcall E 1 169 [.int x, .int (zJ n)] h Q := by
  by_cases hx : x < 0
  · rw [rcb, if_pos hx] at K
    exact c169z hx K
  · obtain ⟨n, hn, rfl⟩ := zJ_of hx
    exact c169n hn (by assumption) K
def rwF (w hh : Nat) (x0 cl : List Int32) (i : Nat) : Nat → Nat → Int32 → Int32
  | 0, _, _ => -1
  | f + 1, k, m => if riw w hh x0 cl i k = true then (if m = 0 then zJ k else rwF w hh x0 cl i f (k + 1) (m + -1)) else rwF w hh x0 cl i f (k + 1) m
theorem rwF_s {w hh : Nat} {x0 cl : List Int32} {i n k : Nat} {m : Int32} (hk : k < n) : rwF w hh x0 cl i (n - k) k m = if riw w hh x0 cl i k = true then (if m = 0 then zJ k else rwF w hh x0 cl i (n - (k + 1)) (k + 1) (m + -1)) else rwF w hh x0 cl i (n - (k + 1)) (k + 1) m := by
  rw [show n - k = (n - (k + 1)) + 1 by omega, rwF]
theorem c210 {E : zEnv} {h : zPH} {Q : zOut → zPH → Prop} {b r c g w hh : Nat} {x0 x1 x2 x3 cl : List Int32} {mi sp : Int32} (P : rB h b r c g w hh x0 x1 x2 x3 cl mi sp) {i : Nat} (hi : i < w + hh) {x : Int32} (K : Q (.inl (some (.int (rwF w hh x0 cl i (2 ^ yln w hh i) 0 x)))) h) : zcall E 3 210 [.ref b, .int (zJ i), .int x] h Q := by
  obtain ⟨⟨gw1, gw2, gh1, gh2⟩, ⟨l0, l1, l2, l3, lcl⟩, d1, d2, d3⟩ := P.2.2.2
  have hwh := zwh_b (w := w) (hh := hh) ⟨gw1, gw2, gh1, gh2⟩
  have hln := yln_b i ⟨gw1, gw2, gh1, gh2⟩
  have hp := zpow5 hln.2
  show zwp E _ 210 (0, [some (.ref _), some (.int (zJ _)), some (.int _), none, none], [], _) Q
  refine zr_iload_n zi210_0 rfl ?_
  refine zr_istore_n (L' := [some (.ref _), some (.int (zJ _)), some (.int _), some (.int _), none]) zi210_1 rfl rfl ?_
  refine zr_iconst (v := zJ 0) zi210_2 rfl ?_
  refine zr_istore (L' := [some (.ref _), some (.int (zJ _)), some (.int _), some (.int _), some (.int (zJ _))]) zi210_3 rfl rfl ?_
  suffices key5 : ∀ m, (rwF w hh x0 cl i (2 ^ yln w hh i) 0 x = rwF w hh x0 cl i (2 ^ yln w hh i - 0) 0 m) → zwp E 3 210 (5, [some (.ref b), some (.int (zJ i)), some (.int x), some (.int m), some (.int (zJ 0))], [], h) Q from key5 _ rfl
  refine zloop (P := fun k => ∀ m, (rwF w hh x0 cl i (2 ^ yln w hh i) 0 x = rwF w hh x0 cl i (2 ^ yln w hh i - k) k m) → zwp E 3 210 (5, [some (.ref b), some (.int (zJ i)), some (.int x), some (.int m), some (.int (zJ k))], [], h) Q) (n := 2 ^ yln w hh i) fun k hk5 ih5 => ?_
  intro m hE
  refine zr_iload zi210_5 rfl ?_
  refine zr_iconst (v := zJ 1) zi210_7 rfl ?_
  refine zr_aload_n zi210_8 rfl ?_
  refine zr_iload_n zi210_9 rfl ?_
  refine zr_virtual zi210_10 rfl rfl (P.1.at0 rfl) rfl rfl ?_
  refine zcall_dep (d := 0) (Nat.le_of_ble_eq_true rfl) (c168 P (by omega) (zbk_v ?_))
  refine zr_ishlN zi210_13 (by omega) ?_
  refine zr_icmp_geN zi210_14 rfl (by omega) (by omega) (fun q14 => ?_) (fun q14 => ?_)
  · obtain rfl : k = 2 ^ yln w hh i := by omega
    rw [hE, Nat.sub_self, rwF] at K
    refine zr_iconst (v := (-1)) zi210_43 rfl ?_
    refine zr_ireturn zi210_44 rfl ?_
    exact K
  · refine zr_aload_n zi210_17 rfl ?_
    refine zr_iload_n zi210_18 rfl ?_
    refine zr_iload zi210_19 rfl ?_
    refine zr_virtual zi210_21 rfl rfl (P.1.at0 rfl) rfl rfl ?_
    refine zcall_dep (d := 2) (Nat.le_of_ble_eq_true rfl) (c172 P (by omega) (by omega) (zbk_v ?_))
    refine zr_if_eqB zi210_24 rfl (fun q24 => ?_) (fun q24 => ?_)
    · refine zr_iincN (z := 1) (L' := [some (.ref _), some (.int (zJ _)), some (.int _), some (.int _), some (.int (zJ _))]) zi210_37 rfl rfl rfl rfl ?_
      refine zr_goto zi210_40 rfl ?_
      refine ih5 (by omega) _ ?_
      rw [hE, rwF_s (by omega)]
      first | rw [if_pos q24, if_neg q31] | rw [if_neg (by rw [q24]; decide)]
    · refine zr_iload_n zi210_27 rfl ?_
      refine zr_iinc (z := (-1)) (L' := [some (.ref _), some (.int (zJ _)), some (.int _), some (.int _), some (.int (zJ _))]) zi210_28 rfl rfl rfl rfl ?_
      refine zr_if_ne zi210_31 rfl (fun q31 => ?_) (fun q31 => ?_)
      · refine zr_iincN (z := 1) (L' := [some (.ref _), some (.int (zJ _)), some (.int _), some (.int _), some (.int (zJ _))]) zi210_37 rfl rfl rfl rfl ?_
        refine zr_goto zi210_40 rfl ?_
        refine ih5 (by omega) _ ?_
        rw [hE, rwF_s (by omega)]
        first | rw [if_pos q24, if_neg q31] | rw [if_neg (by rw [q24]; decide)]
      · rw [hE, rwF_s (by omega), if_pos q24, if_pos q31] at K
        refine zr_iload zi210_34 rfl ?_
        refine zr_ireturn zi210_36 rfl ?_
        exact K
theorem c199 {E : zEnv} {h : zPH} {Q : zOut → zPH → Prop} {b r c g w hh : Nat} {x0 x1 x2 x3 cl : List Int32} {mi sp : Int32} (P : rB h b r c g w hh x0 x1 x2 x3 cl mi sp) {x : Int32} {how : Nat} (hw : how ≤ 2) (K : Q (.inl (some (.int (ztl w hh x how)))) h) : zcall E 0 199 [.ref b, .int x, .int (zJ how)] h Q := by
  obtain ⟨⟨gw1, gw2, gh1, gh2⟩, ⟨l0, l1, l2, l3, lcl⟩, d1, d2, d3⟩ := P.2.2.2
  have hwh := zwh_b (w := w) (hh := hh) ⟨gw1, gw2, gh1, gh2⟩
  show zwp E _ 199 (0, [some (.ref _), some (.int _), some (.int (zJ _)), none, none], [], _) Q
  refine zr_iload_n zi199_0 rfl ?_
  refine zr_aload_n zi199_1 rfl ?_
  refine zr_getfield zi199_2 (P.1.at0 rfl) rfl ?_
  refine zr_icmp_ge zi199_5 rfl (fun q5 => ?_) (fun q5 => ?_)
  · have hx : ¬ x < zJ hh := zle_no q5
    refine zr_iconst (v := zJ 0) zi199_12 rfl ?_
    refine zr_istore_n (L' := [some (.ref _), some (.int _), some (.int (zJ _)), some (.int (zJ _)), none]) zi199_13 rfl rfl ?_
    refine zr_iload_n zi199_14 rfl ?_
    refine zr_if_eqN zi199_15 rfl (by omega) (fun q15 => ?_) (fun q15 => ?_)
    · first
      | (exfalso; omega)
      | (
         refine zr_iload_n zi199_22 rfl ?_
         refine zr_aload_n zi199_23 rfl ?_
         refine zr_getfield zi199_24 (P.1.at0 rfl) rfl ?_
         refine zr_isub zi199_27 ?_
         refine zr_istore (L' := [some (.ref _), some (.int _), some (.int (zJ _)), some (.int (zJ _)), some (.int _)]) zi199_28 rfl rfl ?_
         refine zr_iload_n zi199_30 rfl ?_
         refine zr_iconst (v := zJ 2) zi199_31 rfl ?_
         refine zr_icmp_neN zi199_32 rfl (by omega) (by omega) (fun q32 => ?_) (fun q32 => ?_)
         · rw [ztl, if_neg q32] at K
           refine zr_iload_n zi199_51 rfl ?_
           refine zr_if_eqN zi199_52 rfl (by omega) (fun q52 => ?_) (fun q52 => ?_)
           · first
             | (exfalso; omega)
             | (
                rw [if_neg hx] at K
                refine zr_aload_n zi199_72 rfl ?_
                refine zr_getfield zi199_73 (P.1.at0 rfl) rfl ?_
                refine zr_aload_n zi199_76 rfl ?_
                refine zr_getfield zi199_77 (P.1.at0 rfl) rfl ?_
                refine zr_iaddN zi199_80 ?_
                refine zr_iconst (v := zJ 1) zi199_81 rfl ?_
                refine zr_isubN zi199_82 (by omega) ?_
                refine zr_iload zi199_83 rfl ?_
                refine zr_isub zi199_85 ?_
                refine zr_ireturn zi199_86 rfl ?_
                exact K)
           · first
             | (exfalso; omega)
             | (
                refine zr_iload_n zi199_55 rfl ?_
                refine zr_if_neN zi199_56 rfl (by omega) (fun q56 => ?_) (fun q56 => ?_)
                · rw [if_pos hx, if_neg q56] at K
                  refine zr_iload_n zi199_70 rfl ?_
                  refine zr_ireturn zi199_71 rfl ?_
                  exact K
                · rw [if_pos hx, if_pos q56] at K
                  refine zr_aload_n zi199_59 rfl ?_
                  refine zr_getfield zi199_60 (P.1.at0 rfl) rfl ?_
                  refine zr_iconst (v := zJ 1) zi199_63 rfl ?_
                  refine zr_isubN zi199_64 (by omega) ?_
                  refine zr_iload_n zi199_65 rfl ?_
                  refine zr_isub zi199_66 ?_
                  refine zr_goto zi199_67 rfl ?_
                  refine zr_ireturn zi199_71 rfl ?_
                  exact K)
         · rw [ztl, if_pos q32] at K
           refine zr_iload_n zi199_35 rfl ?_
           refine zr_if_eqN zi199_36 rfl (by omega) (fun q36 => ?_) (fun q36 => ?_)
           · first
             | (exfalso; omega)
             | (
                rw [if_neg hx] at K
                refine zr_iload zi199_48 rfl ?_
                refine zr_ireturn zi199_50 rfl ?_
                exact K)
           · first
             | (exfalso; omega)
             | (
                rw [if_pos hx] at K
                refine zr_aload_n zi199_39 rfl ?_
                refine zr_getfield zi199_40 (P.1.at0 rfl) rfl ?_
                refine zr_iload_n zi199_43 rfl ?_
                refine zr_iadd zi199_44 ?_
                refine zr_goto zi199_45 rfl ?_
                refine zr_ireturn zi199_50 rfl ?_
                exact K))
    · first
      | (exfalso; omega)
      | (
         refine zr_iload_n zi199_18 rfl ?_
         refine zr_goto zi199_19 rfl ?_
         refine zr_istore (L' := [some (.ref _), some (.int _), some (.int (zJ _)), some (.int (zJ _)), some (.int _)]) zi199_28 rfl rfl ?_
         refine zr_iload_n zi199_30 rfl ?_
         refine zr_iconst (v := zJ 2) zi199_31 rfl ?_
         refine zr_icmp_neN zi199_32 rfl (by omega) (by omega) (fun q32 => ?_) (fun q32 => ?_)
         · rw [ztl, if_neg q32] at K
           refine zr_iload_n zi199_51 rfl ?_
           refine zr_if_eqN zi199_52 rfl (by omega) (fun q52 => ?_) (fun q52 => ?_)
           · first
             | (exfalso; omega)
             | (
                rw [if_neg hx] at K
                refine zr_aload_n zi199_72 rfl ?_
                refine zr_getfield zi199_73 (P.1.at0 rfl) rfl ?_
                refine zr_aload_n zi199_76 rfl ?_
                refine zr_getfield zi199_77 (P.1.at0 rfl) rfl ?_
                refine zr_iaddN zi199_80 ?_
                refine zr_iconst (v := zJ 1) zi199_81 rfl ?_
                refine zr_isubN zi199_82 (by omega) ?_
                refine zr_iload zi199_83 rfl ?_
                refine zr_isub zi199_85 ?_
                refine zr_ireturn zi199_86 rfl ?_
                exact K)
           · first
             | (exfalso; omega)
             | (
                refine zr_iload_n zi199_55 rfl ?_
                refine zr_if_neN zi199_56 rfl (by omega) (fun q56 => ?_) (fun q56 => ?_)
                · rw [if_pos hx, if_neg q56] at K
                  refine zr_iload_n zi199_70 rfl ?_
                  refine zr_ireturn zi199_71 rfl ?_
                  exact K
                · rw [if_pos hx, if_pos q56] at K
                  refine zr_aload_n zi199_59 rfl ?_
                  refine zr_getfield zi199_60 (P.1.at0 rfl) rfl ?_
                  refine zr_iconst (v := zJ 1) zi199_63 rfl ?_
                  refine zr_isubN zi199_64 (by omega) ?_
                  refine zr_iload_n zi199_65 rfl ?_
                  refine zr_isub zi199_66 ?_
                  refine zr_goto zi199_67 rfl ?_
                  refine zr_ireturn zi199_71 rfl ?_
                  exact K)
         · rw [ztl, if_pos q32] at K
           refine zr_iload_n zi199_35 rfl ?_
           refine zr_if_eqN zi199_36 rfl (by omega) (fun q36 => ?_) (fun q36 => ?_)
           · first
             | (exfalso; omega)
             | (
                rw [if_neg hx] at K
                refine zr_iload zi199_48 rfl ?_
                refine zr_ireturn zi199_50 rfl ?_
                exact K)
           · first
             | (exfalso; omega)
             | (
                rw [if_pos hx] at K
                refine zr_aload_n zi199_39 rfl ?_
                refine zr_getfield zi199_40 (P.1.at0 rfl) rfl ?_
                refine zr_iload_n zi199_43 rfl ?_
                refine zr_iadd zi199_44 ?_
                refine zr_goto zi199_45 rfl ?_
                refine zr_ireturn zi199_50 rfl ?_
                exact K))
  · have hx : x < zJ hh := Classical.not_not.mp (fun q => q5 (Int32.not_lt.mp q))
    refine zr_iconst (v := zJ 1) zi199_8 rfl ?_
    refine zr_goto zi199_9 rfl ?_
    refine zr_istore_n (L' := [some (.ref _), some (.int _), some (.int (zJ _)), some (.int (zJ _)), none]) zi199_13 rfl rfl ?_
    refine zr_iload_n zi199_14 rfl ?_
    refine zr_if_eqN zi199_15 rfl (by omega) (fun q15 => ?_) (fun q15 => ?_)
    · first
      | (exfalso; omega)
      | (
         refine zr_iload_n zi199_22 rfl ?_
         refine zr_aload_n zi199_23 rfl ?_
         refine zr_getfield zi199_24 (P.1.at0 rfl) rfl ?_
         refine zr_isub zi199_27 ?_
         refine zr_istore (L' := [some (.ref _), some (.int _), some (.int (zJ _)), some (.int (zJ _)), some (.int _)]) zi199_28 rfl rfl ?_
         refine zr_iload_n zi199_30 rfl ?_
         refine zr_iconst (v := zJ 2) zi199_31 rfl ?_
         refine zr_icmp_neN zi199_32 rfl (by omega) (by omega) (fun q32 => ?_) (fun q32 => ?_)
         · rw [ztl, if_neg q32] at K
           refine zr_iload_n zi199_51 rfl ?_
           refine zr_if_eqN zi199_52 rfl (by omega) (fun q52 => ?_) (fun q52 => ?_)
           · first
             | (exfalso; omega)
             | (
                rw [if_neg hx] at K
                refine zr_aload_n zi199_72 rfl ?_
                refine zr_getfield zi199_73 (P.1.at0 rfl) rfl ?_
                refine zr_aload_n zi199_76 rfl ?_
                refine zr_getfield zi199_77 (P.1.at0 rfl) rfl ?_
                refine zr_iaddN zi199_80 ?_
                refine zr_iconst (v := zJ 1) zi199_81 rfl ?_
                refine zr_isubN zi199_82 (by omega) ?_
                refine zr_iload zi199_83 rfl ?_
                refine zr_isub zi199_85 ?_
                refine zr_ireturn zi199_86 rfl ?_
                exact K)
           · first
             | (exfalso; omega)
             | (
                refine zr_iload_n zi199_55 rfl ?_
                refine zr_if_neN zi199_56 rfl (by omega) (fun q56 => ?_) (fun q56 => ?_)
                · rw [if_pos hx, if_neg q56] at K
                  refine zr_iload_n zi199_70 rfl ?_
                  refine zr_ireturn zi199_71 rfl ?_
                  exact K
                · rw [if_pos hx, if_pos q56] at K
                  refine zr_aload_n zi199_59 rfl ?_
                  refine zr_getfield zi199_60 (P.1.at0 rfl) rfl ?_
                  refine zr_iconst (v := zJ 1) zi199_63 rfl ?_
                  refine zr_isubN zi199_64 (by omega) ?_
                  refine zr_iload_n zi199_65 rfl ?_
                  refine zr_isub zi199_66 ?_
                  refine zr_goto zi199_67 rfl ?_
                  refine zr_ireturn zi199_71 rfl ?_
                  exact K)
         · rw [ztl, if_pos q32] at K
           refine zr_iload_n zi199_35 rfl ?_
           refine zr_if_eqN zi199_36 rfl (by omega) (fun q36 => ?_) (fun q36 => ?_)
           · first
             | (exfalso; omega)
             | (
                rw [if_neg hx] at K
                refine zr_iload zi199_48 rfl ?_
                refine zr_ireturn zi199_50 rfl ?_
                exact K)
           · first
             | (exfalso; omega)
             | (
                rw [if_pos hx] at K
                refine zr_aload_n zi199_39 rfl ?_
                refine zr_getfield zi199_40 (P.1.at0 rfl) rfl ?_
                refine zr_iload_n zi199_43 rfl ?_
                refine zr_iadd zi199_44 ?_
                refine zr_goto zi199_45 rfl ?_
                refine zr_ireturn zi199_50 rfl ?_
                exact K))
    · first
      | (exfalso; omega)
      | (
         refine zr_iload_n zi199_18 rfl ?_
         refine zr_goto zi199_19 rfl ?_
         refine zr_istore (L' := [some (.ref _), some (.int _), some (.int (zJ _)), some (.int (zJ _)), some (.int _)]) zi199_28 rfl rfl ?_
         refine zr_iload_n zi199_30 rfl ?_
         refine zr_iconst (v := zJ 2) zi199_31 rfl ?_
         refine zr_icmp_neN zi199_32 rfl (by omega) (by omega) (fun q32 => ?_) (fun q32 => ?_)
         · rw [ztl, if_neg q32] at K
           refine zr_iload_n zi199_51 rfl ?_
           refine zr_if_eqN zi199_52 rfl (by omega) (fun q52 => ?_) (fun q52 => ?_)
           · first
             | (exfalso; omega)
             | (
                rw [if_neg hx] at K
                refine zr_aload_n zi199_72 rfl ?_
                refine zr_getfield zi199_73 (P.1.at0 rfl) rfl ?_
                refine zr_aload_n zi199_76 rfl ?_
                refine zr_getfield zi199_77 (P.1.at0 rfl) rfl ?_
                refine zr_iaddN zi199_80 ?_
                refine zr_iconst (v := zJ 1) zi199_81 rfl ?_
                refine zr_isubN zi199_82 (by omega) ?_
                refine zr_iload zi199_83 rfl ?_
                refine zr_isub zi199_85 ?_
                refine zr_ireturn zi199_86 rfl ?_
                exact K)
           · first
             | (exfalso; omega)
             | (
                refine zr_iload_n zi199_55 rfl ?_
                refine zr_if_neN zi199_56 rfl (by omega) (fun q56 => ?_) (fun q56 => ?_)
                · rw [if_pos hx, if_neg q56] at K
                  refine zr_iload_n zi199_70 rfl ?_
                  refine zr_ireturn zi199_71 rfl ?_
                  exact K
                · rw [if_pos hx, if_pos q56] at K
                  refine zr_aload_n zi199_59 rfl ?_
                  refine zr_getfield zi199_60 (P.1.at0 rfl) rfl ?_
                  refine zr_iconst (v := zJ 1) zi199_63 rfl ?_
                  refine zr_isubN zi199_64 (by omega) ?_
                  refine zr_iload_n zi199_65 rfl ?_
                  refine zr_isub zi199_66 ?_
                  refine zr_goto zi199_67 rfl ?_
                  refine zr_ireturn zi199_71 rfl ?_
                  exact K)
         · rw [ztl, if_pos q32] at K
           refine zr_iload_n zi199_35 rfl ?_
           refine zr_if_eqN zi199_36 rfl (by omega) (fun q36 => ?_) (fun q36 => ?_)
           · first
             | (exfalso; omega)
             | (
                rw [if_neg hx] at K
                refine zr_iload zi199_48 rfl ?_
                refine zr_ireturn zi199_50 rfl ?_
                exact K)
           · first
             | (exfalso; omega)
             | (
                rw [if_pos hx] at K
                refine zr_aload_n zi199_39 rfl ?_
                refine zr_getfield zi199_40 (P.1.at0 rfl) rfl ?_
                refine zr_iload_n zi199_43 rfl ?_
                refine zr_iadd zi199_44 ?_
                refine zr_goto zi199_45 rfl ?_
                refine zr_ireturn zi199_50 rfl ?_
                exact K))
def rcc (x0 : List Int32) (s : Int32) : Nat → Nat
  | 0 => 0
  | k + 1 => if x0.getD k 0 = s then rcc x0 s k + 1 else rcc x0 s k
theorem rcc_le (x0 : List Int32) (s : Int32) (k : Nat) : rcc x0 s k ≤ k := by
  induction k with
  | zero => exact Nat.le_refl _
  | succ k ih => rw [rcc]; split <;> omega
theorem c202 {E : zEnv} {h : zPH} {Q : zOut → zPH → Prop} {b r c g w hh : Nat} {x0 x1 x2 x3 cl : List Int32} {mi sp : Int32} (P : rB h b r c g w hh x0 x1 x2 x3 cl mi sp) {s : Int32} (K : Q (.inl (some (.int (zJ (rcc x0 s (w * hh)))))) h) : zcall E 0 202 [.ref b, .int s] h Q := by
  obtain ⟨⟨gw1, gw2, gh1, gh2⟩, ⟨l0, l1, l2, l3, lcl⟩, d1, d2, d3⟩ := P.2.2.2
  have hwh := zwh_b (w := w) (hh := hh) ⟨gw1, gw2, gh1, gh2⟩
  show zwp E _ 202 (0, [some (.ref _), some (.int _), none, none, none, none, none], [], _) Q
  refine zr_iconst (v := zJ 0) zi202_0 rfl ?_
  refine zr_istore_n (L' := [some (.ref _), some (.int _), some (.int (zJ _)), none, none, none, none]) zi202_1 rfl rfl ?_
  refine zr_aload_n zi202_2 rfl ?_
  refine zr_getfield zi202_3 (P.1.at0 rfl) rfl ?_
  refine zr_iconst (v := zJ 0) zi202_6 rfl ?_
  refine zr_aaloadN zi202_7 (P.rw.at0 rfl) rfl (by omega) rfl ?_
  refine zr_astore_n (L' := [some (.ref _), some (.int _), some (.int (zJ _)), some (.ref _), none, none, none]) zi202_8 rfl rfl ?_
  refine zr_aload_n zi202_9 rfl ?_
  refine zr_arraylength (v := zJ (w * hh)) zi202_10 (P.rw.at 1 rfl) rfl (zlenJ l0) ?_
  refine zr_istore (L' := [some (.ref _), some (.int _), some (.int (zJ _)), some (.ref _), some (.int (zJ _)), none, none]) zi202_11 rfl rfl ?_
  refine zr_iconst (v := zJ 0) zi202_13 rfl ?_
  refine zr_istore (L' := [some (.ref _), some (.int _), some (.int (zJ _)), some (.ref _), some (.int (zJ _)), some (.int (zJ _)), none]) zi202_14 rfl rfl ?_
  suffices key16 : ∀ x6, zwp E 0 202 (16, [some (.ref b), some (.int s), some (.int (zJ (rcc x0 s 0))), some (.ref (r + 1)), some (.int (zJ (w * hh))), some (.int (zJ 0)), x6], [], h) Q from key16 _
  refine zloop (P := fun k => ∀ x6, zwp E 0 202 (16, [some (.ref b), some (.int s), some (.int (zJ (rcc x0 s k))), some (.ref (r + 1)), some (.int (zJ (w * hh))), some (.int (zJ k)), x6], [], h) Q) (n := w * hh) fun k hk16 ih16 => ?_
  intro x6
  refine zr_iload zi202_16 rfl ?_
  refine zr_iload zi202_18 rfl ?_
  refine zr_icmp_geN zi202_20 rfl (by omega) (by omega) (fun q20 => ?_) (fun q20 => ?_)
  · refine zr_iload_n zi202_49 rfl ?_
    refine zr_ireturn zi202_50 rfl ?_
    obtain rfl : k = w * hh := by omega
    exact K
  · refine zr_aload_n zi202_23 rfl ?_
    refine zr_iload zi202_24 rfl ?_
    refine zr_ialoadN zi202_26 (P.rw.at 1 rfl) rfl (by omega) (by first | omega | (simp only [List.length_set, zpt_len]; omega)) ?_
    refine zr_istore (L' := [some (.ref _), some (.int _), some (.int (zJ _)), some (.ref _), some (.int (zJ _)), some (.int (zJ _)), some (.int _)]) zi202_27 rfl rfl ?_
    refine zr_iload_n zi202_29 rfl ?_
    refine zr_iload zi202_30 rfl ?_
    refine zr_iload_n zi202_32 rfl ?_
    refine zr_icmp_ne zi202_33 rfl (fun q33 => ?_) (fun q33 => ?_)
    · refine zr_iconst (v := zJ 0) zi202_40 rfl ?_
      refine zr_iaddN zi202_41 ?_
      refine zr_istore_n (L' := [some (.ref _), some (.int _), some (.int (zJ _)), some (.ref _), some (.int (zJ _)), some (.int (zJ _)), some (.int _)]) zi202_42 rfl rfl ?_
      refine zr_iincN (z := 1) (L' := [some (.ref _), some (.int _), some (.int (zJ _)), some (.ref _), some (.int (zJ _)), some (.int (zJ _)), some (.int _)]) zi202_43 rfl rfl rfl rfl ?_
      refine zr_goto zi202_46 rfl ?_
      have e := ih16 (by omega)
      rw [rcc] at e
      first | rw [if_pos q33] at e | rw [if_neg q33] at e
      exact e _
    · refine zr_iconst (v := zJ 1) zi202_36 rfl ?_
      refine zr_goto zi202_37 rfl ?_
      refine zr_iaddN zi202_41 ?_
      refine zr_istore_n (L' := [some (.ref _), some (.int _), some (.int (zJ _)), some (.ref _), some (.int (zJ _)), some (.int (zJ _)), some (.int _)]) zi202_42 rfl rfl ?_
      refine zr_iincN (z := 1) (L' := [some (.ref _), some (.int _), some (.int (zJ _)), some (.ref _), some (.int (zJ _)), some (.int (zJ _)), some (.int _)]) zi202_43 rfl rfl rfl rfl ?_
      refine zr_goto zi202_46 rfl ?_
      have e := ih16 (by omega)
      rw [rcc] at e
      first | rw [if_pos q33] at e | rw [if_neg q33] at e
      exact e _
def rbk (w hh : Nat) (x0 cl : List Int32) : Nat → Nat
  | 0 => 0
  | k + 1 => if rcw w hh x0 cl k = 0 then rbk w hh x0 cl k + 1 else rbk w hh x0 cl k
theorem c213 {E : zEnv} {h : zPH} {Q : zOut → zPH → Prop} {b r c g w hh : Nat} {x0 x1 x2 x3 cl : List Int32} {mi sp : Int32} (P : rB h b r c g w hh x0 x1 x2 x3 cl mi sp) (K : Q (.inl (some (.int (zJ (rbk w hh x0 cl (w + hh)))))) h) : zcall E 4 213 [.ref b] h Q := by
  obtain ⟨⟨gw1, gw2, gh1, gh2⟩, ⟨l0, l1, l2, l3, lcl⟩, d1, d2, d3⟩ := P.2.2.2
  have hwh := zwh_b (w := w) (hh := hh) ⟨gw1, gw2, gh1, gh2⟩
  show zwp E _ 213 (0, [some (.ref _), none, none], [], _) Q
  refine zr_iconst (v := zJ 0) zi213_0 rfl ?_
  refine zr_istore_n (L' := [some (.ref _), some (.int (zJ _)), none]) zi213_1 rfl rfl ?_
  refine zr_iconst (v := zJ 0) zi213_2 rfl ?_
  refine zr_istore_n (L' := [some (.ref _), some (.int (zJ _)), some (.int (zJ _))]) zi213_3 rfl rfl ?_
  suffices key4 : zwp E 4 213 (4, [some (.ref b), some (.int (zJ (rbk w hh x0 cl 0))), some (.int (zJ 0))], [], h) Q from key4 
  refine zloop (P := fun k => zwp E 4 213 (4, [some (.ref b), some (.int (zJ (rbk w hh x0 cl k))), some (.int (zJ k))], [], h) Q) (n := w + hh) fun k hk4 ih4 => ?_
  refine zr_iload_n zi213_4 rfl ?_
  refine zr_aload_n zi213_5 rfl ?_
  refine zr_virtual zi213_6 rfl rfl (P.1.at0 rfl) rfl rfl ?_
  refine zcall_dep (d := 0) (Nat.le_of_ble_eq_true rfl) (c167 P (zbk_v ?_))
  refine zr_icmp_geN zi213_9 rfl (by omega) (by omega) (fun q9 => ?_) (fun q9 => ?_)
  · refine zr_iload_n zi213_34 rfl ?_
    refine zr_ireturn zi213_35 rfl ?_
    obtain rfl : k = w + hh := by omega
    exact K
  · refine zr_iload_n zi213_12 rfl ?_
    refine zr_aload_n zi213_13 rfl ?_
    refine zr_iload_n zi213_14 rfl ?_
    refine zr_virtual zi213_15 rfl rfl (P.1.at0 rfl) rfl rfl ?_
    refine zcall_dep (d := 3) (Nat.le_of_ble_eq_true rfl) (c171 P (by omega) (zbk_v ?_))
    have hrw := rcw_le x0 cl k ⟨gw1, gw2, gh1, gh2⟩
    refine zr_if_neN zi213_18 rfl (by omega) (fun q18 => ?_) (fun q18 => ?_)
    · refine zr_iconst (v := zJ 0) zi213_25 rfl ?_
      refine zr_iaddN zi213_26 ?_
      refine zr_istore_n (L' := [some (.ref _), some (.int (zJ _)), some (.int (zJ _))]) zi213_27 rfl rfl ?_
      refine zr_iincN (z := 1) (L' := [some (.ref _), some (.int (zJ _)), some (.int (zJ _))]) zi213_28 rfl rfl rfl rfl ?_
      refine zr_goto zi213_31 rfl ?_
      have e := ih4 (by omega)
      rw [rbk] at e
      first | rw [if_pos q18] at e | rw [if_neg q18] at e
      exact e
    · refine zr_iconst (v := zJ 1) zi213_21 rfl ?_
      refine zr_goto zi213_22 rfl ?_
      refine zr_iaddN zi213_26 ?_
      refine zr_istore_n (L' := [some (.ref _), some (.int (zJ _)), some (.int (zJ _))]) zi213_27 rfl rfl ?_
      refine zr_iincN (z := 1) (L' := [some (.ref _), some (.int (zJ _)), some (.int (zJ _))]) zi213_28 rfl rfl rfl rfl ?_
      refine zr_goto zi213_31 rfl ?_
      have e := ih4 (by omega)
      rw [rbk] at e
      first | rw [if_pos q18] at e | rw [if_neg q18] at e
      exact e
def rfa (w hh : Nat) (x0 cl : List Int32) (i : Nat) (d : Bool) : Nat → Int32 × Bool
  | 0 => (zJ (1 * 2 ^ yln w hh i - 1), false)
  | k + 1 => if riw w hh x0 cl i k = true then ((rfa w hh x0 cl i d k).1 &&& (if d = true then zJ k else zJ (1 * 2 ^ yln w hh i - 1) &&& (zJ k ^^^ (-1))), true) else rfa w hh x0 cl i d k
def rfb (w hh : Nat) (x0 : List Int32) (i : Nat) (v : Int32) : Nat → Int32
  | 0 => v
  | k + 1 => if x0.getD (ycl w hh i k) 0 = 0 then rfb w hh x0 i v k else rfb w hh x0 i v k &&& (ysh1 k ^^^ (-1))
def rfo (w hh : Nat) (x0 cl : List Int32) (i : Nat) (d : Bool) : Int32 := if (rfa w hh x0 cl i d (2 ^ yln w hh i)).2 = true then rfb w hh x0 i (rfa w hh x0 cl i d (2 ^ yln w hh i)).1 (yln w hh i) else zJ 0
theorem c188 {E : zEnv} {h : zPH} {Q : zOut → zPH → Prop} {b r c g w hh : Nat} {x0 x1 x2 x3 cl : List Int32} {mi sp : Int32} (P : rB h b r c g w hh x0 x1 x2 x3 cl mi sp) {i : Nat} (hi : i < w + hh) {d : Bool} (K : Q (.inl (some (.int (rfo w hh x0 cl i d)))) h) : zcall E 3 188 [.ref b, .int (zJ i), .int (zB d)] h Q := by
  obtain ⟨⟨gw1, gw2, gh1, gh2⟩, ⟨l0, l1, l2, l3, lcl⟩, d1, d2, d3⟩ := P.2.2.2
  have hwh := zwh_b (w := w) (hh := hh) ⟨gw1, gw2, gh1, gh2⟩
  have hln := yln_b i ⟨gw1, gw2, gh1, gh2⟩
  have hp := zpow5 hln.2
  have hpp := Nat.two_pow_pos (yln w hh i)
  show zwp E _ 188 (0, [some (.ref _), some (.int (zJ _)), some (.int (zB _)), none, none, none, none], [], _) Q
  refine zr_iconst (v := zJ 1) zi188_0 rfl ?_
  refine zr_aload_n zi188_1 rfl ?_
  refine zr_iload_n zi188_2 rfl ?_
  refine zr_virtual zi188_3 rfl rfl (P.1.at0 rfl) rfl rfl ?_
  refine zcall_dep (d := 0) (Nat.le_of_ble_eq_true rfl) (c168 P (by omega) (zbk_v ?_))
  refine zr_ishlN zi188_6 (by omega) ?_
  refine zr_iconst (v := zJ 1) zi188_7 rfl ?_
  refine zr_isubN zi188_8 (by omega) ?_
  refine zr_istore_n (L' := [some (.ref _), some (.int (zJ _)), some (.int (zB _)), some (.int (zJ _)), none, none, none]) zi188_9 rfl rfl ?_
  refine zr_iload_n zi188_10 rfl ?_
  refine zr_istore (L' := [some (.ref _), some (.int (zJ _)), some (.int (zB _)), some (.int (zJ _)), some (.int (zJ _)), none, none]) zi188_11 rfl rfl ?_
  refine zr_iconst (v := zB false) zi188_13 rfl ?_
  refine zr_istore (L' := [some (.ref _), some (.int (zJ _)), some (.int (zB _)), some (.int (zJ _)), some (.int (zJ _)), some (.int (zB _)), none]) zi188_14 rfl rfl ?_
  refine zr_iconst (v := zJ 0) zi188_16 rfl ?_
  refine zr_istore (L' := [some (.ref _), some (.int (zJ _)), some (.int (zB _)), some (.int (zJ _)), some (.int (zJ _)), some (.int (zB _)), some (.int (zJ _))]) zi188_17 rfl rfl ?_
  suffices key19 : zwp E 3 188 (19, [some (.ref b), some (.int (zJ i)), some (.int (zB d)), some (.int (zJ (1 * 2 ^ yln w hh i - 1))), some (.int (rfa w hh x0 cl i d 0).1), some (.int (zB (rfa w hh x0 cl i d 0).2)), some (.int (zJ 0))], [], h) Q from key19 
  refine zloop (P := fun k => zwp E 3 188 (19, [some (.ref b), some (.int (zJ i)), some (.int (zB d)), some (.int (zJ (1 * 2 ^ yln w hh i - 1))), some (.int (rfa w hh x0 cl i d k).1), some (.int (zB (rfa w hh x0 cl i d k).2)), some (.int (zJ k))], [], h) Q) (n := 2 ^ yln w hh i) fun k hk19 ih19 => ?_
  refine zr_iload zi188_19 rfl ?_
  refine zr_iload_n zi188_21 rfl ?_
  refine zr_icmp_gtN zi188_22 rfl (by omega) (by omega) (fun q22 => ?_) (fun q22 => ?_)
  · obtain rfl : k = 2 ^ yln w hh i := by omega
    refine zr_iconst (v := zJ 0) zi188_67 rfl ?_
    refine zr_istore (L' := [some (.ref _), some (.int (zJ _)), some (.int (zB _)), some (.int (zJ _)), some (.int _), some (.int (zB _)), some (.int (zJ _))]) zi188_68 rfl rfl ?_
    suffices key70 : zwp E 3 188 (70, [some (.ref b), some (.int (zJ i)), some (.int (zB d)), some (.int (zJ (1 * 2 ^ yln w hh i - 1))), some (.int (rfb w hh x0 i (rfa w hh x0 cl i d (2 ^ yln w hh i)).1 0)), some (.int (zB (rfa w hh x0 cl i d (2 ^ yln w hh i)).2)), some (.int (zJ 0))], [], h) Q from key70 
    refine zloop (P := fun u => zwp E 3 188 (70, [some (.ref b), some (.int (zJ i)), some (.int (zB d)), some (.int (zJ (1 * 2 ^ yln w hh i - 1))), some (.int (rfb w hh x0 i (rfa w hh x0 cl i d (2 ^ yln w hh i)).1 u)), some (.int (zB (rfa w hh x0 cl i d (2 ^ yln w hh i)).2)), some (.int (zJ u))], [], h) Q) (n := yln w hh i) fun u hk70 ih70 => ?_
    refine zr_iload zi188_70 rfl ?_
    refine zr_aload_n zi188_72 rfl ?_
    refine zr_iload_n zi188_73 rfl ?_
    refine zr_virtual zi188_74 rfl rfl (P.1.at0 rfl) rfl rfl ?_
    refine zcall_dep (d := 0) (Nat.le_of_ble_eq_true rfl) (c168 P (by omega) (zbk_v ?_))
    refine zr_icmp_geN zi188_77 rfl (by omega) (by omega) (fun q77 => ?_) (fun q77 => ?_)
    · obtain rfl : u = yln w hh i := by omega
      refine zr_iload zi188_111 rfl ?_
      refine zr_if_eqB zi188_113 rfl (fun q113 => ?_) (fun q113 => ?_)
      · rw [rfo, if_neg (by rw [q113]; decide)] at K
        refine zr_iconst (v := zJ 0) zi188_121 rfl ?_
        refine zr_ireturn zi188_122 rfl ?_
        exact K
      · rw [rfo, if_pos q113] at K
        refine zr_iload zi188_116 rfl ?_
        refine zr_goto zi188_118 rfl ?_
        refine zr_ireturn zi188_122 rfl ?_
        exact K
    · have hc := ycl_b hi q77
      refine zr_aload_n zi188_80 rfl ?_
      refine zr_aload_n zi188_81 rfl ?_
      refine zr_iload_n zi188_82 rfl ?_
      refine zr_iload zi188_83 rfl ?_
      refine zr_virtual zi188_85 rfl rfl (P.1.at0 rfl) rfl rfl ?_
      refine zcall_dep (d := 0) (Nat.le_of_ble_eq_true rfl) (c173 P (by omega) (by omega) (zbk_v ?_))
      refine zr_virtual zi188_88 rfl rfl (P.1.at0 rfl) rfl rfl ?_
      refine zcall_dep (d := 0) (Nat.le_of_ble_eq_true rfl) (c174 P (by omega) (zbk_v ?_))
      refine zr_if_eq zi188_91 rfl (fun q91 => ?_) (fun q91 => ?_)
      · refine zr_iincN (z := 1) (L' := [some (.ref _), some (.int (zJ _)), some (.int (zB _)), some (.int (zJ _)), some (.int _), some (.int (zB _)), some (.int (zJ _))]) zi188_105 rfl rfl rfl rfl ?_
        refine zr_goto zi188_108 rfl ?_
        have e := ih70 (by omega)
        rw [rfb] at e
        first | rw [if_pos q91] at e | rw [if_neg q91] at e
        exact e
      · refine zr_iload zi188_94 rfl ?_
        refine zr_iconst (v := zJ 1) zi188_96 rfl ?_
        refine zr_iload zi188_97 rfl ?_
        refine zr_ishl zi188_99 ?_
        refine zr_iconst (v := (-1)) zi188_100 rfl ?_
        refine zr_ixor zi188_101 ?_
        refine zr_iand zi188_102 ?_
        refine zr_istore (L' := [some (.ref _), some (.int (zJ _)), some (.int (zB _)), some (.int (zJ _)), some (.int _), some (.int (zB _)), some (.int (zJ _))]) zi188_103 rfl rfl ?_
        refine zr_iincN (z := 1) (L' := [some (.ref _), some (.int (zJ _)), some (.int (zB _)), some (.int (zJ _)), some (.int _), some (.int (zB _)), some (.int (zJ _))]) zi188_105 rfl rfl rfl rfl ?_
        refine zr_goto zi188_108 rfl ?_
        have e := ih70 (by omega)
        rw [rfb] at e
        first | rw [if_pos q91] at e | rw [if_neg q91] at e
        exact e
  · refine zr_aload_n zi188_25 rfl ?_
    refine zr_iload_n zi188_26 rfl ?_
    refine zr_iload zi188_27 rfl ?_
    refine zr_virtual zi188_29 rfl rfl (P.1.at0 rfl) rfl rfl ?_
    refine zcall_dep (d := 2) (Nat.le_of_ble_eq_true rfl) (c172 P (by omega) (by omega) (zbk_v ?_))
    refine zr_if_neB zi188_32 rfl (fun q32 => ?_) (fun q32 => ?_)
    · refine zr_iconst (v := zB true) zi188_38 rfl ?_
      refine zr_istore (L' := [some (.ref _), some (.int (zJ _)), some (.int (zB _)), some (.int (zJ _)), some (.int _), some (.int (zB _)), some (.int (zJ _))]) zi188_39 rfl rfl ?_
      refine zr_iload zi188_41 rfl ?_
      refine zr_iload_n zi188_43 rfl ?_
      refine zr_if_eqB zi188_44 rfl (fun q44 => ?_) (fun q44 => ?_)
      · refine zr_iload_n zi188_52 rfl ?_
        refine zr_iload zi188_53 rfl ?_
        refine zr_iconst (v := (-1)) zi188_55 rfl ?_
        refine zr_ixor zi188_56 ?_
        refine zr_iand zi188_57 ?_
        refine zr_iand zi188_58 ?_
        refine zr_istore (L' := [some (.ref _), some (.int (zJ _)), some (.int (zB _)), some (.int (zJ _)), some (.int _), some (.int (zB _)), some (.int (zJ _))]) zi188_59 rfl rfl ?_
        refine zr_iincN (z := 1) (L' := [some (.ref _), some (.int (zJ _)), some (.int (zB _)), some (.int (zJ _)), some (.int _), some (.int (zB _)), some (.int (zJ _))]) zi188_61 rfl rfl rfl rfl ?_
        refine zr_goto zi188_64 rfl ?_
        have e := ih19 (by omega)
        rw [rfa] at e
        first | rw [if_pos q32, if_pos q44] at e | rw [if_pos q32, if_neg (by rw [q44]; decide)] at e | rw [if_neg (by rw [q32]; decide)] at e
        exact e
      · refine zr_iload zi188_47 rfl ?_
        refine zr_goto zi188_49 rfl ?_
        refine zr_iand zi188_58 ?_
        refine zr_istore (L' := [some (.ref _), some (.int (zJ _)), some (.int (zB _)), some (.int (zJ _)), some (.int _), some (.int (zB _)), some (.int (zJ _))]) zi188_59 rfl rfl ?_
        refine zr_iincN (z := 1) (L' := [some (.ref _), some (.int (zJ _)), some (.int (zB _)), some (.int (zJ _)), some (.int _), some (.int (zB _)), some (.int (zJ _))]) zi188_61 rfl rfl rfl rfl ?_
        refine zr_goto zi188_64 rfl ?_
        have e := ih19 (by omega)
        rw [rfa] at e
        first | rw [if_pos q32, if_pos q44] at e | rw [if_pos q32, if_neg (by rw [q44]; decide)] at e | rw [if_neg (by rw [q32]; decide)] at e
        exact e
    · refine zr_goto zi188_35 rfl ?_
      refine zr_iincN (z := 1) (L' := [some (.ref _), some (.int (zJ _)), some (.int (zB _)), some (.int (zJ _)), some (.int _), some (.int (zB _)), some (.int (zJ _))]) zi188_61 rfl rfl rfl rfl ?_
      refine zr_goto zi188_64 rfl ?_
      have e := ih19 (by omega)
      rw [rfa] at e
      first | rw [if_pos q32, if_pos q44] at e | rw [if_pos q32, if_neg (by rw [q44]; decide)] at e | rw [if_neg (by rw [q32]; decide)] at e
      exact e
def rln (w hh : Nat) (x0 cl : List Int32) (i t : Nat) : Int32 := if t = 0 then cl.getD i 0 else if t = 1 then (if cl.getD i 0 = -1 then -1 else rrn (cl.getD i 0)) else if t = 2 then zJ (rcw w hh x0 cl i) else if t = 3 then rfo w hh x0 cl i true else if t = 4 then rfo w hh x0 cl i false else zJ (yln w hh i)
theorem c208 {E : zEnv} {h : zPH} {Q : zOut → zPH → Prop} {b r c g w hh : Nat} {x0 x1 x2 x3 cl : List Int32} {mi sp : Int32} (P : rB h b r c g w hh x0 x1 x2 x3 cl mi sp) {i : Nat} (hi : i < w + hh) {t : Nat} (ht : t < 6) (K : Q (.inl (some (.int (rln w hh x0 cl i t)))) h) : zcall E 4 208 [.ref b, .int (zJ i), .int (zJ t)] h Q := by
  obtain ⟨⟨gw1, gw2, gh1, gh2⟩, ⟨l0, l1, l2, l3, lcl⟩, d1, d2, d3⟩ := P.2.2.2
  have hwh := zwh_b (w := w) (hh := hh) ⟨gw1, gw2, gh1, gh2⟩
  show zwp E _ 208 (0, [some (.ref _), some (.int (zJ _)), some (.int (zJ _))], [], _) Q
  refine zr_iload_n zi208_0 rfl ?_
  rcases (show t = 0 ∨ t = 1 ∨ t = 2 ∨ t = 3 ∨ t = 4 ∨ t = 5 by omega) with rfl | rfl | rfl | rfl | rfl | rfl
  · refine zr_tableL zi208_1 (by decide) rfl rfl ?_
    refine zr_aload_n zi208_36 rfl ?_
    refine zr_getfield zi208_37 (P.1.at0 rfl) rfl ?_
    refine zr_iload_n zi208_40 rfl ?_
    refine zr_ialoadN zi208_41 (P.ca.at0 rfl) rfl (by omega) (by first | omega | (simp only [List.length_set, zpt_len]; omega)) ?_
    refine zr_ireturn zi208_42 rfl ?_
    exact K
  · refine zr_tableL zi208_1 (by decide) rfl rfl ?_
    refine zr_aload_n zi208_43 rfl ?_
    refine zr_getfield zi208_44 (P.1.at0 rfl) rfl ?_
    refine zr_iload_n zi208_47 rfl ?_
    refine zr_ialoadN zi208_48 (P.ca.at0 rfl) rfl (by omega) (by first | omega | (simp only [List.length_set, zpt_len]; omega)) ?_
    refine zr_iconst (v := (-1)) zi208_49 rfl ?_
    refine zr_icmp_ne zi208_50 rfl (fun q50 => ?_) (fun q50 => ?_)
    · have K : Q (.inl (some (.int (if cl.getD i 0 = -1 then -1 else rrn (cl.getD i 0))))) h := K
      rw [if_neg q50] at K
      refine zr_aload_n zi208_57 rfl ?_
      refine zr_getfield zi208_58 (P.1.at0 rfl) rfl ?_
      refine zr_iload_n zi208_61 rfl ?_
      refine zr_ialoadN zi208_62 (P.ca.at0 rfl) rfl (by omega) (by first | omega | (simp only [List.length_set, zpt_len]; omega)) ?_
      refine zr_static zi208_63 rfl rfl rfl rfl ?_
      refine zcall_dep (d := 0) (Nat.le_of_ble_eq_true rfl) (c170 (zbk_v ?_))
      refine zr_ireturn zi208_66 rfl ?_
      exact K
    · have K : Q (.inl (some (.int (if cl.getD i 0 = -1 then -1 else rrn (cl.getD i 0))))) h := K
      rw [if_pos q50] at K
      refine zr_iconst (v := (-1)) zi208_53 rfl ?_
      refine zr_goto zi208_54 rfl ?_
      refine zr_ireturn zi208_66 rfl ?_
      exact K
  · refine zr_tableL zi208_1 (by decide) rfl rfl ?_
    refine zr_aload_n zi208_67 rfl ?_
    refine zr_iload_n zi208_68 rfl ?_
    refine zr_virtual zi208_69 rfl rfl (P.1.at0 rfl) rfl rfl ?_
    refine zcall_dep (d := 3) (Nat.le_of_ble_eq_true rfl) (c171 P (by omega) (zbk_v ?_))
    refine zr_ireturn zi208_72 rfl ?_
    exact K
  · refine zr_tableL zi208_1 (by decide) rfl rfl ?_
    refine zr_aload_n zi208_73 rfl ?_
    refine zr_iload_n zi208_74 rfl ?_
    refine zr_iconst (v := zB true) zi208_75 rfl ?_
    refine zr_virtual zi208_76 rfl rfl (P.1.at0 rfl) rfl rfl ?_
    refine zcall_dep (d := 3) (Nat.le_of_ble_eq_true rfl) (c188 P (by omega) (zbk_v ?_))
    refine zr_ireturn zi208_79 rfl ?_
    exact K
  · refine zr_tableL zi208_1 (by decide) rfl rfl ?_
    refine zr_aload_n zi208_80 rfl ?_
    refine zr_iload_n zi208_81 rfl ?_
    refine zr_iconst (v := zB false) zi208_82 rfl ?_
    refine zr_virtual zi208_83 rfl rfl (P.1.at0 rfl) rfl rfl ?_
    refine zcall_dep (d := 3) (Nat.le_of_ble_eq_true rfl) (c188 P (by omega) (zbk_v ?_))
    refine zr_ireturn zi208_86 rfl ?_
    exact K
  · refine zr_tableD zi208_1 (by decide) rfl ?_
    refine zr_aload_n zi208_87 rfl ?_
    refine zr_iload_n zi208_88 rfl ?_
    refine zr_virtual zi208_89 rfl rfl (P.1.at0 rfl) rfl rfl ?_
    refine zcall_dep (d := 0) (Nat.le_of_ble_eq_true rfl) (c168 P (by omega) (zbk_v ?_))
    refine zr_ireturn zi208_92 rfl ?_
    exact K
