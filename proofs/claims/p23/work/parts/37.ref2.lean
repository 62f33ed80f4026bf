/-! ===== the reference: walks that read ===== -/
theorem c175 {E : zEnv} {h : zPH} {Q : zOut → zPH → Prop} {x : Int32} {n : Nat} (hn : n < 32) (K : Q (.inl (some (.int (zB (zbit x n))))) h) : zcall E 0 175 [.int x, .int (zJ n)] h Q := by
  show zwp E _ 175 (0, [some (.int _), some (.int (zJ _))], [], _) Q
  refine zr_iload_n zi175_0 rfl ?_
  refine zr_iload_n zi175_1 rfl ?_
  refine zr_ishr zi175_2 ?_
  refine zr_iconst (v := zJ 1) zi175_3 rfl ?_
  refine zr_iand zi175_4 ?_
  refine zr_iconst (v := zJ 1) zi175_5 rfl ?_
  refine zr_icmp_ne zi175_6 rfl (fun q6 => ?_) (fun q6 => ?_)
  · rw [show zbit x n = false from by cases hb : zbit x n with | true => exact absurd ((zbits_iff x hn).mpr hb) q6 | false => rfl] at K
    refine zr_iconst (v := zB false) zi175_13 rfl ?_
    refine zr_zreturnB zi175_14 rfl ?_
    exact K
  · rw [(zbits_iff x hn).mp q6] at K
    refine zr_iconst (v := zB true) zi175_9 rfl ?_
    refine zr_goto zi175_10 rfl ?_
    refine zr_zreturnB zi175_14 rfl ?_
    exact K
theorem c156 {E : zEnv} {h : zPH} {Q : zOut → zPH → Prop} {b r c g w hh : Nat} {x0 x1 x2 x3 cl : List Int32} {mi sp : Int32} (P : rB h b r c g w hh x0 x1 x2 x3 cl mi sp) (K : Q (.inl (some (.int (zJ (w * hh))))) h) : zcall E 0 156 [.ref b] h Q := by
  show zwp E _ 156 (0, [some (.ref _)], [], _) Q
  refine zr_aload_n zi156_0 rfl ?_
  refine zr_getfield zi156_1 (P.1.at0 rfl) rfl ?_
  refine zr_aload_n zi156_4 rfl ?_
  refine zr_getfield zi156_5 (P.1.at0 rfl) rfl ?_
  refine zr_imulN zi156_8 ?_
  refine zr_ireturn zi156_9 rfl ?_
  exact K
theorem c167 {E : zEnv} {h : zPH} {Q : zOut → zPH → Prop} {b r c g w hh : Nat} {x0 x1 x2 x3 cl : List Int32} {mi sp : Int32} (P : rB h b r c g w hh x0 x1 x2 x3 cl mi sp) (K : Q (.inl (some (.int (zJ (w + hh))))) h) : zcall E 0 167 [.ref b] h Q := by
  show zwp E _ 167 (0, [some (.ref _)], [], _) Q
  refine zr_aload_n zi167_0 rfl ?_
  refine zr_getfield zi167_1 (P.1.at0 rfl) rfl ?_
  refine zr_aload_n zi167_4 rfl ?_
  refine zr_getfield zi167_5 (P.1.at0 rfl) rfl ?_
  refine zr_iaddN zi167_8 ?_
  refine zr_ireturn zi167_9 rfl ?_
  exact K
theorem c168 {E : zEnv} {h : zPH} {Q : zOut → zPH → Prop} {b r c g w hh : Nat} {x0 x1 x2 x3 cl : List Int32} {mi sp : Int32} (P : rB h b r c g w hh x0 x1 x2 x3 cl mi sp) {i : Nat} (hi : i < 1000) (K : Q (.inl (some (.int (zJ (yln w hh i))))) h) : zcall E 0 168 [.ref b, .int (zJ i)] h Q := by
  obtain ⟨⟨gw1, gw2, gh1, gh2⟩, ⟨l0, l1, l2, l3, lcl⟩, d1, d2, d3⟩ := P.2.2.2
  have hwh := zwh_b (w := w) (hh := hh) ⟨gw1, gw2, gh1, gh2⟩
  show zwp E _ 168 (0, [some (.ref _), some (.int (zJ _))], [], _) Q
  refine zr_iload_n zi168_0 rfl ?_
  refine zr_aload_n zi168_1 rfl ?_
  refine zr_getfield zi168_2 (P.1.at0 rfl) rfl ?_
  refine zr_icmp_geN zi168_5 rfl (by omega) (by omega) (fun q5 => ?_) (fun q5 => ?_)
  · rw [yln, if_neg (by omega)] at K
    refine zr_aload_n zi168_15 rfl ?_
    refine zr_getfield zi168_16 (P.1.at0 rfl) rfl ?_
    refine zr_ireturn zi168_19 rfl ?_
    exact K
  · rw [yln, if_pos q5] at K
    refine zr_aload_n zi168_8 rfl ?_
    refine zr_getfield zi168_9 (P.1.at0 rfl) rfl ?_
    refine zr_goto zi168_12 rfl ?_
    refine zr_ireturn zi168_19 rfl ?_
    exact K
theorem c173 {E : zEnv} {h : zPH} {Q : zOut → zPH → Prop} {b r c g w hh : Nat} {x0 x1 x2 x3 cl : List Int32} {mi sp : Int32} (P : rB h b r c g w hh x0 x1 x2 x3 cl mi sp) {i p : Nat} (hi : i < 1000) (hp : p < 1000) (K : Q (.inl (some (.int (zJ (ycl w hh i p))))) h) : zcall E 0 173 [.ref b, .int (zJ i), .int (zJ p)] h Q := by
  obtain ⟨⟨gw1, gw2, gh1, gh2⟩, ⟨l0, l1, l2, l3, lcl⟩, d1, d2, d3⟩ := P.2.2.2
  have hwh := zwh_b (w := w) (hh := hh) ⟨gw1, gw2, gh1, gh2⟩
  show zwp E _ 173 (0, [some (.ref _), some (.int (zJ _)), some (.int (zJ _))], [], _) Q
  refine zr_iload_n zi173_0 rfl ?_
  refine zr_aload_n zi173_1 rfl ?_
  refine zr_getfield zi173_2 (P.1.at0 rfl) rfl ?_
  refine zr_icmp_geN zi173_5 rfl (by omega) (by omega) (fun q5 => ?_) (fun q5 => ?_)
  · rw [ycl, if_neg (by omega), Nat.mul_comm] at K
    refine zr_aload_n zi173_19 rfl ?_
    refine zr_getfield zi173_20 (P.1.at0 rfl) rfl ?_
    refine zr_iload_n zi173_23 rfl ?_
    refine zr_imulN zi173_24 ?_
    refine zr_iload_n zi173_25 rfl ?_
    refine zr_iaddN zi173_26 ?_
    refine zr_aload_n zi173_27 rfl ?_
    refine zr_getfield zi173_28 (P.1.at0 rfl) rfl ?_
    refine zr_isubN zi173_31 (by omega) ?_
    refine zr_ireturn zi173_32 rfl ?_
    exact K
  · rw [ycl, if_pos q5, Nat.mul_comm] at K
    refine zr_aload_n zi173_8 rfl ?_
    refine zr_getfield zi173_9 (P.1.at0 rfl) rfl ?_
    refine zr_iload_n zi173_12 rfl ?_
    refine zr_imulN zi173_13 ?_
    refine zr_iload_n zi173_14 rfl ?_
    refine zr_iaddN zi173_15 ?_
    refine zr_goto zi173_16 rfl ?_
    refine zr_ireturn zi173_32 rfl ?_
    exact K
theorem c174 {E : zEnv} {h : zPH} {Q : zOut → zPH → Prop} {b r c g w hh : Nat} {x0 x1 x2 x3 cl : List Int32} {mi sp : Int32} (P : rB h b r c g w hh x0 x1 x2 x3 cl mi sp) {k : Nat} (hk : k < w * hh) (K : Q (.inl (some (.int (x0.getD k 0)))) h) : zcall E 0 174 [.ref b, .int (zJ k)] h Q := by
  obtain ⟨⟨gw1, gw2, gh1, gh2⟩, ⟨l0, l1, l2, l3, lcl⟩, d1, d2, d3⟩ := P.2.2.2
  have hwh := zwh_b (w := w) (hh := hh) ⟨gw1, gw2, gh1, gh2⟩
  show zwp E _ 174 (0, [some (.ref _), some (.int (zJ _))], [], _) Q
  refine zr_aload_n zi174_0 rfl ?_
  refine zr_getfield zi174_1 (P.1.at0 rfl) rfl ?_
  refine zr_iconst (v := zJ 0) zi174_4 rfl ?_
  refine zr_aaloadN zi174_5 (P.rw.at0 rfl) rfl (by omega) rfl ?_
  refine zr_iload_n zi174_6 rfl ?_
  refine zr_ialoadN zi174_7 (P.rw.at 1 rfl) rfl (by omega) (by first | omega | (simp only [List.length_set, zpt_len]; omega)) ?_
  refine zr_ireturn zi174_8 rfl ?_
  exact K
def rsh (x : Int32) (n : Nat) : Nat → Int32 × Nat
  | 0 => (zJ 0, 0)
  | k + 1 => if k < n ∧ zbit x k = true then ((rsh x n k).1, (rsh x n k).2 + 1) else (if 0 < (rsh x n k).2 then zJ 10 * (rsh x n k).1 + zJ (rsh x n k).2 else (rsh x n k).1, 0)
theorem rsh_le (x : Int32) (n k : Nat) : (rsh x n k).2 ≤ k := by
  induction k with
  | zero => exact Nat.le_refl _
  | succ k ih =>
    rw [rsh]
    split
    · show (rsh x n k).2 + 1 ≤ k + 1
      omega
    · exact Nat.zero_le _
def rsw (x : Int32) (n : Nat) : Int32 := (rsh x n (n + 1)).1
theorem c176 {E : zEnv} {h : zPH} {Q : zOut → zPH → Prop} {x : Int32} {n : Nat} (hn : n ≤ 5) (K : Q (.inl (some (.int (rsw x n)))) h) : zcall E 1 176 [.int x, .int (zJ n)] h Q := by
  show zwp E _ 176 (0, [some (.int _), some (.int (zJ _)), none, none, none], [], _) Q
  refine zr_iconst (v := zJ 0) zi176_0 rfl ?_
  refine zr_istore_n (L' := [some (.int _), some (.int (zJ _)), some (.int (zJ _)), none, none]) zi176_1 rfl rfl ?_
  refine zr_iconst (v := zJ 0) zi176_2 rfl ?_
  refine zr_istore_n (L' := [some (.int _), some (.int (zJ _)), some (.int (zJ _)), some (.int (zJ _)), none]) zi176_3 rfl rfl ?_
  refine zr_iconst (v := zJ 0) zi176_4 rfl ?_
  refine zr_istore (L' := [some (.int _), some (.int (zJ _)), some (.int (zJ _)), some (.int (zJ _)), some (.int (zJ _))]) zi176_5 rfl rfl ?_
  suffices key7 : zwp E 1 176 (7, [some (.int x), some (.int (zJ n)), some (.int (rsh x n 0).1), some (.int (zJ (rsh x n 0).2)), some (.int (zJ 0))], [], h) Q from key7 
  refine zloop (P := fun k => zwp E 1 176 (7, [some (.int x), some (.int (zJ n)), some (.int (rsh x n k).1), some (.int (zJ (rsh x n k).2)), some (.int (zJ k))], [], h) Q) (n := n + 1) fun k hk7 ih7 => ?_
  have hrs := rsh_le x n k
  refine zr_iload zi176_7 rfl ?_
  refine zr_iload_n zi176_9 rfl ?_
  refine zr_icmp_gtN zi176_10 rfl (by omega) (by omega) (fun q10 => ?_) (fun q10 => ?_)
  · refine zr_iload_n zi176_57 rfl ?_
    refine zr_ireturn zi176_58 rfl ?_
    obtain rfl : k = n + 1 := by omega
    exact K
  · refine zr_iload zi176_13 rfl ?_
    refine zr_iload_n zi176_15 rfl ?_
    refine zr_icmp_geN zi176_16 rfl (by omega) (by omega) (fun q16 => ?_) (fun q16 => ?_)
    · have hb : ¬ (k < n ∧ zbit x k = true) := by first | (intro z; omega) | (intro z; rw [q25] at z; exact absurd z.2 (by decide))
      refine zr_iload_n zi176_34 rfl ?_
      refine zr_if_leN zi176_35 rfl (by omega) (fun q35 => ?_) (fun q35 => ?_)
      · refine zr_iload_n zi176_47 rfl ?_
        refine zr_istore_n (L' := [some (.int _), some (.int (zJ _)), some (.int _), some (.int (zJ _)), some (.int (zJ _))]) zi176_48 rfl rfl ?_
        refine zr_iconst (v := zJ 0) zi176_49 rfl ?_
        refine zr_istore_n (L' := [some (.int _), some (.int (zJ _)), some (.int _), some (.int (zJ _)), some (.int (zJ _))]) zi176_50 rfl rfl ?_
        refine zr_iincN (z := 1) (L' := [some (.int _), some (.int (zJ _)), some (.int _), some (.int (zJ _)), some (.int (zJ _))]) zi176_51 rfl rfl rfl rfl ?_
        refine zr_goto zi176_54 rfl ?_
        have e := ih7 (by omega)
        rw [rsh] at e
        first | (rw [if_pos hb] at e) | (rw [if_neg hb, if_pos q35] at e) | (rw [if_neg hb, if_neg (by omega)] at e)
        exact e
      · refine zr_bipush (v := zJ 10) zi176_38 rfl ?_
        refine zr_iload_n zi176_40 rfl ?_
        refine zr_imul zi176_41 ?_
        refine zr_iload_n zi176_42 rfl ?_
        refine zr_iadd zi176_43 ?_
        refine zr_goto zi176_44 rfl ?_
        refine zr_istore_n (L' := [some (.int _), some (.int (zJ _)), some (.int _), some (.int (zJ _)), some (.int (zJ _))]) zi176_48 rfl rfl ?_
        refine zr_iconst (v := zJ 0) zi176_49 rfl ?_
        refine zr_istore_n (L' := [some (.int _), some (.int (zJ _)), some (.int _), some (.int (zJ _)), some (.int (zJ _))]) zi176_50 rfl rfl ?_
        refine zr_iincN (z := 1) (L' := [some (.int _), some (.int (zJ _)), some (.int _), some (.int (zJ _)), some (.int (zJ _))]) zi176_51 rfl rfl rfl rfl ?_
        refine zr_goto zi176_54 rfl ?_
        have e := ih7 (by omega)
        rw [rsh] at e
        first | (rw [if_pos hb] at e) | (rw [if_neg hb, if_pos q35] at e) | (rw [if_neg hb, if_neg (by omega)] at e)
        exact e
    · refine zr_iload_n zi176_19 rfl ?_
      refine zr_iload zi176_20 rfl ?_
      refine zr_static zi176_22 rfl rfl rfl rfl ?_
      refine zcall_dep (d := 0) (Nat.le_of_ble_eq_true rfl) (c175 (by omega) (zbk_v ?_))
      refine zr_if_eqB zi176_25 rfl (fun q25 => ?_) (fun q25 => ?_)
      · have hb : ¬ (k < n ∧ zbit x k = true) := by first | (intro z; omega) | (intro z; rw [q25] at z; exact absurd z.2 (by decide))
        refine zr_iload_n zi176_34 rfl ?_
        refine zr_if_leN zi176_35 rfl (by omega) (fun q35 => ?_) (fun q35 => ?_)
        · refine zr_iload_n zi176_47 rfl ?_
          refine zr_istore_n (L' := [some (.int _), some (.int (zJ _)), some (.int _), some (.int (zJ _)), some (.int (zJ _))]) zi176_48 rfl rfl ?_
          refine zr_iconst (v := zJ 0) zi176_49 rfl ?_
          refine zr_istore_n (L' := [some (.int _), some (.int (zJ _)), some (.int _), some (.int (zJ _)), some (.int (zJ _))]) zi176_50 rfl rfl ?_
          refine zr_iincN (z := 1) (L' := [some (.int _), some (.int (zJ _)), some (.int _), some (.int (zJ _)), some (.int (zJ _))]) zi176_51 rfl rfl rfl rfl ?_
          refine zr_goto zi176_54 rfl ?_
          have e := ih7 (by omega)
          rw [rsh] at e
          first | (rw [if_pos hb] at e) | (rw [if_neg hb, if_pos q35] at e) | (rw [if_neg hb, if_neg (by omega)] at e)
          exact e
        · refine zr_bipush (v := zJ 10) zi176_38 rfl ?_
          refine zr_iload_n zi176_40 rfl ?_
          refine zr_imul zi176_41 ?_
          refine zr_iload_n zi176_42 rfl ?_
          refine zr_iadd zi176_43 ?_
          refine zr_goto zi176_44 rfl ?_
          refine zr_istore_n (L' := [some (.int _), some (.int (zJ _)), some (.int _), some (.int (zJ _)), some (.int (zJ _))]) zi176_48 rfl rfl ?_
          refine zr_iconst (v := zJ 0) zi176_49 rfl ?_
          refine zr_istore_n (L' := [some (.int _), some (.int (zJ _)), some (.int _), some (.int (zJ _)), some (.int (zJ _))]) zi176_50 rfl rfl ?_
          refine zr_iincN (z := 1) (L' := [some (.int _), some (.int (zJ _)), some (.int _), some (.int (zJ _)), some (.int (zJ _))]) zi176_51 rfl rfl rfl rfl ?_
          refine zr_goto zi176_54 rfl ?_
          have e := ih7 (by omega)
          rw [rsh] at e
          first | (rw [if_pos hb] at e) | (rw [if_neg hb, if_pos q35] at e) | (rw [if_neg hb, if_neg (by omega)] at e)
          exact e
      · have hb : k < n ∧ zbit x k = true := And.intro q16 q25
        refine zr_iincN (z := 1) (L' := [some (.int _), some (.int (zJ _)), some (.int _), some (.int (zJ _)), some (.int (zJ _))]) zi176_28 rfl rfl rfl rfl ?_
        refine zr_goto zi176_31 rfl ?_
        refine zr_iincN (z := 1) (L' := [some (.int _), some (.int (zJ _)), some (.int _), some (.int (zJ _)), some (.int (zJ _))]) zi176_51 rfl rfl rfl rfl ?_
        refine zr_goto zi176_54 rfl ?_
        have e := ih7 (by omega)
        rw [rsh] at e
        first | (rw [if_pos hb] at e) | (rw [if_neg hb, if_pos q35] at e) | (rw [if_neg hb, if_neg (by omega)] at e)
        exact e
def rco (w hh : Nat) (x0 : List Int32) (i : Nat) (x : Int32) (k : Nat) : Bool := if x0.getD (ycl w hh i k) 0 = zJ 1 then zbit x k else if x0.getD (ycl w hh i k) 0 = zJ 2 then !zbit x k else true
def riw (w hh : Nat) (x0 cl : List Int32) (i n : Nat) : Bool := rall (rco w hh x0 i (zJ n)) (yln w hh i) && (decide (cl.getD i 0 = -1) || decide (rsw (zJ n) (yln w hh i) = cl.getD i 0))
theorem riw_t {w hh : Nat} {x0 cl : List Int32} {i n : Nat} (h1 : rall (rco w hh x0 i (zJ n)) (yln w hh i) = true) (h2 : cl.getD i 0 = -1 ∨ rsw (zJ n) (yln w hh i) = cl.getD i 0) : riw w hh x0 cl i n = true := by
  unfold riw
  rw [h1, Bool.true_and]
  rcases h2 with h2 | h2
  · rw [decide_eq_true h2, Bool.true_or]
  · rw [decide_eq_true h2, Bool.or_true]
theorem riw_f {w hh : Nat} {x0 cl : List Int32} {i n : Nat} (h2 : ¬ cl.getD i 0 = -1) (h3 : ¬ rsw (zJ n) (yln w hh i) = cl.getD i 0) : riw w hh x0 cl i n = false := by
  unfold riw
  rw [decide_eq_false h2, decide_eq_false h3, Bool.false_or, Bool.and_false]
theorem riw_n {w hh : Nat} {x0 cl : List Int32} {i n k : Nat} (hk : k < yln w hh i) (h : rco w hh x0 i (zJ n) k = false) : riw w hh x0 cl i n = false := by
  unfold riw
  rw [rall_no hk h, Bool.false_and]
theorem c172 {E : zEnv} {h : zPH} {Q : zOut → zPH → Prop} {b r c g w hh : Nat} {x0 x1 x2 x3 cl : List Int32} {mi sp : Int32} (P : rB h b r c g w hh x0 x1 x2 x3 cl mi sp) {i : Nat} (hi : i < w + hh) {n : Nat} (hn : n < 32) (K : Q (.inl (some (.int (zB (riw w hh x0 cl i n))))) h) : zcall E 2 172 [.ref b, .int (zJ i), .int (zJ n)] h Q := by
  obtain ⟨⟨gw1, gw2, gh1, gh2⟩, ⟨l0, l1, l2, l3, lcl⟩, d1, d2, d3⟩ := P.2.2.2
  have hwh := zwh_b (w := w) (hh := hh) ⟨gw1, gw2, gh1, gh2⟩
  have hln := yln_b i ⟨gw1, gw2, gh1, gh2⟩
  have hp := zpow5 hln.2
  show zwp E _ 172 (0, [some (.ref _), some (.int (zJ _)), some (.int (zJ _)), none, none], [], _) Q
  refine zr_iconst (v := zJ 0) zi172_0 rfl ?_
  refine zr_istore_n (L' := [some (.ref _), some (.int (zJ _)), some (.int (zJ _)), some (.int (zJ _)), none]) zi172_1 rfl rfl ?_
  suffices key2 : ∀ x4, (rall (rco w hh x0 i (zJ n)) 0 = true) → zwp E 2 172 (2, [some (.ref b), some (.int (zJ i)), some (.int (zJ n)), some (.int (zJ 0)), x4], [], h) Q from key2 _ rfl
  refine zloop (P := fun k => ∀ x4, (rall (rco w hh x0 i (zJ n)) k = true) → zwp E 2 172 (2, [some (.ref b), some (.int (zJ i)), some (.int (zJ n)), some (.int (zJ k)), x4], [], h) Q) (n := yln w hh i) fun k hk2 ih2 => ?_
  intro x4 hE
  refine zr_iload_n zi172_2 rfl ?_
  refine zr_aload_n zi172_3 rfl ?_
  refine zr_iload_n zi172_4 rfl ?_
  refine zr_virtual zi172_5 rfl rfl (P.1.at0 rfl) rfl rfl ?_
  refine zcall_dep (d := 0) (Nat.le_of_ble_eq_true rfl) (c168 P (by omega) (zbk_v ?_))
  refine zr_icmp_geN zi172_8 rfl (by omega) (by omega) (fun q8 => ?_) (fun q8 => ?_)
  · obtain rfl : k = yln w hh i := by omega
    refine zr_aload_n zi172_59 rfl ?_
    refine zr_getfield zi172_60 (P.1.at0 rfl) rfl ?_
    refine zr_iload_n zi172_63 rfl ?_
    refine zr_ialoadN zi172_64 (P.ca.at0 rfl) rfl (by omega) (by first | omega | (simp only [List.length_set, zpt_len]; omega)) ?_
    refine zr_iconst (v := (-1)) zi172_65 rfl ?_
    refine zr_icmp_eq zi172_66 rfl (fun q66 => ?_) (fun q66 => ?_)
    · rw [riw_t hE (by first | exact Or.inl q66 | exact Or.inr q84)] at K
      refine zr_iconst (v := zB true) zi172_87 rfl ?_
      refine zr_goto zi172_88 rfl ?_
      refine zr_zreturnB zi172_92 rfl ?_
      exact K
    · refine zr_iload_n zi172_69 rfl ?_
      refine zr_aload_n zi172_70 rfl ?_
      refine zr_iload_n zi172_71 rfl ?_
      refine zr_virtual zi172_72 rfl rfl (P.1.at0 rfl) rfl rfl ?_
      refine zcall_dep (d := 0) (Nat.le_of_ble_eq_true rfl) (c168 P (by omega) (zbk_v ?_))
      refine zr_static zi172_75 rfl rfl rfl rfl ?_
      refine zcall_dep (d := 1) (Nat.le_of_ble_eq_true rfl) (c176 (by omega) (zbk_v ?_))
      refine zr_aload_n zi172_78 rfl ?_
      refine zr_getfield zi172_79 (P.1.at0 rfl) rfl ?_
      refine zr_iload_n zi172_82 rfl ?_
      refine zr_ialoadN zi172_83 (P.ca.at0 rfl) rfl (by omega) (by first | omega | (simp only [List.length_set, zpt_len]; omega)) ?_
      refine zr_icmp_ne zi172_84 rfl (fun q84 => ?_) (fun q84 => ?_)
      · rw [riw_f q66 q84] at K
        refine zr_iconst (v := zB false) zi172_91 rfl ?_
        refine zr_zreturnB zi172_92 rfl ?_
        exact K
      · rw [riw_t hE (by first | exact Or.inl q66 | exact Or.inr q84)] at K
        refine zr_iconst (v := zB true) zi172_87 rfl ?_
        refine zr_goto zi172_88 rfl ?_
        refine zr_zreturnB zi172_92 rfl ?_
        exact K
  · have hc := ycl_b hi q8
    refine zr_aload_n zi172_11 rfl ?_
    refine zr_aload_n zi172_12 rfl ?_
    refine zr_iload_n zi172_13 rfl ?_
    refine zr_iload_n zi172_14 rfl ?_
    refine zr_virtual zi172_15 rfl rfl (P.1.at0 rfl) rfl rfl ?_
    refine zcall_dep (d := 0) (Nat.le_of_ble_eq_true rfl) (c173 P (by omega) (by omega) (zbk_v ?_))
    refine zr_virtual zi172_18 rfl rfl (P.1.at0 rfl) rfl rfl ?_
    refine zcall_dep (d := 0) (Nat.le_of_ble_eq_true rfl) (c174 P (by omega) (zbk_v ?_))
    refine zr_istore (L' := [some (.ref _), some (.int (zJ _)), some (.int (zJ _)), some (.int (zJ _)), some (.int _)]) zi172_21 rfl rfl ?_
    refine zr_iload zi172_23 rfl ?_
    refine zr_iconst (v := zJ 1) zi172_25 rfl ?_
    refine zr_icmp_ne zi172_26 rfl (fun q26 => ?_) (fun q26 => ?_)
    · refine zr_iload zi172_37 rfl ?_
      refine zr_iconst (v := zJ 2) zi172_39 rfl ?_
      refine zr_icmp_ne zi172_40 rfl (fun q40 => ?_) (fun q40 => ?_)
      · refine zr_iincN (z := 1) (L' := [some (.ref _), some (.int (zJ _)), some (.int (zJ _)), some (.int (zJ _)), some (.int _)]) zi172_53 rfl rfl rfl rfl ?_
        refine zr_goto zi172_56 rfl ?_
        refine ih2 (by omega) _ ?_
        rw [rall, hE, Bool.true_and, rco]
        first | (rw [if_pos q26]; exact q34) | (rw [if_neg q26, if_pos q40]; rw [q48]; rfl) | (rw [if_neg q26, if_neg q40])
      · refine zr_iload_n zi172_43 rfl ?_
        refine zr_iload_n zi172_44 rfl ?_
        refine zr_static zi172_45 rfl rfl rfl rfl ?_
        refine zcall_dep (d := 0) (Nat.le_of_ble_eq_true rfl) (c175 (by omega) (zbk_v ?_))
        refine zr_if_eqB zi172_48 rfl (fun q48 => ?_) (fun q48 => ?_)
        · refine zr_iincN (z := 1) (L' := [some (.ref _), some (.int (zJ _)), some (.int (zJ _)), some (.int (zJ _)), some (.int _)]) zi172_53 rfl rfl rfl rfl ?_
          refine zr_goto zi172_56 rfl ?_
          refine ih2 (by omega) _ ?_
          rw [rall, hE, Bool.true_and, rco]
          first | (rw [if_pos q26]; exact q34) | (rw [if_neg q26, if_pos q40]; rw [q48]; rfl) | (rw [if_neg q26, if_neg q40])
        · have hf : rco w hh x0 i (zJ n) k = false := by
            rw [rco]
            first | (rw [if_pos q26]; exact q34) | (rw [if_neg q26, if_pos q40]; rw [q48]; rfl) | exact absurd (q26.symm.trans q40) (by decide)
          rw [riw_n q8 hf] at K
          refine zr_iconst (v := zB false) zi172_51 rfl ?_
          refine zr_zreturnB zi172_52 rfl ?_
          exact K
    · refine zr_iload_n zi172_29 rfl ?_
      refine zr_iload_n zi172_30 rfl ?_
      refine zr_static zi172_31 rfl rfl rfl rfl ?_
      refine zcall_dep (d := 0) (Nat.le_of_ble_eq_true rfl) (c175 (by omega) (zbk_v ?_))
      refine zr_if_eqB zi172_34 rfl (fun q34 => ?_) (fun q34 => ?_)
      · have hf : rco w hh x0 i (zJ n) k = false := by
          rw [rco]
          first | (rw [if_pos q26]; exact q34) | (rw [if_neg q26, if_pos q40]; rw [q48]; rfl) | exact absurd (q26.symm.trans q40) (by decide)
        rw [riw_n q8 hf] at K
        refine zr_iconst (v := zB false) zi172_51 rfl ?_
        refine zr_zreturnB zi172_52 rfl ?_
        exact K
      · refine zr_iload zi172_37 rfl ?_
        refine zr_iconst (v := zJ 2) zi172_39 rfl ?_
        refine zr_icmp_ne zi172_40 rfl (fun q40 => ?_) (fun q40 => ?_)
        · refine zr_iincN (z := 1) (L' := [some (.ref _), some (.int (zJ _)), some (.int (zJ _)), some (.int (zJ _)), some (.int _)]) zi172_53 rfl rfl rfl rfl ?_
          refine zr_goto zi172_56 rfl ?_
          refine ih2 (by omega) _ ?_
          rw [rall, hE, Bool.true_and, rco]
          first | (rw [if_pos q26]; exact q34) | (rw [if_neg q26, if_pos q40]; rw [q48]; rfl) | (rw [if_neg q26, if_neg q40])
        · refine zr_iload_n zi172_43 rfl ?_
          refine zr_iload_n zi172_44 rfl ?_
          refine zr_static zi172_45 rfl rfl rfl rfl ?_
          refine zcall_dep (d := 0) (Nat.le_of_ble_eq_true rfl) (c175 (by omega) (zbk_v ?_))
          refine zr_if_eqB zi172_48 rfl (fun q48 => ?_) (fun q48 => ?_)
          · refine zr_iincN (z := 1) (L' := [some (.ref _), some (.int (zJ _)), some (.int (zJ _)), some (.int (zJ _)), some (.int _)]) zi172_53 rfl rfl rfl rfl ?_
            refine zr_goto zi172_56 rfl ?_
            refine ih2 (by omega) _ ?_
            rw [rall, hE, Bool.true_and, rco]
            first | (rw [if_pos q26]; exact q34) | (rw [if_neg q26, if_pos q40]; rw [q48]; rfl) | (rw [if_neg q26, if_neg q40])
          · have hf : rco w hh x0 i (zJ n) k = false := by
              rw [rco]
              first | (rw [if_pos q26]; exact q34) | (rw [if_neg q26, if_pos q40]; rw [q48]; rfl) | exact absurd (q26.symm.trans q40) (by decide)
            rw [riw_n q8 hf] at K
            refine zr_iconst (v := zB false) zi172_51 rfl ?_
            refine zr_zreturnB zi172_52 rfl ?_
            exact K
def rct (w hh : Nat) (x0 cl : List Int32) (i : Nat) : Nat → Nat
  | 0 => 0
  | k + 1 => if riw w hh x0 cl i k = true then rct w hh x0 cl i k + 1 else rct w hh x0 cl i k
theorem rct_le (w hh : Nat) (x0 cl : List Int32) (i k : Nat) : rct w hh x0 cl i k ≤ k := by
  induction k with
  | zero => exact Nat.le_refl _
  | succ k ih => rw [rct]; split <;> omega
theorem rct_mono (w hh : Nat) (x0 cl : List Int32) (i : Nat) {k n : Nat} (h : k ≤ n) : rct w hh x0 cl i k ≤ rct w hh x0 cl i n := by
  induction h with
  | refl => exact Nat.le_refl _
  | step _ ih => rw [rct]; split <;> omega
theorem rct_lt {w hh : Nat} {x0 cl : List Int32} {i k n : Nat} (h : k < n) (hk : riw w hh x0 cl i k = true) : rct w hh x0 cl i k < rct w hh x0 cl i n := by
  have h1 := rct_mono w hh x0 cl i (show k + 1 ≤ n from h)
  rw [rct, if_pos hk] at h1
  omega
/-- the ways of a line, smaller numbers first -/
def rwl (w hh : Nat) (x0 cl : List Int32) (i : Nat) : Nat → List Nat
  | 0 => []
  | k + 1 => if riw w hh x0 cl i k = true then rwl w hh x0 cl i k ++ [k] else rwl w hh x0 cl i k
theorem rwl_len (w hh : Nat) (x0 cl : List Int32) (i k : Nat) : (rwl w hh x0 cl i k).length = rct w hh x0 cl i k := by
  induction k with
  | zero => rfl
  | succ k ih =>
    rw [rwl, rct]
    split
    · rw [List.length_append, ih]; rfl
    · exact ih
theorem rwl_set {l : List Int32} {m : Nat} {v : Int32} (hm : 0 < m) : (l ++ List.replicate m 0).set l.length v = (l ++ [v]) ++ List.replicate (m - 1) 0 := by
  obtain ⟨k, rfl⟩ : ∃ k, m = k + 1 := ⟨m - 1, by omega⟩
  rw [List.set_append_right _ _ (Nat.le_refl _), Nat.sub_self, List.replicate_succ, Nat.add_sub_cancel]
  simp
def rcw (w hh : Nat) (x0 cl : List Int32) (i : Nat) : Nat := rct w hh x0 cl i (2 ^ yln w hh i)
theorem rcw_le {w hh : Nat} (x0 cl : List Int32) (i : Nat) (h : 2 ≤ w ∧ w ≤ 5 ∧ 2 ≤ hh ∧ hh ≤ 5) : rcw w hh x0 cl i ≤ 32 := Nat.le_trans (rct_le _ _ _ _ _ _) (zpow5 (yln_b i h).2)
def rww (w hh : Nat) (x0 cl : List Int32) (i : Nat) : List Nat := rwl w hh x0 cl i (2 ^ yln w hh i)
theorem c171 {E : zEnv} {h : zPH} {Q : zOut → zPH → Prop} {b r c g w hh : Nat} {x0 x1 x2 x3 cl : List Int32} {mi sp : Int32} (P : rB h b r c g w hh x0 x1 x2 x3 cl mi sp) {i : Nat} (hi : i < w + hh) (K : Q (.inl (some (.int (zJ (rcw w hh x0 cl i))))) h) : zcall E 3 171 [.ref b, .int (zJ i)] h Q := by
  obtain ⟨⟨gw1, gw2, gh1, gh2⟩, ⟨l0, l1, l2, l3, lcl⟩, d1, d2, d3⟩ := P.2.2.2
  have hwh := zwh_b (w := w) (hh := hh) ⟨gw1, gw2, gh1, gh2⟩
  have hln := yln_b i ⟨gw1, gw2, gh1, gh2⟩
  have hp := zpow5 hln.2
  show zwp E _ 171 (0, [some (.ref _), some (.int (zJ _)), none, none], [], _) Q
  refine zr_iconst (v := zJ 0) zi171_0 rfl ?_
  refine zr_istore_n (L' := [some (.ref _), some (.int (zJ _)), some (.int (zJ _)), none]) zi171_1 rfl rfl ?_
  refine zr_iconst (v := zJ 0) zi171_2 rfl ?_
  refine zr_istore_n (L' := [some (.ref _), some (.int (zJ _)), some (.int (zJ _)), some (.int (zJ _))]) zi171_3 rfl rfl ?_
  suffices key4 : zwp E 3 171 (4, [some (.ref b), some (.int (zJ i)), some (.int (zJ (rct w hh x0 cl i 0))), some (.int (zJ 0))], [], h) Q from key4 
  refine zloop (P := fun k => zwp E 3 171 (4, [some (.ref b), some (.int (zJ i)), some (.int (zJ (rct w hh x0 cl i k))), some (.int (zJ k))], [], h) Q) (n := 2 ^ yln w hh i) fun k hk4 ih4 => ?_
  refine zr_iload_n zi171_4 rfl ?_
  refine zr_iconst (v := zJ 1) zi171_5 rfl ?_
  refine zr_aload_n zi171_6 rfl ?_
  refine zr_iload_n zi171_7 rfl ?_
  refine zr_virtual zi171_8 rfl rfl (P.1.at0 rfl) rfl rfl ?_
  refine zcall_dep (d := 0) (Nat.le_of_ble_eq_true rfl) (c168 P (by omega) (zbk_v ?_))
  refine zr_ishlN zi171_11 (by omega) ?_
  refine zr_icmp_geN zi171_12 rfl (by omega) (by omega) (fun q12 => ?_) (fun q12 => ?_)
  · refine zr_iload_n zi171_38 rfl ?_
    refine zr_ireturn zi171_39 rfl ?_
    obtain rfl : k = 2 ^ yln w hh i := by omega
    exact K
  · refine zr_iload_n zi171_15 rfl ?_
    refine zr_aload_n zi171_16 rfl ?_
    refine zr_iload_n zi171_17 rfl ?_
    refine zr_iload_n zi171_18 rfl ?_
    refine zr_virtual zi171_19 rfl rfl (P.1.at0 rfl) rfl rfl ?_
    refine zcall_dep (d := 2) (Nat.le_of_ble_eq_true rfl) (c172 P (by omega) (by omega) (zbk_v ?_))
    refine zr_if_eqB zi171_22 rfl (fun q22 => ?_) (fun q22 => ?_)
    · refine zr_iconst (v := zJ 0) zi171_29 rfl ?_
      refine zr_iaddN zi171_30 ?_
      refine zr_istore_n (L' := [some (.ref _), some (.int (zJ _)), some (.int (zJ _)), some (.int (zJ _))]) zi171_31 rfl rfl ?_
      refine zr_iincN (z := 1) (L' := [some (.ref _), some (.int (zJ _)), some (.int (zJ _)), some (.int (zJ _))]) zi171_32 rfl rfl rfl rfl ?_
      refine zr_goto zi171_35 rfl ?_
      have e := ih4 (by omega)
      rw [rct] at e
      first | rw [if_pos q22] at e | rw [if_neg (by rw [q22]; decide)] at e
      exact e
    · refine zr_iconst (v := zJ 1) zi171_25 rfl ?_
      refine zr_goto zi171_26 rfl ?_
      refine zr_iaddN zi171_30 ?_
      refine zr_istore_n (L' := [some (.ref _), some (.int (zJ _)), some (.int (zJ _)), some (.int (zJ _))]) zi171_31 rfl rfl ?_
      refine zr_iincN (z := 1) (L' := [some (.ref _), some (.int (zJ _)), some (.int (zJ _)), some (.int (zJ _))]) zi171_32 rfl rfl rfl rfl ?_
      refine zr_goto zi171_35 rfl ?_
      have e := ih4 (by omega)
      rw [rct] at e
      first | rw [if_pos q22] at e | rw [if_neg (by rw [q22]; decide)] at e
      exact e
theorem c183 {E : zEnv} {h : zPH} {Q : zOut → zPH → Prop} {b r c g w hh : Nat} {x0 x1 x2 x3 cl : List Int32} {mi sp : Int32} (P : rB h b r c g w hh x0 x1 x2 x3 cl mi sp) {i : Nat} (hi : i < w + hh) (K : ∀ h1 q, yFr (fun x => h.2.1 ≤ x) h h1 1 (rcw w hh x0 cl i) → q = h.2.1 → h1.1 q = some (64, zis ((rww w hh x0 cl i).map zJ)) → h1.2.1 = h.2.1 + 1 → Q (.inl (some (.ref q))) h1) : zcall E 4 183 [.ref b, .int (zJ i)] h Q := by
  obtain ⟨⟨gw1, gw2, gh1, gh2⟩, ⟨l0, l1, l2, l3, lcl⟩, d1, d2, d3⟩ := P.2.2.2
  have hwh := zwh_b (w := w) (hh := hh) ⟨gw1, gw2, gh1, gh2⟩
  have hln := yln_b i ⟨gw1, gw2, gh1, gh2⟩
  have hp := zpow5 hln.2
  have hPl := P.lt
  show zwp E _ 183 (0, [some (.ref _), some (.int (zJ _)), none, none, none], [], _) Q
  refine zr_aload_n zi183_0 rfl ?_
  refine zr_iload_n zi183_1 rfl ?_
  refine zr_virtual zi183_2 rfl rfl (P.1.at0 rfl) rfl rfl ?_
  refine zcall_dep (d := 3) (Nat.le_of_ble_eq_true rfl) (c171 P (by omega) (zbk_v ?_))
  refine zr_newarrayN zi183_5 (by have := rcw_le x0 cl i ⟨gw1, gw2, gh1, gh2⟩; omega) rfl ?_
  refine zw_n (fun h5 q F5 ev5 Xq5 N5 n5 => ?_)
  have P5 := P.fr (F5 (fun _ => False)) (fun _ _ z => z)
  refine zr_astore_n (L' := [some (.ref _), some (.int (zJ _)), some (.ref _), none, none]) zi183_7 rfl rfl ?_
  refine zr_iconst (v := zJ 0) zi183_8 rfl ?_
  refine zr_istore_n (L' := [some (.ref _), some (.int (zJ _)), some (.ref _), some (.int (zJ _)), none]) zi183_9 rfl rfl ?_
  refine zr_iconst (v := zJ 0) zi183_10 rfl ?_
  refine zr_istore (L' := [some (.ref _), some (.int (zJ _)), some (.ref _), some (.int (zJ _)), some (.int (zJ _))]) zi183_11 rfl rfl ?_
  suffices key13 : ∀ h1, (yFr (fun x => h.2.1 ≤ x) h h1 1 (rcw w hh x0 cl i)) → (rB h1 b r c g w hh x0 x1 x2 x3 cl mi sp) → (h1.1 q = some (64, zis ((rwl w hh x0 cl i 0).map zJ ++ List.replicate (rcw w hh x0 cl i - rct w hh x0 cl i 0) 0))) → (h1.2.1 = h.2.1 + 1) → zwp E 4 183 (13, [some (.ref b), some (.int (zJ i)), some (.ref q), some (.int (zJ 0)), some (.int (zJ (rct w hh x0 cl i 0)))], [], h1) Q from key13 h5 (F5 _) P5 (by rw [rwl, rct, Nat.sub_zero]; exact Xq5) (by omega)
  refine zloop (P := fun k => ∀ h1, (yFr (fun x => h.2.1 ≤ x) h h1 1 (rcw w hh x0 cl i)) → (rB h1 b r c g w hh x0 x1 x2 x3 cl mi sp) → (h1.1 q = some (64, zis ((rwl w hh x0 cl i k).map zJ ++ List.replicate (rcw w hh x0 cl i - rct w hh x0 cl i k) 0))) → (h1.2.1 = h.2.1 + 1) → zwp E 4 183 (13, [some (.ref b), some (.int (zJ i)), some (.ref q), some (.int (zJ k)), some (.int (zJ (rct w hh x0 cl i k)))], [], h1) Q) (n := 2 ^ yln w hh i) fun k hk13 ih13 => ?_
  intro h1 F1 P1 X1 n1
  have hrl := rct_le w hh x0 cl i k
  refine zr_iload_n zi183_13 rfl ?_
  refine zr_iconst (v := zJ 1) zi183_14 rfl ?_
  refine zr_aload_n zi183_15 rfl ?_
  refine zr_iload_n zi183_16 rfl ?_
  refine zr_virtual zi183_17 rfl rfl (P1.1.at0 rfl) rfl rfl ?_
  refine zcall_dep (d := 0) (Nat.le_of_ble_eq_true rfl) (c168 P1 (by omega) (zbk_v ?_))
  refine zr_ishlN zi183_20 (by omega) ?_
  refine zr_icmp_geN zi183_21 rfl (by omega) (by omega) (fun q21 => ?_) (fun q21 => ?_)
  · refine zr_aload_n zi183_47 rfl ?_
    refine zr_areturn zi183_48 rfl ?_
    obtain rfl : k = 2 ^ yln w hh i := by omega
    refine K _ q F1 ev5 ?_ n1
    rw [X1]
    have e0 : rcw w hh x0 cl i - rct w hh x0 cl i (2 ^ yln w hh i) = 0 := Nat.sub_self _
    rw [e0, List.replicate_zero, List.append_nil]
    rfl
  · refine zr_aload_n zi183_24 rfl ?_
    refine zr_iload_n zi183_25 rfl ?_
    refine zr_iload_n zi183_26 rfl ?_
    refine zr_virtual zi183_27 rfl rfl (P1.1.at0 rfl) rfl rfl ?_
    refine zcall_dep (d := 2) (Nat.le_of_ble_eq_true rfl) (c172 P1 (by omega) (by omega) (zbk_v ?_))
    refine zr_if_eqB zi183_30 rfl (fun q30 => ?_) (fun q30 => ?_)
    · refine zr_iincN (z := 1) (L' := [some (.ref _), some (.int (zJ _)), some (.ref _), some (.int (zJ _)), some (.int (zJ _))]) zi183_41 rfl rfl rfl rfl ?_
      refine zr_goto zi183_44 rfl ?_
      have e := ih13 (by omega)
      rw [rct, rwl, if_neg (by rw [q30]; decide), if_neg (by rw [q30]; decide)] at e
      exact e _ F1 P1 X1 n1
    · have hlt := rct_lt (w := w) (hh := hh) (x0 := x0) (cl := cl) (i := i) (n := 2 ^ yln w hh i) (show k < 2 ^ yln w hh i by omega) q30
      have hll : (rwl w hh x0 cl i k).length = rct w hh x0 cl i k := rwl_len _ _ _ _ _ _
      have hlt : rct w hh x0 cl i k < rcw w hh x0 cl i := hlt
      refine zr_aload_n zi183_33 rfl ?_
      refine zr_iload zi183_34 rfl ?_
      refine zr_iincN (z := 1) (L' := [some (.ref _), some (.int (zJ _)), some (.ref _), some (.int (zJ _)), some (.int (zJ _))]) zi183_36 rfl rfl rfl rfl ?_
      refine zr_iload_n zi183_39 rfl ?_
      refine zr_iastoreN zi183_40 X1 (by omega) (by rw [List.length_append, List.length_map, List.length_replicate, rwl_len]; omega) ?_
      refine zw_c (N := h.2.1) X1 (by decide) (by omega) (fun h40 F40 Xq40 N40 d40 => ?_)
      have P40 := P1.fr F40 (by intro x z1 z2; rcases z1 with z | z | z <;> (have := z.2; omega))
      have n40 := congrArg Prod.fst d40
      refine zr_iincN (z := 1) (L' := [some (.ref _), some (.int (zJ _)), some (.ref _), some (.int (zJ _)), some (.int (zJ _))]) zi183_41 rfl rfl rfl rfl ?_
      refine zr_goto zi183_44 rfl ?_
      have e := ih13 (by omega)
      rw [rct, rwl, if_pos q30, if_pos q30] at e
      have hs := rwl_set (l := (rwl w hh x0 cl i k).map zJ) (m := rcw w hh x0 cl i - rct w hh x0 cl i k) (v := zJ k) (by omega)
      rw [List.length_map, rwl_len] at hs
      refine e _ (F1.trans F40) P40 ?_ (by omega)
      rw [Xq40, hs, List.map_append, Nat.sub_sub]
      rfl
def rszF : Nat → Nat → Int32 → Int32
  | 0, _, acc => acc
  | f + 1, n, acc => if n = 0 then acc else rszF f (n / 2) (acc + zJ (n % 2))
def rsz (x : Int32) : Int32 := if 0 < x then rszF 32 x.toNatClampNeg (zJ 0) else zJ 0
theorem rszF_0 (f : Nat) (acc : Int32) : rszF f 0 acc = acc := by cases f <;> simp [rszF]
theorem rszF_s {f n : Nat} {acc : Int32} (h0 : 0 < n) (hf : n < 2 ^ f) : ∃ f', f = f' + 1 ∧ n / 2 < 2 ^ f' ∧ rszF f n acc = rszF f' (n / 2) (acc + zJ (n % 2)) := by
  cases f with
  | zero => exact absurd hf (by simp; omega)
  | succ f =>
    refine ⟨f, rfl, ?_, ?_⟩
    · rw [Nat.pow_succ] at hf
      omega
    · rw [rszF, if_neg (by omega)]
def rrn (x : Int32) : Int32 := if 0 < x then zrnF 10 x.toNatClampNeg (zJ 0) else zJ 0
def rrvF : Nat → Nat → Int32 → Int32
  | 0, _, acc => acc
  | f + 1, n, acc => if n = 0 then acc else rrvF f (n / 10) (zJ 10 * acc + zJ (n % 10))
theorem rrvF_0 (f : Nat) (acc : Int32) : rrvF f 0 acc = acc := by cases f <;> simp [rrvF]
theorem rrvF_s {f n : Nat} {acc : Int32} (h0 : 0 < n) (hf : n < 10 ^ f) : ∃ f', f = f' + 1 ∧ n / 10 < 10 ^ f' ∧ rrvF f n acc = rrvF f' (n / 10) (zJ 10 * acc + zJ (n % 10)) := by
  cases f with
  | zero => exact absurd hf (by simp; omega)
  | succ f =>
    refine ⟨f, rfl, ?_, ?_⟩
    · rw [Nat.pow_succ] at hf
      omega
    · rw [rrvF, if_neg (by omega)]
def rrv (x : Int32) : Int32 := if x < 0 then x else rrvF 10 x.toNatClampNeg (zJ 0)
theorem rle0 {x : Int32} (h : ¬ 0 < x) : x ≤ 0 := Int32.not_lt.mp h
theorem c189n {E : zEnv} {h : zPH} {Q : zOut → zPH → Prop} {n0 : Nat} (hn0 : n0 < 2147483648) (K : Q (.inl (some (.int (rszF 32 n0 (zJ 0))))) h) : zcall E 0 189 [.int (zJ n0)] h Q := by
  show zwp E _ 189 (0, [some (.int (zJ _)), none, none], [], _) Q
  refine zr_iconst (v := zJ 0) zi189_0 rfl ?_
  refine zr_istore_n (L' := [some (.int (zJ _)), some (.int (zJ _)), none]) zi189_1 rfl rfl ?_
  refine zr_iload_n zi189_2 rfl ?_
  refine zr_istore_n (L' := [some (.int (zJ _)), some (.int (zJ _)), some (.int (zJ _))]) zi189_3 rfl rfl ?_
  suffices key4 : ∀ k, ∀ f acc, (k < 2 ^ f) → (k < 2147483648) → (rszF f k acc = rszF 32 n0 (zJ 0)) → zwp E 0 189 (4, [some (.int (zJ n0)), some (.int acc), some (.int (zJ k))], [], h) Q from key4 _ 32 _ (by omega) hn0 rfl
  refine zfall fun k ih4 => ?_
  intro f acc hf hn hE
  refine zr_iload_n zi189_4 rfl ?_
  refine zr_if_leN zi189_5 rfl (by omega) (fun q5 => ?_) (fun q5 => ?_)
  · rw [q5, rszF_0] at hE
    rw [← hE] at K
    refine zr_iload_n zi189_21 rfl ?_
    refine zr_ireturn zi189_22 rfl ?_
    exact K
  · refine zr_iload_n zi189_8 rfl ?_
    refine zr_iload_n zi189_9 rfl ?_
    refine zr_iconst (v := zJ 2) zi189_10 rfl ?_
    refine zr_iremN zi189_11 (by omega) (by omega) (by omega) ?_
    refine zr_iadd zi189_12 ?_
    refine zr_istore_n (L' := [some (.int (zJ _)), some (.int _), some (.int (zJ _))]) zi189_13 rfl rfl ?_
    refine zr_iload_n zi189_14 rfl ?_
    refine zr_iconst (v := zJ 2) zi189_15 rfl ?_
    refine zr_idivN zi189_16 (by omega) (by omega) (by omega) ?_
    refine zr_istore_n (L' := [some (.int (zJ _)), some (.int _), some (.int (zJ _))]) zi189_17 rfl rfl ?_
    refine zr_goto zi189_18 rfl ?_
    obtain ⟨f1, e1, hn1, eq1⟩ := rszF_s (acc := acc) q5 hf
    exact ih4 (k / 2) (by omega) f1 _ hn1 (by omega) (by rw [← eq1]; exact hE)
theorem c170n {E : zEnv} {h : zPH} {Q : zOut → zPH → Prop} {n0 : Nat} (hn0 : n0 < 2147483648) (K : Q (.inl (some (.int (zrnF 10 n0 (zJ 0))))) h) : zcall E 0 170 [.int (zJ n0)] h Q := by
  show zwp E _ 170 (0, [some (.int (zJ _)), none, none], [], _) Q
  refine zr_iconst (v := zJ 0) zi170_0 rfl ?_
  refine zr_istore_n (L' := [some (.int (zJ _)), some (.int (zJ _)), none]) zi170_1 rfl rfl ?_
  refine zr_iload_n zi170_2 rfl ?_
  refine zr_istore_n (L' := [some (.int (zJ _)), some (.int (zJ _)), some (.int (zJ _))]) zi170_3 rfl rfl ?_
  suffices key4 : ∀ k, ∀ f acc, (k < 10 ^ f) → (k < 2147483648) → (zrnF f k acc = zrnF 10 n0 (zJ 0)) → zwp E 0 170 (4, [some (.int (zJ n0)), some (.int acc), some (.int (zJ k))], [], h) Q from key4 _ 10 _ (by omega) hn0 rfl
  refine zfall fun k ih4 => ?_
  intro f acc hf hn hE
  refine zr_iload_n zi170_4 rfl ?_
  refine zr_if_leN zi170_5 rfl (by omega) (fun q5 => ?_) (fun q5 => ?_)
  · rw [q5, zrnF_0] at hE
    rw [← hE] at K
    refine zr_iload_n zi170_19 rfl ?_
    refine zr_ireturn zi170_20 rfl ?_
    exact K
  · refine zr_iinc (z := zJ 1) (L' := [some (.int (zJ _)), some (.int _), some (.int (zJ _))]) zi170_8 rfl rfl rfl rfl ?_
    refine zr_iload_n zi170_11 rfl ?_
    refine zr_bipush (v := zJ 10) zi170_12 rfl ?_
    refine zr_idivN zi170_14 (by omega) (by omega) (by omega) ?_
    refine zr_istore_n (L' := [some (.int (zJ _)), some (.int _), some (.int (zJ _))]) zi170_15 rfl rfl ?_
    refine zr_goto zi170_16 rfl ?_
    obtain ⟨f1, e1, hn1, eq1⟩ := zrnF_s (acc := acc) q5 hf
    exact ih4 (k / 10) (by omega) f1 _ hn1 (by omega) (by rw [← eq1]; exact hE)
theorem c189z {E : zEnv} {h : zPH} {Q : zOut → zPH → Prop} {x : Int32} (hx : ¬ 0 < x) (K : Q (.inl (some (.int (zJ 0)))) h) : zcall E 0 189 [.int x] h Q := by
  show zwp E _ 189 (0, [some (.int _), none, none], [], _) Q
  refine zr_iconst (v := zJ 0) zi189_0 rfl ?_
  refine zr_istore_n (L' := [some (.int _), some (.int (zJ _)), none]) zi189_1 rfl rfl ?_
  refine zr_iload_n zi189_2 rfl ?_
  refine zr_istore_n (L' := [some (.int _), some (.int (zJ _)), some (.int _)]) zi189_3 rfl rfl ?_
  refine zr_iload_n zi189_4 rfl ?_
  refine zr_if_le zi189_5 rfl (fun q5 => ?_) (fun q5 => absurd q5 (fun z => z (rle0 hx)))
  refine zr_iload_n zi189_21 rfl ?_
  refine zr_ireturn zi189_22 rfl ?_
  exact K
theorem c189 {E : zEnv} {h : zPH} {Q : zOut → zPH → Prop} {x : Int32} (K : Q (.inl (some (.int (rsz x)))) h) : zcall E 0 189 [.int x] h Q := by
  by_cases hx : 0 < x
  · obtain ⟨n, hn, rfl⟩ := zJ_of (zgt_nn hx)
    rw [rsz, if_pos hx, zJ_c hn] at K
    exact c189n hn K
  · rw [rsz, if_neg hx] at K
    exact c189z hx K
theorem c170z {E : zEnv} {h : zPH} {Q : zOut → zPH → Prop} {x : Int32} (hx : ¬ 0 < x) (K : Q (.inl (some (.int (zJ 0)))) h) : zcall E 0 170 [.int x] h Q := by
  show zwp E _ 170 (0, [some (.int _), none, none], [], _) Q
  refine zr_iconst (v := zJ 0) zi170_0 rfl ?_
  refine zr_istore_n (L' := [some (.int _), some (.int (zJ _)), none]) zi170_1 rfl rfl ?_
  refine zr_iload_n zi170_2 rfl ?_
  refine zr_istore_n (L' := [some (.int _), some (.int (zJ _)), some (.int _)]) zi170_3 rfl rfl ?_
  refine zr_iload_n zi170_4 rfl ?_
  refine zr_if_le zi170_5 rfl (fun q5 => ?_) (fun q5 => absurd q5 (fun z => z (rle0 hx)))
  refine zr_iload_n zi170_19 rfl ?_
  refine zr_ireturn zi170_20 rfl ?_
  exact K
theorem c170 {E : zEnv} {h : zPH} {Q : zOut → zPH → Prop} {x : Int32} (K : Q (.inl (some (.int (rrn x)))) h) : zcall E 0 170 [.int x] h Q := by
  by_cases hx : 0 < x
  · obtain ⟨n, hn, rfl⟩ := zJ_of (zgt_nn hx)
    rw [rrn, if_pos hx, zJ_c hn] at K
    exact c170n hn K
  · rw [rrn, if_neg hx] at K
    exact c170z hx K
