/-! ===== the reference: sweeps, turns ===== -/
theorem c187 {E : zEnv} {h : zPH} {Q : zOut → zPH → Prop} {b r c g w hh : Nat} {x0 x1 x2 x3 cl : List Int32} {mi sp : Int32} (P : rB h b r c g w hh x0 x1 x2 x3 cl mi sp) {eg ng : Nat} {mc : Int32} (Lg : yBk h g [(8, [.ref eg, .int (zJ ng), .int mc])]) (hg : g + 1 ≤ r ∨ r + 5 ≤ g) (K : ∀ h1, yFr (yIv r 5) h h1 0 0 → rB h1 b r c g w hh (rsS w hh cl ng (x0, x1, x2, x3)).1.1 (rsS w hh cl ng (x0, x1, x2, x3)).1.2.1 (rsS w hh cl ng (x0, x1, x2, x3)).1.2.2.1 (rsS w hh cl ng (x0, x1, x2, x3)).1.2.2.2 cl mi sp → Q (.inl (some (.int (rsS w hh cl ng (x0, x1, x2, x3)).2))) h1) : zcall E 4 187 [.ref b] h Q := by
  obtain ⟨⟨gw1, gw2, gh1, gh2⟩, ⟨l0, l1, l2, l3, lcl⟩, d1, d2, d3⟩ := P.2.2.2
  have hwh := zwh_b (w := w) (hh := hh) ⟨gw1, gw2, gh1, gh2⟩
  show zwp E _ 187 (0, [some (.ref _), none, none, none, none, none, none, none], [], _) Q
  refine zr_iconst (v := zJ 0) zi187_0 rfl ?_
  refine zr_istore_n (L' := [some (.ref _), some (.int (zJ _)), none, none, none, none, none, none]) zi187_1 rfl rfl ?_
  refine zr_iconst (v := zJ 1) zi187_2 rfl ?_
  refine zr_istore_n (L' := [some (.ref _), some (.int (zJ _)), some (.int (zJ _)), none, none, none, none, none]) zi187_3 rfl rfl ?_
  suffices key4 : ∀ k, ∀ h1 (X : rX4) (a : Int32) (o f : Nat) y3 x4 x5 x6 x7, yFr (yIv r 5) h h1 0 0 → rB h1 b r c g w hh X.1 X.2.1 X.2.2.1 X.2.2.2 cl mi sp → rcc X.1 0 (w * hh) = k → k < f → rsR w hh cl ng f o X a = rsS w hh cl ng (x0, x1, x2, x3) → zwp E 4 187 (4, [some (.ref b), some (.int a), some (.int (zJ o)), y3, x4, x5, x6, x7], [], h1) Q from key4 _ h (x0, x1, x2, x3) (zJ 0) 1 (w * hh + 1) _ _ _ _ _ (yFr.refl _ _) P rfl (by have := rcc_le x0 0 (w * hh); show rcc x0 0 (w * hh) < _; omega) rfl
  refine zfall fun k ih4 => ?_
  intro h1 X a o f y3 x4 x5 x6 x7 F1 P1 hU hf hE
  have lX0 : X.1.length = w * hh := P1.2.2.2.2.1.1
  have hUl := rcc_le X.1 0 (w * hh)
  have Lg_1 := F1.bk Lg (fun x z1 z2 z3 => by have z2 : x < g + 1 := z2; have := z3.1; have := z3.2; omega)
  refine zr_iconst (v := zJ 0) zi187_4 rfl ?_
  refine zr_istore_n (L' := [some (.ref _), some (.int _), some (.int (zJ _)), some (.int (zJ _)), _, _, _, _]) zi187_5 rfl rfl ?_
  refine zr_iconst (v := zJ 0) zi187_6 rfl ?_
  refine zr_istore (L' := [some (.ref _), some (.int _), some (.int (zJ _)), some (.int (zJ _)), some (.int (zJ _)), _, _, _]) zi187_7 rfl rfl ?_
  suffices key9 : ∀ h2 Y m y5 y6 y7, (yFr (yIv r 5) h h2 0 0) → (rB h2 b r c g w hh Y.1 Y.2.1 Y.2.2.1 Y.2.2.2 cl mi sp) → (rsL w hh cl (zJ o) ng (w + hh) 0 X (zJ 0) = rsL w hh cl (zJ o) ng (w + hh - 0) 0 Y m) → zwp E 4 187 (9, [some (.ref b), some (.int a), some (.int (zJ o)), some (.int m), some (.int (zJ 0)), y5, y6, y7], [], h2) Q from key9 _ X _ _ _ _ F1 P1 rfl
  refine zloop (P := fun i => ∀ h2 Y m y5 y6 y7, (yFr (yIv r 5) h h2 0 0) → (rB h2 b r c g w hh Y.1 Y.2.1 Y.2.2.1 Y.2.2.2 cl mi sp) → (rsL w hh cl (zJ o) ng (w + hh) 0 X (zJ 0) = rsL w hh cl (zJ o) ng (w + hh - i) i Y m) → zwp E 4 187 (9, [some (.ref b), some (.int a), some (.int (zJ o)), some (.int m), some (.int (zJ i)), y5, y6, y7], [], h2) Q) (n := w + hh) fun i hk9 ih9 => ?_
  intro h2 Y m y5 y6 y7 F2 P2 hI
  have Lg_2 := F2.bk Lg (fun x z1 z2 z3 => by have z2 : x < g + 1 := z2; have := z3.1; have := z3.2; omega)
  have lY : Y.1.length = w * hh := P2.2.2.2.2.1.1
  have hrw := rcw_le Y.1 cl i ⟨gw1, gw2, gh1, gh2⟩
  have hln := yln_b i ⟨gw1, gw2, gh1, gh2⟩
  refine zr_iload zi187_9 rfl ?_
  refine zr_aload_n zi187_11 rfl ?_
  refine zr_virtual zi187_12 rfl rfl (P2.1.at0 rfl) rfl rfl ?_
  refine zcall_dep (d := 0) (Nat.le_of_ble_eq_true rfl) (c167 P2 (zbk_v ?_))
  refine zr_icmp_geN zi187_15 rfl (by omega) (by omega) (fun q15 => ?_) (fun q15 => ?_)
  · obtain rfl : i = w + hh := by omega
    rw [rsL_0] at hI
    refine zr_iload_n zi187_129 rfl ?_
    refine zr_iload_n zi187_130 rfl ?_
    refine zr_iadd zi187_131 ?_
    refine zr_istore_n (L' := [some (.ref _), some (.int _), some (.int (zJ _)), some (.int _), some (.int (zJ _)), _, _, _]) zi187_132 rfl rfl ?_
    refine zr_iload_n zi187_133 rfl ?_
    refine zr_if_ne zi187_134 rfl (fun q134 => ?_) (fun q134 => ?_)
    · refine zr_iincN (z := 1) (L' := [some (.ref _), some (.int _), some (.int (zJ _)), some (.int _), some (.int (zJ _)), _, _, _]) zi187_139 rfl rfl rfl rfl ?_
      refine zr_goto zi187_142 rfl ?_
      obtain ⟨f, rfl⟩ : ∃ f0, f = f0 + 1 := ⟨f - 1, by omega⟩
      have hdc := (rsL_dec (cl := cl) (ng := ng) (o := zJ o) ⟨gw1, gw2, gh1, gh2⟩ (w + hh) 0 X (zJ 0) (by omega) lX0).2
      rw [hI] at hdc
      have hdc : rcc Y.1 0 (w * hh) < rcc X.1 0 (w * hh) := hdc q134
      exact ih4 _ (by rw [← hU]; exact hdc) _ Y _ (o + 1) f _ _ _ _ _ F2 P2 rfl (by omega) (by rw [← hE, rsR_n hI q134])
    · refine zr_iload_n zi187_137 rfl ?_
      refine zr_ireturn zi187_138 rfl ?_
      obtain ⟨f, rfl⟩ : ∃ f0, f = f0 + 1 := ⟨f - 1, by omega⟩
      rw [rsR_e hI q134] at hE
      rw [← hE] at K
      exact K _ F2 P2
  · refine zr_aload_n zi187_18 rfl ?_
    refine zr_iload zi187_19 rfl ?_
    refine zr_virtual zi187_21 rfl rfl (P2.1.at0 rfl) rfl rfl ?_
    refine zcall_dep (d := 3) (Nat.le_of_ble_eq_true rfl) (c171 P2 (by omega) (zbk_v ?_))
    refine zr_if_neN zi187_24 rfl (by omega) (fun q24 => ?_) (fun q24 => ?_)
    · refine zr_aload_n zi187_31 rfl ?_
      refine zr_iload zi187_32 rfl ?_
      refine zr_iconst (v := zB true) zi187_34 rfl ?_
      refine zr_virtual zi187_35 rfl rfl (P2.1.at0 rfl) rfl rfl ?_
      refine zcall_dep (d := 3) (Nat.le_of_ble_eq_true rfl) (c188 P2 (by omega) (zbk_v ?_))
      refine zr_istore (L' := [some (.ref _), some (.int _), some (.int (zJ _)), some (.int _), some (.int (zJ _)), some (.int _), _, _]) zi187_38 rfl rfl ?_
      refine zr_aload_n zi187_40 rfl ?_
      refine zr_iload zi187_41 rfl ?_
      refine zr_iconst (v := zB false) zi187_43 rfl ?_
      refine zr_virtual zi187_44 rfl rfl (P2.1.at0 rfl) rfl rfl ?_
      refine zcall_dep (d := 3) (Nat.le_of_ble_eq_true rfl) (c188 P2 (by omega) (zbk_v ?_))
      refine zr_istore (L' := [some (.ref _), some (.int _), some (.int (zJ _)), some (.int _), some (.int (zJ _)), some (.int _), some (.int _), _]) zi187_47 rfl rfl ?_
      refine zr_iconst (v := zJ 0) zi187_49 rfl ?_
      refine zr_istore (L' := [some (.ref _), some (.int _), some (.int (zJ _)), some (.int _), some (.int (zJ _)), some (.int _), some (.int _), some (.int (zJ _))]) zi187_50 rfl rfl ?_
      suffices key52 : ∀ h3, (yFr (yIv r 5) h h3 0 0) → (rB h3 b r c g w hh (rpl w hh i (rfo w hh Y.1 cl i true) (rfo w hh Y.1 cl i false) (zJ o) ng Y 0).1 (rpl w hh i (rfo w hh Y.1 cl i true) (rfo w hh Y.1 cl i false) (zJ o) ng Y 0).2.1 (rpl w hh i (rfo w hh Y.1 cl i true) (rfo w hh Y.1 cl i false) (zJ o) ng Y 0).2.2.1 (rpl w hh i (rfo w hh Y.1 cl i true) (rfo w hh Y.1 cl i false) (zJ o) ng Y 0).2.2.2 cl mi sp) → zwp E 4 187 (52, [some (.ref b), some (.int a), some (.int (zJ o)), some (.int m), some (.int (zJ i)), some (.int (rfo w hh Y.1 cl i true)), some (.int (rfo w hh Y.1 cl i false)), some (.int (zJ 0))], [], h3) Q from key52 _ F2 P2
      refine zloop (P := fun u => ∀ h3, (yFr (yIv r 5) h h3 0 0) → (rB h3 b r c g w hh (rpl w hh i (rfo w hh Y.1 cl i true) (rfo w hh Y.1 cl i false) (zJ o) ng Y u).1 (rpl w hh i (rfo w hh Y.1 cl i true) (rfo w hh Y.1 cl i false) (zJ o) ng Y u).2.1 (rpl w hh i (rfo w hh Y.1 cl i true) (rfo w hh Y.1 cl i false) (zJ o) ng Y u).2.2.1 (rpl w hh i (rfo w hh Y.1 cl i true) (rfo w hh Y.1 cl i false) (zJ o) ng Y u).2.2.2 cl mi sp) → zwp E 4 187 (52, [some (.ref b), some (.int a), some (.int (zJ o)), some (.int m), some (.int (zJ i)), some (.int (rfo w hh Y.1 cl i true)), some (.int (rfo w hh Y.1 cl i false)), some (.int (zJ u))], [], h3) Q) (n := yln w hh i) fun u hk52 ih52 => ?_
      intro h3 F3 P3
      have Lg_3 := F3.bk Lg (fun x z1 z2 z3 => by have z2 : x < g + 1 := z2; have := z3.1; have := z3.2; omega)
      refine zr_iload zi187_52 rfl ?_
      refine zr_aload_n zi187_54 rfl ?_
      refine zr_iload zi187_55 rfl ?_
      refine zr_virtual zi187_57 rfl rfl (P3.1.at0 rfl) rfl rfl ?_
      refine zcall_dep (d := 0) (Nat.le_of_ble_eq_true rfl) (c168 P3 (by omega) (zbk_v ?_))
      refine zr_icmp_geN zi187_60 rfl (by omega) (by omega) (fun q60 => ?_) (fun q60 => ?_)
      · obtain rfl : u = yln w hh i := by omega
        refine zr_iload_n zi187_112 rfl ?_
        refine zr_iload zi187_113 rfl ?_
        refine zr_iload zi187_115 rfl ?_
        refine zr_ior zi187_117 ?_
        refine zr_static zi187_118 rfl rfl rfl rfl ?_
        refine zcall_dep (d := 0) (Nat.le_of_ble_eq_true rfl) (c189 (zbk_v ?_))
        refine zr_iadd zi187_121 ?_
        refine zr_istore_n (L' := [some (.ref _), some (.int _), some (.int (zJ _)), some (.int _), some (.int (zJ _)), some (.int _), some (.int _), some (.int (zJ _))]) zi187_122 rfl rfl ?_
        refine zr_iincN (z := 1) (L' := [some (.ref _), some (.int _), some (.int (zJ _)), some (.int _), some (.int (zJ _)), some (.int _), some (.int _), some (.int (zJ _))]) zi187_123 rfl rfl rfl rfl ?_
        refine zr_goto zi187_126 rfl ?_
        exact ih9 (by omega) _ _ _ _ _ _ F3 P3 (by rw [hI, rsL_s q15 q24])
      · have hc := ycl_b (show i < w + hh from q15) q60
        refine zr_iload zi187_63 rfl ?_
        refine zr_iload zi187_65 rfl ?_
        refine zr_ior zi187_67 ?_
        refine zr_iload zi187_68 rfl ?_
        refine zr_static zi187_70 rfl rfl rfl rfl ?_
        refine zcall_dep (d := 0) (Nat.le_of_ble_eq_true rfl) (c175 (by omega) (zbk_v ?_))
        refine zr_if_eqB zi187_73 rfl (fun q73 => ?_) (fun q73 => ?_)
        · refine zr_iincN (z := 1) (L' := [some (.ref _), some (.int _), some (.int (zJ _)), some (.int _), some (.int (zJ _)), some (.int _), some (.int _), some (.int (zJ _))]) zi187_106 rfl rfl rfl rfl ?_
          refine zr_goto zi187_109 rfl ?_
          have en := ih52 (by omega) _ F3
          rw [rpl] at en
          first | (rw [if_pos q73, if_pos q92] at en) | (rw [if_pos q73, if_neg (by rw [q92]; decide)] at en) | (rw [if_neg (by rw [q73]; decide)] at en)
          exact en P3
        · refine zr_aload_n zi187_76 rfl ?_
          refine zr_aload_n zi187_77 rfl ?_
          refine zr_iload zi187_78 rfl ?_
          refine zr_iload zi187_80 rfl ?_
          refine zr_virtual zi187_82 rfl rfl (P3.1.at0 rfl) rfl rfl ?_
          refine zcall_dep (d := 0) (Nat.le_of_ble_eq_true rfl) (c173 P3 (by omega) (by omega) (zbk_v ?_))
          refine zr_iload zi187_85 rfl ?_
          refine zr_iload zi187_87 rfl ?_
          refine zr_static zi187_89 rfl rfl rfl rfl ?_
          refine zcall_dep (d := 0) (Nat.le_of_ble_eq_true rfl) (c175 (by omega) (zbk_v ?_))
          refine zr_if_eqB zi187_92 rfl (fun q92 => ?_) (fun q92 => ?_)
          · refine zr_iconst (v := zJ 2) zi187_99 rfl ?_
            refine zr_iload zi187_100 rfl ?_
            refine zr_iload_n zi187_102 rfl ?_
            refine zr_virtual zi187_103 rfl rfl (P3.1.at0 rfl) rfl rfl ?_
            refine zcall_dep (d := 1) (Nat.le_of_ble_eq_true rfl) (c180 P3 Lg_3 hg (by omega) (fun h103 F103 P103 => zbk_0 ?_))
            have Lg_103 := F103.bk Lg_3 (by intro x z1 z2 z3; have z2 : x < _ + 1 := z2; have := z3.1; have := z3.2; omega)
            refine zr_iincN (z := 1) (L' := [some (.ref _), some (.int _), some (.int (zJ _)), some (.int _), some (.int (zJ _)), some (.int _), some (.int _), some (.int (zJ _))]) zi187_106 rfl rfl rfl rfl ?_
            refine zr_goto zi187_109 rfl ?_
            have en := ih52 (by omega) _ (F3.trans F103)
            rw [rpl] at en
            first | (rw [if_pos q73, if_pos q92] at en) | (rw [if_pos q73, if_neg (by rw [q92]; decide)] at en) | (rw [if_neg (by rw [q73]; decide)] at en)
            exact en P103
          · refine zr_iconst (v := zJ 1) zi187_95 rfl ?_
            refine zr_goto zi187_96 rfl ?_
            refine zr_iload zi187_100 rfl ?_
            refine zr_iload_n zi187_102 rfl ?_
            refine zr_virtual zi187_103 rfl rfl (P3.1.at0 rfl) rfl rfl ?_
            refine zcall_dep (d := 1) (Nat.le_of_ble_eq_true rfl) (c180 P3 Lg_3 hg (by omega) (fun h103 F103 P103 => zbk_0 ?_))
            have Lg_103 := F103.bk Lg_3 (by intro x z1 z2 z3; have z2 : x < _ + 1 := z2; have := z3.1; have := z3.2; omega)
            refine zr_iincN (z := 1) (L' := [some (.ref _), some (.int _), some (.int (zJ _)), some (.int _), some (.int (zJ _)), some (.int _), some (.int _), some (.int (zJ _))]) zi187_106 rfl rfl rfl rfl ?_
            refine zr_goto zi187_109 rfl ?_
            have en := ih52 (by omega) _ (F3.trans F103)
            rw [rpl] at en
            first | (rw [if_pos q73, if_pos q92] at en) | (rw [if_pos q73, if_neg (by rw [q92]; decide)] at en) | (rw [if_neg (by rw [q73]; decide)] at en)
            exact en P103
    · refine zr_iload_n zi187_27 rfl ?_
      refine zr_iload_n zi187_28 rfl ?_
      refine zr_iadd zi187_29 ?_
      refine zr_ireturn zi187_30 rfl ?_
      obtain ⟨f, rfl⟩ : ∃ f0, f = f0 + 1 := ⟨f - 1, by omega⟩
      rw [rsL_b q15 q24] at hI
      rw [rsR_b hI] at hE
      rw [← hE] at K
      exact K _ F2 P2
def rto (how w hh k : Nat) : Nat := if how = 0 then w * (hh - 1 - k / w) + w - 1 - k % w else if how = 1 then w * (k / w) + w - 1 - k % w else hh * (k % w) + k / w
theorem rto_lt {how w hh k : Nat} (hw : 2 ≤ w) (hk : k < w * hh) : k / w < hh ∧ k % w < w ∧ rto how w hh k < w * hh := by
  have h1 : k / w < hh := Nat.div_lt_of_lt_mul hk
  have h2 : k % w < w := Nat.mod_lt _ (by omega)
  have n1 := Int.natCast_nonneg (k / w)
  have n2 := Int.natCast_nonneg (k % w)
  refine ⟨h1, h2, ?_⟩
  unfold rto
  split
  · have h3 : w * (hh - 1 - k / w) + w = w * (hh - 1 - k / w + 1) := by rw [Nat.mul_add, Nat.mul_one]
    have h4 : w * (hh - 1 - k / w + 1) ≤ w * hh := Nat.mul_le_mul_left w (by omega)
    omega
  · split
    · have h3 : w * (k / w) + w = w * (k / w + 1) := by rw [Nat.mul_add, Nat.mul_one]
      have h4 : w * (k / w + 1) ≤ w * hh := Nat.mul_le_mul_left w (by omega)
      omega
    · have h3 : hh * (k % w) + hh = hh * (k % w + 1) := by rw [Nat.mul_add, Nat.mul_one]
      have h4 : hh * (k % w + 1) ≤ hh * w := Nat.mul_le_mul_left hh (by omega)
      rw [Nat.mul_comm w hh]
      omega
def rTl (how w hh : Nat) (ol cl : List Int32) : Nat → List Int32
  | 0 => cl
  | k + 1 => (rTl how w hh ol cl k).set (ztn w hh k how) (if zrw hh k how = true then rrv (ol.getD k 0) else ol.getD k 0)
def rTs (how w hh : Nat) (O X : rX4) (k : Nat) : rX4 := (X.1.set (rto how w hh k) (O.1.getD k 0), (X.2.1.set (rto how w hh k) (O.2.1.getD k 0)).set (rto how w hh k) (zrs w hh (O.2.1.getD k 0) how), X.2.2.1.set (rto how w hh k) (O.2.2.1.getD k 0), X.2.2.2.set (rto how w hh k) (O.2.2.2.getD k 0))
def rTk (how w hh : Nat) (O X : rX4) : Nat → rX4
  | 0 => X
  | k + 1 => rTs how w hh O (rTk how w hh O X k) k
theorem rTl_len (how w hh : Nat) (ol cl : List Int32) (k : Nat) : (rTl how w hh ol cl k).length = cl.length := by
  induction k with
  | zero => rfl
  | succ k ih => rw [rTl, List.length_set, ih]
theorem c197_0 {E : zEnv} {h : zPH} {Q : zOut → zPH → Prop} (S : ySs E h) {b r c g w hh : Nat} {x0 x1 x2 x3 cl : List Int32} {mi sp : Int32} (P : rB h b r c g w hh x0 x1 x2 x3 cl mi sp) (K : ∀ h1, yFr (fun x => h.2.1 ≤ x ∨ rP b r c x) h h1 13 (7 + (3 + (w + hh) + (4 + 4 * (w * hh))) + (4 + 4 * (w * hh))) → h1.2.1 = h.2.1 + 13 → rB h1 b r c g w hh (rTk 0 w hh (x0, x1, x2, x3) (x0, x1, x2, x3) (w * hh)).1 (rTk 0 w hh (x0, x1, x2, x3) (x0, x1, x2, x3) (w * hh)).2.1 (rTk 0 w hh (x0, x1, x2, x3) (x0, x1, x2, x3) (w * hh)).2.2.1 (rTk 0 w hh (x0, x1, x2, x3) (x0, x1, x2, x3) (w * hh)).2.2.2 (rTl 0 w hh cl cl (w + hh)) mi sp → Q (.inl none) h1) : zcall E 5 197 [.ref b, .int (zJ 0)] h Q := by
  obtain ⟨⟨gw1, gw2, gh1, gh2⟩, ⟨l0, l1, l2, l3, lcl⟩, d1, d2, d3⟩ := P.2.2.2
  have hwh := zwh_b (w := w) (hh := hh) ⟨gw1, gw2, gh1, gh2⟩
  have hcm : hh * w = w * hh := Nat.mul_comm hh w
  show zwp E _ 197 (0, [some (.ref _), some (.int (zJ _)), none, none, none, none, none, none], [], _) Q
  refine zr_aload_n zi197_0 rfl ?_
  refine zr_virtual zi197_1 rfl rfl (P.1.at0 rfl) rfl rfl ?_
  refine zcall_dep (d := 4) (Nat.le_of_ble_eq_true rfl) (c198 S P (fun h1 b1 F1 eb1 n1 W1 _ => zbk_v ?_))
  have hPl := P.lt
  have P1 := P.fr F1 (fun x z1 z2 => by rcases z1 with z | z | z <;> (have := z.2; omega))
  have FA : yFr (fun x => h.2.1 ≤ x ∨ rP b r c x) h h1 13 (7 + (3 + (w + hh) + (4 + 4 * (w * hh))) + (4 + 4 * (w * hh))) := F1.mono (fun x _ z => Or.inl z) (Nat.le_refl _) (Nat.le_refl _)
  refine zr_astore_n (L' := [some (.ref _), some (.int (zJ _)), some (.ref _), none, none, none, none, none]) zi197_4 rfl rfl ?_
  refine zr_iload_n zi197_5 rfl ?_
  refine zr_iconst (v := zJ 2) zi197_6 rfl ?_
  refine zr_icmp_neN zi197_7 rfl (by omega) (by omega) (fun q7 => ?_) (fun q7 => absurd q7 (by omega))
  refine zr_iconst (v := zJ 0) zi197_26 rfl ?_
  refine zr_istore_n (L' := [some (.ref _), some (.int (zJ _)), some (.ref _), some (.int (zJ _)), none, none, none, none]) zi197_27 rfl rfl ?_
  suffices key28 : ∀ h1 x4, (yFr (fun x => h.2.1 ≤ x ∨ rP b r c x) h h1 13 (7 + (3 + (w + hh) + (4 + 4 * (w * hh))) + (4 + 4 * (w * hh)))) → (h1.2.1 = h.2.1 + 13) → (rB h1 b r c g w hh x0 x1 x2 x3 (rTl 0 w hh cl cl 0) mi sp) → (rB h1 b1 (b1 + 8) (b1 + 2) (b1 + 1) w hh x0 x1 x2 x3 cl 0 0) → zwp E 5 197 (28, [some (.ref b), some (.int (zJ 0)), some (.ref b1), some (.int (zJ 0)), x4, none, none, none], [], h1) Q from key28 _ _ FA n1 P1 W1
  refine zloop (P := fun k => ∀ h1 x4, (yFr (fun x => h.2.1 ≤ x ∨ rP b r c x) h h1 13 (7 + (3 + (w + hh) + (4 + 4 * (w * hh))) + (4 + 4 * (w * hh)))) → (h1.2.1 = h.2.1 + 13) → (rB h1 b r c g w hh x0 x1 x2 x3 (rTl 0 w hh cl cl k) mi sp) → (rB h1 b1 (b1 + 8) (b1 + 2) (b1 + 1) w hh x0 x1 x2 x3 cl 0 0) → zwp E 5 197 (28, [some (.ref b), some (.int (zJ 0)), some (.ref b1), some (.int (zJ k)), x4, none, none, none], [], h1) Q) (n := w + hh) fun k hk28 ih28 => ?_
  intro h1 x4 F1 n1 P1 W1
  have hTl := rTl_len 0 w hh cl cl k
  have htl := fun (q : k < w + hh) => ztl_J (w := w) (hh := hh) (how := 0) ⟨gw1, gw2, gh1, gh2⟩ q
  refine zr_iload_n zi197_28 rfl ?_
  refine zr_aload_n zi197_29 rfl ?_
  refine zr_virtual zi197_30 rfl rfl (P1.1.at0 rfl) rfl rfl ?_
  refine zcall_dep (d := 0) (Nat.le_of_ble_eq_true rfl) (c167 P1 (zbk_v ?_))
  refine zr_icmp_geN zi197_33 rfl (by omega) (by omega) (fun q33 => ?_) (fun q33 => ?_)
  · refine zr_iconst (v := zJ 0) zi197_100 rfl ?_
    refine zr_istore_n (L' := [some (.ref _), some (.int (zJ _)), some (.ref _), some (.int (zJ _)), _, none, none, none]) zi197_101 rfl rfl ?_
    have hk1 : k = w + hh := by omega
    subst hk1
    suffices key102 : ∀ h1 y4 y5 y6 y7, (yFr (fun x => h.2.1 ≤ x ∨ rP b r c x) h h1 13 (7 + (3 + (w + hh) + (4 + 4 * (w * hh))) + (4 + 4 * (w * hh)))) → (h1.2.1 = h.2.1 + 13) → (rB h1 b r c g w hh (rTk 0 w hh (x0, x1, x2, x3) (x0, x1, x2, x3) 0).1 (rTk 0 w hh (x0, x1, x2, x3) (x0, x1, x2, x3) 0).2.1 (rTk 0 w hh (x0, x1, x2, x3) (x0, x1, x2, x3) 0).2.2.1 (rTk 0 w hh (x0, x1, x2, x3) (x0, x1, x2, x3) 0).2.2.2 (rTl 0 w hh cl cl (w + hh)) mi sp) → (rB h1 b1 (b1 + 8) (b1 + 2) (b1 + 1) w hh x0 x1 x2 x3 cl 0 0) → zwp E 5 197 (102, [some (.ref b), some (.int (zJ 0)), some (.ref b1), some (.int (zJ 0)), y4, y5, y6, y7], [], h1) Q from key102 _ _ _ _ _ F1 n1 P1 W1
    refine zloop (P := fun i => ∀ h1 y4 y5 y6 y7, (yFr (fun x => h.2.1 ≤ x ∨ rP b r c x) h h1 13 (7 + (3 + (w + hh) + (4 + 4 * (w * hh))) + (4 + 4 * (w * hh)))) → (h1.2.1 = h.2.1 + 13) → (rB h1 b r c g w hh (rTk 0 w hh (x0, x1, x2, x3) (x0, x1, x2, x3) i).1 (rTk 0 w hh (x0, x1, x2, x3) (x0, x1, x2, x3) i).2.1 (rTk 0 w hh (x0, x1, x2, x3) (x0, x1, x2, x3) i).2.2.1 (rTk 0 w hh (x0, x1, x2, x3) (x0, x1, x2, x3) i).2.2.2 (rTl 0 w hh cl cl (w + hh)) mi sp) → (rB h1 b1 (b1 + 8) (b1 + 2) (b1 + 1) w hh x0 x1 x2 x3 cl 0 0) → zwp E 5 197 (102, [some (.ref b), some (.int (zJ 0)), some (.ref b1), some (.int (zJ i)), y4, y5, y6, y7], [], h1) Q) (n := w * hh) fun i hk102 ih102 => ?_
    intro h1 y4 y5 y6 y7 F1 n1 P1 W1
    have hL := P1.2.2.2.2.1
    refine zr_iload_n zi197_102 rfl ?_
    refine zr_aload_n zi197_103 rfl ?_
    refine zr_virtual zi197_104 rfl rfl (P1.1.at0 rfl) rfl rfl ?_
    refine zcall_dep (d := 0) (Nat.le_of_ble_eq_true rfl) (c156 P1 (zbk_v ?_))
    refine zr_icmp_geN zi197_107 rfl (by omega) (by omega) (fun q107 => ?_) (fun q107 => ?_)
    · refine zr_return zi197_270 rfl ?_
      obtain rfl : i = w * hh := by omega
      exact K _ F1 n1 P1
    · refine zr_iload_n zi197_110 rfl ?_
      refine zr_aload_n zi197_111 rfl ?_
      refine zr_getfield zi197_112 (W1.1.at0 rfl) rfl ?_
      obtain ⟨hi1, hi2, hi3⟩ := rto_lt (how := 0) gw1 (show i < w * hh by omega)
      have hn0 := Int.natCast_nonneg (i / w)
      have hn1 := Int.natCast_nonneg (i % w)
      have hi4 : w * (hh - 1 - i / w) + w - 1 - i % w < w * hh := hi3
      have hmul := Nat.mul_le_mul (show w ≤ 5 by omega) (show hh - 1 - i / w ≤ 5 by omega)
      have hmul2 := Nat.mul_le_mul (show w ≤ 5 by omega) (show i / w ≤ 5 by omega)
      refine zr_idivN zi197_115 (by omega) (by omega) (by omega) ?_
      refine zr_istore (L' := [some (.ref _), some (.int (zJ _)), some (.ref _), some (.int (zJ _)), some (.int (zJ _)), _, _, _]) zi197_116 rfl rfl ?_
      refine zr_iload_n zi197_118 rfl ?_
      refine zr_aload_n zi197_119 rfl ?_
      refine zr_getfield zi197_120 (W1.1.at0 rfl) rfl ?_
      refine zr_iremN zi197_123 (by omega) (by omega) (by omega) ?_
      refine zr_istore (L' := [some (.ref _), some (.int (zJ _)), some (.ref _), some (.int (zJ _)), some (.int (zJ _)), some (.int (zJ _)), _, _]) zi197_124 rfl rfl ?_
      refine zr_iload_n zi197_126 rfl ?_
      refine zr_if_neN zi197_127 rfl (by omega) (fun q127 => absurd q127 (by omega)) (fun q127 => ?_)
      refine zr_aload_n zi197_130 rfl ?_
      refine zr_getfield zi197_131 (W1.1.at0 rfl) rfl ?_
      refine zr_aload_n zi197_134 rfl ?_
      refine zr_getfield zi197_135 (W1.1.at0 rfl) rfl ?_
      refine zr_iconst (v := zJ 1) zi197_138 rfl ?_
      refine zr_isubN zi197_139 (by omega) ?_
      refine zr_iload zi197_140 rfl ?_
      refine zr_isubN zi197_142 (by omega) ?_
      refine zr_imulN zi197_143 ?_
      refine zr_aload_n zi197_144 rfl ?_
      refine zr_getfield zi197_145 (W1.1.at0 rfl) rfl ?_
      refine zr_iaddN zi197_148 ?_
      refine zr_iconst (v := zJ 1) zi197_149 rfl ?_
      refine zr_isubN zi197_150 (by omega) ?_
      refine zr_iload zi197_151 rfl ?_
      refine zr_isubN zi197_153 (by omega) ?_
      refine zr_goto zi197_154 rfl ?_
      refine zr_istore (L' := [some (.ref _), some (.int (zJ _)), some (.ref _), some (.int (zJ _)), some (.int (zJ _)), some (.int (zJ _)), some (.int (zJ _)), _]) zi197_192 rfl rfl ?_
      refine zr_iconst (v := zJ 0) zi197_194 rfl ?_
      refine zr_istore (L' := [some (.ref _), some (.int (zJ _)), some (.ref _), some (.int (zJ _)), some (.int (zJ _)), some (.int (zJ _)), some (.int (zJ _)), some (.int (zJ _))]) zi197_195 rfl rfl ?_
      refine zr_iload zi197_197 rfl ?_
      refine zr_iconst (v := zJ 4) zi197_199 rfl ?_
      refine zr_icmp_geN zi197_200 rfl (by omega) (by omega) (fun q200 => absurd q200 (by omega)) (fun q200 => ?_)
      refine zr_aload_n zi197_203 rfl ?_
      refine zr_getfield zi197_204 (P1.1.at0 rfl) rfl ?_
      refine zr_iload zi197_207 rfl ?_
      refine zr_aaloadN zi197_209 (P1.rw.at0 rfl) rfl (by omega) rfl ?_
      refine zr_iload zi197_210 rfl ?_
      refine zr_aload_n zi197_212 rfl ?_
      refine zr_getfield zi197_213 (W1.1.at0 rfl) rfl ?_
      refine zr_iload zi197_216 rfl ?_
      refine zr_aaloadN zi197_218 (W1.rw.at0 rfl) rfl (by omega) rfl ?_
      refine zr_iload_n zi197_219 rfl ?_
      refine zr_ialoadN zi197_220 (W1.rw.at 1 rfl) rfl (by omega) (by first | omega | (simp only [List.length_set, zpt_len]; omega)) ?_
      refine zr_iastoreN zi197_221 (P1.rw.at 1 rfl) (by omega) (by first | omega | (simp only [List.length_set]; omega)) ?_
      refine rB.wx0 P1 (by first | omega | (simp only [List.length_set, zpt_len]; omega)) (fun h221a F221a P221a => ?_)
      have W221a := W1.fr F221a (by intro x z1 z2; have := z2.1; have := z2.2; rcases z1 with z | z | z <;> (have := z.1; have := z.2; omega))
      refine zr_iincN (z := 1) (L' := [some (.ref _), some (.int (zJ _)), some (.ref _), some (.int (zJ _)), some (.int (zJ _)), some (.int (zJ _)), some (.int (zJ _)), some (.int (zJ _))]) zi197_222 rfl rfl rfl rfl ?_
      refine zr_goto zi197_225 rfl ?_
      refine zr_iload zi197_197 rfl ?_
      refine zr_iconst (v := zJ 4) zi197_199 rfl ?_
      refine zr_icmp_geN zi197_200 rfl (by omega) (by omega) (fun q200 => absurd q200 (by omega)) (fun q200 => ?_)
      refine zr_aload_n zi197_203 rfl ?_
      refine zr_getfield zi197_204 (P221a.1.at0 rfl) rfl ?_
      refine zr_iload zi197_207 rfl ?_
      refine zr_aaloadN zi197_209 (P221a.rw.at0 rfl) rfl (by omega) rfl ?_
      refine zr_iload zi197_210 rfl ?_
      refine zr_aload_n zi197_212 rfl ?_
      refine zr_getfield zi197_213 (W221a.1.at0 rfl) rfl ?_
      refine zr_iload zi197_216 rfl ?_
      refine zr_aaloadN zi197_218 (W221a.rw.at0 rfl) rfl (by omega) rfl ?_
      refine zr_iload_n zi197_219 rfl ?_
      refine zr_ialoadN zi197_220 (W221a.rw.at 2 rfl) rfl (by omega) (by first | omega | (simp only [List.length_set, zpt_len]; omega)) ?_
      refine zr_iastoreN zi197_221 (P221a.rw.at 2 rfl) (by omega) (by first | omega | (simp only [List.length_set]; omega)) ?_
      refine rB.wx1 P221a (by first | omega | (simp only [List.length_set, zpt_len]; omega)) (fun h221b F221b P221b => ?_)
      have W221b := W221a.fr F221b (by intro x z1 z2; have := z2.1; have := z2.2; rcases z1 with z | z | z <;> (have := z.1; have := z.2; omega))
      refine zr_iincN (z := 1) (L' := [some (.ref _), some (.int (zJ _)), some (.ref _), some (.int (zJ _)), some (.int (zJ _)), some (.int (zJ _)), some (.int (zJ _)), some (.int (zJ _))]) zi197_222 rfl rfl rfl rfl ?_
      refine zr_goto zi197_225 rfl ?_
      refine zr_iload zi197_197 rfl ?_
      refine zr_iconst (v := zJ 4) zi197_199 rfl ?_
      refine zr_icmp_geN zi197_200 rfl (by omega) (by omega) (fun q200 => absurd q200 (by omega)) (fun q200 => ?_)
      refine zr_aload_n zi197_203 rfl ?_
      refine zr_getfield zi197_204 (P221b.1.at0 rfl) rfl ?_
      refine zr_iload zi197_207 rfl ?_
      refine zr_aaloadN zi197_209 (P221b.rw.at0 rfl) rfl (by omega) rfl ?_
      refine zr_iload zi197_210 rfl ?_
      refine zr_aload_n zi197_212 rfl ?_
      refine zr_getfield zi197_213 (W221b.1.at0 rfl) rfl ?_
      refine zr_iload zi197_216 rfl ?_
      refine zr_aaloadN zi197_218 (W221b.rw.at0 rfl) rfl (by omega) rfl ?_
      refine zr_iload_n zi197_219 rfl ?_
      refine zr_ialoadN zi197_220 (W221b.rw.at 3 rfl) rfl (by omega) (by first | omega | (simp only [List.length_set, zpt_len]; omega)) ?_
      refine zr_iastoreN zi197_221 (P221b.rw.at 3 rfl) (by omega) (by first | omega | (simp only [List.length_set]; omega)) ?_
      refine rB.wx2 P221b (by first | omega | (simp only [List.length_set, zpt_len]; omega)) (fun h221c F221c P221c => ?_)
      have W221c := W221b.fr F221c (by intro x z1 z2; have := z2.1; have := z2.2; rcases z1 with z | z | z <;> (have := z.1; have := z.2; omega))
      refine zr_iincN (z := 1) (L' := [some (.ref _), some (.int (zJ _)), some (.ref _), some (.int (zJ _)), some (.int (zJ _)), some (.int (zJ _)), some (.int (zJ _)), some (.int (zJ _))]) zi197_222 rfl rfl rfl rfl ?_
      refine zr_goto zi197_225 rfl ?_
      refine zr_iload zi197_197 rfl ?_
      refine zr_iconst (v := zJ 4) zi197_199 rfl ?_
      refine zr_icmp_geN zi197_200 rfl (by omega) (by omega) (fun q200 => absurd q200 (by omega)) (fun q200 => ?_)
      refine zr_aload_n zi197_203 rfl ?_
      refine zr_getfield zi197_204 (P221c.1.at0 rfl) rfl ?_
      refine zr_iload zi197_207 rfl ?_
      refine zr_aaloadN zi197_209 (P221c.rw.at0 rfl) rfl (by omega) rfl ?_
      refine zr_iload zi197_210 rfl ?_
      refine zr_aload_n zi197_212 rfl ?_
      refine zr_getfield zi197_213 (W221c.1.at0 rfl) rfl ?_
      refine zr_iload zi197_216 rfl ?_
      refine zr_aaloadN zi197_218 (W221c.rw.at0 rfl) rfl (by omega) rfl ?_
      refine zr_iload_n zi197_219 rfl ?_
      refine zr_ialoadN zi197_220 (W221c.rw.at 4 rfl) rfl (by omega) (by first | omega | (simp only [List.length_set, zpt_len]; omega)) ?_
      refine zr_iastoreN zi197_221 (P221c.rw.at 4 rfl) (by omega) (by first | omega | (simp only [List.length_set]; omega)) ?_
      refine rB.wx3 P221c (by first | omega | (simp only [List.length_set, zpt_len]; omega)) (fun h221d F221d P221d => ?_)
      have W221d := W221c.fr F221d (by intro x z1 z2; have := z2.1; have := z2.2; rcases z1 with z | z | z <;> (have := z.1; have := z.2; omega))
      refine zr_iincN (z := 1) (L' := [some (.ref _), some (.int (zJ _)), some (.ref _), some (.int (zJ _)), some (.int (zJ _)), some (.int (zJ _)), some (.int (zJ _)), some (.int (zJ _))]) zi197_222 rfl rfl rfl rfl ?_
      refine zr_goto zi197_225 rfl ?_
      refine zr_iload zi197_197 rfl ?_
      refine zr_iconst (v := zJ 4) zi197_199 rfl ?_
      refine zr_icmp_geN zi197_200 rfl (by omega) (by omega) (fun q200 => ?_) (fun q200 => absurd q200 (by omega))
      refine zr_aload_n zi197_228 rfl ?_
      refine zr_getfield zi197_229 (W221d.1.at0 rfl) rfl ?_
      refine zr_iconst (v := zJ 1) zi197_232 rfl ?_
      refine zr_aaloadN zi197_233 (W221d.rw.at0 rfl) rfl (by omega) rfl ?_
      refine zr_iload_n zi197_234 rfl ?_
      refine zr_ialoadN zi197_235 (W221d.rw.at 2 rfl) rfl (by omega) (by first | omega | (simp only [List.length_set, zpt_len]; omega)) ?_
      refine zr_istore (L' := [some (.ref _), some (.int (zJ _)), some (.ref _), some (.int (zJ _)), some (.int (zJ _)), some (.int (zJ _)), some (.int (zJ _)), some (.int _)]) zi197_236 rfl rfl ?_
      refine zr_aload_n zi197_238 rfl ?_
      refine zr_getfield zi197_239 (P221d.1.at0 rfl) rfl ?_
      refine zr_iconst (v := zJ 1) zi197_242 rfl ?_
      refine zr_aaloadN zi197_243 (P221d.rw.at0 rfl) rfl (by omega) rfl ?_
      refine zr_iload zi197_244 rfl ?_
      refine zr_iload zi197_246 rfl ?_
      refine zr_if_ge zi197_248 rfl (fun q248 => ?_) (fun q248 => ?_)
      · have hrs : zrs w hh (x1.getD i 0) 0 = ztl w hh (x1.getD i 0) 0 := by rw [zrs, if_pos q248]
        refine zr_aload_n zi197_256 rfl ?_
        refine zr_iload zi197_257 rfl ?_
        refine zr_iload_n zi197_259 rfl ?_
        refine zr_static zi197_260 rfl rfl rfl rfl ?_
        refine zcall_dep (d := 0) (Nat.le_of_ble_eq_true rfl) (c199 W221d (by omega) (zbk_v ?_))
        refine zr_iastoreN zi197_263 (P221d.rw.at 2 rfl) (by omega) (by first | omega | (simp only [List.length_set, zpt_len]; omega)) ?_
        refine rB.wx1 P221d (by first | omega | (simp only [List.length_set, zpt_len]; omega)) (fun h263 F263 P263 => ?_)
        have W263 := W221d.fr F263 (by intro x z1 z2; have := z2.1; have := z2.2; rcases z1 with z | z | z <;> (have := z.1; have := z.2; omega))
        refine zr_iincN (z := 1) (L' := [some (.ref _), some (.int (zJ _)), some (.ref _), some (.int (zJ _)), some (.int (zJ _)), some (.int (zJ _)), some (.int (zJ _)), some (.int _)]) zi197_264 rfl rfl rfl rfl ?_
        refine zr_goto zi197_267 rfl ?_
        have FW := ((((F221a.trans F221b).trans F221c).trans F221d).trans F263)
        refine ih102 (by omega) _ _ _ _ _ (F1.trans (FW.mono (fun x _ z => Or.inr (Or.inr (Or.inl z))) (Nat.le_refl _) (Nat.le_refl _))) (by have := FW.2.1; have := FW.2.2.1; omega) ?_ W263
        have ert : rto 0 w hh i = w * (hh - 1 - i / w) + w - 1 - i % w := rfl
        rw [rTk, rTs, ert]
        dsimp only
        rw [hrs]
        exact P263
      · have hrs : zrs w hh (x1.getD i 0) 0 = x1.getD i 0 := by rw [zrs, if_neg q248]
        refine zr_iload zi197_251 rfl ?_
        refine zr_goto zi197_253 rfl ?_
        refine zr_iastoreN zi197_263 (P221d.rw.at 2 rfl) (by omega) (by first | omega | (simp only [List.length_set, zpt_len]; omega)) ?_
        refine rB.wx1 P221d (by first | omega | (simp only [List.length_set, zpt_len]; omega)) (fun h263 F263 P263 => ?_)
        have W263 := W221d.fr F263 (by intro x z1 z2; have := z2.1; have := z2.2; rcases z1 with z | z | z <;> (have := z.1; have := z.2; omega))
        refine zr_iincN (z := 1) (L' := [some (.ref _), some (.int (zJ _)), some (.ref _), some (.int (zJ _)), some (.int (zJ _)), some (.int (zJ _)), some (.int (zJ _)), some (.int _)]) zi197_264 rfl rfl rfl rfl ?_
        refine zr_goto zi197_267 rfl ?_
        have FW := ((((F221a.trans F221b).trans F221c).trans F221d).trans F263)
        refine ih102 (by omega) _ _ _ _ _ (F1.trans (FW.mono (fun x _ z => Or.inr (Or.inr (Or.inl z))) (Nat.le_refl _) (Nat.le_refl _))) (by have := FW.2.1; have := FW.2.2.1; omega) ?_ W263
        have ert : rto 0 w hh i = w * (hh - 1 - i / w) + w - 1 - i % w := rfl
        rw [rTk, rTs, ert]
        dsimp only
        rw [hrs]
        exact P263
  · refine zr_iload_n zi197_36 rfl ?_
    refine zr_aload_n zi197_37 rfl ?_
    refine zr_getfield zi197_38 (W1.1.at0 rfl) rfl ?_
    refine zr_icmp_geN zi197_41 rfl (by omega) (by omega) (fun q41 => ?_) (fun q41 => ?_)
    · refine zr_iconst (v := zJ 0) zi197_48 rfl ?_
      refine zr_istore (L' := [some (.ref _), some (.int (zJ _)), some (.ref _), some (.int (zJ _)), some (.int (zJ _)), none, none, none]) zi197_49 rfl rfl ?_
      refine zr_aload_n zi197_51 rfl ?_
      refine zr_getfield zi197_52 (P1.1.at0 rfl) rfl ?_
      refine zr_aload_n zi197_55 rfl ?_
      refine zr_iload_n zi197_56 rfl ?_
      refine zr_iload_n zi197_57 rfl ?_
      refine zr_static zi197_58 rfl rfl rfl rfl ?_
      refine zcall_dep (d := 0) (Nat.le_of_ble_eq_true rfl) (c199 W1 (by omega) (zbk_v ?_))
      rw [(htl (by omega)).1]
      have htl2 := (htl (by omega)).2
      refine zr_iload_n zi197_61 rfl ?_
      refine zr_if_eqN zi197_62 rfl (by omega) (fun q62 => ?_) (fun q62 => absurd q62 (by omega))
      have hz : zrw hh k 0 = true := rfl
      refine zr_aload_n zi197_75 rfl ?_
      refine zr_getfield zi197_76 (W1.1.at0 rfl) rfl ?_
      refine zr_iload_n zi197_79 rfl ?_
      refine zr_ialoadN zi197_80 (W1.ca.at0 rfl) rfl (by omega) (by first | omega | (simp only [List.length_set, zpt_len]; omega)) ?_
      refine zr_static zi197_81 rfl rfl rfl rfl ?_
      refine zcall_dep (d := 0) (Nat.le_of_ble_eq_true rfl) (c200 (zbk_v ?_))
      refine zr_goto zi197_84 rfl ?_
      refine zr_iastoreN zi197_93 (P1.ca.at0 rfl) (by omega) (by first | omega | (simp only [List.length_set, rTl_len]; omega)) ?_
      refine rB.wca P1 (by first | omega | (simp only [List.length_set, zpt_len]; omega)) (fun h93 F93 P93 => ?_)
      have W_93 := W1.fr F93 (by intro x z1 z2; have := z2.1; have := z2.2; rcases z1 with z | z | z <;> (have := z.1; have := z.2; omega))
      refine zr_iincN (z := 1) (L' := [some (.ref _), some (.int (zJ _)), some (.ref _), some (.int (zJ _)), some (.int (zJ _)), none, none, none]) zi197_94 rfl rfl rfl rfl ?_
      refine zr_goto zi197_97 rfl ?_
      refine ih28 (by omega) _ _ (F1.trans (F93.mono (fun x _ z => Or.inr (Or.inr (Or.inr z))) (Nat.le_refl _) (Nat.le_refl _))) (by have := F93.2.1; have := F93.2.2.1; omega) ?_ W_93
      rw [rTl]
      first | (rw [if_pos hz]; exact P93) | (rw [if_neg hz]; exact P93)
    · refine zr_iconst (v := zJ 1) zi197_44 rfl ?_
      refine zr_goto zi197_45 rfl ?_
      refine zr_istore (L' := [some (.ref _), some (.int (zJ _)), some (.ref _), some (.int (zJ _)), some (.int (zJ _)), none, none, none]) zi197_49 rfl rfl ?_
      refine zr_aload_n zi197_51 rfl ?_
      refine zr_getfield zi197_52 (P1.1.at0 rfl) rfl ?_
      refine zr_aload_n zi197_55 rfl ?_
      refine zr_iload_n zi197_56 rfl ?_
      refine zr_iload_n zi197_57 rfl ?_
      refine zr_static zi197_58 rfl rfl rfl rfl ?_
      refine zcall_dep (d := 0) (Nat.le_of_ble_eq_true rfl) (c199 W1 (by omega) (zbk_v ?_))
      rw [(htl (by omega)).1]
      have htl2 := (htl (by omega)).2
      refine zr_iload_n zi197_61 rfl ?_
      refine zr_if_eqN zi197_62 rfl (by omega) (fun q62 => ?_) (fun q62 => absurd q62 (by omega))
      have hz : zrw hh k 0 = true := rfl
      refine zr_aload_n zi197_75 rfl ?_
      refine zr_getfield zi197_76 (W1.1.at0 rfl) rfl ?_
      refine zr_iload_n zi197_79 rfl ?_
      refine zr_ialoadN zi197_80 (W1.ca.at0 rfl) rfl (by omega) (by first | omega | (simp only [List.length_set, zpt_len]; omega)) ?_
      refine zr_static zi197_81 rfl rfl rfl rfl ?_
      refine zcall_dep (d := 0) (Nat.le_of_ble_eq_true rfl) (c200 (zbk_v ?_))
      refine zr_goto zi197_84 rfl ?_
      refine zr_iastoreN zi197_93 (P1.ca.at0 rfl) (by omega) (by first | omega | (simp only [List.length_set, rTl_len]; omega)) ?_
      refine rB.wca P1 (by first | omega | (simp only [List.length_set, zpt_len]; omega)) (fun h93 F93 P93 => ?_)
      have W_93 := W1.fr F93 (by intro x z1 z2; have := z2.1; have := z2.2; rcases z1 with z | z | z <;> (have := z.1; have := z.2; omega))
      refine zr_iincN (z := 1) (L' := [some (.ref _), some (.int (zJ _)), some (.ref _), some (.int (zJ _)), some (.int (zJ _)), none, none, none]) zi197_94 rfl rfl rfl rfl ?_
      refine zr_goto zi197_97 rfl ?_
      refine ih28 (by omega) _ _ (F1.trans (F93.mono (fun x _ z => Or.inr (Or.inr (Or.inr z))) (Nat.le_refl _) (Nat.le_refl _))) (by have := F93.2.1; have := F93.2.2.1; omega) ?_ W_93
      rw [rTl]
      first | (rw [if_pos hz]; exact P93) | (rw [if_neg hz]; exact P93)
theorem c197_1 {E : zEnv} {h : zPH} {Q : zOut → zPH → Prop} (S : ySs E h) {b r c g w hh : Nat} {x0 x1 x2 x3 cl : List Int32} {mi sp : Int32} (P : rB h b r c g w hh x0 x1 x2 x3 cl mi sp) (K : ∀ h1, yFr (fun x => h.2.1 ≤ x ∨ rP b r c x) h h1 13 (7 + (3 + (w + hh) + (4 + 4 * (w * hh))) + (4 + 4 * (w * hh))) → h1.2.1 = h.2.1 + 13 → rB h1 b r c g w hh (rTk 1 w hh (x0, x1, x2, x3) (x0, x1, x2, x3) (w * hh)).1 (rTk 1 w hh (x0, x1, x2, x3) (x0, x1, x2, x3) (w * hh)).2.1 (rTk 1 w hh (x0, x1, x2, x3) (x0, x1, x2, x3) (w * hh)).2.2.1 (rTk 1 w hh (x0, x1, x2, x3) (x0, x1, x2, x3) (w * hh)).2.2.2 (rTl 1 w hh cl cl (w + hh)) mi sp → Q (.inl none) h1) : zcall E 5 197 [.ref b, .int (zJ 1)] h Q := by
  obtain ⟨⟨gw1, gw2, gh1, gh2⟩, ⟨l0, l1, l2, l3, lcl⟩, d1, d2, d3⟩ := P.2.2.2
  have hwh := zwh_b (w := w) (hh := hh) ⟨gw1, gw2, gh1, gh2⟩
  have hcm : hh * w = w * hh := Nat.mul_comm hh w
  show zwp E _ 197 (0, [some (.ref _), some (.int (zJ _)), none, none, none, none, none, none], [], _) Q
  refine zr_aload_n zi197_0 rfl ?_
  refine zr_virtual zi197_1 rfl rfl (P.1.at0 rfl) rfl rfl ?_
  refine zcall_dep (d := 4) (Nat.le_of_ble_eq_true rfl) (c198 S P (fun h1 b1 F1 eb1 n1 W1 _ => zbk_v ?_))
  have hPl := P.lt
  have P1 := P.fr F1 (fun x z1 z2 => by rcases z1 with z | z | z <;> (have := z.2; omega))
  have FA : yFr (fun x => h.2.1 ≤ x ∨ rP b r c x) h h1 13 (7 + (3 + (w + hh) + (4 + 4 * (w * hh))) + (4 + 4 * (w * hh))) := F1.mono (fun x _ z => Or.inl z) (Nat.le_refl _) (Nat.le_refl _)
  refine zr_astore_n (L' := [some (.ref _), some (.int (zJ _)), some (.ref _), none, none, none, none, none]) zi197_4 rfl rfl ?_
  refine zr_iload_n zi197_5 rfl ?_
  refine zr_iconst (v := zJ 2) zi197_6 rfl ?_
  refine zr_icmp_neN zi197_7 rfl (by omega) (by omega) (fun q7 => ?_) (fun q7 => absurd q7 (by omega))
  refine zr_iconst (v := zJ 0) zi197_26 rfl ?_
  refine zr_istore_n (L' := [some (.ref _), some (.int (zJ _)), some (.ref _), some (.int (zJ _)), none, none, none, none]) zi197_27 rfl rfl ?_
  suffices key28 : ∀ h1 x4, (yFr (fun x => h.2.1 ≤ x ∨ rP b r c x) h h1 13 (7 + (3 + (w + hh) + (4 + 4 * (w * hh))) + (4 + 4 * (w * hh)))) → (h1.2.1 = h.2.1 + 13) → (rB h1 b r c g w hh x0 x1 x2 x3 (rTl 1 w hh cl cl 0) mi sp) → (rB h1 b1 (b1 + 8) (b1 + 2) (b1 + 1) w hh x0 x1 x2 x3 cl 0 0) → zwp E 5 197 (28, [some (.ref b), some (.int (zJ 1)), some (.ref b1), some (.int (zJ 0)), x4, none, none, none], [], h1) Q from key28 _ _ FA n1 P1 W1
  refine zloop (P := fun k => ∀ h1 x4, (yFr (fun x => h.2.1 ≤ x ∨ rP b r c x) h h1 13 (7 + (3 + (w + hh) + (4 + 4 * (w * hh))) + (4 + 4 * (w * hh)))) → (h1.2.1 = h.2.1 + 13) → (rB h1 b r c g w hh x0 x1 x2 x3 (rTl 1 w hh cl cl k) mi sp) → (rB h1 b1 (b1 + 8) (b1 + 2) (b1 + 1) w hh x0 x1 x2 x3 cl 0 0) → zwp E 5 197 (28, [some (.ref b), some (.int (zJ 1)), some (.ref b1), some (.int (zJ k)), x4, none, none, none], [], h1) Q) (n := w + hh) fun k hk28 ih28 => ?_
  intro h1 x4 F1 n1 P1 W1
  have hTl := rTl_len 1 w hh cl cl k
  have htl := fun (q : k < w + hh) => ztl_J (w := w) (hh := hh) (how := 1) ⟨gw1, gw2, gh1, gh2⟩ q
  refine zr_iload_n zi197_28 rfl ?_
  refine zr_aload_n zi197_29 rfl ?_
  refine zr_virtual zi197_30 rfl rfl (P1.1.at0 rfl) rfl rfl ?_
  refine zcall_dep (d := 0) (Nat.le_of_ble_eq_true rfl) (c167 P1 (zbk_v ?_))
  refine zr_icmp_geN zi197_33 rfl (by omega) (by omega) (fun q33 => ?_) (fun q33 => ?_)
  · refine zr_iconst (v := zJ 0) zi197_100 rfl ?_
    refine zr_istore_n (L' := [some (.ref _), some (.int (zJ _)), some (.ref _), some (.int (zJ _)), _, none, none, none]) zi197_101 rfl rfl ?_
    have hk1 : k = w + hh := by omega
    subst hk1
    suffices key102 : ∀ h1 y4 y5 y6 y7, (yFr (fun x => h.2.1 ≤ x ∨ rP b r c x) h h1 13 (7 + (3 + (w + hh) + (4 + 4 * (w * hh))) + (4 + 4 * (w * hh)))) → (h1.2.1 = h.2.1 + 13) → (rB h1 b r c g w hh (rTk 1 w hh (x0, x1, x2, x3) (x0, x1, x2, x3) 0).1 (rTk 1 w hh (x0, x1, x2, x3) (x0, x1, x2, x3) 0).2.1 (rTk 1 w hh (x0, x1, x2, x3) (x0, x1, x2, x3) 0).2.2.1 (rTk 1 w hh (x0, x1, x2, x3) (x0, x1, x2, x3) 0).2.2.2 (rTl 1 w hh cl cl (w + hh)) mi sp) → (rB h1 b1 (b1 + 8) (b1 + 2) (b1 + 1) w hh x0 x1 x2 x3 cl 0 0) → zwp E 5 197 (102, [some (.ref b), some (.int (zJ 1)), some (.ref b1), some (.int (zJ 0)), y4, y5, y6, y7], [], h1) Q from key102 _ _ _ _ _ F1 n1 P1 W1
    refine zloop (P := fun i => ∀ h1 y4 y5 y6 y7, (yFr (fun x => h.2.1 ≤ x ∨ rP b r c x) h h1 13 (7 + (3 + (w + hh) + (4 + 4 * (w * hh))) + (4 + 4 * (w * hh)))) → (h1.2.1 = h.2.1 + 13) → (rB h1 b r c g w hh (rTk 1 w hh (x0, x1, x2, x3) (x0, x1, x2, x3) i).1 (rTk 1 w hh (x0, x1, x2, x3) (x0, x1, x2, x3) i).2.1 (rTk 1 w hh (x0, x1, x2, x3) (x0, x1, x2, x3) i).2.2.1 (rTk 1 w hh (x0, x1, x2, x3) (x0, x1, x2, x3) i).2.2.2 (rTl 1 w hh cl cl (w + hh)) mi sp) → (rB h1 b1 (b1 + 8) (b1 + 2) (b1 + 1) w hh x0 x1 x2 x3 cl 0 0) → zwp E 5 197 (102, [some (.ref b), some (.int (zJ 1)), some (.ref b1), some (.int (zJ i)), y4, y5, y6, y7], [], h1) Q) (n := w * hh) fun i hk102 ih102 => ?_
    intro h1 y4 y5 y6 y7 F1 n1 P1 W1
    have hL := P1.2.2.2.2.1
    refine zr_iload_n zi197_102 rfl ?_
    refine zr_aload_n zi197_103 rfl ?_
    refine zr_virtual zi197_104 rfl rfl (P1.1.at0 rfl) rfl rfl ?_
    refine zcall_dep (d := 0) (Nat.le_of_ble_eq_true rfl) (c156 P1 (zbk_v ?_))
    refine zr_icmp_geN zi197_107 rfl (by omega) (by omega) (fun q107 => ?_) (fun q107 => ?_)
    · refine zr_return zi197_270 rfl ?_
      obtain rfl : i = w * hh := by omega
      exact K _ F1 n1 P1
    · refine zr_iload_n zi197_110 rfl ?_
      refine zr_aload_n zi197_111 rfl ?_
      refine zr_getfield zi197_112 (W1.1.at0 rfl) rfl ?_
      obtain ⟨hi1, hi2, hi3⟩ := rto_lt (how := 1) gw1 (show i < w * hh by omega)
      have hn0 := Int.natCast_nonneg (i / w)
      have hn1 := Int.natCast_nonneg (i % w)
      have hi4 : w * (i / w) + w - 1 - i % w < w * hh := hi3
      have hmul := Nat.mul_le_mul (show w ≤ 5 by omega) (show hh - 1 - i / w ≤ 5 by omega)
      have hmul2 := Nat.mul_le_mul (show w ≤ 5 by omega) (show i / w ≤ 5 by omega)
      refine zr_idivN zi197_115 (by omega) (by omega) (by omega) ?_
      refine zr_istore (L' := [some (.ref _), some (.int (zJ _)), some (.ref _), some (.int (zJ _)), some (.int (zJ _)), _, _, _]) zi197_116 rfl rfl ?_
      refine zr_iload_n zi197_118 rfl ?_
      refine zr_aload_n zi197_119 rfl ?_
      refine zr_getfield zi197_120 (W1.1.at0 rfl) rfl ?_
      refine zr_iremN zi197_123 (by omega) (by omega) (by omega) ?_
      refine zr_istore (L' := [some (.ref _), some (.int (zJ _)), some (.ref _), some (.int (zJ _)), some (.int (zJ _)), some (.int (zJ _)), _, _]) zi197_124 rfl rfl ?_
      refine zr_iload_n zi197_126 rfl ?_
      refine zr_if_neN zi197_127 rfl (by omega) (fun q127 => ?_) (fun q127 => absurd q127 (by omega))
      refine zr_iload_n zi197_157 rfl ?_
      refine zr_iconst (v := zJ 1) zi197_158 rfl ?_
      refine zr_icmp_neN zi197_159 rfl (by omega) (by omega) (fun q159 => absurd q159 (by omega)) (fun q159 => ?_)
      refine zr_aload_n zi197_162 rfl ?_
      refine zr_getfield zi197_163 (W1.1.at0 rfl) rfl ?_
      refine zr_iload zi197_166 rfl ?_
      refine zr_imulN zi197_168 ?_
      refine zr_aload_n zi197_169 rfl ?_
      refine zr_getfield zi197_170 (W1.1.at0 rfl) rfl ?_
      refine zr_iaddN zi197_173 ?_
      refine zr_iconst (v := zJ 1) zi197_174 rfl ?_
      refine zr_isubN zi197_175 (by omega) ?_
      refine zr_iload zi197_176 rfl ?_
      refine zr_isubN zi197_178 (by omega) ?_
      refine zr_goto zi197_179 rfl ?_
      refine zr_istore (L' := [some (.ref _), some (.int (zJ _)), some (.ref _), some (.int (zJ _)), some (.int (zJ _)), some (.int (zJ _)), some (.int (zJ _)), _]) zi197_192 rfl rfl ?_
      refine zr_iconst (v := zJ 0) zi197_194 rfl ?_
      refine zr_istore (L' := [some (.ref _), some (.int (zJ _)), some (.ref _), some (.int (zJ _)), some (.int (zJ _)), some (.int (zJ _)), some (.int (zJ _)), some (.int (zJ _))]) zi197_195 rfl rfl ?_
      refine zr_iload zi197_197 rfl ?_
      refine zr_iconst (v := zJ 4) zi197_199 rfl ?_
      refine zr_icmp_geN zi197_200 rfl (by omega) (by omega) (fun q200 => absurd q200 (by omega)) (fun q200 => ?_)
      refine zr_aload_n zi197_203 rfl ?_
      refine zr_getfield zi197_204 (P1.1.at0 rfl) rfl ?_
      refine zr_iload zi197_207 rfl ?_
      refine zr_aaloadN zi197_209 (P1.rw.at0 rfl) rfl (by omega) rfl ?_
      refine zr_iload zi197_210 rfl ?_
      refine zr_aload_n zi197_212 rfl ?_
      refine zr_getfield zi197_213 (W1.1.at0 rfl) rfl ?_
      refine zr_iload zi197_216 rfl ?_
      refine zr_aaloadN zi197_218 (W1.rw.at0 rfl) rfl (by omega) rfl ?_
      refine zr_iload_n zi197_219 rfl ?_
      refine zr_ialoadN zi197_220 (W1.rw.at 1 rfl) rfl (by omega) (by first | omega | (simp only [List.length_set, zpt_len]; omega)) ?_
      refine zr_iastoreN zi197_221 (P1.rw.at 1 rfl) (by omega) (by first | omega | (simp only [List.length_set]; omega)) ?_
      refine rB.wx0 P1 (by first | omega | (simp only [List.length_set, zpt_len]; omega)) (fun h221a F221a P221a => ?_)
      have W221a := W1.fr F221a (by intro x z1 z2; have := z2.1; have := z2.2; rcases z1 with z | z | z <;> (have := z.1; have := z.2; omega))
      refine zr_iincN (z := 1) (L' := [some (.ref _), some (.int (zJ _)), some (.ref _), some (.int (zJ _)), some (.int (zJ _)), some (.int (zJ _)), some (.int (zJ _)), some (.int (zJ _))]) zi197_222 rfl rfl rfl rfl ?_
      refine zr_goto zi197_225 rfl ?_
      refine zr_iload zi197_197 rfl ?_
      refine zr_iconst (v := zJ 4) zi197_199 rfl ?_
      refine zr_icmp_geN zi197_200 rfl (by omega) (by omega) (fun q200 => absurd q200 (by omega)) (fun q200 => ?_)
      refine zr_aload_n zi197_203 rfl ?_
      refine zr_getfield zi197_204 (P221a.1.at0 rfl) rfl ?_
      refine zr_iload zi197_207 rfl ?_
      refine zr_aaloadN zi197_209 (P221a.rw.at0 rfl) rfl (by omega) rfl ?_
      refine zr_iload zi197_210 rfl ?_
      refine zr_aload_n zi197_212 rfl ?_
      refine zr_getfield zi197_213 (W221a.1.at0 rfl) rfl ?_
      refine zr_iload zi197_216 rfl ?_
      refine zr_aaloadN zi197_218 (W221a.rw.at0 rfl) rfl (by omega) rfl ?_
      refine zr_iload_n zi197_219 rfl ?_
      refine zr_ialoadN zi197_220 (W221a.rw.at 2 rfl) rfl (by omega) (by first | omega | (simp only [List.length_set, zpt_len]; omega)) ?_
      refine zr_iastoreN zi197_221 (P221a.rw.at 2 rfl) (by omega) (by first | omega | (simp only [List.length_set]; omega)) ?_
      refine rB.wx1 P221a (by first | omega | (simp only [List.length_set, zpt_len]; omega)) (fun h221b F221b P221b => ?_)
      have W221b := W221a.fr F221b (by intro x z1 z2; have := z2.1; have := z2.2; rcases z1 with z | z | z <;> (have := z.1; have := z.2; omega))
      refine zr_iincN (z := 1) (L' := [some (.ref _), some (.int (zJ _)), some (.ref _), some (.int (zJ _)), some (.int (zJ _)), some (.int (zJ _)), some (.int (zJ _)), some (.int (zJ _))]) zi197_222 rfl rfl rfl rfl ?_
      refine zr_goto zi197_225 rfl ?_
      refine zr_iload zi197_197 rfl ?_
      refine zr_iconst (v := zJ 4) zi197_199 rfl ?_
      refine zr_icmp_geN zi197_200 rfl (by omega) (by omega) (fun q200 => absurd q200 (by omega)) (fun q200 => ?_)
      refine zr_aload_n zi197_203 rfl ?_
      refine zr_getfield zi197_204 (P221b.1.at0 rfl) rfl ?_
      refine zr_iload zi197_207 rfl ?_
      refine zr_aaloadN zi197_209 (P221b.rw.at0 rfl) rfl (by omega) rfl ?_
      refine zr_iload zi197_210 rfl ?_
      refine zr_aload_n zi197_212 rfl ?_
      refine zr_getfield zi197_213 (W221b.1.at0 rfl) rfl ?_
      refine zr_iload zi197_216 rfl ?_
      refine zr_aaloadN zi197_218 (W221b.rw.at0 rfl) rfl (by omega) rfl ?_
      refine zr_iload_n zi197_219 rfl ?_
      refine zr_ialoadN zi197_220 (W221b.rw.at 3 rfl) rfl (by omega) (by first | omega | (simp only [List.length_set, zpt_len]; omega)) ?_
      refine zr_iastoreN zi197_221 (P221b.rw.at 3 rfl) (by omega) (by first | omega | (simp only [List.length_set]; omega)) ?_
      refine rB.wx2 P221b (by first | omega | (simp only [List.length_set, zpt_len]; omega)) (fun h221c F221c P221c => ?_)
      have W221c := W221b.fr F221c (by intro x z1 z2; have := z2.1; have := z2.2; rcases z1 with z | z | z <;> (have := z.1; have := z.2; omega))
      refine zr_iincN (z := 1) (L' := [some (.ref _), some (.int (zJ _)), some (.ref _), some (.int (zJ _)), some (.int (zJ _)), some (.int (zJ _)), some (.int (zJ _)), some (.int (zJ _))]) zi197_222 rfl rfl rfl rfl ?_
      refine zr_goto zi197_225 rfl ?_
      refine zr_iload zi197_197 rfl ?_
      refine zr_iconst (v := zJ 4) zi197_199 rfl ?_
      refine zr_icmp_geN zi197_200 rfl (by omega) (by omega) (fun q200 => absurd q200 (by omega)) (fun q200 => ?_)
      refine zr_aload_n zi197_203 rfl ?_
      refine zr_getfield zi197_204 (P221c.1.at0 rfl) rfl ?_
      refine zr_iload zi197_207 rfl ?_
      refine zr_aaloadN zi197_209 (P221c.rw.at0 rfl) rfl (by omega) rfl ?_
      refine zr_iload zi197_210 rfl ?_
      refine zr_aload_n zi197_212 rfl ?_
      refine zr_getfield zi197_213 (W221c.1.at0 rfl) rfl ?_
      refine zr_iload zi197_216 rfl ?_
      refine zr_aaloadN zi197_218 (W221c.rw.at0 rfl) rfl (by omega) rfl ?_
      refine zr_iload_n zi197_219 rfl ?_
      refine zr_ialoadN zi197_220 (W221c.rw.at 4 rfl) rfl (by omega) (by first | omega | (simp only [List.length_set, zpt_len]; omega)) ?_
      refine zr_iastoreN zi197_221 (P221c.rw.at 4 rfl) (by omega) (by first | omega | (simp only [List.length_set]; omega)) ?_
      refine rB.wx3 P221c (by first | omega | (simp only [List.length_set, zpt_len]; omega)) (fun h221d F221d P221d => ?_)
      have W221d := W221c.fr F221d (by intro x z1 z2; have := z2.1; have := z2.2; rcases z1 with z | z | z <;> (have := z.1; have := z.2; omega))
      refine zr_iincN (z := 1) (L' := [some (.ref _), some (.int (zJ _)), some (.ref _), some (.int (zJ _)), some (.int (zJ _)), some (.int (zJ _)), some (.int (zJ _)), some (.int (zJ _))]) zi197_222 rfl rfl rfl rfl ?_
      refine zr_goto zi197_225 rfl ?_
      refine zr_iload zi197_197 rfl ?_
      refine zr_iconst (v := zJ 4) zi197_199 rfl ?_
      refine zr_icmp_geN zi197_200 rfl (by omega) (by omega) (fun q200 => ?_) (fun q200 => absurd q200 (by omega))
      refine zr_aload_n zi197_228 rfl ?_
      refine zr_getfield zi197_229 (W221d.1.at0 rfl) rfl ?_
      refine zr_iconst (v := zJ 1) zi197_232 rfl ?_
      refine zr_aaloadN zi197_233 (W221d.rw.at0 rfl) rfl (by omega) rfl ?_
      refine zr_iload_n zi197_234 rfl ?_
      refine zr_ialoadN zi197_235 (W221d.rw.at 2 rfl) rfl (by omega) (by first | omega | (simp only [List.length_set, zpt_len]; omega)) ?_
      refine zr_istore (L' := [some (.ref _), some (.int (zJ _)), some (.ref _), some (.int (zJ _)), some (.int (zJ _)), some (.int (zJ _)), some (.int (zJ _)), some (.int _)]) zi197_236 rfl rfl ?_
      refine zr_aload_n zi197_238 rfl ?_
      refine zr_getfield zi197_239 (P221d.1.at0 rfl) rfl ?_
      refine zr_iconst (v := zJ 1) zi197_242 rfl ?_
      refine zr_aaloadN zi197_243 (P221d.rw.at0 rfl) rfl (by omega) rfl ?_
      refine zr_iload zi197_244 rfl ?_
      refine zr_iload zi197_246 rfl ?_
      refine zr_if_ge zi197_248 rfl (fun q248 => ?_) (fun q248 => ?_)
      · have hrs : zrs w hh (x1.getD i 0) 1 = ztl w hh (x1.getD i 0) 1 := by rw [zrs, if_pos q248]
        refine zr_aload_n zi197_256 rfl ?_
        refine zr_iload zi197_257 rfl ?_
        refine zr_iload_n zi197_259 rfl ?_
        refine zr_static zi197_260 rfl rfl rfl rfl ?_
        refine zcall_dep (d := 0) (Nat.le_of_ble_eq_true rfl) (c199 W221d (by omega) (zbk_v ?_))
        refine zr_iastoreN zi197_263 (P221d.rw.at 2 rfl) (by omega) (by first | omega | (simp only [List.length_set, zpt_len]; omega)) ?_
        refine rB.wx1 P221d (by first | omega | (simp only [List.length_set, zpt_len]; omega)) (fun h263 F263 P263 => ?_)
        have W263 := W221d.fr F263 (by intro x z1 z2; have := z2.1; have := z2.2; rcases z1 with z | z | z <;> (have := z.1; have := z.2; omega))
        refine zr_iincN (z := 1) (L' := [some (.ref _), some (.int (zJ _)), some (.ref _), some (.int (zJ _)), some (.int (zJ _)), some (.int (zJ _)), some (.int (zJ _)), some (.int _)]) zi197_264 rfl rfl rfl rfl ?_
        refine zr_goto zi197_267 rfl ?_
        have FW := ((((F221a.trans F221b).trans F221c).trans F221d).trans F263)
        refine ih102 (by omega) _ _ _ _ _ (F1.trans (FW.mono (fun x _ z => Or.inr (Or.inr (Or.inl z))) (Nat.le_refl _) (Nat.le_refl _))) (by have := FW.2.1; have := FW.2.2.1; omega) ?_ W263
        have ert : rto 1 w hh i = w * (i / w) + w - 1 - i % w := rfl
        rw [rTk, rTs, ert]
        dsimp only
        rw [hrs]
        exact P263
      · have hrs : zrs w hh (x1.getD i 0) 1 = x1.getD i 0 := by rw [zrs, if_neg q248]
        refine zr_iload zi197_251 rfl ?_
        refine zr_goto zi197_253 rfl ?_
        refine zr_iastoreN zi197_263 (P221d.rw.at 2 rfl) (by omega) (by first | omega | (simp only [List.length_set, zpt_len]; omega)) ?_
        refine rB.wx1 P221d (by first | omega | (simp only [List.length_set, zpt_len]; omega)) (fun h263 F263 P263 => ?_)
        have W263 := W221d.fr F263 (by intro x z1 z2; have := z2.1; have := z2.2; rcases z1 with z | z | z <;> (have := z.1; have := z.2; omega))
        refine zr_iincN (z := 1) (L' := [some (.ref _), some (.int (zJ _)), some (.ref _), some (.int (zJ _)), some (.int (zJ _)), some (.int (zJ _)), some (.int (zJ _)), some (.int _)]) zi197_264 rfl rfl rfl rfl ?_
        refine zr_goto zi197_267 rfl ?_
        have FW := ((((F221a.trans F221b).trans F221c).trans F221d).trans F263)
        refine ih102 (by omega) _ _ _ _ _ (F1.trans (FW.mono (fun x _ z => Or.inr (Or.inr (Or.inl z))) (Nat.le_refl _) (Nat.le_refl _))) (by have := FW.2.1; have := FW.2.2.1; omega) ?_ W263
        have ert : rto 1 w hh i = w * (i / w) + w - 1 - i % w := rfl
        rw [rTk, rTs, ert]
        dsimp only
        rw [hrs]
        exact P263
  · refine zr_iload_n zi197_36 rfl ?_
    refine zr_aload_n zi197_37 rfl ?_
    refine zr_getfield zi197_38 (W1.1.at0 rfl) rfl ?_
    refine zr_icmp_geN zi197_41 rfl (by omega) (by omega) (fun q41 => ?_) (fun q41 => ?_)
    · refine zr_iconst (v := zJ 0) zi197_48 rfl ?_
      refine zr_istore (L' := [some (.ref _), some (.int (zJ _)), some (.ref _), some (.int (zJ _)), some (.int (zJ _)), none, none, none]) zi197_49 rfl rfl ?_
      refine zr_aload_n zi197_51 rfl ?_
      refine zr_getfield zi197_52 (P1.1.at0 rfl) rfl ?_
      refine zr_aload_n zi197_55 rfl ?_
      refine zr_iload_n zi197_56 rfl ?_
      refine zr_iload_n zi197_57 rfl ?_
      refine zr_static zi197_58 rfl rfl rfl rfl ?_
      refine zcall_dep (d := 0) (Nat.le_of_ble_eq_true rfl) (c199 W1 (by omega) (zbk_v ?_))
      rw [(htl (by omega)).1]
      have htl2 := (htl (by omega)).2
      refine zr_iload_n zi197_61 rfl ?_
      refine zr_if_eqN zi197_62 rfl (by omega) (fun q62 => absurd q62 (by omega)) (fun q62 => ?_)
      refine zr_iload_n zi197_65 rfl ?_
      refine zr_iconst (v := zJ 1) zi197_66 rfl ?_
      refine zr_icmp_neN zi197_67 rfl (by omega) (by omega) (fun q67 => absurd q67 (by omega)) (fun q67 => ?_)
      refine zr_iload zi197_70 rfl ?_
      refine zr_if_eqN zi197_72 rfl (by omega) (fun q72 => ?_) (fun q72 => ?_)
      · first
        | (exfalso; omega)
        | (
           have hz : ¬ zrw hh k 1 = true := (by unfold zrw; rw [decide_eq_false (show ¬ k < hh by omega)]; decide)
           refine zr_aload_n zi197_87 rfl ?_
           refine zr_getfield zi197_88 (W1.1.at0 rfl) rfl ?_
           refine zr_iload_n zi197_91 rfl ?_
           refine zr_ialoadN zi197_92 (W1.ca.at0 rfl) rfl (by omega) (by first | omega | (simp only [List.length_set, zpt_len]; omega)) ?_
           refine zr_iastoreN zi197_93 (P1.ca.at0 rfl) (by omega) (by first | omega | (simp only [List.length_set, rTl_len]; omega)) ?_
           refine rB.wca P1 (by first | omega | (simp only [List.length_set, zpt_len]; omega)) (fun h93 F93 P93 => ?_)
           have W_93 := W1.fr F93 (by intro x z1 z2; have := z2.1; have := z2.2; rcases z1 with z | z | z <;> (have := z.1; have := z.2; omega))
           refine zr_iincN (z := 1) (L' := [some (.ref _), some (.int (zJ _)), some (.ref _), some (.int (zJ _)), some (.int (zJ _)), none, none, none]) zi197_94 rfl rfl rfl rfl ?_
           refine zr_goto zi197_97 rfl ?_
           refine ih28 (by omega) _ _ (F1.trans (F93.mono (fun x _ z => Or.inr (Or.inr (Or.inr z))) (Nat.le_refl _) (Nat.le_refl _))) (by have := F93.2.1; have := F93.2.2.1; omega) ?_ W_93
           rw [rTl]
           first | (rw [if_pos hz]; exact P93) | (rw [if_neg hz]; exact P93))
      · first
        | (exfalso; omega)
        | (
           have hz : zrw hh k 1 = true := (by unfold zrw; rw [decide_eq_true (show k < hh by omega)]; rfl)
           refine zr_aload_n zi197_75 rfl ?_
           refine zr_getfield zi197_76 (W1.1.at0 rfl) rfl ?_
           refine zr_iload_n zi197_79 rfl ?_
           refine zr_ialoadN zi197_80 (W1.ca.at0 rfl) rfl (by omega) (by first | omega | (simp only [List.length_set, zpt_len]; omega)) ?_
           refine zr_static zi197_81 rfl rfl rfl rfl ?_
           refine zcall_dep (d := 0) (Nat.le_of_ble_eq_true rfl) (c200 (zbk_v ?_))
           refine zr_goto zi197_84 rfl ?_
           refine zr_iastoreN zi197_93 (P1.ca.at0 rfl) (by omega) (by first | omega | (simp only [List.length_set, rTl_len]; omega)) ?_
           refine rB.wca P1 (by first | omega | (simp only [List.length_set, zpt_len]; omega)) (fun h93 F93 P93 => ?_)
           have W_93 := W1.fr F93 (by intro x z1 z2; have := z2.1; have := z2.2; rcases z1 with z | z | z <;> (have := z.1; have := z.2; omega))
           refine zr_iincN (z := 1) (L' := [some (.ref _), some (.int (zJ _)), some (.ref _), some (.int (zJ _)), some (.int (zJ _)), none, none, none]) zi197_94 rfl rfl rfl rfl ?_
           refine zr_goto zi197_97 rfl ?_
           refine ih28 (by omega) _ _ (F1.trans (F93.mono (fun x _ z => Or.inr (Or.inr (Or.inr z))) (Nat.le_refl _) (Nat.le_refl _))) (by have := F93.2.1; have := F93.2.2.1; omega) ?_ W_93
           rw [rTl]
           first | (rw [if_pos hz]; exact P93) | (rw [if_neg hz]; exact P93))
    · refine zr_iconst (v := zJ 1) zi197_44 rfl ?_
      refine zr_goto zi197_45 rfl ?_
      refine zr_istore (L' := [some (.ref _), some (.int (zJ _)), some (.ref _), some (.int (zJ _)), some (.int (zJ _)), none, none, none]) zi197_49 rfl rfl ?_
      refine zr_aload_n zi197_51 rfl ?_
      refine zr_getfield zi197_52 (P1.1.at0 rfl) rfl ?_
      refine zr_aload_n zi197_55 rfl ?_
      refine zr_iload_n zi197_56 rfl ?_
      refine zr_iload_n zi197_57 rfl ?_
      refine zr_static zi197_58 rfl rfl rfl rfl ?_
      refine zcall_dep (d := 0) (Nat.le_of_ble_eq_true rfl) (c199 W1 (by omega) (zbk_v ?_))
      rw [(htl (by omega)).1]
      have htl2 := (htl (by omega)).2
      refine zr_iload_n zi197_61 rfl ?_
      refine zr_if_eqN zi197_62 rfl (by omega) (fun q62 => absurd q62 (by omega)) (fun q62 => ?_)
      refine zr_iload_n zi197_65 rfl ?_
      refine zr_iconst (v := zJ 1) zi197_66 rfl ?_
      refine zr_icmp_neN zi197_67 rfl (by omega) (by omega) (fun q67 => absurd q67 (by omega)) (fun q67 => ?_)
      refine zr_iload zi197_70 rfl ?_
      refine zr_if_eqN zi197_72 rfl (by omega) (fun q72 => ?_) (fun q72 => ?_)
      · first
        | (exfalso; omega)
        | (
           have hz : ¬ zrw hh k 1 = true := (by unfold zrw; rw [decide_eq_false (show ¬ k < hh by omega)]; decide)
           refine zr_aload_n zi197_87 rfl ?_
           refine zr_getfield zi197_88 (W1.1.at0 rfl) rfl ?_
           refine zr_iload_n zi197_91 rfl ?_
           refine zr_ialoadN zi197_92 (W1.ca.at0 rfl) rfl (by omega) (by first | omega | (simp only [List.length_set, zpt_len]; omega)) ?_
           refine zr_iastoreN zi197_93 (P1.ca.at0 rfl) (by omega) (by first | omega | (simp only [List.length_set, rTl_len]; omega)) ?_
           refine rB.wca P1 (by first | omega | (simp only [List.length_set, zpt_len]; omega)) (fun h93 F93 P93 => ?_)
           have W_93 := W1.fr F93 (by intro x z1 z2; have := z2.1; have := z2.2; rcases z1 with z | z | z <;> (have := z.1; have := z.2; omega))
           refine zr_iincN (z := 1) (L' := [some (.ref _), some (.int (zJ _)), some (.ref _), some (.int (zJ _)), some (.int (zJ _)), none, none, none]) zi197_94 rfl rfl rfl rfl ?_
           refine zr_goto zi197_97 rfl ?_
           refine ih28 (by omega) _ _ (F1.trans (F93.mono (fun x _ z => Or.inr (Or.inr (Or.inr z))) (Nat.le_refl _) (Nat.le_refl _))) (by have := F93.2.1; have := F93.2.2.1; omega) ?_ W_93
           rw [rTl]
           first | (rw [if_pos hz]; exact P93) | (rw [if_neg hz]; exact P93))
      · first
        | (exfalso; omega)
        | (
           have hz : zrw hh k 1 = true := (by unfold zrw; rw [decide_eq_true (show k < hh by omega)]; rfl)
           refine zr_aload_n zi197_75 rfl ?_
           refine zr_getfield zi197_76 (W1.1.at0 rfl) rfl ?_
           refine zr_iload_n zi197_79 rfl ?_
           refine zr_ialoadN zi197_80 (W1.ca.at0 rfl) rfl (by omega) (by first | omega | (simp only [List.length_set, zpt_len]; omega)) ?_
           refine zr_static zi197_81 rfl rfl rfl rfl ?_
           refine zcall_dep (d := 0) (Nat.le_of_ble_eq_true rfl) (c200 (zbk_v ?_))
           refine zr_goto zi197_84 rfl ?_
           refine zr_iastoreN zi197_93 (P1.ca.at0 rfl) (by omega) (by first | omega | (simp only [List.length_set, rTl_len]; omega)) ?_
           refine rB.wca P1 (by first | omega | (simp only [List.length_set, zpt_len]; omega)) (fun h93 F93 P93 => ?_)
           have W_93 := W1.fr F93 (by intro x z1 z2; have := z2.1; have := z2.2; rcases z1 with z | z | z <;> (have := z.1; have := z.2; omega))
           refine zr_iincN (z := 1) (L' := [some (.ref _), some (.int (zJ _)), some (.ref _), some (.int (zJ _)), some (.int (zJ _)), none, none, none]) zi197_94 rfl rfl rfl rfl ?_
           refine zr_goto zi197_97 rfl ?_
           refine ih28 (by omega) _ _ (F1.trans (F93.mono (fun x _ z => Or.inr (Or.inr (Or.inr z))) (Nat.le_refl _) (Nat.le_refl _))) (by have := F93.2.1; have := F93.2.2.1; omega) ?_ W_93
           rw [rTl]
           first | (rw [if_pos hz]; exact P93) | (rw [if_neg hz]; exact P93))
theorem c197_2 {E : zEnv} {h : zPH} {Q : zOut → zPH → Prop} (S : ySs E h) {b r c g w hh : Nat} {x0 x1 x2 x3 cl : List Int32} {mi sp : Int32} (P : rB h b r c g w hh x0 x1 x2 x3 cl mi sp) (K : ∀ h1, yFr (fun x => h.2.1 ≤ x ∨ rP b r c x) h h1 13 (7 + (3 + (w + hh) + (4 + 4 * (w * hh))) + (4 + 4 * (w * hh))) → h1.2.1 = h.2.1 + 13 → rB h1 b r c g hh w (rTk 2 w hh (x0, x1, x2, x3) (x0, x1, x2, x3) (w * hh)).1 (rTk 2 w hh (x0, x1, x2, x3) (x0, x1, x2, x3) (w * hh)).2.1 (rTk 2 w hh (x0, x1, x2, x3) (x0, x1, x2, x3) (w * hh)).2.2.1 (rTk 2 w hh (x0, x1, x2, x3) (x0, x1, x2, x3) (w * hh)).2.2.2 (rTl 2 w hh cl cl (w + hh)) mi sp → Q (.inl none) h1) : zcall E 5 197 [.ref b, .int (zJ 2)] h Q := by
  obtain ⟨⟨gw1, gw2, gh1, gh2⟩, ⟨l0, l1, l2, l3, lcl⟩, d1, d2, d3⟩ := P.2.2.2
  have hwh := zwh_b (w := w) (hh := hh) ⟨gw1, gw2, gh1, gh2⟩
  have hcm : hh * w = w * hh := Nat.mul_comm hh w
  show zwp E _ 197 (0, [some (.ref _), some (.int (zJ _)), none, none, none, none, none, none], [], _) Q
  refine zr_aload_n zi197_0 rfl ?_
  refine zr_virtual zi197_1 rfl rfl (P.1.at0 rfl) rfl rfl ?_
  refine zcall_dep (d := 4) (Nat.le_of_ble_eq_true rfl) (c198 S P (fun h1 b1 F1 eb1 n1 W1 _ => zbk_v ?_))
  have hPl := P.lt
  have P1 := P.fr F1 (fun x z1 z2 => by rcases z1 with z | z | z <;> (have := z.2; omega))
  have FA : yFr (fun x => h.2.1 ≤ x ∨ rP b r c x) h h1 13 (7 + (3 + (w + hh) + (4 + 4 * (w * hh))) + (4 + 4 * (w * hh))) := F1.mono (fun x _ z => Or.inl z) (Nat.le_refl _) (Nat.le_refl _)
  refine zr_astore_n (L' := [some (.ref _), some (.int (zJ _)), some (.ref _), none, none, none, none, none]) zi197_4 rfl rfl ?_
  refine zr_iload_n zi197_5 rfl ?_
  refine zr_iconst (v := zJ 2) zi197_6 rfl ?_
  refine zr_icmp_neN zi197_7 rfl (by omega) (by omega) (fun q7 => absurd q7 (by omega)) (fun q7 => ?_)
  refine zr_aload_n zi197_10 rfl ?_
  refine zr_aload_n zi197_11 rfl ?_
  refine zr_getfield zi197_12 (W1.1.at0 rfl) rfl ?_
  refine zr_putfield zi197_15 (P1.1.at0 rfl) rfl rfl ?_
  refine zw_bkX0 (N := 1) P1.1 rfl (by decide) (Nat.le_of_ble_eq_true rfl) (fun h15 F15 Y15 d15 => ?_)
  have W15 := W1.fr F15 (fun x z1 z2 => by have := z2.1; have := z2.2; rcases z1 with z | z | z <;> (have := z.1; omega))
  refine zr_aload_n zi197_18 rfl ?_
  refine zr_aload_n zi197_19 rfl ?_
  refine zr_getfield zi197_20 (W15.1.at0 rfl) rfl ?_
  refine zr_putfield zi197_23 (Y15.at0 rfl) rfl rfl ?_
  refine zw_bkX0 (N := 1) Y15 rfl (by decide) (Nat.le_of_ble_eq_true rfl) (fun h23 F23 Y23 d23 => ?_)
  have W23 := W15.fr F23 (fun x z1 z2 => by have := z2.1; have := z2.2; rcases z1 with z | z | z <;> (have := z.1; omega))
  have FF := F15.trans F23
  have P23 : rB h23 b r c g hh w x0 x1 x2 x3 cl mi sp := ⟨Y23, FF.bk P1.2.1 (fun x z1 z2 z3 => by have z2 : x < r + 5 := z2; have := z3.1; have : x < b + 1 := z3.2; omega), FF.bk P1.2.2.1 (fun x z1 z2 z3 => by have z2 : x < c + 1 := z2; have := z3.1; have : x < b + 1 := z3.2; omega), ⟨gh1, gh2, gw1, gw2⟩, ⟨by rw [Nat.mul_comm hh w]; exact l0, by rw [Nat.mul_comm hh w]; exact l1, by rw [Nat.mul_comm hh w]; exact l2, by rw [Nat.mul_comm hh w]; exact l3, by omega⟩, d1, d2, d3⟩
  have FB : yFr (fun x => h.2.1 ≤ x ∨ rP b r c x) h h23 13 (7 + (3 + (w + hh) + (4 + 4 * (w * hh))) + (4 + 4 * (w * hh))) := FA.trans (FF.mono (fun x _ z => Or.inr (Or.inl z)) (Nat.le_refl _) (Nat.le_refl _))
  have n23 : h23.2.1 = h.2.1 + 13 := by rw [d23, d15]; exact n1
  refine zr_iconst (v := zJ 0) zi197_26 rfl ?_
  refine zr_istore_n (L' := [some (.ref _), some (.int (zJ _)), some (.ref _), some (.int (zJ _)), none, none, none, none]) zi197_27 rfl rfl ?_
  suffices key28 : ∀ h1 x4, (yFr (fun x => h.2.1 ≤ x ∨ rP b r c x) h h1 13 (7 + (3 + (w + hh) + (4 + 4 * (w * hh))) + (4 + 4 * (w * hh)))) → (h1.2.1 = h.2.1 + 13) → (rB h1 b r c g hh w x0 x1 x2 x3 (rTl 2 w hh cl cl 0) mi sp) → (rB h1 b1 (b1 + 8) (b1 + 2) (b1 + 1) w hh x0 x1 x2 x3 cl 0 0) → zwp E 5 197 (28, [some (.ref b), some (.int (zJ 2)), some (.ref b1), some (.int (zJ 0)), x4, none, none, none], [], h1) Q from key28 _ _ FB n23 P23 W23
  refine zloop (P := fun k => ∀ h1 x4, (yFr (fun x => h.2.1 ≤ x ∨ rP b r c x) h h1 13 (7 + (3 + (w + hh) + (4 + 4 * (w * hh))) + (4 + 4 * (w * hh)))) → (h1.2.1 = h.2.1 + 13) → (rB h1 b r c g hh w x0 x1 x2 x3 (rTl 2 w hh cl cl k) mi sp) → (rB h1 b1 (b1 + 8) (b1 + 2) (b1 + 1) w hh x0 x1 x2 x3 cl 0 0) → zwp E 5 197 (28, [some (.ref b), some (.int (zJ 2)), some (.ref b1), some (.int (zJ k)), x4, none, none, none], [], h1) Q) (n := hh + w) fun k hk28 ih28 => ?_
  intro h1 x4 F1 n1 P1 W1
  have hTl := rTl_len 2 w hh cl cl k
  have htl := fun (q : k < w + hh) => ztl_J (w := w) (hh := hh) (how := 2) ⟨gw1, gw2, gh1, gh2⟩ q
  refine zr_iload_n zi197_28 rfl ?_
  refine zr_aload_n zi197_29 rfl ?_
  refine zr_virtual zi197_30 rfl rfl (P1.1.at0 rfl) rfl rfl ?_
  refine zcall_dep (d := 0) (Nat.le_of_ble_eq_true rfl) (c167 P1 (zbk_v ?_))
  refine zr_icmp_geN zi197_33 rfl (by omega) (by omega) (fun q33 => ?_) (fun q33 => ?_)
  · refine zr_iconst (v := zJ 0) zi197_100 rfl ?_
    refine zr_istore_n (L' := [some (.ref _), some (.int (zJ _)), some (.ref _), some (.int (zJ _)), _, none, none, none]) zi197_101 rfl rfl ?_
    have hk1 : k = w + hh := by omega
    subst hk1
    suffices key102 : ∀ h1 y4 y5 y6 y7, (yFr (fun x => h.2.1 ≤ x ∨ rP b r c x) h h1 13 (7 + (3 + (w + hh) + (4 + 4 * (w * hh))) + (4 + 4 * (w * hh)))) → (h1.2.1 = h.2.1 + 13) → (rB h1 b r c g hh w (rTk 2 w hh (x0, x1, x2, x3) (x0, x1, x2, x3) 0).1 (rTk 2 w hh (x0, x1, x2, x3) (x0, x1, x2, x3) 0).2.1 (rTk 2 w hh (x0, x1, x2, x3) (x0, x1, x2, x3) 0).2.2.1 (rTk 2 w hh (x0, x1, x2, x3) (x0, x1, x2, x3) 0).2.2.2 (rTl 2 w hh cl cl (w + hh)) mi sp) → (rB h1 b1 (b1 + 8) (b1 + 2) (b1 + 1) w hh x0 x1 x2 x3 cl 0 0) → zwp E 5 197 (102, [some (.ref b), some (.int (zJ 2)), some (.ref b1), some (.int (zJ 0)), y4, y5, y6, y7], [], h1) Q from key102 _ _ _ _ _ F1 n1 P1 W1
    refine zloop (P := fun i => ∀ h1 y4 y5 y6 y7, (yFr (fun x => h.2.1 ≤ x ∨ rP b r c x) h h1 13 (7 + (3 + (w + hh) + (4 + 4 * (w * hh))) + (4 + 4 * (w * hh)))) → (h1.2.1 = h.2.1 + 13) → (rB h1 b r c g hh w (rTk 2 w hh (x0, x1, x2, x3) (x0, x1, x2, x3) i).1 (rTk 2 w hh (x0, x1, x2, x3) (x0, x1, x2, x3) i).2.1 (rTk 2 w hh (x0, x1, x2, x3) (x0, x1, x2, x3) i).2.2.1 (rTk 2 w hh (x0, x1, x2, x3) (x0, x1, x2, x3) i).2.2.2 (rTl 2 w hh cl cl (w + hh)) mi sp) → (rB h1 b1 (b1 + 8) (b1 + 2) (b1 + 1) w hh x0 x1 x2 x3 cl 0 0) → zwp E 5 197 (102, [some (.ref b), some (.int (zJ 2)), some (.ref b1), some (.int (zJ i)), y4, y5, y6, y7], [], h1) Q) (n := w * hh) fun i hk102 ih102 => ?_
    intro h1 y4 y5 y6 y7 F1 n1 P1 W1
    have hL := P1.2.2.2.2.1
    rw [Nat.mul_comm hh w] at hL
    refine zr_iload_n zi197_102 rfl ?_
    refine zr_aload_n zi197_103 rfl ?_
    refine zr_virtual zi197_104 rfl rfl (P1.1.at0 rfl) rfl rfl ?_
    refine zcall_dep (d := 0) (Nat.le_of_ble_eq_true rfl) (c156 P1 (zbk_v ?_))
    refine zr_icmp_geN zi197_107 rfl (by omega) (by omega) (fun q107 => ?_) (fun q107 => ?_)
    · refine zr_return zi197_270 rfl ?_
      obtain rfl : i = w * hh := by omega
      exact K _ F1 n1 P1
    · refine zr_iload_n zi197_110 rfl ?_
      refine zr_aload_n zi197_111 rfl ?_
      refine zr_getfield zi197_112 (W1.1.at0 rfl) rfl ?_
      obtain ⟨hi1, hi2, hi3⟩ := rto_lt (how := 2) gw1 (show i < w * hh by omega)
      have hn0 := Int.natCast_nonneg (i / w)
      have hn1 := Int.natCast_nonneg (i % w)
      have hi4 : hh * (i % w) + i / w < w * hh := hi3
      have hmul := Nat.mul_le_mul (show w ≤ 5 by omega) (show hh - 1 - i / w ≤ 5 by omega)
      have hmul2 := Nat.mul_le_mul (show w ≤ 5 by omega) (show i / w ≤ 5 by omega)
      refine zr_idivN zi197_115 (by omega) (by omega) (by omega) ?_
      refine zr_istore (L' := [some (.ref _), some (.int (zJ _)), some (.ref _), some (.int (zJ _)), some (.int (zJ _)), _, _, _]) zi197_116 rfl rfl ?_
      refine zr_iload_n zi197_118 rfl ?_
      refine zr_aload_n zi197_119 rfl ?_
      refine zr_getfield zi197_120 (W1.1.at0 rfl) rfl ?_
      refine zr_iremN zi197_123 (by omega) (by omega) (by omega) ?_
      refine zr_istore (L' := [some (.ref _), some (.int (zJ _)), some (.ref _), some (.int (zJ _)), some (.int (zJ _)), some (.int (zJ _)), _, _]) zi197_124 rfl rfl ?_
      refine zr_iload_n zi197_126 rfl ?_
      refine zr_if_neN zi197_127 rfl (by omega) (fun q127 => ?_) (fun q127 => absurd q127 (by omega))
      refine zr_iload_n zi197_157 rfl ?_
      refine zr_iconst (v := zJ 1) zi197_158 rfl ?_
      refine zr_icmp_neN zi197_159 rfl (by omega) (by omega) (fun q159 => ?_) (fun q159 => absurd q159 (by omega))
      refine zr_aload_n zi197_182 rfl ?_
      refine zr_getfield zi197_183 (P1.1.at0 rfl) rfl ?_
      refine zr_iload zi197_186 rfl ?_
      refine zr_imulN zi197_188 ?_
      refine zr_iload zi197_189 rfl ?_
      refine zr_iaddN zi197_191 ?_
      refine zr_istore (L' := [some (.ref _), some (.int (zJ _)), some (.ref _), some (.int (zJ _)), some (.int (zJ _)), some (.int (zJ _)), some (.int (zJ _)), _]) zi197_192 rfl rfl ?_
      refine zr_iconst (v := zJ 0) zi197_194 rfl ?_
      refine zr_istore (L' := [some (.ref _), some (.int (zJ _)), some (.ref _), some (.int (zJ _)), some (.int (zJ _)), some (.int (zJ _)), some (.int (zJ _)), some (.int (zJ _))]) zi197_195 rfl rfl ?_
      refine zr_iload zi197_197 rfl ?_
      refine zr_iconst (v := zJ 4) zi197_199 rfl ?_
      refine zr_icmp_geN zi197_200 rfl (by omega) (by omega) (fun q200 => absurd q200 (by omega)) (fun q200 => ?_)
      refine zr_aload_n zi197_203 rfl ?_
      refine zr_getfield zi197_204 (P1.1.at0 rfl) rfl ?_
      refine zr_iload zi197_207 rfl ?_
      refine zr_aaloadN zi197_209 (P1.rw.at0 rfl) rfl (by omega) rfl ?_
      refine zr_iload zi197_210 rfl ?_
      refine zr_aload_n zi197_212 rfl ?_
      refine zr_getfield zi197_213 (W1.1.at0 rfl) rfl ?_
      refine zr_iload zi197_216 rfl ?_
      refine zr_aaloadN zi197_218 (W1.rw.at0 rfl) rfl (by omega) rfl ?_
      refine zr_iload_n zi197_219 rfl ?_
      refine zr_ialoadN zi197_220 (W1.rw.at 1 rfl) rfl (by omega) (by first | omega | (simp only [List.length_set, zpt_len]; omega)) ?_
      refine zr_iastoreN zi197_221 (P1.rw.at 1 rfl) (by omega) (by first | omega | (simp only [List.length_set]; omega)) ?_
      refine rB.wx0 P1 (by first | omega | (simp only [List.length_set, zpt_len]; omega)) (fun h221a F221a P221a => ?_)
      have W221a := W1.fr F221a (by intro x z1 z2; have := z2.1; have := z2.2; rcases z1 with z | z | z <;> (have := z.1; have := z.2; omega))
      refine zr_iincN (z := 1) (L' := [some (.ref _), some (.int (zJ _)), some (.ref _), some (.int (zJ _)), some (.int (zJ _)), some (.int (zJ _)), some (.int (zJ _)), some (.int (zJ _))]) zi197_222 rfl rfl rfl rfl ?_
      refine zr_goto zi197_225 rfl ?_
      refine zr_iload zi197_197 rfl ?_
      refine zr_iconst (v := zJ 4) zi197_199 rfl ?_
      refine zr_icmp_geN zi197_200 rfl (by omega) (by omega) (fun q200 => absurd q200 (by omega)) (fun q200 => ?_)
      refine zr_aload_n zi197_203 rfl ?_
      refine zr_getfield zi197_204 (P221a.1.at0 rfl) rfl ?_
      refine zr_iload zi197_207 rfl ?_
      refine zr_aaloadN zi197_209 (P221a.rw.at0 rfl) rfl (by omega) rfl ?_
      refine zr_iload zi197_210 rfl ?_
      refine zr_aload_n zi197_212 rfl ?_
      refine zr_getfield zi197_213 (W221a.1.at0 rfl) rfl ?_
      refine zr_iload zi197_216 rfl ?_
      refine zr_aaloadN zi197_218 (W221a.rw.at0 rfl) rfl (by omega) rfl ?_
      refine zr_iload_n zi197_219 rfl ?_
      refine zr_ialoadN zi197_220 (W221a.rw.at 2 rfl) rfl (by omega) (by first | omega | (simp only [List.length_set, zpt_len]; omega)) ?_
      refine zr_iastoreN zi197_221 (P221a.rw.at 2 rfl) (by omega) (by first | omega | (simp only [List.length_set]; omega)) ?_
      refine rB.wx1 P221a (by first | omega | (simp only [List.length_set, zpt_len]; omega)) (fun h221b F221b P221b => ?_)
      have W221b := W221a.fr F221b (by intro x z1 z2; have := z2.1; have := z2.2; rcases z1 with z | z | z <;> (have := z.1; have := z.2; omega))
      refine zr_iincN (z := 1) (L' := [some (.ref _), some (.int (zJ _)), some (.ref _), some (.int (zJ _)), some (.int (zJ _)), some (.int (zJ _)), some (.int (zJ _)), some (.int (zJ _))]) zi197_222 rfl rfl rfl rfl ?_
      refine zr_goto zi197_225 rfl ?_
      refine zr_iload zi197_197 rfl ?_
      refine zr_iconst (v := zJ 4) zi197_199 rfl ?_
      refine zr_icmp_geN zi197_200 rfl (by omega) (by omega) (fun q200 => absurd q200 (by omega)) (fun q200 => ?_)
      refine zr_aload_n zi197_203 rfl ?_
      refine zr_getfield zi197_204 (P221b.1.at0 rfl) rfl ?_
      refine zr_iload zi197_207 rfl ?_
      refine zr_aaloadN zi197_209 (P221b.rw.at0 rfl) rfl (by omega) rfl ?_
      refine zr_iload zi197_210 rfl ?_
      refine zr_aload_n zi197_212 rfl ?_
      refine zr_getfield zi197_213 (W221b.1.at0 rfl) rfl ?_
      refine zr_iload zi197_216 rfl ?_
      refine zr_aaloadN zi197_218 (W221b.rw.at0 rfl) rfl (by omega) rfl ?_
      refine zr_iload_n zi197_219 rfl ?_
      refine zr_ialoadN zi197_220 (W221b.rw.at 3 rfl) rfl (by omega) (by first | omega | (simp only [List.length_set, zpt_len]; omega)) ?_
      refine zr_iastoreN zi197_221 (P221b.rw.at 3 rfl) (by omega) (by first | omega | (simp only [List.length_set]; omega)) ?_
      refine rB.wx2 P221b (by first | omega | (simp only [List.length_set, zpt_len]; omega)) (fun h221c F221c P221c => ?_)
      have W221c := W221b.fr F221c (by intro x z1 z2; have := z2.1; have := z2.2; rcases z1 with z | z | z <;> (have := z.1; have := z.2; omega))
      refine zr_iincN (z := 1) (L' := [some (.ref _), some (.int (zJ _)), some (.ref _), some (.int (zJ _)), some (.int (zJ _)), some (.int (zJ _)), some (.int (zJ _)), some (.int (zJ _))]) zi197_222 rfl rfl rfl rfl ?_
      refine zr_goto zi197_225 rfl ?_
      refine zr_iload zi197_197 rfl ?_
      refine zr_iconst (v := zJ 4) zi197_199 rfl ?_
      refine zr_icmp_geN zi197_200 rfl (by omega) (by omega) (fun q200 => absurd q200 (by omega)) (fun q200 => ?_)
      refine zr_aload_n zi197_203 rfl ?_
      refine zr_getfield zi197_204 (P221c.1.at0 rfl) rfl ?_
      refine zr_iload zi197_207 rfl ?_
      refine zr_aaloadN zi197_209 (P221c.rw.at0 rfl) rfl (by omega) rfl ?_
      refine zr_iload zi197_210 rfl ?_
      refine zr_aload_n zi197_212 rfl ?_
      refine zr_getfield zi197_213 (W221c.1.at0 rfl) rfl ?_
      refine zr_iload zi197_216 rfl ?_
      refine zr_aaloadN zi197_218 (W221c.rw.at0 rfl) rfl (by omega) rfl ?_
      refine zr_iload_n zi197_219 rfl ?_
      refine zr_ialoadN zi197_220 (W221c.rw.at 4 rfl) rfl (by omega) (by first | omega | (simp only [List.length_set, zpt_len]; omega)) ?_
      refine zr_iastoreN zi197_221 (P221c.rw.at 4 rfl) (by omega) (by first | omega | (simp only [List.length_set]; omega)) ?_
      refine rB.wx3 P221c (by first | omega | (simp only [List.length_set, zpt_len]; omega)) (fun h221d F221d P221d => ?_)
      have W221d := W221c.fr F221d (by intro x z1 z2; have := z2.1; have := z2.2; rcases z1 with z | z | z <;> (have := z.1; have := z.2; omega))
      refine zr_iincN (z := 1) (L' := [some (.ref _), some (.int (zJ _)), some (.ref _), some (.int (zJ _)), some (.int (zJ _)), some (.int (zJ _)), some (.int (zJ _)), some (.int (zJ _))]) zi197_222 rfl rfl rfl rfl ?_
      refine zr_goto zi197_225 rfl ?_
      refine zr_iload zi197_197 rfl ?_
      refine zr_iconst (v := zJ 4) zi197_199 rfl ?_
      refine zr_icmp_geN zi197_200 rfl (by omega) (by omega) (fun q200 => ?_) (fun q200 => absurd q200 (by omega))
      refine zr_aload_n zi197_228 rfl ?_
      refine zr_getfield zi197_229 (W221d.1.at0 rfl) rfl ?_
      refine zr_iconst (v := zJ 1) zi197_232 rfl ?_
      refine zr_aaloadN zi197_233 (W221d.rw.at0 rfl) rfl (by omega) rfl ?_
      refine zr_iload_n zi197_234 rfl ?_
      refine zr_ialoadN zi197_235 (W221d.rw.at 2 rfl) rfl (by omega) (by first | omega | (simp only [List.length_set, zpt_len]; omega)) ?_
      refine zr_istore (L' := [some (.ref _), some (.int (zJ _)), some (.ref _), some (.int (zJ _)), some (.int (zJ _)), some (.int (zJ _)), some (.int (zJ _)), some (.int _)]) zi197_236 rfl rfl ?_
      refine zr_aload_n zi197_238 rfl ?_
      refine zr_getfield zi197_239 (P221d.1.at0 rfl) rfl ?_
      refine zr_iconst (v := zJ 1) zi197_242 rfl ?_
      refine zr_aaloadN zi197_243 (P221d.rw.at0 rfl) rfl (by omega) rfl ?_
      refine zr_iload zi197_244 rfl ?_
      refine zr_iload zi197_246 rfl ?_
      refine zr_if_ge zi197_248 rfl (fun q248 => ?_) (fun q248 => ?_)
      · have hrs : zrs w hh (x1.getD i 0) 2 = ztl w hh (x1.getD i 0) 2 := by rw [zrs, if_pos q248]
        refine zr_aload_n zi197_256 rfl ?_
        refine zr_iload zi197_257 rfl ?_
        refine zr_iload_n zi197_259 rfl ?_
        refine zr_static zi197_260 rfl rfl rfl rfl ?_
        refine zcall_dep (d := 0) (Nat.le_of_ble_eq_true rfl) (c199 W221d (by omega) (zbk_v ?_))
        refine zr_iastoreN zi197_263 (P221d.rw.at 2 rfl) (by omega) (by first | omega | (simp only [List.length_set, zpt_len]; omega)) ?_
        refine rB.wx1 P221d (by first | omega | (simp only [List.length_set, zpt_len]; omega)) (fun h263 F263 P263 => ?_)
        have W263 := W221d.fr F263 (by intro x z1 z2; have := z2.1; have := z2.2; rcases z1 with z | z | z <;> (have := z.1; have := z.2; omega))
        refine zr_iincN (z := 1) (L' := [some (.ref _), some (.int (zJ _)), some (.ref _), some (.int (zJ _)), some (.int (zJ _)), some (.int (zJ _)), some (.int (zJ _)), some (.int _)]) zi197_264 rfl rfl rfl rfl ?_
        refine zr_goto zi197_267 rfl ?_
        have FW := ((((F221a.trans F221b).trans F221c).trans F221d).trans F263)
        refine ih102 (by omega) _ _ _ _ _ (F1.trans (FW.mono (fun x _ z => Or.inr (Or.inr (Or.inl z))) (Nat.le_refl _) (Nat.le_refl _))) (by have := FW.2.1; have := FW.2.2.1; omega) ?_ W263
        have ert : rto 2 w hh i = hh * (i % w) + i / w := rfl
        rw [rTk, rTs, ert]
        dsimp only
        rw [hrs]
        exact P263
      · have hrs : zrs w hh (x1.getD i 0) 2 = x1.getD i 0 := by rw [zrs, if_neg q248]
        refine zr_iload zi197_251 rfl ?_
        refine zr_goto zi197_253 rfl ?_
        refine zr_iastoreN zi197_263 (P221d.rw.at 2 rfl) (by omega) (by first | omega | (simp only [List.length_set, zpt_len]; omega)) ?_
        refine rB.wx1 P221d (by first | omega | (simp only [List.length_set, zpt_len]; omega)) (fun h263 F263 P263 => ?_)
        have W263 := W221d.fr F263 (by intro x z1 z2; have := z2.1; have := z2.2; rcases z1 with z | z | z <;> (have := z.1; have := z.2; omega))
        refine zr_iincN (z := 1) (L' := [some (.ref _), some (.int (zJ _)), some (.ref _), some (.int (zJ _)), some (.int (zJ _)), some (.int (zJ _)), some (.int (zJ _)), some (.int _)]) zi197_264 rfl rfl rfl rfl ?_
        refine zr_goto zi197_267 rfl ?_
        have FW := ((((F221a.trans F221b).trans F221c).trans F221d).trans F263)
        refine ih102 (by omega) _ _ _ _ _ (F1.trans (FW.mono (fun x _ z => Or.inr (Or.inr (Or.inl z))) (Nat.le_refl _) (Nat.le_refl _))) (by have := FW.2.1; have := FW.2.2.1; omega) ?_ W263
        have ert : rto 2 w hh i = hh * (i % w) + i / w := rfl
        rw [rTk, rTs, ert]
        dsimp only
        rw [hrs]
        exact P263
  · refine zr_iload_n zi197_36 rfl ?_
    refine zr_aload_n zi197_37 rfl ?_
    refine zr_getfield zi197_38 (W1.1.at0 rfl) rfl ?_
    refine zr_icmp_geN zi197_41 rfl (by omega) (by omega) (fun q41 => ?_) (fun q41 => ?_)
    · refine zr_iconst (v := zJ 0) zi197_48 rfl ?_
      refine zr_istore (L' := [some (.ref _), some (.int (zJ _)), some (.ref _), some (.int (zJ _)), some (.int (zJ _)), none, none, none]) zi197_49 rfl rfl ?_
      refine zr_aload_n zi197_51 rfl ?_
      refine zr_getfield zi197_52 (P1.1.at0 rfl) rfl ?_
      refine zr_aload_n zi197_55 rfl ?_
      refine zr_iload_n zi197_56 rfl ?_
      refine zr_iload_n zi197_57 rfl ?_
      refine zr_static zi197_58 rfl rfl rfl rfl ?_
      refine zcall_dep (d := 0) (Nat.le_of_ble_eq_true rfl) (c199 W1 (by omega) (zbk_v ?_))
      rw [(htl (by omega)).1]
      have htl2 := (htl (by omega)).2
      refine zr_iload_n zi197_61 rfl ?_
      refine zr_if_eqN zi197_62 rfl (by omega) (fun q62 => absurd q62 (by omega)) (fun q62 => ?_)
      refine zr_iload_n zi197_65 rfl ?_
      refine zr_iconst (v := zJ 1) zi197_66 rfl ?_
      refine zr_icmp_neN zi197_67 rfl (by omega) (by omega) (fun q67 => ?_) (fun q67 => absurd q67 (by omega))
      have hz : ¬ zrw hh k 2 = true := (by unfold zrw; intro z; cases z)
      refine zr_aload_n zi197_87 rfl ?_
      refine zr_getfield zi197_88 (W1.1.at0 rfl) rfl ?_
      refine zr_iload_n zi197_91 rfl ?_
      refine zr_ialoadN zi197_92 (W1.ca.at0 rfl) rfl (by omega) (by first | omega | (simp only [List.length_set, zpt_len]; omega)) ?_
      refine zr_iastoreN zi197_93 (P1.ca.at0 rfl) (by omega) (by first | omega | (simp only [List.length_set, rTl_len]; omega)) ?_
      refine rB.wca P1 (by first | omega | (simp only [List.length_set, zpt_len]; omega)) (fun h93 F93 P93 => ?_)
      have W_93 := W1.fr F93 (by intro x z1 z2; have := z2.1; have := z2.2; rcases z1 with z | z | z <;> (have := z.1; have := z.2; omega))
      refine zr_iincN (z := 1) (L' := [some (.ref _), some (.int (zJ _)), some (.ref _), some (.int (zJ _)), some (.int (zJ _)), none, none, none]) zi197_94 rfl rfl rfl rfl ?_
      refine zr_goto zi197_97 rfl ?_
      refine ih28 (by omega) _ _ (F1.trans (F93.mono (fun x _ z => Or.inr (Or.inr (Or.inr z))) (Nat.le_refl _) (Nat.le_refl _))) (by have := F93.2.1; have := F93.2.2.1; omega) ?_ W_93
      rw [rTl]
      first | (rw [if_pos hz]; exact P93) | (rw [if_neg hz]; exact P93)
    · refine zr_iconst (v := zJ 1) zi197_44 rfl ?_
      refine zr_goto zi197_45 rfl ?_
      refine zr_istore (L' := [some (.ref _), some (.int (zJ _)), some (.ref _), some (.int (zJ _)), some (.int (zJ _)), none, none, none]) zi197_49 rfl rfl ?_
      refine zr_aload_n zi197_51 rfl ?_
      refine zr_getfield zi197_52 (P1.1.at0 rfl) rfl ?_
      refine zr_aload_n zi197_55 rfl ?_
      refine zr_iload_n zi197_56 rfl ?_
      refine zr_iload_n zi197_57 rfl ?_
      refine zr_static zi197_58 rfl rfl rfl rfl ?_
      refine zcall_dep (d := 0) (Nat.le_of_ble_eq_true rfl) (c199 W1 (by omega) (zbk_v ?_))
      rw [(htl (by omega)).1]
      have htl2 := (htl (by omega)).2
      refine zr_iload_n zi197_61 rfl ?_
      refine zr_if_eqN zi197_62 rfl (by omega) (fun q62 => absurd q62 (by omega)) (fun q62 => ?_)
      refine zr_iload_n zi197_65 rfl ?_
      refine zr_iconst (v := zJ 1) zi197_66 rfl ?_
      refine zr_icmp_neN zi197_67 rfl (by omega) (by omega) (fun q67 => ?_) (fun q67 => absurd q67 (by omega))
      have hz : ¬ zrw hh k 2 = true := (by unfold zrw; intro z; cases z)
      refine zr_aload_n zi197_87 rfl ?_
      refine zr_getfield zi197_88 (W1.1.at0 rfl) rfl ?_
      refine zr_iload_n zi197_91 rfl ?_
      refine zr_ialoadN zi197_92 (W1.ca.at0 rfl) rfl (by omega) (by first | omega | (simp only [List.length_set, zpt_len]; omega)) ?_
      refine zr_iastoreN zi197_93 (P1.ca.at0 rfl) (by omega) (by first | omega | (simp only [List.length_set, rTl_len]; omega)) ?_
      refine rB.wca P1 (by first | omega | (simp only [List.length_set, zpt_len]; omega)) (fun h93 F93 P93 => ?_)
      have W_93 := W1.fr F93 (by intro x z1 z2; have := z2.1; have := z2.2; rcases z1 with z | z | z <;> (have := z.1; have := z.2; omega))
      refine zr_iincN (z := 1) (L' := [some (.ref _), some (.int (zJ _)), some (.ref _), some (.int (zJ _)), some (.int (zJ _)), none, none, none]) zi197_94 rfl rfl rfl rfl ?_
      refine zr_goto zi197_97 rfl ?_
      refine ih28 (by omega) _ _ (F1.trans (F93.mono (fun x _ z => Or.inr (Or.inr (Or.inr z))) (Nat.le_refl _) (Nat.le_refl _))) (by have := F93.2.1; have := F93.2.2.1; omega) ?_ W_93
      rw [rTl]
      first | (rw [if_pos hz]; exact P93) | (rw [if_neg hz]; exact P93)
