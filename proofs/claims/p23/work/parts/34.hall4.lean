/-! ===== the hall: digest, alike, made ===== -/
def zfst (f : Nat → Bool) : Nat → Nat → Int32
  | 0, _ => -1
  | m + 1, k => if f k = true then zJ k else zfst f m (k + 1)
theorem zfst_y {f : Nat → Bool} {t : Nat} (h : f t = true) (ht : t < 8) : zfst f (8 - t) t = zJ t := by
  rw [show 8 - t = (8 - (t + 1)) + 1 by omega, zfst, if_pos h]
theorem zfst_n {f : Nat → Bool} {t : Nat} (h : f t = false) (ht : t < 8) : zfst f (8 - t) t = zfst f (8 - (t + 1)) (t + 1) := by
  rw [show 8 - t = (8 - (t + 1)) + 1 by omega, zfst, if_neg (by rw [h]; decide)]
def zaK (L : List yBS) (x y v : Int32) : Prop := ∃ (k k3 : Nat) (β β3 : yBS), L[k]? = some β ∧ x = zJ k ∧ L[k3]? = some β3 ∧ y = zJ k3 ∧ v = zfst (fun t => zia β.2.1.1 β.2.1.2.1 β.2.1.2.2.2.1 β3.2.1.1 β3.2.1.2.1 β3.2.1.2.2.2.1 t) 8 0
theorem c61 {E : zEnv} {h : zPH} {Q : zOut → zPH → Prop} (S : ySs E h) {a : Nat} {L : List yBS} {rf : Int32} {τ : yGS} {αt : yAS} (C : yC h a L rf τ αt) {x y : Int32} (K : zin x L.length → zin y L.length → ∀ v, zaK L x y v → yK Q h a L L rf 0 0 (.inl (some (.int v)))) (X2 : ¬ zin x L.length → Q (.inr 2) (zex h)) (Y2 : ¬ zin y L.length → Q (.inr 2) (zex h)) : zcall E 2 61 [.ref a, .int x, .int y] h Q := by
  have H := C.1
  have hlen := C.len
  have hbl : (L.map (·.1)).length = L.length := by rw [List.length_map]
  show zwp E _ 61 (0, [some (.ref _), some (.int _), some (.int _), none, none, none], [], _) Q
  refine zr_aload_n zi61_0 rfl ?_
  refine zr_iload_n zi61_1 rfl ?_
  refine zr_virtual zi61_2 rfl rfl (H.1.at0 rfl) rfl rfl ?_
  refine zcall_dep (d := 0) (Nat.le_of_ble_eq_true rfl) (c13 C (fun k β hk ex => zbk_v ?_) (fun x2 => zbk_no rfl (X2 x2)))
  subst ex
  obtain ⟨b, ⟨w, hh, cs, cl, fs⟩, α, kp, gd, gu, mi, sp⟩ := β
  have B : yB h b w hh cs cl fs α kp gd gu mi sp := (C.bd hk).1
  have hab : a + 16 ≤ b := (C.bd hk).2
  obtain ⟨⟨gw1, gw2, gh1, gh2⟩, gcs, gcl, gfs⟩ := B.gr.2
  obtain ⟨bkp, bgd, bgu⟩ := B.2.2.2.2
  have hwh := zwh_b B.gr.2.1
  have hz : zin (zJ k) L.length := ⟨k, ylt_of hk, rfl⟩
  refine zr_getfield zi61_5 (B.1.at0 rfl) rfl ?_
  refine zr_astore_n (L' := [some (.ref _), some (.int (zJ _)), some (.int _), some (.ref _), none, none]) zi61_8 rfl rfl ?_
  refine zr_aload_n zi61_9 rfl ?_
  refine zr_iload_n zi61_10 rfl ?_
  refine zr_virtual zi61_11 rfl rfl (H.1.at0 rfl) rfl rfl ?_
  refine zcall_dep (d := 0) (Nat.le_of_ble_eq_true rfl) (c13 C (fun k3 β3 hk3 ex3 => zbk_v ?_) (fun x11 => zbk_no rfl (Y2 x11)))
  have hz3 : zin y L.length := ⟨k3, ylt_of hk3, ex3⟩
  subst ex3
  obtain ⟨b3, ⟨w3, hh3, cs3, cl3, fs3⟩, α3, kp3, gd3, gu3, mi3, sp3⟩ := β3
  have B3 := yBt.out (C.bd hk3).1
  refine zr_getfield zi61_14 (B3.1.at0 rfl) rfl ?_
  refine zr_astore (L' := [some (.ref _), some (.int (zJ _)), some (.int (zJ _)), some (.ref _), some (.ref _), none]) zi61_17 rfl rfl ?_
  refine zr_iconst (v := zJ 0) zi61_19 rfl ?_
  refine zr_istore (L' := [some (.ref _), some (.int (zJ _)), some (.int (zJ _)), some (.ref _), some (.ref _), some (.int (zJ _))]) zi61_20 rfl rfl ?_
  suffices key22 : (zfst (fun t => zia w hh cl w3 hh3 cl3 t) 8 0 = zfst (fun t => zia w hh cl w3 hh3 cl3 t) (8 - 0) 0) → zwp E 2 61 (22, [some (.ref a), some (.int (zJ k)), some (.int (zJ k3)), some (.ref (b + 13)), some (.ref (b3 + 13)), some (.int (zJ 0))], [], h) Q from key22 rfl
  refine zloop (P := fun t => (zfst (fun t => zia w hh cl w3 hh3 cl3 t) 8 0 = zfst (fun t => zia w hh cl w3 hh3 cl3 t) (8 - t) t) → zwp E 2 61 (22, [some (.ref a), some (.int (zJ k)), some (.int (zJ k3)), some (.ref (b + 13)), some (.ref (b3 + 13)), some (.int (zJ t))], [], h) Q) (n := 8) fun t hk22 ih22 => ?_
  intro hF
  refine zr_iload zi61_22 rfl ?_
  refine zr_bipush (v := zJ 8) zi61_24 rfl ?_
  refine zr_icmp_geN zi61_26 rfl (by omega) (by omega) (fun q26 => ?_) (fun q26 => ?_)
  · refine zr_iconst (v := (-1)) zi61_49 rfl ?_
    refine zr_ireturn zi61_50 rfl ?_
    exact K hz hz3 _ ⟨k, k3, _, _, hk, rfl, hk3, rfl, by rw [show zfst _ 8 0 = _ from hF, show 8 - t = 0 by omega]; rfl⟩ _ _ _ _ (yEqA.refl L) (yFr.refl _ _) C
  · refine zr_aload_n zi61_29 rfl ?_
    refine zr_aload zi61_30 rfl ?_
    refine zr_iload zi61_32 rfl ?_
    refine zr_virtual zi61_34 rfl rfl (B.gr.1.at0 rfl) rfl rfl ?_
    refine zcall_dep (d := 1) (Nat.le_of_ble_eq_true rfl) (c62 B.gr B3.gr (by omega) (zbk_v ?_))
    refine zr_if_eqB zi61_37 rfl (fun q37 => ?_) (fun q37 => ?_)
    · refine zr_iincN (z := 1) (L' := [some (.ref _), some (.int (zJ _)), some (.int (zJ _)), some (.ref _), some (.ref _), some (.int (zJ _))]) zi61_43 rfl rfl rfl rfl ?_
      refine zr_goto zi61_46 rfl ?_
      exact ih22 (by omega) (hF.trans (zfst_n (f := (fun t => zia w hh cl w3 hh3 cl3 t)) q37 (by omega)))
    · refine zr_iload zi61_40 rfl ?_
      refine zr_ireturn zi61_42 rfl ?_
      exact K hz hz3 _ ⟨k, k3, _, _, hk, rfl, hk3, rfl, (hF.trans (zfst_y (f := (fun t => zia w hh cl w3 hh3 cl3 t)) q37 (by omega))).symm⟩ _ _ _ _ (yEqA.refl L) (yFr.refl _ _) C
/-! what a digest is made of -/
abbrev zDV := (Nat → Int64) × (Nat → Nat → Int64) × (Nat → Nat → Int64) × (Nat → Int64) × (Nat → Int64)
def zdg (f : Nat → Int64) (d : Int64) : Nat → Int64
  | 0 => d
  | n + 1 => zdg f d n * 31 + f n
theorem zdg_s (f : Nat → Int64) (d : Int64) (n : Nat) : zdg f d (n + 1) = zdg f d n * 31 + f n := rfl
theorem zdg7 (f : Nat → Int64) (d : Int64) : zdg f d 7 = ((((((d * 31 + f 0) * 31 + f 1) * 31 + f 2) * 31 + f 3) * 31 + f 4) * 31 + f 5) * 31 + f 6 := rfl
def zdc (f : Nat → Nat → Int64) (d : Int64) : Nat → Int64
  | 0 => d
  | c + 1 => zdg (f c) (zdc f d c) 4
def zdl (f : Nat → Nat → Int64) (g : Nat → Int64) (d : Int64) : Nat → Int64
  | 0 => d
  | i + 1 => zdg (f i) (zdl f g d i) 6 * 31 + g i
theorem zdl_s (f : Nat → Nat → Int64) (g : Nat → Int64) (d : Int64) (i : Nat) : zdl f g d (i + 1) = zdg (f i) (zdl f g d i) 6 * 31 + g i := rfl
def zdB (V : zDV) (n m : Nat) (d : Int64) : Int64 := zdg V.2.2.2.2 (zdl V.2.2.1 V.2.2.2.1 (zdc V.2.1 (zdg V.1 d 11) n) m) 7
def zOKp (L : List yBS) (k : Nat) (V : zDV) (w hh : Nat) (cs cl fs : List Int32) (α : yAS) (gu : Nat) (mi sp : Int32) : Prop :=
  (∀ t, t < 11 → (if t = 7 ∨ t = 10 then yoa w hh cs cl fs α t else yob w hh cs cl fs gu mi sp t).toInt64 = V.1 t) ∧
  (∀ c t, c < w * hh → t < 4 → (cs.getD (c * 4 + t) 0).toInt64 = V.2.1 c t) ∧
  (∀ i t, i < w + hh → t < 6 → (zof w hh cs cl fs i t).toInt64 = V.2.2.1 i t) ∧
  (∀ i, i < w + hh → (zwF (zws w hh cs fs i) 0 32 0 0).toInt64 = V.2.2.2.1 i) ∧
  (ypn (yLk w hh 500 cs cl fs α).1.1 (yLk w hh 500 cs cl fs α).2.2.2.2.2.2 0).toInt64 = V.2.2.2.2 0 ∧
  (∀ t, t < 2 → ∀ v, FP.Core.DFin v → v = (if t = 0 then ylo w hh cs fs else FP.f2d (yfo .g cs (yLk w hh 500 cs cl fs α) (w * hh)).1) → FP.d2l (FP.dmul 4634204016564240384 v) = V.2.2.2.2 (1 + t)) ∧
  (zhn w hh cs fs (w + hh)).1.toInt64 = V.2.2.2.2 3 ∧
  (∀ v, v = (if (yLk w hh 500 cs cl fs α).2.2.2.2.2.2 = 0 then -1 else (yts cs (yLk w hh 500 cs cl fs α) (w * hh)).1) → v.toInt64 = V.2.2.2.2 4) ∧
  (ynd (yLk w hh 500 cs cl fs α).1.1 (yLk w hh 500 cs cl fs α).2.2.2.2.2.2 ((yLk w hh 500 cs cl fs α).2.2.2.1 * (yLk w hh 500 cs cl fs α).2.2.2.2.1)).toInt64 = V.2.2.2.2 5 ∧
  (∀ v, zaK L (zJ k) (zJ 0) v → v.toInt64 = V.2.2.2.2 6)
def zOK (a : Nat) (L : List yBS) (rf : Int32) (k : Nat) (V : zDV) : Prop := ∀ (h1 : zPH) (L1 : List yBS) (τ1 : yGS) (αt1 : yAS), yEqA L L1 → yC h1 a L1 rf τ1 αt1 → ∀ (b w hh : Nat) (cs cl fs : List Int32) (α : yAS) (kp gd : List Int32) (gu : Nat) (mi sp : Int32), L1[k]? = some (b, (w, hh, cs, cl, fs), α, kp, gd, gu, mi, sp) → zOKp L1 k V w hh cs cl fs α gu mi sp
theorem zoK_at {a : Nat} {L L1 : List yBS} {rf : Int32} {k k2 : Nat} {V : zDV} {h1 : zPH} {τ1 : yGS} {αt1 : yAS} (o : zOK a L rf k V) (E : yEqA L L1) (C : yC h1 a L1 rf τ1 αt1) {b w hh : Nat} {cs cl fs : List Int32} {α : yAS} {kp gd : List Int32} {gu : Nat} {mi sp : Int32} (hk : L1[k2]? = some (b, (w, hh, cs, cl, fs), α, kp, gd, gu, mi, sp)) (e : zJ k = zJ k2) (hkl : k < L.length) : zOKp L1 k V w hh cs cl fs α gu mi sp := by
  have h3 := C.len
  have h4 := ylt_of hk
  have h5 := E.len
  obtain rfl := (zJ_eq (by omega) (by omega)).mp e
  exact o _ _ _ _ E C _ _ _ _ _ _ _ _ _ _ _ _ hk
def zMF (L : List yBS) (rf : Int32) (f : Nat → Int64) : Prop := ∀ (L1 : List yBS) (t : Nat), yEqA L L1 → t < 5 → (zmy L1 rf t).toInt64 = f t
def yDH (a : Nat) (L : List yBS) (rf : Int32) (d5 : Int64) : Nat → Int64 → Prop
  | 0, z => z = d5
  | i + 1, z => ∃ z0, yDH a L rf d5 i z0 ∧ ∀ β, L[i]? = some β → ∀ V, zOK a L rf i V → z = zdB V (β.2.1.1 * β.2.1.2.1) (β.2.1.1 + β.2.1.2.1) z0
def yDG (a : Nat) (L : List yBS) (rf : Int32) (v : Int64) : Prop := ∃ d5, (∀ f, zMF L rf f → d5 = zdg f 58319 5) ∧ yDH a L rf d5 L.length v
theorem c17 {E : zEnv} {h : zPH} {Q : zOut → zPH → Prop} (S : ySs E h) {a : Nat} {L : List yBS} {rf : Int32} {τ : yGS} {αt : yAS} (C : yC h a L rf τ αt) {k b w hh : Nat} {cs cl fs : List Int32} {α : yAS} {kp gd : List Int32} {gu : Nat} {mi sp : Int32} {d0 : Int64} (hk : L[k]? = some (b, (w, hh, cs, cl, fs), α, kp, gd, gu, mi, sp)) (K : ∀ v, (∀ V, zOK a L rf k V → v = zdB V (w * hh) (w + hh) d0) → yK Q h a L L rf 0 0 (.inl (some (.long v)))) : zcall E 17 17 [.ref a, .long d0, .int (zJ k)] h Q := by
  have H := C.1
  have hlen := C.len
  have hbl : (L.map (·.1)).length = L.length := by rw [List.length_map]
  have hkl := ylt_of hk
  show zwp E _ 17 (0, [some (.ref _), some (.long _), none, some (.int (zJ _)), none, none, none, none, none], [], _) Q
  refine zr_lload_n zi17_0 rfl ?_
  refine zr_lstore (L' := [some (.ref _), some (.long _), none, some (.int (zJ _)), some (.long _), none, none, none, none]) zi17_1 rfl rfl ?_
  refine zr_aload_n zi17_3 rfl ?_
  refine zr_iload_n zi17_4 rfl ?_
  refine zr_virtual zi17_5 rfl rfl (H.1.at0 rfl) rfl rfl ?_
  refine zcall_dep (d := 0) (Nat.le_of_ble_eq_true rfl) (c13k C.1 (k := k) (b := b) (by rw [List.getElem?_map, hk]; rfl) (zbk_v ?_))
  have B : yB h b w hh cs cl fs α kp gd gu mi sp := (C.bd hk).1
  have hab : a + 16 ≤ b := (C.bd hk).2
  obtain ⟨⟨gw1, gw2, gh1, gh2⟩, gcs, gcl, gfs⟩ := B.gr.2
  obtain ⟨bkp, bgd, bgu⟩ := B.2.2.2.2
  have hwh := zwh_b B.gr.2.1
  refine zr_getfield zi17_8 (B.1.at0 rfl) rfl ?_
  refine zr_astore (L' := [some (.ref _), some (.long _), none, some (.int (zJ _)), some (.long _), none, some (.ref _), none, none]) zi17_11 rfl rfl ?_
  refine zr_iconst (v := zJ 0) zi17_13 rfl ?_
  refine zr_istore (L' := [some (.ref _), some (.long _), none, some (.int (zJ _)), some (.long _), none, some (.ref _), some (.int (zJ _)), none]) zi17_14 rfl rfl ?_
  suffices key16 : ∀ h1 L1 τ1 αt1 (dd : Int64) x8, (yEqA L L1) → (yFr (yPb a (L.map (·.1))) h h1 0 0) → (yC h1 a L1 rf τ1 αt1) → (∀ V, zOK a L rf k V → dd = zdg V.1 d0 0) → zwp E 17 17 (16, [some (.ref a), some (.long d0), none, some (.int (zJ k)), some (.long dd), none, some (.ref (b + 13)), some (.int (zJ 0)), x8], [], h1) Q from key16 _ _ _ _ _ _ (yEqA.refl L) (yFr.refl _ _) C (fun _ _ => rfl)
  refine zloop (P := fun i => ∀ h1 L1 τ1 αt1 (dd : Int64) x8, (yEqA L L1) → (yFr (yPb a (L.map (·.1))) h h1 0 0) → (yC h1 a L1 rf τ1 αt1) → (∀ V, zOK a L rf k V → dd = zdg V.1 d0 i) → zwp E 17 17 (16, [some (.ref a), some (.long d0), none, some (.int (zJ k)), some (.long dd), none, some (.ref (b + 13)), some (.int (zJ i)), x8], [], h1) Q) (n := 11) fun i hk16 ih16 => ?_
  intro h1 L1 τ1 αt1 dd x8 E1 F1 C1 HD
  have S_1 := F1.ss S
  have hn1 := E1.len
  have hm1 := E1.map1
  obtain ⟨αn1, hk1⟩ := E1.atT hk
  have B1 := yBt.out (C1.bd hk1).1
  refine zr_iload zi17_16 rfl ?_
  refine zr_bipush (v := zJ 10) zi17_18 rfl ?_
  refine zr_icmp_gtN zi17_20 rfl (by omega) (by omega) (fun q20 => ?_) (fun q20 => ?_)
  · refine zr_iconst (v := zJ 0) zi17_46 rfl ?_
    refine zr_istore (L' := [some (.ref _), some (.long _), none, some (.int (zJ _)), some (.long _), none, some (.ref _), some (.int (zJ _)), _]) zi17_47 rfl rfl ?_
    suffices key49 : ∀ h1 L1 τ1 αt1 (dd : Int64) x8, (yEqA L L1) → (yFr (yPb a (L.map (·.1))) h h1 0 0) → (yC h1 a L1 rf τ1 αt1) → (∀ V, zOK a L rf k V → dd = zdc V.2.1 (zdg V.1 d0 11) 0) → zwp E 17 17 (49, [some (.ref a), some (.long d0), none, some (.int (zJ k)), some (.long dd), none, some (.ref (b + 13)), some (.int (zJ 0)), x8], [], h1) Q from key49 _ _ _ _ _ _ E1 F1 C1 (fun V o => by have e := HD V o; rw [show i = 11 by omega] at e; exact e)
    refine zloop (P := fun i => ∀ h1 L1 τ1 αt1 (dd : Int64) x8, (yEqA L L1) → (yFr (yPb a (L.map (·.1))) h h1 0 0) → (yC h1 a L1 rf τ1 αt1) → (∀ V, zOK a L rf k V → dd = zdc V.2.1 (zdg V.1 d0 11) i) → zwp E 17 17 (49, [some (.ref a), some (.long d0), none, some (.int (zJ k)), some (.long dd), none, some (.ref (b + 13)), some (.int (zJ i)), x8], [], h1) Q) (n := w * hh) fun i hk49 ih49 => ?_
    intro h1 L1 τ1 αt1 dd x8 E1 F1 C1 HD
    have S_1 := F1.ss S
    have hn1 := E1.len
    have hm1 := E1.map1
    obtain ⟨αn1, hk1⟩ := E1.atT hk
    have B1 := yBt.out (C1.bd hk1).1
    refine zr_iload zi17_49 rfl ?_
    refine zr_aload zi17_51 rfl ?_
    refine zr_virtual zi17_53 rfl rfl (B1.gr.1.at0 rfl) rfl rfl ?_
    refine zcall_dep (d := 0) (Nat.le_of_ble_eq_true rfl) (c15 B1.gr (zbk_v ?_))
    refine zr_icmp_geN zi17_56 rfl (by omega) (by omega) (fun q56 => ?_) (fun q56 => ?_)
    · refine zr_iconst (v := zJ 0) zi17_99 rfl ?_
      refine zr_istore (L' := [some (.ref _), some (.long _), none, some (.int (zJ _)), some (.long _), none, some (.ref _), some (.int (zJ _)), _]) zi17_100 rfl rfl ?_
      suffices key102 : ∀ h1 L1 τ1 αt1 (dd : Int64) x8, (yEqA L L1) → (yFr (yPb a (L.map (·.1))) h h1 0 0) → (yC h1 a L1 rf τ1 αt1) → (∀ V, zOK a L rf k V → dd = zdl V.2.2.1 V.2.2.2.1 (zdc V.2.1 (zdg V.1 d0 11) (w * hh)) 0) → zwp E 17 17 (102, [some (.ref a), some (.long d0), none, some (.int (zJ k)), some (.long dd), none, some (.ref (b + 13)), some (.int (zJ 0)), x8], [], h1) Q from key102 _ _ _ _ _ _ E1 F1 C1 (fun V o => by have e := HD V o; rw [show i = w * hh by omega] at e; exact e)
      refine zloop (P := fun i => ∀ h1 L1 τ1 αt1 (dd : Int64) x8, (yEqA L L1) → (yFr (yPb a (L.map (·.1))) h h1 0 0) → (yC h1 a L1 rf τ1 αt1) → (∀ V, zOK a L rf k V → dd = zdl V.2.2.1 V.2.2.2.1 (zdc V.2.1 (zdg V.1 d0 11) (w * hh)) i) → zwp E 17 17 (102, [some (.ref a), some (.long d0), none, some (.int (zJ k)), some (.long dd), none, some (.ref (b + 13)), some (.int (zJ i)), x8], [], h1) Q) (n := w + hh) fun i hk102 ih102 => ?_
      intro h1 L1 τ1 αt1 dd x8 E1 F1 C1 HD
      have S_1 := F1.ss S
      have hn1 := E1.len
      have hm1 := E1.map1
      obtain ⟨αn1, hk1⟩ := E1.atT hk
      have B1 := yBt.out (C1.bd hk1).1
      refine zr_iload zi17_102 rfl ?_
      refine zr_aload zi17_104 rfl ?_
      refine zr_virtual zi17_106 rfl rfl (B1.gr.1.at0 rfl) rfl rfl ?_
      refine zcall_dep (d := 0) (Nat.le_of_ble_eq_true rfl) (c4 B1.gr (zbk_v ?_))
      refine zr_icmp_geN zi17_109 rfl (by omega) (by omega) (fun q109 => ?_) (fun q109 => ?_)
      · refine zr_lload zi17_170 rfl ?_
        refine zr_ldc2l zi17_172 ?_
        refine zr_lmul zi17_175 ?_
        refine zr_aload_n zi17_176 rfl ?_
        refine zr_iload_n zi17_177 rfl ?_
        refine zr_iconst (v := zJ 0) zi17_178 rfl ?_
        refine zr_virtual zi17_179 rfl rfl (C1.1.1.at0 rfl) rfl rfl ?_
        refine zcall_dep (d := 16) (Nat.le_of_ble_eq_true rfl) (c47 S_1 C1 (fun k2 b2 w2 hh2 cs2 cl2 fs2 α2 kp2 gd2 gu2 mi2 sp2 hk2 ek2 c2 hc2 ec2 h179 L179 τ179 α179 e179 F179 C179 => zbk_v ?_) (fun x => absurd ⟨k, by have := ylt_of hk1; omega, rfl⟩ x) (fun k2 b2 w2 hh2 cs2 cl2 fs2 α2 kp2 gd2 gu2 mi2 sp2 hk2 ek2 x2 => by have e2 := yk_eq hk1 hk2 ek2 (by have := E1.len; omega); cases e2; exact absurd ⟨_, by omega, rfl⟩ x2))
        have g179 : ∀ V, zOK a L rf k V → (ypn (yLk w2 hh2 500 cs2 cl2 fs2 α2).1.1 (yLk w2 hh2 500 cs2 cl2 fs2 α2).2.2.2.2.2.2 c2).toInt64 = V.2.2.2.2 0 := fun V o => by
          have e2 := yk_eq hk1 hk2 ek2 (by have := E1.len; omega)
          cases e2
          have p := zoK_at o E1 C1 hk2 ek2 hkl
          rw [← (zJ_eq (by omega) (by omega)).mp ec2]
          exact p.2.2.2.2.1
        have E179 := yEqA.trans E1 e179
        have F179m := yFr.mp F179 E1
        have S_179 := F179.ss S_1
        have hn179 := E179.len
        obtain ⟨αn179, hk179⟩ := E179.atT hk
        have B179 := yBt.out (C179.bd hk179).1
        refine zr_i2l zi17_182 ?_
        refine zr_ladd zi17_183 ?_
        refine zr_lstore (L' := [some (.ref _), some (.long _), none, some (.int (zJ _)), some (.long _), none, some (.ref _), some (.int (zJ _)), _]) zi17_184 rfl rfl ?_
        refine zr_lload zi17_186 rfl ?_
        refine zr_ldc2l zi17_188 ?_
        refine zr_lmul zi17_191 ?_
        refine zr_ldc2d zi17_192 ?_
        refine zr_aload_n zi17_195 rfl ?_
        refine zr_iload_n zi17_196 rfl ?_
        refine zr_iconst (v := zJ 0) zi17_197 rfl ?_
        refine zr_virtual zi17_198 rfl rfl (C179.1.1.at0 rfl) rfl rfl ?_
        refine zcall_dep (d := 16) (Nat.le_of_ble_eq_true rfl) (c49 S_179 C179 (fun k2 b2 w2 hh2 cs2 cl2 fs2 α2 kp2 gd2 gu2 mi2 sp2 hk2 ek2 t2 ht2 et2 v198 M198 z198 h198 L198 τ198 α198 e198 F198 C198 => zbk_v ?_) (fun x => absurd ⟨k, by have := ylt_of hk179; omega, rfl⟩ x) (fun k2 b2 w2 hh2 cs2 cl2 fs2 α2 kp2 gd2 gu2 mi2 sp2 hk2 ek2 x2 => by have e2 := yk_eq hk179 hk2 ek2 (by have := E179.len; omega); cases e2; exact absurd ⟨_, by omega, rfl⟩ x2))
        have g198 : ∀ V, zOK a L rf k V → FP.d2l (FP.dmul 4634204016564240384 v198) = V.2.2.2.2 1 := fun V o => by
          have e2 := yk_eq hk179 hk2 ek2 (by have := E179.len; omega)
          cases e2
          have p := zoK_at o E179 C179 hk2 ek2 hkl
          have et : 0 = t2 := (zJ_eq (by omega) (by omega)).mp et2
          subst et
          exact p.2.2.2.2.2.1 0 (by decide) v198 M198 z198
        have E198 := yEqA.trans E179 e198
        have F198m := yFr.mp F198 E179
        have S_198 := F198.ss S_179
        have hn198 := E198.len
        obtain ⟨αn198, hk198⟩ := E198.atT hk
        have B198 := yBt.out (C198.bd hk198).1
        refine zr_dmul zi17_201 (yzn_mul (yDF_of (K := 1030) (by unfold yM64; decide) (by omega)) M198) ?_
        refine zr_d2l zi17_202 ?_
        refine zr_ladd zi17_203 ?_
        refine zr_lstore (L' := [some (.ref _), some (.long _), none, some (.int (zJ _)), some (.long _), none, some (.ref _), some (.int (zJ _)), _]) zi17_204 rfl rfl ?_
        refine zr_lload zi17_206 rfl ?_
        refine zr_ldc2l zi17_208 ?_
        refine zr_lmul zi17_211 ?_
        refine zr_ldc2d zi17_212 ?_
        refine zr_aload_n zi17_215 rfl ?_
        refine zr_iload_n zi17_216 rfl ?_
        refine zr_iconst (v := zJ 1) zi17_217 rfl ?_
        refine zr_virtual zi17_218 rfl rfl (C198.1.1.at0 rfl) rfl rfl ?_
        refine zcall_dep (d := 16) (Nat.le_of_ble_eq_true rfl) (c49 S_198 C198 (fun k2 b2 w2 hh2 cs2 cl2 fs2 α2 kp2 gd2 gu2 mi2 sp2 hk2 ek2 t2 ht2 et2 v218 M218 z218 h218 L218 τ218 α218 e218 F218 C218 => zbk_v ?_) (fun x => absurd ⟨k, by have := ylt_of hk198; omega, rfl⟩ x) (fun k2 b2 w2 hh2 cs2 cl2 fs2 α2 kp2 gd2 gu2 mi2 sp2 hk2 ek2 x2 => by have e2 := yk_eq hk198 hk2 ek2 (by have := E198.len; omega); cases e2; exact absurd ⟨_, by omega, rfl⟩ x2))
        have g218 : ∀ V, zOK a L rf k V → FP.d2l (FP.dmul 4634204016564240384 v218) = V.2.2.2.2 2 := fun V o => by
          have e2 := yk_eq hk198 hk2 ek2 (by have := E198.len; omega)
          cases e2
          have p := zoK_at o E198 C198 hk2 ek2 hkl
          have et : 1 = t2 := (zJ_eq (by omega) (by omega)).mp et2
          subst et
          exact p.2.2.2.2.2.1 1 (by decide) v218 M218 z218
        have E218 := yEqA.trans E198 e218
        have F218m := yFr.mp F218 E198
        have S_218 := F218.ss S_198
        have hn218 := E218.len
        obtain ⟨αn218, hk218⟩ := E218.atT hk
        have B218 := yBt.out (C218.bd hk218).1
        refine zr_dmul zi17_221 (yzn_mul (yDF_of (K := 1030) (by unfold yM64; decide) (by omega)) M218) ?_
        refine zr_d2l zi17_222 ?_
        refine zr_ladd zi17_223 ?_
        refine zr_lstore (L' := [some (.ref _), some (.long _), none, some (.int (zJ _)), some (.long _), none, some (.ref _), some (.int (zJ _)), _]) zi17_224 rfl rfl ?_
        refine zr_lload zi17_226 rfl ?_
        refine zr_ldc2l zi17_228 ?_
        refine zr_lmul zi17_231 ?_
        refine zr_aload_n zi17_232 rfl ?_
        refine zr_iload_n zi17_233 rfl ?_
        refine zr_virtual zi17_234 rfl rfl (C218.1.1.at0 rfl) rfl rfl ?_
        refine zcall_dep (d := 3) (Nat.le_of_ble_eq_true rfl) (c55 S_218 C218 (fun k2 b2 w2 hh2 cs2 cl2 fs2 α2 kp2 gd2 gu2 mi2 sp2 hk2 ek2  h234 L234 τ234 α234 e234 F234 C234 => zbk_v ?_) (fun x => absurd ⟨k, by have := ylt_of hk218; omega, rfl⟩ x))
        have g234 : ∀ V, zOK a L rf k V → (zhn w2 hh2 cs2 fs2 (w2 + hh2)).1.toInt64 = V.2.2.2.2 3 := fun V o => by
          have e2 := yk_eq hk218 hk2 ek2 (by have := E218.len; omega)
          cases e2
          have p := zoK_at o E218 C218 hk2 ek2 hkl
          exact p.2.2.2.2.2.2.1
        have E234 := yEqA.trans E218 e234
        have F234m := yFr.mp F234 E218
        have S_234 := F234.ss S_218
        have hn234 := E234.len
        obtain ⟨αn234, hk234⟩ := E234.atT hk
        have B234 := yBt.out (C234.bd hk234).1
        refine zr_i2l zi17_237 ?_
        refine zr_ladd zi17_238 ?_
        refine zr_lstore (L' := [some (.ref _), some (.long _), none, some (.int (zJ _)), some (.long _), none, some (.ref _), some (.int (zJ _)), _]) zi17_239 rfl rfl ?_
        refine zr_lload zi17_241 rfl ?_
        refine zr_ldc2l zi17_243 ?_
        refine zr_lmul zi17_246 ?_
        refine zr_aload_n zi17_247 rfl ?_
        refine zr_iload_n zi17_248 rfl ?_
        refine zr_virtual zi17_249 rfl rfl (C234.1.1.at0 rfl) rfl rfl ?_
        refine zcall_dep (d := 16) (Nat.le_of_ble_eq_true rfl) (c56 S_234 C234 (fun k2 b2 w2 hh2 cs2 cl2 fs2 α2 kp2 gd2 gu2 mi2 sp2 hk2 ek2 v249 z249 h249 L249 τ249 α249 e249 F249 C249 => zbk_v ?_) (fun x => absurd ⟨k, by have := ylt_of hk234; omega, rfl⟩ x))
        have g249 : ∀ V, zOK a L rf k V → v249.toInt64 = V.2.2.2.2 4 := fun V o => by
          have e2 := yk_eq hk234 hk2 ek2 (by have := E234.len; omega)
          cases e2
          have p := zoK_at o E234 C234 hk2 ek2 hkl
          exact p.2.2.2.2.2.2.2.1 v249 z249
        have E249 := yEqA.trans E234 e249
        have F249m := yFr.mp F249 E234
        have S_249 := F249.ss S_234
        have hn249 := E249.len
        obtain ⟨αn249, hk249⟩ := E249.atT hk
        have B249 := yBt.out (C249.bd hk249).1
        refine zr_i2l zi17_252 ?_
        refine zr_ladd zi17_253 ?_
        refine zr_lstore (L' := [some (.ref _), some (.long _), none, some (.int (zJ _)), some (.long _), none, some (.ref _), some (.int (zJ _)), _]) zi17_254 rfl rfl ?_
        refine zr_lload zi17_256 rfl ?_
        refine zr_ldc2l zi17_258 ?_
        refine zr_lmul zi17_261 ?_
        refine zr_aload_n zi17_262 rfl ?_
        refine zr_iload_n zi17_263 rfl ?_
        refine zr_virtual zi17_264 rfl rfl (C249.1.1.at0 rfl) rfl rfl ?_
        refine zcall_dep (d := 16) (Nat.le_of_ble_eq_true rfl) (c58 S_249 C249 (fun k2 b2 w2 hh2 cs2 cl2 fs2 α2 kp2 gd2 gu2 mi2 sp2 hk2 ek2  h264 L264 τ264 α264 e264 F264 C264 => zbk_v ?_) (fun x => absurd ⟨k, by have := ylt_of hk249; omega, rfl⟩ x))
        have g264 : ∀ V, zOK a L rf k V → (ynd (yLk w2 hh2 500 cs2 cl2 fs2 α2).1.1 (yLk w2 hh2 500 cs2 cl2 fs2 α2).2.2.2.2.2.2 ((yLk w2 hh2 500 cs2 cl2 fs2 α2).2.2.2.1 * (yLk w2 hh2 500 cs2 cl2 fs2 α2).2.2.2.2.1)).toInt64 = V.2.2.2.2 5 := fun V o => by
          have e2 := yk_eq hk249 hk2 ek2 (by have := E249.len; omega)
          cases e2
          have p := zoK_at o E249 C249 hk2 ek2 hkl
          exact p.2.2.2.2.2.2.2.2.1
        have E264 := yEqA.trans E249 e264
        have F264m := yFr.mp F264 E249
        have S_264 := F264.ss S_249
        have hn264 := E264.len
        obtain ⟨αn264, hk264⟩ := E264.atT hk
        have B264 := yBt.out (C264.bd hk264).1
        refine zr_i2l zi17_267 ?_
        refine zr_ladd zi17_268 ?_
        refine zr_lstore (L' := [some (.ref _), some (.long _), none, some (.int (zJ _)), some (.long _), none, some (.ref _), some (.int (zJ _)), _]) zi17_269 rfl rfl ?_
        refine zr_lload zi17_271 rfl ?_
        refine zr_ldc2l zi17_273 ?_
        refine zr_lmul zi17_276 ?_
        refine zr_aload_n zi17_277 rfl ?_
        refine zr_iload_n zi17_278 rfl ?_
        refine zr_iconst (v := zJ 0) zi17_279 rfl ?_
        refine zr_virtual zi17_280 rfl rfl (C264.1.1.at0 rfl) rfl rfl ?_
        refine zcall_dep (d := 2) (Nat.le_of_ble_eq_true rfl) (c61 S_264 C264 (fun _ _ v280 hv280 h280 L280 τ280 α280 e280 F280 C280 => zbk_v ?_) (fun x => absurd ⟨k, by have := ylt_of hk264; omega, rfl⟩ x) (fun x => absurd ⟨0, by have := ylt_of hk264; omega, rfl⟩ x))
        have g280 : ∀ V, zOK a L rf k V → v280.toInt64 = V.2.2.2.2 6 := fun V o => (zoK_at o E264 C264 hk264 rfl hkl).2.2.2.2.2.2.2.2.2 v280 hv280
        have E280 := yEqA.trans E264 e280
        have F280m := yFr.mp F280 E264
        have S_280 := F280.ss S_264
        have hn280 := E280.len
        obtain ⟨αn280, hk280⟩ := E280.atT hk
        have B280 := yBt.out (C280.bd hk280).1
        refine zr_i2l zi17_283 ?_
        refine zr_ladd zi17_284 ?_
        refine zr_lreturn zi17_285 rfl ?_
        refine K _ (fun V o => ?_) _ _ _ _ E280 (((((((F1.trans F179m).trans F198m).trans F218m).trans F234m).trans F249m).trans F264m).trans F280m) C280
        have e := HD V o
        rw [show i = w + hh by omega] at e
        unfold zdB
        rw [zdg7, ← e, g179 V o, g198 V o, g218 V o, g234 V o, g249 V o, g264 V o, g280 V o]
      · refine zr_iconst (v := zJ 0) zi17_112 rfl ?_
        refine zr_istore (L' := [some (.ref _), some (.long _), none, some (.int (zJ _)), some (.long _), none, some (.ref _), some (.int (zJ _)), some (.int (zJ _))]) zi17_113 rfl rfl ?_
        suffices key115 : ∀ h1 L1 τ1 αt1 (dd : Int64), (yEqA L L1) → (yFr (yPb a (L.map (·.1))) h h1 0 0) → (yC h1 a L1 rf τ1 αt1) → (∀ V, zOK a L rf k V → dd = zdg (V.2.2.1 i) (zdl V.2.2.1 V.2.2.2.1 (zdc V.2.1 (zdg V.1 d0 11) (w * hh)) i) 0) → zwp E 17 17 (115, [some (.ref a), some (.long d0), none, some (.int (zJ k)), some (.long dd), none, some (.ref (b + 13)), some (.int (zJ i)), some (.int (zJ 0))], [], h1) Q from key115 _ _ _ _ _ E1 F1 C1 (fun V o => HD V o)
        refine zloop (P := fun u => ∀ h1 L1 τ1 αt1 (dd : Int64), (yEqA L L1) → (yFr (yPb a (L.map (·.1))) h h1 0 0) → (yC h1 a L1 rf τ1 αt1) → (∀ V, zOK a L rf k V → dd = zdg (V.2.2.1 i) (zdl V.2.2.1 V.2.2.2.1 (zdc V.2.1 (zdg V.1 d0 11) (w * hh)) i) u) → zwp E 17 17 (115, [some (.ref a), some (.long d0), none, some (.int (zJ k)), some (.long dd), none, some (.ref (b + 13)), some (.int (zJ i)), some (.int (zJ u))], [], h1) Q) (n := 6) fun u hk115 ih115 => ?_
        intro h1 L1 τ1 αt1 dd E1 F1 C1 HD
        have S_1 := F1.ss S
        have hn1 := E1.len
        have hm1 := E1.map1
        obtain ⟨αn1, hk1⟩ := E1.atT hk
        have B1 := yBt.out (C1.bd hk1).1
        refine zr_iload zi17_115 rfl ?_
        refine zr_iconst (v := zJ 5) zi17_117 rfl ?_
        refine zr_icmp_gtN zi17_118 rfl (by omega) (by omega) (fun q118 => ?_) (fun q118 => ?_)
        · refine zr_lload zi17_146 rfl ?_
          refine zr_ldc2l zi17_148 ?_
          refine zr_lmul zi17_151 ?_
          refine zr_aload_n zi17_152 rfl ?_
          refine zr_iload_n zi17_153 rfl ?_
          refine zr_iload zi17_154 rfl ?_
          refine zr_iconst (v := zJ 0) zi17_156 rfl ?_
          refine zr_virtual zi17_157 rfl rfl (C1.1.1.at0 rfl) rfl rfl ?_
          refine zcall_dep (d := 2) (Nat.le_of_ble_eq_true rfl) (c46 S_1 C1 (fun k2 b2 w2 hh2 cs2 cl2 fs2 α2 kp2 gd2 gu2 mi2 sp2 hk2 ek2 c2 hc2 ec2 t2 ht2 et2 h157 L157 τ157 α157 e157 F157 C157 => zbk_v ?_) (fun x => absurd ⟨k, by have := ylt_of hk1; omega, rfl⟩ x) (fun k2 b2 w2 hh2 cs2 cl2 fs2 α2 kp2 gd2 gu2 mi2 sp2 hk2 ek2 x2 => by have e2 := yk_eq hk1 hk2 ek2 (by have := E1.len; omega); cases e2; exact absurd ⟨_, by omega, rfl⟩ x2) (fun k2 b2 w2 hh2 cs2 cl2 fs2 α2 kp2 gd2 gu2 mi2 sp2 hk2 ek2 _ x2 => absurd x2 (by decide)))
          have g157 : ∀ V, zOK a L rf k V → (zwF (zws w2 hh2 cs2 fs2 c2) t2 32 0 0).toInt64 = V.2.2.2.1 i := fun V o => by
            have e2 := yk_eq hk1 hk2 ek2 (by have := E1.len; omega)
            cases e2
            have p := zoK_at o E1 C1 hk2 ek2 hkl
            rw [(zJ_eq (by omega) (by omega)).mp ec2, ← (zJ_eq (by omega) (by omega)).mp et2]
            exact p.2.2.2.1 c2 hc2
          have E157 := yEqA.trans E1 e157
          have F157m := yFr.mp F157 E1
          have S_157 := F157.ss S_1
          have hn157 := E157.len
          obtain ⟨αn157, hk157⟩ := E157.atT hk
          have B157 := yBt.out (C157.bd hk157).1
          refine zr_i2l zi17_160 ?_
          refine zr_ladd zi17_161 ?_
          refine zr_lstore (L' := [some (.ref _), some (.long _), none, some (.int (zJ _)), some (.long _), none, some (.ref _), some (.int (zJ _)), some (.int (zJ _))]) zi17_162 rfl rfl ?_
          refine zr_iincN (z := 1) (L' := [some (.ref _), some (.long _), none, some (.int (zJ _)), some (.long _), none, some (.ref _), some (.int (zJ _)), some (.int (zJ _))]) zi17_164 rfl rfl rfl rfl ?_
          refine zr_goto zi17_167 rfl ?_
          exact ih102 (by omega) _ _ _ _ _ _ E157 (F1.trans F157m) C157 (fun V o => by have e := HD V o; rw [show u = 6 by omega] at e; rw [zdl_s, ← e, g157 V o])
        · refine zr_lload zi17_121 rfl ?_
          refine zr_ldc2l zi17_123 ?_
          refine zr_lmul zi17_126 ?_
          refine zr_aload_n zi17_127 rfl ?_
          refine zr_iload_n zi17_128 rfl ?_
          refine zr_iload zi17_129 rfl ?_
          refine zr_iload zi17_131 rfl ?_
          refine zr_virtual zi17_133 rfl rfl (C1.1.1.at0 rfl) rfl rfl ?_
          refine zcall_dep (d := 3) (Nat.le_of_ble_eq_true rfl) (c42 S_1 C1 (fun k2 b2 w2 hh2 cs2 cl2 fs2 α2 kp2 gd2 gu2 mi2 sp2 hk2 ek2 c2 hc2 ec2 t2 ht2 et2 h133 L133 τ133 α133 e133 F133 C133 => zbk_v ?_) (fun x => absurd ⟨k, by have := ylt_of hk1; omega, rfl⟩ x) (fun k2 b2 w2 hh2 cs2 cl2 fs2 α2 kp2 gd2 gu2 mi2 sp2 hk2 ek2 x2 => by have e2 := yk_eq hk1 hk2 ek2 (by have := E1.len; omega); cases e2; exact absurd ⟨_, by omega, rfl⟩ x2) (fun k2 b2 w2 hh2 cs2 cl2 fs2 α2 kp2 gd2 gu2 mi2 sp2 hk2 ek2 _ x2 => by have e2 := yk_eq hk1 hk2 ek2 (by have := E1.len; omega); cases e2; exact absurd ⟨_, by omega, rfl⟩ x2))
          have g133 : ∀ V, zOK a L rf k V → (zof w2 hh2 cs2 cl2 fs2 c2 t2).toInt64 = V.2.2.1 i u := fun V o => by
            have e2 := yk_eq hk1 hk2 ek2 (by have := E1.len; omega)
            cases e2
            have p := zoK_at o E1 C1 hk2 ek2 hkl
            rw [(zJ_eq (by omega) (by omega)).mp ec2, (zJ_eq (by omega) (by omega)).mp et2]
            exact p.2.2.1 c2 t2 hc2 ht2
          have E133 := yEqA.trans E1 e133
          have F133m := yFr.mp F133 E1
          have S_133 := F133.ss S_1
          have hn133 := E133.len
          obtain ⟨αn133, hk133⟩ := E133.atT hk
          have B133 := yBt.out (C133.bd hk133).1
          refine zr_i2l zi17_136 ?_
          refine zr_ladd zi17_137 ?_
          refine zr_lstore (L' := [some (.ref _), some (.long _), none, some (.int (zJ _)), some (.long _), none, some (.ref _), some (.int (zJ _)), some (.int (zJ _))]) zi17_138 rfl rfl ?_
          refine zr_iincN (z := 1) (L' := [some (.ref _), some (.long _), none, some (.int (zJ _)), some (.long _), none, some (.ref _), some (.int (zJ _)), some (.int (zJ _))]) zi17_140 rfl rfl rfl rfl ?_
          refine zr_goto zi17_143 rfl ?_
          exact ih115 (by omega) _ _ _ _ _ E133 (F1.trans F133m) C133 (fun V o => by rw [zdg_s, ← HD V o, g133 V o])
    · refine zr_iconst (v := zJ 0) zi17_59 rfl ?_
      refine zr_istore (L' := [some (.ref _), some (.long _), none, some (.int (zJ _)), some (.long _), none, some (.ref _), some (.int (zJ _)), some (.int (zJ _))]) zi17_60 rfl rfl ?_
      suffices key62 : ∀ h1 L1 τ1 αt1 (dd : Int64), (yEqA L L1) → (yFr (yPb a (L.map (·.1))) h h1 0 0) → (yC h1 a L1 rf τ1 αt1) → (∀ V, zOK a L rf k V → dd = zdg (V.2.1 i) (zdc V.2.1 (zdg V.1 d0 11) i) 0) → zwp E 17 17 (62, [some (.ref a), some (.long d0), none, some (.int (zJ k)), some (.long dd), none, some (.ref (b + 13)), some (.int (zJ i)), some (.int (zJ 0))], [], h1) Q from key62 _ _ _ _ _ E1 F1 C1 (fun V o => HD V o)
      refine zloop (P := fun u => ∀ h1 L1 τ1 αt1 (dd : Int64), (yEqA L L1) → (yFr (yPb a (L.map (·.1))) h h1 0 0) → (yC h1 a L1 rf τ1 αt1) → (∀ V, zOK a L rf k V → dd = zdg (V.2.1 i) (zdc V.2.1 (zdg V.1 d0 11) i) u) → zwp E 17 17 (62, [some (.ref a), some (.long d0), none, some (.int (zJ k)), some (.long dd), none, some (.ref (b + 13)), some (.int (zJ i)), some (.int (zJ u))], [], h1) Q) (n := 4) fun u hk62 ih62 => ?_
      intro h1 L1 τ1 αt1 dd E1 F1 C1 HD
      have S_1 := F1.ss S
      have hn1 := E1.len
      have hm1 := E1.map1
      obtain ⟨αn1, hk1⟩ := E1.atT hk
      have B1 := yBt.out (C1.bd hk1).1
      refine zr_iload zi17_62 rfl ?_
      refine zr_iconst (v := zJ 3) zi17_64 rfl ?_
      refine zr_icmp_gtN zi17_65 rfl (by omega) (by omega) (fun q65 => ?_) (fun q65 => ?_)
      · refine zr_iincN (z := 1) (L' := [some (.ref _), some (.long _), none, some (.int (zJ _)), some (.long _), none, some (.ref _), some (.int (zJ _)), some (.int (zJ _))]) zi17_93 rfl rfl rfl rfl ?_
        refine zr_goto zi17_96 rfl ?_
        exact ih49 (by omega) _ _ _ _ _ _ E1 F1 C1 (fun V o => by have e := HD V o; rw [show u = 4 by omega] at e; exact e)
      · refine zr_lload zi17_68 rfl ?_
        refine zr_ldc2l zi17_70 ?_
        refine zr_lmul zi17_73 ?_
        refine zr_aload_n zi17_74 rfl ?_
        refine zr_iload_n zi17_75 rfl ?_
        refine zr_iload zi17_76 rfl ?_
        refine zr_iload zi17_78 rfl ?_
        refine zr_virtual zi17_80 rfl rfl (C1.1.1.at0 rfl) rfl rfl ?_
        refine zcall_dep (d := 2) (Nat.le_of_ble_eq_true rfl) (c39 S_1 C1 (fun k2 b2 w2 hh2 cs2 cl2 fs2 α2 kp2 gd2 gu2 mi2 sp2 hk2 ek2 c2 hc2 ec2 t2 ht2 et2 h80 L80 τ80 α80 e80 F80 C80 => zbk_v ?_) (fun x => absurd ⟨k, by have := ylt_of hk1; omega, rfl⟩ x) (fun k2 b2 w2 hh2 cs2 cl2 fs2 α2 kp2 gd2 gu2 mi2 sp2 hk2 ek2 x2 => by have e2 := yk_eq hk1 hk2 ek2 (by have := E1.len; omega); cases e2; exact absurd ⟨_, by omega, rfl⟩ x2) (fun k2 b2 w2 hh2 cs2 cl2 fs2 α2 kp2 gd2 gu2 mi2 sp2 hk2 ek2 _ x2 => by have e2 := yk_eq hk1 hk2 ek2 (by have := E1.len; omega); cases e2; exact absurd ⟨_, by omega, rfl⟩ x2))
        have g80 : ∀ V, zOK a L rf k V → (cs2.getD (c2 * 4 + t2) 0).toInt64 = V.2.1 i u := fun V o => by
          have e2 := yk_eq hk1 hk2 ek2 (by have := E1.len; omega)
          cases e2
          have p := zoK_at o E1 C1 hk2 ek2 hkl
          rw [(zJ_eq (by omega) (by omega)).mp ec2, (zJ_eq (by omega) (by omega)).mp et2]
          exact p.2.1 c2 t2 hc2 ht2
        have E80 := yEqA.trans E1 e80
        have F80m := yFr.mp F80 E1
        have S_80 := F80.ss S_1
        have hn80 := E80.len
        obtain ⟨αn80, hk80⟩ := E80.atT hk
        have B80 := yBt.out (C80.bd hk80).1
        refine zr_i2l zi17_83 ?_
        refine zr_ladd zi17_84 ?_
        refine zr_lstore (L' := [some (.ref _), some (.long _), none, some (.int (zJ _)), some (.long _), none, some (.ref _), some (.int (zJ _)), some (.int (zJ _))]) zi17_85 rfl rfl ?_
        refine zr_iincN (z := 1) (L' := [some (.ref _), some (.long _), none, some (.int (zJ _)), some (.long _), none, some (.ref _), some (.int (zJ _)), some (.int (zJ _))]) zi17_87 rfl rfl rfl rfl ?_
        refine zr_goto zi17_90 rfl ?_
        exact ih62 (by omega) _ _ _ _ _ E80 (F1.trans F80m) C80 (fun V o => by rw [zdg_s, ← HD V o, g80 V o])
  · refine zr_lload zi17_23 rfl ?_
    refine zr_ldc2l zi17_25 ?_
    refine zr_lmul zi17_28 ?_
    refine zr_aload_n zi17_29 rfl ?_
    refine zr_iload_n zi17_30 rfl ?_
    refine zr_iload zi17_31 rfl ?_
    refine zr_virtual zi17_33 rfl rfl (C1.1.1.at0 rfl) rfl rfl ?_
    refine zcall_dep (d := 16) (Nat.le_of_ble_eq_true rfl) (c18 S_1 C1 (fun k2 b2 w2 hh2 cs2 cl2 fs2 α2 kp2 gd2 gu2 mi2 sp2 hk2 ek2 t2 ht2 et2 v33 hv33 h33 L33 τ33 α33 e33 F33 C33 => zbk_v ?_) (fun x => absurd ⟨k, by have := ylt_of hk1; omega, rfl⟩ x) (fun k2 b2 w2 hh2 cs2 cl2 fs2 α2 kp2 gd2 gu2 mi2 sp2 hk2 ek2 x2 => by have e2 := yk_eq hk1 hk2 ek2 (by have := E1.len; omega); cases e2; exact absurd ⟨_, by omega, rfl⟩ x2))
    have g33 : ∀ V, zOK a L rf k V → v33.toInt64 = V.1 i := fun V o => by
      have e2 := yk_eq hk1 hk2 ek2 (by have := E1.len; omega)
      cases e2
      have p := zoK_at o E1 C1 hk2 ek2 hkl
      rw [(zJ_eq (by omega) (by omega)).mp et2, hv33]
      exact p.1 t2 ht2
    have E33 := yEqA.trans E1 e33
    have F33m := yFr.mp F33 E1
    have S_33 := F33.ss S_1
    have hn33 := E33.len
    obtain ⟨αn33, hk33⟩ := E33.atT hk
    have B33 := yBt.out (C33.bd hk33).1
    refine zr_i2l zi17_36 ?_
    refine zr_ladd zi17_37 ?_
    refine zr_lstore (L' := [some (.ref _), some (.long _), none, some (.int (zJ _)), some (.long _), none, some (.ref _), some (.int (zJ _)), _]) zi17_38 rfl rfl ?_
    refine zr_iincN (z := 1) (L' := [some (.ref _), some (.long _), none, some (.int (zJ _)), some (.long _), none, some (.ref _), some (.int (zJ _)), _]) zi17_40 rfl rfl rfl rfl ?_
    refine zr_goto zi17_43 rfl ?_
    exact ih16 (by omega) _ _ _ _ _ _ E33 (F1.trans F33m) C33 (fun V o => by rw [zdg_s, ← HD V o, g33 V o])
theorem c10 {E : zEnv} {h : zPH} {Q : zOut → zPH → Prop} (S : ySs E h) {a : Nat} {L : List yBS} {rf : Int32} {τ : yGS} {αt : yAS} (C : yC h a L rf τ αt) (K : ∀ v, yDG a L rf v → yK Q h a L L rf 0 0 (.inl (some (.long v)))) : zcall E 18 10 [.ref a] h Q := by
  have H := C.1
  have hlen := C.len
  have hbl : (L.map (·.1)).length = L.length := by rw [List.length_map]
  show zwp E _ 10 (0, [some (.ref _), none, none, none], [], _) Q
  refine zr_ldc2l zi10_0 ?_
  refine zr_lstore_n (L' := [some (.ref _), some (.long _), none, none]) zi10_3 rfl rfl ?_
  refine zr_iconst (v := zJ 0) zi10_4 rfl ?_
  refine zr_istore_n (L' := [some (.ref _), some (.long _), none, some (.int (zJ _))]) zi10_5 rfl rfl ?_
  suffices key6 : ∀ h1 L1 τ1 αt1 (dd : Int64), (yEqA L L1) → (yFr (yPb a (L.map (·.1))) h h1 0 0) → (yC h1 a L1 rf τ1 αt1) → (∀ f, zMF L rf f → dd = zdg f 58319 0) → zwp E 18 10 (6, [some (.ref a), some (.long dd), none, some (.int (zJ 0))], [], h1) Q from key6 _ _ _ _ _ (yEqA.refl L) (yFr.refl _ _) C (fun _ _ => rfl)
  refine zloop (P := fun i => ∀ h1 L1 τ1 αt1 (dd : Int64), (yEqA L L1) → (yFr (yPb a (L.map (·.1))) h h1 0 0) → (yC h1 a L1 rf τ1 αt1) → (∀ f, zMF L rf f → dd = zdg f 58319 i) → zwp E 18 10 (6, [some (.ref a), some (.long dd), none, some (.int (zJ i))], [], h1) Q) (n := 5) fun i hk6 ih6 => ?_
  intro h1 L1 τ1 αt1 dd E1 F1 C1 HD
  have S_1 := F1.ss S
  have hn1 := E1.len
  have hm1 := E1.map1
  refine zr_iload_n zi10_6 rfl ?_
  refine zr_iconst (v := zJ 4) zi10_7 rfl ?_
  refine zr_icmp_gtN zi10_8 rfl (by omega) (by omega) (fun q8 => ?_) (fun q8 => ?_)
  · refine zr_iconst (v := zJ 0) zi10_30 rfl ?_
    refine zr_istore_n (L' := [some (.ref _), some (.long _), none, some (.int (zJ _))]) zi10_31 rfl rfl ?_
    obtain ⟨d5, hd5, HM⟩ : ∃ d5, d5 = dd ∧ (∀ f, zMF L rf f → d5 = zdg f 58319 5) := ⟨dd, rfl, fun f o => by have e := HD f o; rw [show i = 5 by omega] at e; exact e⟩
    suffices key32 : ∀ h1 L1 τ1 αt1 (dd : Int64), (yEqA L L1) → (yFr (yPb a (L.map (·.1))) h h1 0 0) → (yC h1 a L1 rf τ1 αt1) → (yDH a L rf d5 0 dd) → zwp E 18 10 (32, [some (.ref a), some (.long dd), none, some (.int (zJ 0))], [], h1) Q from key32 _ _ _ _ _ E1 F1 C1 hd5.symm
    refine zloop (P := fun i => ∀ h1 L1 τ1 αt1 (dd : Int64), (yEqA L L1) → (yFr (yPb a (L.map (·.1))) h h1 0 0) → (yC h1 a L1 rf τ1 αt1) → (yDH a L rf d5 i dd) → zwp E 18 10 (32, [some (.ref a), some (.long dd), none, some (.int (zJ i))], [], h1) Q) (n := L.length) fun i hk32 ih32 => ?_
    intro h1 L1 τ1 αt1 dd E1 F1 C1 HD
    have S_1 := F1.ss S
    have hn1 := E1.len
    have hm1 := E1.map1
    refine zr_iload_n zi10_32 rfl ?_
    have hl1 : (L1.map (·.1)).length = L1.length := by rw [List.length_map]
    refine zr_aload_n zi10_33 rfl ?_
    refine zr_getfield zi10_34 (C1.1.1.at0 rfl) rfl ?_
    refine zr_icmp_geN zi10_37 rfl (by omega) (by omega) (fun q37 => ?_) (fun q37 => ?_)
    · refine zr_lload_n zi10_53 rfl ?_
      refine zr_lreturn zi10_54 rfl ?_
      refine K _ ⟨d5, HM, ?_⟩ _ _ _ _ E1 F1 C1
      have e : i = L.length := by omega
      rw [← e]
      exact HD
    · refine zr_aload_n zi10_40 rfl ?_
      refine zr_lload_n zi10_41 rfl ?_
      refine zr_iload_n zi10_42 rfl ?_
      refine zr_virtual zi10_43 rfl rfl (C1.1.1.at0 rfl) rfl rfl ?_
      obtain ⟨⟨b, ⟨w, hh, cs, cl, fs⟩, α, kp, gd, gu, mi, sp⟩, hki⟩ : ∃ β, L[i]? = some β := ⟨_, List.getElem?_eq_getElem (by omega)⟩
      obtain ⟨αj, hkj⟩ := E1.atT hki
      refine zcall_dep (d := 17) (Nat.le_of_ble_eq_true rfl) (c17 S_1 C1 hkj (fun v43 hv43 h43 L43 τ43 α43 e43 F43 C43 => zbk_v ?_))
      have g43 : ∀ β, L[i]? = some β → ∀ V, zOK a L rf i V → v43 = zdB V (β.2.1.1 * β.2.1.2.1) (β.2.1.1 + β.2.1.2.1) dd := fun β hβ V o => by
        rw [hki] at hβ
        cases hβ
        exact hv43 V (fun h1 L2 τ1 αt1 E C => o h1 L2 τ1 αt1 (yEqA.trans E1 E) C)
      have E43 := yEqA.trans E1 e43
      have F43m := yFr.mp F43 E1
      have S_43 := F43.ss S_1
      have hn43 := E43.len
      refine zr_lstore_n (L' := [some (.ref _), some (.long _), none, some (.int (zJ _))]) zi10_46 rfl rfl ?_
      refine zr_iincN (z := 1) (L' := [some (.ref _), some (.long _), none, some (.int (zJ _))]) zi10_47 rfl rfl rfl rfl ?_
      refine zr_goto zi10_50 rfl ?_
      exact ih32 (by omega) _ _ _ _ _ E43 (F1.trans F43m) C43 ⟨dd, HD, g43⟩
  · refine zr_lload_n zi10_11 rfl ?_
    refine zr_ldc2l zi10_12 ?_
    refine zr_lmul zi10_15 ?_
    refine zr_aload_n zi10_16 rfl ?_
    refine zr_iload_n zi10_17 rfl ?_
    refine zr_virtual zi10_18 rfl rfl (C1.1.1.at0 rfl) rfl rfl ?_
    refine zcall_dep (d := 2) (Nat.le_of_ble_eq_true rfl) (c11 S_1 C1 (fun t2 ht2 et2 h18 L18 τ18 α18 e18 F18 C18 => zbk_v ?_) (fun x => absurd ⟨_, by omega, rfl⟩ x))
    have g18 : ∀ f, zMF L rf f → (zmy L1 rf t2).toInt64 = f i := fun f o => by
      rw [(zJ_eq (by omega) (by omega)).mp et2]
      exact o _ _ E1 ht2
    have E18 := yEqA.trans E1 e18
    have F18m := yFr.mp F18 E1
    have S_18 := F18.ss S_1
    have hn18 := E18.len
    refine zr_i2l zi10_21 ?_
    refine zr_ladd zi10_22 ?_
    refine zr_lstore_n (L' := [some (.ref _), some (.long _), none, some (.int (zJ _))]) zi10_23 rfl rfl ?_
    refine zr_iincN (z := 1) (L' := [some (.ref _), some (.long _), none, some (.int (zJ _))]) zi10_24 rfl rfl rfl rfl ?_
    refine zr_goto zi10_27 rfl ?_
    exact ih6 (by omega) _ _ _ _ _ E18 (F1.trans F18m) C18 (fun f o => by rw [zdg_s, ← HD f o, g18 f o])
theorem yBt.gr4 {h : zPH} {β : yBS} (B : yBt h β) : β.1 + 17 ≤ h.2.1 := by
  have h1 : β.1 + 13 + 4 ≤ h.2.1 := (yB.gr B).1.1
  omega
theorem yrange {x : Int32} (h1 : ¬ x < zJ 2) (h2 : ¬ zJ 5 < x) : ∃ n, 2 ≤ n ∧ n ≤ 5 ∧ x = zJ n := by
  have h0 : ¬ x < 0 := fun q => h1 (by
    have e1 := Int32.lt_iff_toInt_lt.mp q
    rw [Int32.lt_iff_toInt_lt, zJ_i (by omega)]
    have : (0 : Int32).toInt = 0 := rfl
    omega)
  obtain ⟨n, hn, rfl⟩ := zJ_of h0
  refine ⟨n, ?_, ?_, rfl⟩
  · exact Nat.le_of_not_lt fun q => h1 ((zJ_lt hn (by omega)).mpr q)
  · exact Nat.le_of_not_lt fun q => h2 ((zJ_lt (by omega) hn).mpr q)
theorem yFr.transN {P P' : Nat → Prop} {h h1 h2 : zPH} {m s m' s' : Nat} (F : yFr P h h1 m s) (F' : yFr P' h1 h2 m' s') (hP : ∀ x, x < h.2.1 → P' x → P x) : yFr P h h2 (m + m') (s + s') := by
  obtain ⟨a1, a2, a3, a4, a5⟩ := F
  obtain ⟨b1, b2, b3, b4, b5⟩ := F'
  refine ⟨fun a ha hp => ?_, by omega, by omega, by omega, by omega⟩
  have e := a1 a ha hp
  rw [← e]
  refine b1 a (by omega) ?_
  rw [e]
  exact hp.imp (fun q z => q (hP a ha z)) id
theorem zbs_app {bs : List Nat} {b : Nat} (h : bs.length < 3) : (zbs bs).set bs.length (.ref b) = zbs (bs ++ [b]) := by
  unfold zbs
  rw [List.set_append_right _ _ (by rw [List.length_map]; omega), List.length_map, Nat.sub_self, List.map_append, List.length_append]
  obtain ⟨m, hm⟩ : ∃ m, 3 - bs.length = m + 1 := ⟨2 - bs.length, by omega⟩
  rw [hm, List.replicate_succ, show 3 - (bs.length + [b].length) = m by show 3 - (bs.length + 1) = m; omega]
  simp
theorem c68 {E : zEnv} {h : zPH} {Q : zOut → zPH → Prop} (S : ySs E h) {a : Nat} {L : List yBS} {rf : Int32} {τ : yGS} {αt : yAS} (C : yC h a L rf τ αt) {x y : Int32} (K : ∀ w hh, 2 ≤ w → w ≤ 5 → 2 ≤ hh → hh ≤ 5 → x = zJ w → y = zJ hh → L.length < 3 → yK Q h a L (L ++ [(h.2.1, (w, hh, yZ0, (yTi w hh (w + hh)).1, (yTi w hh (w + hh)).2), yA0, List.replicate 600 0, List.replicate 6 0, 0, 0, 0)]) rf 17 1444 (.inl (some (.int (zJ L.length))))) (X0 : (¬ ∃ w hh, 2 ≤ w ∧ w ≤ 5 ∧ 2 ≤ hh ∧ hh ≤ 5 ∧ x = zJ w ∧ y = zJ hh) → Q (.inr 0) (zex h)) (X1 : (∃ w hh, 2 ≤ w ∧ w ≤ 5 ∧ 2 ≤ hh ∧ hh ≤ 5 ∧ x = zJ w ∧ y = zJ hh) → ¬ L.length < 3 → Q (.inr 1) (zex h))  : zcall E 5 68 [.ref a, .int x, .int y] h Q := by
  have H := C.1
  have hlen := C.len
  have hbl : (L.map (·.1)).length = L.length := by rw [List.length_map]
  show zwp E _ 68 (0, [some (.ref _), some (.int _), some (.int _)], [], _) Q
  refine zr_iload_n zi68_0 rfl ?_
  refine zr_iconst (v := zJ 2) zi68_1 rfl ?_
  refine zr_icmp_lt zi68_2 rfl (fun q2 => ?_) (fun q2 => ?_)
  · refine zr_throw zi68_20 rfl rfl rfl ?_
    refine X0 ?_
    rintro ⟨w, hh, z1, z2, z3, z4, rfl, rfl⟩
    first | exact absurd ((zJ_lt (by omega) (by omega)).mp q2) (by omega) | exact absurd ((zJ_lt (by omega) (by omega)).mp q7) (by omega) | exact absurd ((zJ_lt (by omega) (by omega)).mp q12) (by omega) | exact q17 ((zJ_le (by omega) (by omega)).mpr (by omega))
  · refine zr_iload_n zi68_5 rfl ?_
    refine zr_iconst (v := zJ 5) zi68_6 rfl ?_
    refine zr_icmp_gt zi68_7 rfl (fun q7 => ?_) (fun q7 => ?_)
    · refine zr_throw zi68_20 rfl rfl rfl ?_
      refine X0 ?_
      rintro ⟨w, hh, z1, z2, z3, z4, rfl, rfl⟩
      first | exact absurd ((zJ_lt (by omega) (by omega)).mp q2) (by omega) | exact absurd ((zJ_lt (by omega) (by omega)).mp q7) (by omega) | exact absurd ((zJ_lt (by omega) (by omega)).mp q12) (by omega) | exact q17 ((zJ_le (by omega) (by omega)).mpr (by omega))
    · refine zr_iload_n zi68_10 rfl ?_
      refine zr_iconst (v := zJ 2) zi68_11 rfl ?_
      refine zr_icmp_lt zi68_12 rfl (fun q12 => ?_) (fun q12 => ?_)
      · refine zr_throw zi68_20 rfl rfl rfl ?_
        refine X0 ?_
        rintro ⟨w, hh, z1, z2, z3, z4, rfl, rfl⟩
        first | exact absurd ((zJ_lt (by omega) (by omega)).mp q2) (by omega) | exact absurd ((zJ_lt (by omega) (by omega)).mp q7) (by omega) | exact absurd ((zJ_lt (by omega) (by omega)).mp q12) (by omega) | exact q17 ((zJ_le (by omega) (by omega)).mpr (by omega))
      · refine zr_iload_n zi68_15 rfl ?_
        refine zr_iconst (v := zJ 5) zi68_16 rfl ?_
        refine zr_icmp_le zi68_17 rfl (fun q17 => ?_) (fun q17 => ?_)
        · obtain ⟨w, gw1, gw2, rfl⟩ := yrange q2 q7
          obtain ⟨hh, gh1, gh2, rfl⟩ := yrange q12 (fun z => Int32.not_le.mpr z q17)
          refine zr_aload_n zi68_30 rfl ?_
          refine zr_getfield zi68_31 (H.1.at0 rfl) rfl ?_
          refine zr_iconst (v := zJ 3) zi68_34 rfl ?_
          refine zr_icmp_ltN zi68_35 rfl (by omega) (by omega) (fun q35 => ?_) (fun q35 => ?_)
          · refine zr_aload_n zi68_48 rfl ?_
            refine zr_getfield zi68_49 (H.1.at0 rfl) rfl ?_
            refine zr_aload_n zi68_52 rfl ?_
            refine zr_getfield zi68_53 (H.1.at0 rfl) rfl ?_
            refine zr_new zi68_56 rfl rfl ?_
            refine zw_new (a := h.2.1) rfl (fun h56 F56 X56 e56 => ?_)
            have S56 := (F56 (fun _ => True)).ss S
            have H56 := H.fr (F56 (fun _ => False)) (fun _ _ _ q => q)
            refine zr_dup zi68_59 rfl ?_
            refine zr_iload_n zi68_60 rfl ?_
            refine zr_iload_n zi68_61 rfl ?_
            refine zr_special zi68_62 rfl rfl rfl rfl ?_
            refine zcall_dep (d := 4) (Nat.le_of_ble_eq_true rfl) (c69 S56 X56 e56 (by omega) (fun h62 F62 e62 B62 => zbk_0 ?_))
            have hah : a + 16 ≤ h.2.1 := H.ta.1.1
            have H62 := H56.fr F62 (fun x z1 z2 z3 => by have := z3.1; omega)
            refine zr_aastoreN zi68_65 (H62.1.at 1 rfl) (B62.1.at0 rfl) rfl (by omega) (zbs_ge (by omega) H62.2.2.2 (Nat.le_refl _)) ?_
            refine zw_bk H62.1 (k := 1) rfl (by omega) (fun h65 F65 Y65 => ?_)
            refine zr_aload_n zi68_66 rfl ?_
            refine zr_dup zi68_67 rfl ?_
            refine zr_getfield zi68_68 (Y65.at0 rfl) rfl ?_
            refine zr_iconst (v := zJ 1) zi68_71 rfl ?_
            refine zr_iaddN zi68_72 ?_
            refine zr_putfield zi68_73 (Y65.at0 rfl) rfl rfl ?_
            refine zw_bk Y65 (k := 0) rfl (by omega) (fun h73 F73 Y73 => ?_)
            refine zr_aload_n zi68_76 rfl ?_
            refine zr_getfield zi68_77 (Y73.at0 rfl) rfl ?_
            refine zr_iconst (v := zJ 1) zi68_80 rfl ?_
            refine zr_isubN zi68_81 (by omega) ?_
            refine zr_ireturn zi68_82 rfl ?_
            rw [hbl, Nat.add_sub_cancel]
            have FA : yFr (yPb a (L.map (·.1))) h h73 17 1444 := ((yFr.transN (F56 _) F62 (fun x hx q => by have := q.1; omega)).trans ((F65.trans F73).mono (fun x _ q => Or.inl ⟨q.1, by have : x < a + 2 := q.2; omega⟩) (Nat.le_refl _) (Nat.le_refl _))).mono (fun _ _ q => q) (by omega) (by omega)
            refine K w hh gw1 gw2 gh1 gh2 rfl rfl (by omega) h73 (L ++ [(h.2.1, (w, hh, yZ0, (yTi w hh (w + hh)).1, (yTi w hh (w + hh)).2), yA0, List.replicate 600 0, List.replicate 6 0, 0, 0, 0)]) τ αt rfl FA ?_
            have FB := F65.trans F73
            refine ⟨?_, ?_, ?_, ?_, ?_, C.ait⟩
            · have hm : (L ++ [(h.2.1, (w, hh, yZ0, (yTi w hh (w + hh)).1, (yTi w hh (w + hh)).2), yA0, List.replicate 600 0, List.replicate 6 0, 0, 0, 0)]).map (fun β : yBS => β.1) = L.map (fun β : yBS => β.1) ++ [h.2.1] := by rw [List.map_append]; rfl
              rw [hm]
              refine ⟨?_, yG.fr H62.2.1 FB (fun x z1 z2 z3 => by have : x < a + 2 := z3.2; omega), yA.fr H62.2.2.1 FB (fun x z1 z2 z3 => by have : x < a + 2 := z3.2; omega), by rw [List.length_append, hbl]; show L.length + 1 ≤ 3; omega⟩
              rw [← zbs_app (by omega), List.length_append]
              exact Y73
            · intro β hβ
              rcases List.mem_append.mp hβ with q | q
              · have q1 := C.2.2.1 β q
                have q2 := yBt.gr4 (C.2.1 β q)
                exact (((C.2.1 β q).fr (F56 (fun _ => False)) (fun _ _ _ z => z)).fr F62 (fun x z1 z2 z3 => by have := z3.1; omega)).fr FB (fun x z1 z2 z3 => by have : x < a + 2 := z3.2; omega)
              · cases List.mem_singleton.mp q
                exact (yBt.mk B62).fr FB (fun x z1 z2 z3 => by have : x < a + 2 := z3.2; have z1 : h.2.1 ≤ x := z1; omega)
            · intro β hβ
              rcases List.mem_append.mp hβ with q | q
              · exact C.2.2.1 β q
              · cases List.mem_singleton.mp q
                exact hah
            · rw [List.pairwise_append]
              refine ⟨C.2.2.2.1, List.pairwise_singleton _ _, fun β hβ γ hγ => ?_⟩
              cases List.mem_singleton.mp hγ
              exact yBt.gr4 (C.2.1 β hβ)
            · intro β hβ
              rcases List.mem_append.mp hβ with q | q
              · exact C.2.2.2.2.1 β q
              · cases List.mem_singleton.mp q
                exact Or.inl rfl
          · refine zr_throw zi68_38 rfl rfl rfl ?_
            exact X1 ⟨w, hh, gw1, gw2, gh1, gh2, rfl, rfl⟩ (by omega)
        · refine zr_throw zi68_20 rfl rfl rfl ?_
          refine X0 ?_
          rintro ⟨w, hh, z1, z2, z3, z4, rfl, rfl⟩
          first | exact absurd ((zJ_lt (by omega) (by omega)).mp q2) (by omega) | exact absurd ((zJ_lt (by omega) (by omega)).mp q7) (by omega) | exact absurd ((zJ_lt (by omega) (by omega)).mp q12) (by omega) | exact q17 ((zJ_le (by omega) (by omega)).mpr (by omega))
