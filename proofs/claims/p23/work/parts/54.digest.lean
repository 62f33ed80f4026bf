/-! ===== the model: digest ===== -/
def rdA : Nat → Nat
  | 0 => 13
  | _ + 1 => 260
def rdB : Nat → Nat
  | 0 => 228
  | _ + 1 => 4560
def rdc : Nat → Nat
  | 0 => 0
  | k + 1 => rdc k + (62 + rdA k)
def rds : Nat → Nat
  | 0 => 0
  | k + 1 => rds k + (1563 + rdB k)
theorem rdc_le {k : Nat} (h : k ≤ 3) : rdc k ≤ 719 ∧ rds k ≤ 14037 := by
  have : ∀ i : Fin 4, rdc i.val ≤ 719 ∧ rds i.val ≤ 14037 := by decide
  exact this ⟨k, by omega⟩
theorem c234d {E : zEnv} {h : zPH} {Q : zOut → zPH → Prop} {m le : Nat} {n0 n2 : Int32} {B : List rBS} (C : rC h E m le n0 n2 B) (S : ySs E h) {i : Nat} (hi : i < B.length) (K : ∀ h1 v, yFr (fun x => h.2.1 ≤ x) h h1 (rdA i) (rdB i) → v = ral B i 0 → Q (.inl (some (.int v))) h1) : zcall E 6 234 [.ref m, .int (zJ i), .int (zJ 0)] h Q := by
  obtain ⟨b1, r1, g1, e1, w1, hh1, X1, cl1, mi1, sp1, KS1, kh1⟩ := rC.ix (B := B) (i := i) hi
  obtain ⟨b2, r2, g2, e2, w2, hh2, X2, cl2, mi2, sp2, KS2, kh2⟩ := rC.ix (B := B) (i := 0) (by omega)
  cases i with
  | zero => exact c234s C S kh1 fun h1 v F e => K h1 v F (e.trans (ral_0 kh1).symm)
  | succ i => exact c234 C S kh1 kh2 fun h1 v F e => K h1 v F (e.trans (ral_e kh1 kh2).symm)
theorem c236 {E : zEnv} {h : zPH} {Q : zOut → zPH → Prop} {m le : Nat} {n0 n2 : Int32} {B : List rBS} (C : rC h E m le n0 n2 B) (S : ySs E h) (K : ∀ h1 v n0 le1 B1, (ms236 B n2 n0 v B1) → rNx h h1 E m n2 n2 le B le1 B1 724 14062 → rC h1 E m le1 n0 n2 B1 → Q (.inl (some (.long v))) h1) : zcall E 15 236 [.ref m] h Q := by
  show zwp E _ 236 (0, [some (.ref _), none, none, none, none, none, none, none], [], _) Q
  obtain ⟨qM0, mM0, GM0⟩ := C.hd
  refine zr_aload_n zi236_0 rfl ?_
  refine zr_iconst (v := zJ 0) zi236_1 rfl ?_
  refine zr_putfield zi236_2 (C.1.at0 rfl) rfl rfl ?_
  refine rC.wm (E := E) C (fun h2 N2 C2 e2 => ?_)
  obtain ⟨qM2, mM2, GM2⟩ := C2.hd
  refine zr_ldc2l zi236_5 ?_
  refine zr_lstore_n (L' := [some (.ref _), some (.long _), none, none, none, none, none, none]) zi236_8 rfl rfl ?_
  refine zr_iconst (v := zJ 0) zi236_9 rfl ?_
  refine zr_istore_n (L' := [some (.ref _), some (.long _), none, some (.int (zJ _)), none, none, none, none]) zi236_10 rfl rfl ?_
  suffices key11 : ∀ h1 z, (rNx h h1 E m n2 n2 le B le B (0) (5 * 0)) → (rC h1 E m le (zJ 0) n2 B) → (z = zdg (rmF B n2) 58319 0) → zwp E 15 236 (11, [some (.ref m), some (.long z), none, some (.int (zJ 0)), none, none, none, none], [], h1) Q from key11 _ _ N2 C2 rfl
  refine zloop (P := fun t => ∀ h1 z, (rNx h h1 E m n2 n2 le B le B (t) (5 * t)) → (rC h1 E m le (zJ 0) n2 B) → (z = zdg (rmF B n2) 58319 t) → zwp E 15 236 (11, [some (.ref m), some (.long z), none, some (.int (zJ t)), none, none, none, none], [], h1) Q) (n := 5) fun t hk11 ih11 => ?_
  intro h1 z N1 C1 Hz
  obtain ⟨qM1, mM1, GM1⟩ := C1.hd
  skip
  refine zr_iload_n zi236_11 rfl ?_
  refine zr_iconst (v := zJ 4) zi236_12 rfl ?_
  refine zr_icmp_gtN zi236_13 rfl (by omega) (by omega) (fun q13 => ?_) (fun q13 => ?_)
  · refine zr_iconst (v := zJ 0) zi236_35 rfl ?_
    refine zr_istore_n (L' := [some (.ref _), some (.long _), none, some (.int (zJ _)), none, none, none, none]) zi236_36 rfl rfl ?_
    suffices key37 : ∀ h3 z x4 x5 x6 x7, (rNx h h3 E m n2 n2 le B le B (5 + rdc 0) (25 + rds 0)) → (rC h3 E m le (zJ 0) n2 B) → (rdH B (zdg (rmF B n2) 58319 5) 0 z) → zwp E 15 236 (37, [some (.ref m), some (.long z), none, some (.int (zJ 0)), x4, x5, x6, x7], [], h3) Q from key37 _ _ _ _ _ _ (N1.fit (by show _ ≤ 5 + 0; omega) (by show _ ≤ 25 + 0; omega)) C1 (by have e := Hz; rw [show t = 5 by omega] at e; exact e)
    refine zloop (P := fun i => ∀ h3 z x4 x5 x6 x7, (rNx h h3 E m n2 n2 le B le B (5 + rdc i) (25 + rds i)) → (rC h3 E m le (zJ 0) n2 B) → (rdH B (zdg (rmF B n2) 58319 5) i z) → zwp E 15 236 (37, [some (.ref m), some (.long z), none, some (.int (zJ i)), x4, x5, x6, x7], [], h3) Q) (n := B.length) fun i hk37 ih37 => ?_
    intro h3 z0 x4 x5 x6 x7 N3 C3 R3
    obtain ⟨qM3, mM3, GM3⟩ := C3.hd
    have hBl := C3.2.2.1
    have hS3 := N3.1.ss S
    refine zr_iload_n zi236_37 rfl ?_
    refine zr_aload_n zi236_38 rfl ?_
    refine zr_getfield zi236_39 (C3.1.at0 rfl) rfl ?_
    refine zr_iface zi236_42 rfl (GM3.at0 rfl) rfl rfl ?_
    refine zcall_dep (d := 0) (Nat.le_of_ble_eq_true rfl) (c153 GM3 (zbk_v ?_))
    refine zr_icmp_geN zi236_47 rfl (by omega) (by omega) (fun q47 => ?_) (fun q47 => ?_)
    · refine zr_lload_n zi236_349 rfl ?_
      refine zr_lreturn zi236_350 rfl ?_
      have := rdc_le (k := i) (by omega)
      exact K _ _ _ _ _ ⟨rfl, rfl, by rw [show B.length = i by omega]; exact R3⟩ (N3.fit (by omega) (by omega)) C3
    · obtain ⟨b, r, g, e, w, hh, X, cl, mi, sp, KS, hk⟩ := rC.ix (B := B) (i := i) (by omega)
      obtain ⟨⟨gw1, gw2, gh1, gh2⟩, ⟨l0, l1, l2, l3, lcl⟩, d1, d2, d3⟩ := (C3.bd hk).1.2.2.2
      have hwh := zwh_b (w := w) (hh := hh) ⟨gw1, gw2, gh1, gh2⟩
      refine zr_aload_n zi236_50 rfl ?_
      refine zr_getfield zi236_51 (C3.1.at0 rfl) rfl ?_
      refine zr_iload_n zi236_54 rfl ?_
      refine zr_iface zi236_55 rfl (GM3.at0 rfl) rfl rfl ?_
      refine zcall_dep (d := 2) (Nat.le_of_ble_eq_true rfl) (c164M C3 hk (zbk_v ?_))
      have D55 := C3.bd hk
      have P55 := D55.1
      obtain ⟨qg55, mg55, Lg55⟩ := D55.hd
      refine zr_checkcast zi236_60 (P55.1.at0 rfl) rfl ?_
      refine zr_astore (L' := [some (.ref _), some (.long _), none, some (.int (zJ _)), some (.ref _), _, _, _]) zi236_63 rfl rfl ?_
      refine zr_aload zi236_65 rfl ?_
      refine zr_virtual zi236_67 rfl rfl (P55.1.at0 rfl) rfl rfl ?_
      refine zcall_dep (d := 14) (Nat.le_of_ble_eq_true rfl) (c182 P55 (fun h67 q67 l67 F67 i67 j67 X67 px67 hl67 => zbk_v ?_))
      have C67 := rC.nw C3 F67
      obtain ⟨qM67, mM67, GM67⟩ := C67.hd
      have D67 := C67.bd hk
      have P67 := D67.1
      obtain ⟨qg67, mg67, Lg67⟩ := D67.hd
      refine zr_astore (L' := [some (.ref _), some (.long _), none, some (.int (zJ _)), some (.ref _), some (.ref _), _, _]) zi236_70 rfl rfl ?_
      refine zr_iconst (v := zJ 0) zi236_72 rfl ?_
      refine zr_istore (L' := [some (.ref _), some (.long _), none, some (.int (zJ _)), some (.ref _), some (.ref _), some (.int (zJ _)), _]) zi236_73 rfl rfl ?_
      obtain ⟨V, eV⟩ : ∃ V, V = rdV w hh X cl KS.length mi sp l67 (ral B i 0) := ⟨_, rfl⟩
      have fb : ∀ t, V.1 t = (rob w hh X.1 cl KS.length mi sp l67 t).toInt64 := fun t => by rw [eV]; rfl
      have fc : ∀ c t, V.2.1 c t = ((rrow X t).getD c 0).toInt64 := fun c t => by rw [eV]; rfl
      have fl : ∀ i t, V.2.2.1 i t = (rln w hh X.1 cl i t).toInt64 := fun i t => by rw [eV]; rfl
      have fw : ∀ i, V.2.2.2.1 i = (rwF w hh X.1 cl i (2 ^ yln w hh i) 0 (zJ 0)).toInt64 := fun i => by rw [eV]; rfl
      have fr0 : V.2.2.2.2 0 = ((if 0 < l67.length then l67.getD 0 0 else -1) : Int32).toInt64 := by rw [eV]; rfl
      have fr1 : V.2.2.2.2 1 = (FP.d2i (FP.dmul 4634204016564240384 (rlo w hh X.1 cl))).toInt64 := by rw [eV]; rfl
      have fr2 : V.2.2.2.2 2 = (FP.d2i (FP.dmul 4634204016564240384 (FP.f2d (rfg l67 X.1 (w * hh))))).toInt64 := by rw [eV]; rfl
      have fr3 : V.2.2.2.2 3 = (rhn w hh X.1 cl (w + hh)).1.toInt64 := by rw [eV]; rfl
      have fr4 : V.2.2.2.2 4 = ((if l67.length = 0 then -1 else (rts l67 X.1 (w * hh)).1) : Int32).toInt64 := by rw [eV]; rfl
      have fr5 : V.2.2.2.2 5 = (rne w hh l67).toInt64 := by rw [eV]; rfl
      have fr6 : V.2.2.2.2 6 = (ral B i 0).toInt64 := by rw [eV]; rfl
      suffices key75 : ∀ h5 z x7, (rNx h h5 E m n2 n2 le B le B (5 + rdc i + 51 + 0) (25 + rds i + 1442 + 11 * 0)) → (rC h5 E m le (zJ 0) n2 B) → (h5.1 q67 = some (64, zis l67)) → (q67 < h5.2.1) → (z = zdg V.1 z0 0) → zwp E 15 236 (75, [some (.ref m), some (.long z), none, some (.int (zJ i)), some (.ref b), some (.ref q67), some (.int (zJ 0)), x7], [], h5) Q from key75 _ _ _ ((N3.trans (rNx.new C3 F67)).fit (by omega) (by omega)) C67 X67 j67 rfl
      refine zloop (P := fun t => ∀ h5 z x7, (rNx h h5 E m n2 n2 le B le B (5 + rdc i + 51 + t) (25 + rds i + 1442 + 11 * t)) → (rC h5 E m le (zJ 0) n2 B) → (h5.1 q67 = some (64, zis l67)) → (q67 < h5.2.1) → (z = zdg V.1 z0 t) → zwp E 15 236 (75, [some (.ref m), some (.long z), none, some (.int (zJ i)), some (.ref b), some (.ref q67), some (.int (zJ t)), x7], [], h5) Q) (n := 11) fun t hk75 ih75 => ?_
      intro h5 z x7 N5 C5 Xq5 hq5 Hb
      obtain ⟨qM5, mM5, GM5⟩ := C5.hd
      have D5 := C5.bd hk
      have P5 := D5.1
      obtain ⟨qg5, mg5, Lg5⟩ := D5.hd
      skip
      refine zr_iload zi236_75 rfl ?_
      refine zr_bipush (v := zJ 10) zi236_77 rfl ?_
      refine zr_icmp_gtN zi236_79 rfl (by omega) (by omega) (fun q79 => ?_) (fun q79 => ?_)
      · refine zr_iconst (v := zJ 0) zi236_105 rfl ?_
        refine zr_istore (L' := [some (.ref _), some (.long _), none, some (.int (zJ _)), some (.ref _), some (.ref _), some (.int (zJ _)), _]) zi236_106 rfl rfl ?_
        suffices key108 : ∀ z x7, (z = zdc V.2.1 (zdg V.1 z0 11) 0) → zwp E 15 236 (108, [some (.ref m), some (.long z), none, some (.int (zJ i)), some (.ref b), some (.ref q67), some (.int (zJ 0)), x7], [], h5) Q from key108 _ _ (by have e := Hb; rw [show t = 11 by omega] at e; exact e)
        refine zloop (P := fun cc => ∀ z x7, (z = zdc V.2.1 (zdg V.1 z0 11) cc) → zwp E 15 236 (108, [some (.ref m), some (.long z), none, some (.int (zJ i)), some (.ref b), some (.ref q67), some (.int (zJ cc)), x7], [], h5) Q) (n := w * hh) fun cc hk108 ih108 => ?_
        intro z x7 Hc
        refine zr_iload zi236_108 rfl ?_
        refine zr_aload zi236_110 rfl ?_
        refine zr_virtual zi236_112 rfl rfl (P5.1.at0 rfl) rfl rfl ?_
        refine zcall_dep (d := 0) (Nat.le_of_ble_eq_true rfl) (c156 P5 (zbk_v ?_))
        refine zr_icmp_geN zi236_115 rfl (by omega) (by omega) (fun q115 => ?_) (fun q115 => ?_)
        · refine zr_iconst (v := zJ 0) zi236_158 rfl ?_
          refine zr_istore (L' := [some (.ref _), some (.long _), none, some (.int (zJ _)), some (.ref _), some (.ref _), some (.int (zJ _)), _]) zi236_159 rfl rfl ?_
          suffices key161 : ∀ z x7, (z = zdl V.2.2.1 V.2.2.2.1 (zdc V.2.1 (zdg V.1 z0 11) (w * hh)) 0) → zwp E 15 236 (161, [some (.ref m), some (.long z), none, some (.int (zJ i)), some (.ref b), some (.ref q67), some (.int (zJ 0)), x7], [], h5) Q from key161 _ _ (by have e := Hc; rw [show cc = w * hh by omega] at e; exact e)
          refine zloop (P := fun ln => ∀ z x7, (z = zdl V.2.2.1 V.2.2.2.1 (zdc V.2.1 (zdg V.1 z0 11) (w * hh)) ln) → zwp E 15 236 (161, [some (.ref m), some (.long z), none, some (.int (zJ i)), some (.ref b), some (.ref q67), some (.int (zJ ln)), x7], [], h5) Q) (n := w + hh) fun ln hk161 ih161 => ?_
          intro z x7 Hl
          refine zr_iload zi236_161 rfl ?_
          refine zr_aload zi236_163 rfl ?_
          refine zr_virtual zi236_165 rfl rfl (P5.1.at0 rfl) rfl rfl ?_
          refine zcall_dep (d := 0) (Nat.le_of_ble_eq_true rfl) (c167 P5 (zbk_v ?_))
          refine zr_icmp_geN zi236_168 rfl (by omega) (by omega) (fun q168 => ?_) (fun q168 => ?_)
          · refine zr_lload_n zi236_225 rfl ?_
            refine zr_ldc2l zi236_226 ?_
            refine zr_lmul zi236_229 ?_
            refine zr_aload zi236_230 rfl ?_
            refine zr_arraylength (v := zJ l67.length) zi236_232 Xq5 rfl (zlenJ rfl) ?_
            refine zr_if_neN zi236_233 rfl (by omega) (fun q233 => ?_) (fun q233 => ?_)
            · refine zr_aload zi236_240 rfl ?_
              refine zr_iconst (v := zJ 0) zi236_242 rfl ?_
              refine zr_ialoadN zi236_243 Xq5 rfl (by omega) (by first | omega | (simp only [List.length_set, zpt_len]; omega)) ?_
              refine zr_i2l zi236_244 ?_
              refine zr_ladd zi236_245 ?_
              refine zr_lstore_n (L' := [some (.ref _), some (.long _), none, some (.int (zJ _)), some (.ref _), some (.ref _), some (.int (zJ _)), _]) zi236_246 rfl rfl ?_
              refine zr_lload_n zi236_247 rfl ?_
              refine zr_ldc2l zi236_248 ?_
              refine zr_lmul zi236_251 ?_
              refine zr_ldc2d zi236_252 ?_
              refine zr_aload zi236_255 rfl ?_
              refine zr_static zi236_257 rfl rfl rfl rfl ?_
              refine zcall_dep (d := 4) (Nat.le_of_ble_eq_true rfl) (c221 P5 (fun v257 M257 ev257 => zbk_v ?_))
              subst ev257
              refine zr_dmul zi236_260 (yzn_mul (yDF_of (K := 1030) (by unfold yM64; decide) (by omega)) (yDF_of M257 (by omega))) ?_
              refine zr_d2i zi236_261 ?_
              refine zr_i2l zi236_262 ?_
              refine zr_ladd zi236_263 ?_
              refine zr_lstore_n (L' := [some (.ref _), some (.long _), none, some (.int (zJ _)), some (.ref _), some (.ref _), some (.int (zJ _)), _]) zi236_264 rfl rfl ?_
              refine zr_lload_n zi236_265 rfl ?_
              refine zr_ldc2l zi236_266 ?_
              refine zr_lmul zi236_269 ?_
              refine zr_ldc2d zi236_270 ?_
              refine zr_aload zi236_273 rfl ?_
              refine zr_aload zi236_275 rfl ?_
              refine zr_static zi236_277 rfl rfl rfl rfl ?_
              refine zcall_dep (d := 1) (Nat.le_of_ble_eq_true rfl) (c222 P5 Xq5 hl67 (fun v277 M277 ev277 => zbk_v ?_))
              subst ev277
              refine zr_f2d zi236_280 (yzn_of (yDF_f2d M277 (by omega)).notNaN) ?_
              refine zr_dmul zi236_281 (yzn_mul (yDF_of (K := 1030) (by unfold yM64; decide) (by omega)) (yDF_f2d M277 (by omega))) ?_
              refine zr_d2i zi236_282 ?_
              refine zr_i2l zi236_283 ?_
              refine zr_ladd zi236_284 ?_
              refine zr_lstore_n (L' := [some (.ref _), some (.long _), none, some (.int (zJ _)), some (.ref _), some (.ref _), some (.int (zJ _)), _]) zi236_285 rfl rfl ?_
              refine zr_lload_n zi236_286 rfl ?_
              refine zr_ldc2l zi236_287 ?_
              refine zr_lmul zi236_290 ?_
              refine zr_aload zi236_291 rfl ?_
              refine zr_static zi236_293 rfl rfl rfl rfl ?_
              refine zcall_dep (d := 4) (Nat.le_of_ble_eq_true rfl) (c226 P5 (fun v293 ev293 => zbk_v ?_))
              subst ev293
              refine zr_i2l zi236_296 ?_
              refine zr_ladd zi236_297 ?_
              refine zr_lstore_n (L' := [some (.ref _), some (.long _), none, some (.int (zJ _)), some (.ref _), some (.ref _), some (.int (zJ _)), _]) zi236_298 rfl rfl ?_
              refine zr_lload_n zi236_299 rfl ?_
              refine zr_ldc2l zi236_300 ?_
              refine zr_lmul zi236_303 ?_
              refine zr_aload zi236_304 rfl ?_
              refine zr_aload zi236_306 rfl ?_
              refine zr_static zi236_308 rfl rfl rfl rfl ?_
              refine zcall_dep (d := 2) (Nat.le_of_ble_eq_true rfl) (c228 P5 Xq5 hl67 (fun v308 ev308 => zbk_v ?_))
              subst ev308
              refine zr_i2l zi236_311 ?_
              refine zr_ladd zi236_312 ?_
              refine zr_lstore_n (L' := [some (.ref _), some (.long _), none, some (.int (zJ _)), some (.ref _), some (.ref _), some (.int (zJ _)), _]) zi236_313 rfl rfl ?_
              refine zr_lload_n zi236_314 rfl ?_
              refine zr_ldc2l zi236_315 ?_
              refine zr_lmul zi236_318 ?_
              refine zr_aload zi236_319 rfl ?_
              refine zr_aload zi236_321 rfl ?_
              refine zr_static zi236_323 rfl rfl rfl rfl ?_
              refine zcall_dep (d := 2) (Nat.le_of_ble_eq_true rfl) (c231 P5 Xq5 hl67 (fun v323 ev323 => zbk_v ?_))
              subst ev323
              refine zr_i2l zi236_326 ?_
              refine zr_ladd zi236_327 ?_
              refine zr_lstore_n (L' := [some (.ref _), some (.long _), none, some (.int (zJ _)), some (.ref _), some (.ref _), some (.int (zJ _)), _]) zi236_328 rfl rfl ?_
              refine zr_lload_n zi236_329 rfl ?_
              refine zr_ldc2l zi236_330 ?_
              refine zr_lmul zi236_333 ?_
              refine zr_aload_n zi236_334 rfl ?_
              refine zr_iload_n zi236_335 rfl ?_
              refine zr_iconst (v := zJ 0) zi236_336 rfl ?_
              refine zr_virtual zi236_337 rfl rfl (C5.1.at0 rfl) rfl rfl ?_
              refine zcall_dep (d := 6) (Nat.le_of_ble_eq_true rfl) (c234d C5 (N5.1.ss S) (i := i) (by omega) (fun h337 v337 F337 ev337 => zbk_v ?_))
              have C337 := rC.nw C5 F337
              obtain ⟨qM337, mM337, GM337⟩ := C337.hd
              have Xq67_337 := F337.c (by omega) (fun z => by have z : _ ≤ q67 := z; omega) Xq5
              have nq67_337 := F337.2.1
              have D337 := C337.bd hk
              have P337 := D337.1
              obtain ⟨qg337, mg337, Lg337⟩ := D337.hd
              refine zr_i2l zi236_340 ?_
              refine zr_ladd zi236_341 ?_
              refine zr_lstore_n (L' := [some (.ref _), some (.long _), none, some (.int (zJ _)), some (.ref _), some (.ref _), some (.int (zJ _)), _]) zi236_342 rfl rfl ?_
              refine zr_iincN (z := 1) (L' := [some (.ref _), some (.long _), none, some (.int (zJ _)), some (.ref _), some (.ref _), some (.int (zJ _)), _]) zi236_343 rfl rfl rfl rfl ?_
              refine zr_goto zi236_346 rfl ?_
              have e1 : rdc (i + 1) = rdc i + (62 + rdA i) := rfl
              have e2 : rds (i + 1) = rds i + (1563 + rdB i) := rfl
              have e3 := Hl
              rw [show ln = w + hh by omega] at e3
              exact ih37 (by omega) _ _ _ _ _ _ ((N5.trans (rNx.new C5 F337)).fit (by omega) (by omega)) C337 ⟨z0, l67, b, r, g, e, w, hh, X, cl, mi, sp, KS, R3, hk, px67, by
                rw [← eV]
                unfold zdB
                rw [zdg7, ← e3, fr0, fr1, fr2, fr3, fr4, fr5, fr6, ← ev337]
                first | rw [if_pos (show 0 < l67.length by omega)] | rw [if_neg (show ¬ 0 < l67.length by omega)]⟩
            · refine zr_iconst (v := (-1)) zi236_236 rfl ?_
              refine zr_goto zi236_237 rfl ?_
              refine zr_i2l zi236_244 ?_
              refine zr_ladd zi236_245 ?_
              refine zr_lstore_n (L' := [some (.ref _), some (.long _), none, some (.int (zJ _)), some (.ref _), some (.ref _), some (.int (zJ _)), _]) zi236_246 rfl rfl ?_
              refine zr_lload_n zi236_247 rfl ?_
              refine zr_ldc2l zi236_248 ?_
              refine zr_lmul zi236_251 ?_
              refine zr_ldc2d zi236_252 ?_
              refine zr_aload zi236_255 rfl ?_
              refine zr_static zi236_257 rfl rfl rfl rfl ?_
              refine zcall_dep (d := 4) (Nat.le_of_ble_eq_true rfl) (c221 P5 (fun v257 M257 ev257 => zbk_v ?_))
              subst ev257
              refine zr_dmul zi236_260 (yzn_mul (yDF_of (K := 1030) (by unfold yM64; decide) (by omega)) (yDF_of M257 (by omega))) ?_
              refine zr_d2i zi236_261 ?_
              refine zr_i2l zi236_262 ?_
              refine zr_ladd zi236_263 ?_
              refine zr_lstore_n (L' := [some (.ref _), some (.long _), none, some (.int (zJ _)), some (.ref _), some (.ref _), some (.int (zJ _)), _]) zi236_264 rfl rfl ?_
              refine zr_lload_n zi236_265 rfl ?_
              refine zr_ldc2l zi236_266 ?_
              refine zr_lmul zi236_269 ?_
              refine zr_ldc2d zi236_270 ?_
              refine zr_aload zi236_273 rfl ?_
              refine zr_aload zi236_275 rfl ?_
              refine zr_static zi236_277 rfl rfl rfl rfl ?_
              refine zcall_dep (d := 1) (Nat.le_of_ble_eq_true rfl) (c222 P5 Xq5 hl67 (fun v277 M277 ev277 => zbk_v ?_))
              subst ev277
              refine zr_f2d zi236_280 (yzn_of (yDF_f2d M277 (by omega)).notNaN) ?_
              refine zr_dmul zi236_281 (yzn_mul (yDF_of (K := 1030) (by unfold yM64; decide) (by omega)) (yDF_f2d M277 (by omega))) ?_
              refine zr_d2i zi236_282 ?_
              refine zr_i2l zi236_283 ?_
              refine zr_ladd zi236_284 ?_
              refine zr_lstore_n (L' := [some (.ref _), some (.long _), none, some (.int (zJ _)), some (.ref _), some (.ref _), some (.int (zJ _)), _]) zi236_285 rfl rfl ?_
              refine zr_lload_n zi236_286 rfl ?_
              refine zr_ldc2l zi236_287 ?_
              refine zr_lmul zi236_290 ?_
              refine zr_aload zi236_291 rfl ?_
              refine zr_static zi236_293 rfl rfl rfl rfl ?_
              refine zcall_dep (d := 4) (Nat.le_of_ble_eq_true rfl) (c226 P5 (fun v293 ev293 => zbk_v ?_))
              subst ev293
              refine zr_i2l zi236_296 ?_
              refine zr_ladd zi236_297 ?_
              refine zr_lstore_n (L' := [some (.ref _), some (.long _), none, some (.int (zJ _)), some (.ref _), some (.ref _), some (.int (zJ _)), _]) zi236_298 rfl rfl ?_
              refine zr_lload_n zi236_299 rfl ?_
              refine zr_ldc2l zi236_300 ?_
              refine zr_lmul zi236_303 ?_
              refine zr_aload zi236_304 rfl ?_
              refine zr_aload zi236_306 rfl ?_
              refine zr_static zi236_308 rfl rfl rfl rfl ?_
              refine zcall_dep (d := 2) (Nat.le_of_ble_eq_true rfl) (c228 P5 Xq5 hl67 (fun v308 ev308 => zbk_v ?_))
              subst ev308
              refine zr_i2l zi236_311 ?_
              refine zr_ladd zi236_312 ?_
              refine zr_lstore_n (L' := [some (.ref _), some (.long _), none, some (.int (zJ _)), some (.ref _), some (.ref _), some (.int (zJ _)), _]) zi236_313 rfl rfl ?_
              refine zr_lload_n zi236_314 rfl ?_
              refine zr_ldc2l zi236_315 ?_
              refine zr_lmul zi236_318 ?_
              refine zr_aload zi236_319 rfl ?_
              refine zr_aload zi236_321 rfl ?_
              refine zr_static zi236_323 rfl rfl rfl rfl ?_
              refine zcall_dep (d := 2) (Nat.le_of_ble_eq_true rfl) (c231 P5 Xq5 hl67 (fun v323 ev323 => zbk_v ?_))
              subst ev323
              refine zr_i2l zi236_326 ?_
              refine zr_ladd zi236_327 ?_
              refine zr_lstore_n (L' := [some (.ref _), some (.long _), none, some (.int (zJ _)), some (.ref _), some (.ref _), some (.int (zJ _)), _]) zi236_328 rfl rfl ?_
              refine zr_lload_n zi236_329 rfl ?_
              refine zr_ldc2l zi236_330 ?_
              refine zr_lmul zi236_333 ?_
              refine zr_aload_n zi236_334 rfl ?_
              refine zr_iload_n zi236_335 rfl ?_
              refine zr_iconst (v := zJ 0) zi236_336 rfl ?_
              refine zr_virtual zi236_337 rfl rfl (C5.1.at0 rfl) rfl rfl ?_
              refine zcall_dep (d := 6) (Nat.le_of_ble_eq_true rfl) (c234d C5 (N5.1.ss S) (i := i) (by omega) (fun h337 v337 F337 ev337 => zbk_v ?_))
              have C337 := rC.nw C5 F337
              obtain ⟨qM337, mM337, GM337⟩ := C337.hd
              have Xq67_337 := F337.c (by omega) (fun z => by have z : _ ≤ q67 := z; omega) Xq5
              have nq67_337 := F337.2.1
              have D337 := C337.bd hk
              have P337 := D337.1
              obtain ⟨qg337, mg337, Lg337⟩ := D337.hd
              refine zr_i2l zi236_340 ?_
              refine zr_ladd zi236_341 ?_
              refine zr_lstore_n (L' := [some (.ref _), some (.long _), none, some (.int (zJ _)), some (.ref _), some (.ref _), some (.int (zJ _)), _]) zi236_342 rfl rfl ?_
              refine zr_iincN (z := 1) (L' := [some (.ref _), some (.long _), none, some (.int (zJ _)), some (.ref _), some (.ref _), some (.int (zJ _)), _]) zi236_343 rfl rfl rfl rfl ?_
              refine zr_goto zi236_346 rfl ?_
              have e1 : rdc (i + 1) = rdc i + (62 + rdA i) := rfl
              have e2 : rds (i + 1) = rds i + (1563 + rdB i) := rfl
              have e3 := Hl
              rw [show ln = w + hh by omega] at e3
              exact ih37 (by omega) _ _ _ _ _ _ ((N5.trans (rNx.new C5 F337)).fit (by omega) (by omega)) C337 ⟨z0, l67, b, r, g, e, w, hh, X, cl, mi, sp, KS, R3, hk, px67, by
                rw [← eV]
                unfold zdB
                rw [zdg7, ← e3, fr0, fr1, fr2, fr3, fr4, fr5, fr6, ← ev337]
                first | rw [if_pos (show 0 < l67.length by omega)] | rw [if_neg (show ¬ 0 < l67.length by omega)]⟩
          · refine zr_iconst (v := zJ 0) zi236_171 rfl ?_
            refine zr_istore (L' := [some (.ref _), some (.long _), none, some (.int (zJ _)), some (.ref _), some (.ref _), some (.int (zJ _)), some (.int (zJ _))]) zi236_172 rfl rfl ?_
            suffices key174 : ∀ z, (z = zdg (V.2.2.1 ln) (zdl V.2.2.1 V.2.2.2.1 (zdc V.2.1 (zdg V.1 z0 11) (w * hh)) ln) 0) → zwp E 15 236 (174, [some (.ref m), some (.long z), none, some (.int (zJ i)), some (.ref b), some (.ref q67), some (.int (zJ ln)), some (.int (zJ 0))], [], h5) Q from key174 _ Hl
            refine zloop (P := fun u => ∀ z, (z = zdg (V.2.2.1 ln) (zdl V.2.2.1 V.2.2.2.1 (zdc V.2.1 (zdg V.1 z0 11) (w * hh)) ln) u) → zwp E 15 236 (174, [some (.ref m), some (.long z), none, some (.int (zJ i)), some (.ref b), some (.ref q67), some (.int (zJ ln)), some (.int (zJ u))], [], h5) Q) (n := 6) fun u hk174 ih174 => ?_
            intro z Hv
            refine zr_iload zi236_174 rfl ?_
            refine zr_iconst (v := zJ 5) zi236_176 rfl ?_
            refine zr_icmp_gtN zi236_177 rfl (by omega) (by omega) (fun q177 => ?_) (fun q177 => ?_)
            · refine zr_lload_n zi236_203 rfl ?_
              refine zr_ldc2l zi236_204 ?_
              refine zr_lmul zi236_207 ?_
              refine zr_aload zi236_208 rfl ?_
              refine zr_iload zi236_210 rfl ?_
              refine zr_iconst (v := zJ 0) zi236_212 rfl ?_
              refine zr_virtual zi236_213 rfl rfl (P5.1.at0 rfl) rfl rfl ?_
              refine zcall_dep (d := 3) (Nat.le_of_ble_eq_true rfl) (c210 P5 (by omega) (zbk_v ?_))
              refine zr_i2l zi236_216 ?_
              refine zr_ladd zi236_217 ?_
              refine zr_lstore_n (L' := [some (.ref _), some (.long _), none, some (.int (zJ _)), some (.ref _), some (.ref _), some (.int (zJ _)), some (.int (zJ _))]) zi236_218 rfl rfl ?_
              refine zr_iincN (z := 1) (L' := [some (.ref _), some (.long _), none, some (.int (zJ _)), some (.ref _), some (.ref _), some (.int (zJ _)), some (.int (zJ _))]) zi236_219 rfl rfl rfl rfl ?_
              refine zr_goto zi236_222 rfl ?_
              exact ih161 (by omega) _ _ (by have e := Hv; rw [show u = 6 by omega] at e; rw [zdl_s, ← e, fw])
            · refine zr_lload_n zi236_180 rfl ?_
              refine zr_ldc2l zi236_181 ?_
              refine zr_lmul zi236_184 ?_
              refine zr_aload zi236_185 rfl ?_
              refine zr_iload zi236_187 rfl ?_
              refine zr_iload zi236_189 rfl ?_
              refine zr_static zi236_191 rfl rfl rfl rfl ?_
              refine zcall_dep (d := 4) (Nat.le_of_ble_eq_true rfl) (c208 P5 (by omega) (by omega) (zbk_v ?_))
              refine zr_i2l zi236_194 ?_
              refine zr_ladd zi236_195 ?_
              refine zr_lstore_n (L' := [some (.ref _), some (.long _), none, some (.int (zJ _)), some (.ref _), some (.ref _), some (.int (zJ _)), some (.int (zJ _))]) zi236_196 rfl rfl ?_
              refine zr_iincN (z := 1) (L' := [some (.ref _), some (.long _), none, some (.int (zJ _)), some (.ref _), some (.ref _), some (.int (zJ _)), some (.int (zJ _))]) zi236_197 rfl rfl rfl rfl ?_
              refine zr_goto zi236_200 rfl ?_
              exact ih174 (by omega) _ (by rw [zdg_s, ← Hv, fl])
        · refine zr_iconst (v := zJ 0) zi236_118 rfl ?_
          refine zr_istore (L' := [some (.ref _), some (.long _), none, some (.int (zJ _)), some (.ref _), some (.ref _), some (.int (zJ _)), some (.int (zJ _))]) zi236_119 rfl rfl ?_
          suffices key121 : ∀ z, (z = zdg (V.2.1 cc) (zdc V.2.1 (zdg V.1 z0 11) cc) 0) → zwp E 15 236 (121, [some (.ref m), some (.long z), none, some (.int (zJ i)), some (.ref b), some (.ref q67), some (.int (zJ cc)), some (.int (zJ 0))], [], h5) Q from key121 _ Hc
          refine zloop (P := fun u => ∀ z, (z = zdg (V.2.1 cc) (zdc V.2.1 (zdg V.1 z0 11) cc) u) → zwp E 15 236 (121, [some (.ref m), some (.long z), none, some (.int (zJ i)), some (.ref b), some (.ref q67), some (.int (zJ cc)), some (.int (zJ u))], [], h5) Q) (n := 4) fun u hk121 ih121 => ?_
          intro z Hu
          refine zr_iload zi236_121 rfl ?_
          refine zr_iconst (v := zJ 3) zi236_123 rfl ?_
          refine zr_icmp_gtN zi236_124 rfl (by omega) (by omega) (fun q124 => ?_) (fun q124 => ?_)
          · refine zr_iincN (z := 1) (L' := [some (.ref _), some (.long _), none, some (.int (zJ _)), some (.ref _), some (.ref _), some (.int (zJ _)), some (.int (zJ _))]) zi236_152 rfl rfl rfl rfl ?_
            refine zr_goto zi236_155 rfl ?_
            exact ih108 (by omega) _ _ (by have e := Hu; rw [show u = 4 by omega] at e; exact e)
          · have ht : u < 4 := by omega
            obtain ⟨lx, ex, Xx, hlx⟩ := rB.row (X := X) P5 ht
            refine zr_lload_n zi236_127 rfl ?_
            refine zr_ldc2l zi236_128 ?_
            refine zr_lmul zi236_131 ?_
            refine zr_aload zi236_132 rfl ?_
            refine zr_getfield zi236_134 (P5.1.at0 rfl) rfl ?_
            refine zr_iload zi236_137 rfl ?_
            refine zr_aaloadN zi236_139 (P5.rw.at0 rfl) rfl (by omega) (show [Value.ref (r + 1), .ref (r + 2), .ref (r + 3), .ref (r + 4)][u]? = some (.ref (r + 1 + u)) from by match u, ht with | 0, _ => rfl | 1, _ => rfl | 2, _ => rfl | 3, _ => rfl) ?_
            refine zr_iload zi236_140 rfl ?_
            refine zr_ialoadN zi236_142 Xx rfl (by omega) (by first | omega | (simp only [List.length_set, zpt_len]; omega)) ?_
            refine zr_i2l zi236_143 ?_
            refine zr_ladd zi236_144 ?_
            refine zr_lstore_n (L' := [some (.ref _), some (.long _), none, some (.int (zJ _)), some (.ref _), some (.ref _), some (.int (zJ _)), some (.int (zJ _))]) zi236_145 rfl rfl ?_
            refine zr_iincN (z := 1) (L' := [some (.ref _), some (.long _), none, some (.int (zJ _)), some (.ref _), some (.ref _), some (.int (zJ _)), some (.int (zJ _))]) zi236_146 rfl rfl rfl rfl ?_
            refine zr_goto zi236_149 rfl ?_
            exact ih121 (by omega) _ (by rw [zdg_s, ← Hu, fc, ex])
      · refine zr_lload_n zi236_82 rfl ?_
        refine zr_ldc2l zi236_83 ?_
        refine zr_lmul zi236_86 ?_
        refine zr_aload zi236_87 rfl ?_
        refine zr_aload zi236_89 rfl ?_
        refine zr_iload zi236_91 rfl ?_
        refine zr_static zi236_93 rfl rfl rfl rfl ?_
        refine zcall_dep (d := 5) (Nat.le_of_ble_eq_true rfl) (c212 P5 Lg5 Xq5 hl67 (by omega) (by omega) (fun h93 v93 F93 ev93 => zbk_v ?_))
        subst ev93
        have C93 := rC.nw C5 F93
        obtain ⟨qM93, mM93, GM93⟩ := C93.hd
        have Xq67_93 := F93.c (by omega) (fun z => by have z : _ ≤ q67 := z; omega) Xq5
        have nq67_93 := F93.2.1
        have D93 := C93.bd hk
        have P93 := D93.1
        obtain ⟨qg93, mg93, Lg93⟩ := D93.hd
        refine zr_i2l zi236_96 ?_
        refine zr_ladd zi236_97 ?_
        refine zr_lstore_n (L' := [some (.ref _), some (.long _), none, some (.int (zJ _)), some (.ref _), some (.ref _), some (.int (zJ _)), _]) zi236_98 rfl rfl ?_
        refine zr_iincN (z := 1) (L' := [some (.ref _), some (.long _), none, some (.int (zJ _)), some (.ref _), some (.ref _), some (.int (zJ _)), _]) zi236_99 rfl rfl rfl rfl ?_
        refine zr_goto zi236_102 rfl ?_
        exact ih75 (by omega) _ _ _ ((N5.trans (rNx.new C5 F93)).fit (by omega) (by omega)) C93 Xq67_93 (by omega) (by rw [zdg_s, ← Hb, fb])
  · refine zr_lload_n zi236_16 rfl ?_
    refine zr_ldc2l zi236_17 ?_
    refine zr_lmul zi236_20 ?_
    refine zr_aload_n zi236_21 rfl ?_
    refine zr_iload_n zi236_22 rfl ?_
    refine zr_virtual zi236_23 rfl rfl (C1.1.at0 rfl) rfl rfl ?_
    refine zcall_dep (d := 3) (Nat.le_of_ble_eq_true rfl) (c224 C1 (by omega) (fun h23 v23 F23 ev23 => zbk_v ?_))
    subst ev23
    have C23 := rC.nw C1 F23
    obtain ⟨qM23, mM23, GM23⟩ := C23.hd
    refine zr_i2l zi236_26 ?_
    refine zr_ladd zi236_27 ?_
    refine zr_lstore_n (L' := [some (.ref _), some (.long _), none, some (.int (zJ _)), none, none, none, none]) zi236_28 rfl rfl ?_
    refine zr_iincN (z := 1) (L' := [some (.ref _), some (.long _), none, some (.int (zJ _)), none, none, none, none]) zi236_29 rfl rfl rfl rfl ?_
    refine zr_goto zi236_32 rfl ?_
    exact ih11 (by omega) _ _ ((N1.trans (rNx.new C1 F23)).fit (by omega) (by omega)) C23 (by rw [zdg_s, ← Hz]; rfl)
