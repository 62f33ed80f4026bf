/-! ===== A STEP OF THE PURE MACHINE IS A STEP OF THE MACHINE; A RUN IS A RUN ===== -/
section ZSD
variable {G : zG} {p : Program} {l : Launch} {e : Env} {R : Room} {s : State} {m : MethodId} {args : Array Value} {below : List Frame} {meth : Method} {c : Code}
variable {r : zMd} {d g0 k0 : Nat} {h : zPH} {n pc j : Nat} {L : zLc} {st : List Value} {q : zOut × zPH}
theorem zs_invokestatic {k : Nat} {x : zAux} (hF : zFm G p l R s m args meth c r d g0 k0 q.2) (hB : zBg G s c r q g0) (hj : zmd j = some r) (hd : decode r.2.1 pc = .ok (.invokestatic k, n)) (hn : zln (.invokestatic k) n = true) (hz : zck r pc (.invokestatic k) x = true) (hle : zge h q.2) (ha : zAk G p l e R s m args below meth c r d g0 k0 q j (.invokestatic k) n x pc L st h) : zGo G p l e R s m args below meth c (zQ G below args s q g0 k0) r.2.2.1 g0 k0 (pc, L, st, h) := by
  by_cases h21 : x.1 = 21
  · exact zs_copy hF hd hn h21 hz ha
  by_cases h25 : x.1 = 25
  · exact zs_min hF hd hn h25 hz hle ha
  by_cases h26 : x.1 = 26
  · exact zs_abs hF hd hn h26 hz hle ha
  have hz2 : zVl.any (fun l => l.any (zqV r.2.2.2.2.1 k x)) = true := by
    dsimp only [zck] at hz
    split at hz
    · rename_i hq; exact absurd hq h21
    · rename_i hq; exact absurd hq h25
    · rename_i hq; exact absurd hq h26
    · exact hz
  have ha2 := ha
  dsimp only [zAk, zAc, zact] at ha
  split at ha
  · rename_i hq; exact absurd hq h21
  · rename_i hq; exact absurd hq h25
  · rename_i hq; exact absurd hq h26
  · obtain ⟨hk, -⟩ := zif_t ha
    rcases Bool.or_eq_true_iff.mp hk with hk | hk
    · exact zs_static hF hB hj hd hn (znq hk) hz2 ha2
    rcases Bool.or_eq_true_iff.mp hk with hk | hk
    · exact zs_staticN hF hB hj hd hn (znq hk) hz2 ha2
    · exact zs_staticX hF hB hj hd hn (znq hk) hz2 ha2
theorem zs_invokespecial {k : Nat} {x : zAux} (hF : zFm G p l R s m args meth c r d g0 k0 q.2) (hB : zBg G s c r q g0) (hj : zmd j = some r) (hd : decode r.2.1 pc = .ok (.invokespecial k, n)) (hn : zln (.invokespecial k) n = true) (hz : zck r pc (.invokespecial k) x = true) (ha : zAk G p l e R s m args below meth c r d g0 k0 q j (.invokespecial k) n x pc L st h) : zGo G p l e R s m args below meth c (zQ G below args s q g0 k0) r.2.2.1 g0 k0 (pc, L, st, h) := by
  by_cases h20 : x.1 = 20
  · exact zs_obj hF hd hn h20 hz ha
  have hz2 : zVl.any (fun l => l.any (zqV r.2.2.2.2.1 k x)) = true := by
    dsimp only [zck] at hz
    split at hz
    · rename_i hq; exact absurd hq h20
    · exact hz
  by_cases h7 : x.1 = 7
  · exact zs_super hF hB hj hd hn h7 hz2 ha
  have ha2 := ha
  dsimp only [zAk, zAc, zact] at ha
  split at ha
  · rename_i hq; exact absurd hq h20
  · rename_i hq; exact absurd hq h7
  · obtain ⟨hk, -⟩ := zif_t ha
    rcases Bool.or_eq_true_iff.mp hk with hk | hk
    · exact zs_init hF hB hj hd hn (znq hk) hz2 ha2
    · exact zs_initN hF hB hj hd hn (znq hk) hz2 ha2
theorem zs_invokevirtual {k : Nat} {x : zAux} (hF : zFm G p l R s m args meth c r d g0 k0 q.2) (hB : zBg G s c r q g0) (hj : zmd j = some r) (hd : decode r.2.1 pc = .ok (.invokevirtual k, n)) (hn : zln (.invokevirtual k) n = true) (hz : zck r pc (.invokevirtual k) x = true) (ha : zAk G p l e R s m args below meth c r d g0 k0 q j (.invokevirtual k) n x pc L st h) : zGo G p l e R s m args below meth c (zQ G below args s q g0 k0) r.2.2.1 g0 k0 (pc, L, st, h) := by
  have ha2 := ha
  dsimp only [zAk, zAc, zact] at ha
  obtain ⟨hk, -⟩ := zif_t ha
  rcases Bool.or_eq_true_iff.mp hk with hk | hk
  · exact zs_virtual hF hB hj hd hn (znq hk) hz ha2
  · exact zs_override hF hB hj hd hn (znq hk) hz ha2
theorem zs_invokeinterface {k kc : Nat} {x : zAux} (hF : zFm G p l R s m args meth c r d g0 k0 q.2) (hB : zBg G s c r q g0) (hj : zmd j = some r) (hd : decode r.2.1 pc = .ok (.invokeinterface k kc, n)) (hn : zln (.invokeinterface k kc) n = true) (hz : zck r pc (.invokeinterface k kc) x = true) (ha : zAk G p l e R s m args below meth c r d g0 k0 q j (.invokeinterface k kc) n x pc L st h) : zGo G p l e R s m args below meth c (zQ G below args s q g0 k0) r.2.2.1 g0 k0 (pc, L, st, h) := by
  have ha2 := ha
  dsimp only [zAk, zAc, zact] at ha
  obtain ⟨hk, -⟩ := zif_t ha
  exact zs_interface hF hB hj hd hn (znq hk) hz ha2
set_option maxHeartbeats 4000000 in
theorem zstep {i : Instr} {x : zAux} (hF : zFm G p l R s m args meth c r d g0 k0 q.2) (hB : zBg G s c r q g0) (hj : zmd j = some r) (hi : zins j pc = some (i, n, x)) (hle : zge h q.2) (ha : zAk G p l e R s m args below meth c r d g0 k0 q j i n x pc L st h) : zGo G p l e R s m args below meth c (zQ G below args s q g0 k0) r.2.2.1 g0 k0 (pc, L, st, h) := by
  obtain ⟨hd, hn, hz⟩ := zins_d hj hi
  cases i
  case iconst => exact zs_iconst hF hd hn ha
  case bipush => exact zs_bipush hF hd hn ha
  case sipush => exact zs_sipush hF hd hn ha
  case lconst => exact zs_lconst hF hd hn ha
  case aconst_null => exact zs_aconst_null hF hd hn ha
  case fconst => exact zs_fconst hF hd hn ha
  case dconst => exact zs_dconst hF hd hn ha
  case iload => exact zs_iload hF hd hn ha
  case iload_n => exact zs_iload_n hF hd hn ha
  case lload => exact zs_lload hF hd hn ha
  case lload_n => exact zs_lload_n hF hd hn ha
  case dload => exact zs_dload hF hd hn ha
  case dload_n => exact zs_dload_n hF hd hn ha
  case fload => exact zs_fload hF hd hn ha
  case fload_n => exact zs_fload_n hF hd hn ha
  case aload => exact zs_aload hF hd hn ha
  case aload_n => exact zs_aload_n hF hd hn ha
  case istore => exact zs_istore hF hd hn ha
  case istore_n => exact zs_istore_n hF hd hn ha
  case lstore => exact zs_lstore hF hd hn ha
  case lstore_n => exact zs_lstore_n hF hd hn ha
  case dstore => exact zs_dstore hF hd hn ha
  case dstore_n => exact zs_dstore_n hF hd hn ha
  case fstore => exact zs_fstore hF hd hn ha
  case fstore_n => exact zs_fstore_n hF hd hn ha
  case astore => exact zs_astore hF hd hn ha
  case astore_n => exact zs_astore_n hF hd hn ha
  case iinc => exact zs_iinc hF hd hn ha
  case pop => exact zs_pop hF hd hn ha
  case pop2 => exact zs_pop2 hF hd hn ha
  case dup => exact zs_dup hF hd hn ha
  case dup_x1 => exact zs_dup_x1 hF hd hn ha
  case dup2 => exact zs_dup2 hF hd hn ha
  case iadd => exact zs_iadd hF hd hn ha
  case isub => exact zs_isub hF hd hn ha
  case imul => exact zs_imul hF hd hn ha
  case ineg => exact zs_ineg hF hd hn ha
  case iand => exact zs_iand hF hd hn ha
  case ior => exact zs_ior hF hd hn ha
  case ixor => exact zs_ixor hF hd hn ha
  case ishl => exact zs_ishl hF hd hn ha
  case ishr => exact zs_ishr hF hd hn ha
  case ladd => exact zs_ladd hF hd hn ha
  case lmul => exact zs_lmul hF hd hn ha
  case idiv => exact zs_idiv hF hd hn ha
  case irem => exact zs_irem hF hd hn ha
  case iushr => exact zs_iushr hF hd hn ha
  case i2l => exact zs_i2l hF hd hn ha
  case i2b => exact zs_i2b hF hd hn ha
  case i2c => exact zs_i2c hF hd hn ha
  case lcmp => exact zs_lcmp hF hd hn ha
  case dadd => exact zs_dadd hF hd hn ha
  case dsub => exact zs_dsub hF hd hn ha
  case dmul => exact zs_dmul hF hd hn ha
  case ddiv => exact zs_ddiv hF hd hn ha
  case f2d => exact zs_f2d hF hd hn ha
  case fadd => exact zs_fadd hF hd hn ha
  case fsub => exact zs_fsub hF hd hn ha
  case fdiv => exact zs_fdiv hF hd hn ha
  case dneg => exact zs_dneg hF hd hn ha
  case i2d => exact zs_i2d hF hd hn ha
  case i2f => exact zs_i2f hF hd hn ha
  case d2i => exact zs_d2i hF hd hn ha
  case d2l => exact zs_d2l hF hd hn ha
  case dcmp => exact zs_dcmp hF hd hn ha
  case fcmp => exact zs_fcmp hF hd hn ha
  case arraylength => exact zs_arraylength hF hd hn ha
  case iaload => exact zs_iaload hF hd hn ha
  case baload => exact zs_baload hF hd hn ha
  case aaload => exact zs_aaload hF hd hn ha
  case iastore => exact zs_iastore hF hd hn ha
  case bastore => exact zs_bastore hF hd hn ha
  case aastore => exact zs_aastore hF hd hn ha
  case ifCond => exact zs_ifCond hF hd hn hz ha
  case if_icmp => exact zs_if_icmp hF hd hn hz ha
  case if_acmp => exact zs_if_acmp hF hd hn hz ha
  case ifnull => exact zs_ifnull hF hd hn hz ha
  case ifnonnull => exact zs_ifnonnull hF hd hn hz ha
  case goto => exact zs_goto hF hd hn hz ha
  case tableswitch => exact zs_tableswitch hF hd hn hz ha
  case getfield => exact zs_getfield hF hd hn hz ha
  case putfield => exact zs_putfield hF hd hn hz ha
  case getstatic => exact zs_getstatic hF hd hn hz ha
  case ldc => exact zs_ldc hF hd hn hz ha
  case ldc_w => exact zs_ldc_w hF hd hn hz ha
  case ldc2_w => exact zs_ldc2_w hF hd hn hz ha
  case checkcast => exact zs_checkcast hF hd hn hz ha
  case newarray => exact zs_newarray hF hd hn hz ha
  case anewarray => exact zs_anewarray hF hd hn hz ha
  case multianewarray => exact zs_multianewarray hF hd hn hz ha
  case new => exact zs_new hF hB hd hn hz ha
  case ireturn => exact zs_ireturn hF hd hn ha
  case lreturn => exact zs_lreturn hF hd hn ha
  case dreturn => exact zs_dreturn hF hd hn ha
  case freturn => exact zs_freturn hF hd hn ha
  case areturn => exact zs_areturn hF hd hn ha
  case return_ => exact zs_return hF hd hn ha
  case invokestatic => exact zs_invokestatic hF hB hj hd hn hz hle ha
  case invokespecial => exact zs_invokespecial hF hB hj hd hn hz ha
  case invokevirtual => exact zs_invokevirtual hF hB hj hd hn hz ha
  case invokeinterface => exact zs_invokeinterface hF hB hj hd hn hz ha
  all_goals exact ha.elim
/-- a method that is run from its start -/
theorem zmet_of {as : List Value} (hl0 : l.stackTraces = false) (hlen : (zargs as).length ≤ zml j)
    (hgo : ∀ (p : Program) (e : Env) (R : Room) (s : State) (m : MethodId) (args : Array Value) (below : List Frame) (meth : Method) (c : Code) (r : zMd) (g0 k0 : Nat), zFm G p l R s m args meth c r d g0 k0 q.2 → zBg G s c r q g0 → zmd j = some r →
      zGo G p l e R s m args below meth c (zQ G below args s q g0 k0) r.2.2.1 g0 k0 (0, zent j as, [], h)) : zMet G l j d as h q := by
  intro r hj hok
  have hml : zml j = r.2.2.1 := by unfold zml; rw [hj]
  have key : ∀ (p : Program) (e : Env) (s : State) (m : MethodId) (args : Array Value) (below : List Frame) (meth : Method) (c : Code) (s₁ : State), BodyLoose p l r.1 (headSpec (zcw r :: zWS) (zrm d (q.2.2.1 - h.2.1) (q.2.2.2 - h.2.2))) r.2.1 r.2.2.1 r.2.2.2.1 e s m args below meth c s₁ → c.maxLocals = r.2.2.1 →
      c.exceptionTable.toList.map (fun x => (x.startPc, x.endPc, x.handlerPc, x.catchType)) = r.2.2.2.2.2.2 → zPc G as h args s →
      W p l e (headSpec (zcw r :: zWS) (zrm d (q.2.2.1 - h.2.1) (q.2.2.2 - h.2.2))).room s m args below meth c s.heap [] 0 0 (vx_MQ below (zQc G q) (zXC G q) args s (q.2.2.1 - h.2.1) (q.2.2.2 - h.2.2) (fun z => zgb G ≤ z)) (entryFrame m args r.2.2.1) := by
    intro p e s m args below meth c s₁ B hmlc htab hP
    obtain ⟨hargs, hH, hK⟩ := hP
    have hts : ∀ w ∈ zWS, w.before args s = true := fun w hw => atoms_spec (ws := zcw r :: zWS) B.pre w (List.mem_cons_of_mem _ hw)
    have hF : zFm G p l (zrm d (q.2.2.1 - h.2.1) (q.2.2.2 - h.2.2)) s m args meth c r d h.2.1 h.2.2 q.2 :=
      ⟨B.exec, B.bytes, hmlc, B.returns, B.notSynchronized, findClass_of_methodNamed B.named, hok.2.2.2.1, hts, hK, hl0, fun hq => (name_of_methodNamed B.named B.method).1.trans hq, Nat.le_refl _, Nat.le_refl _, Nat.le_refl _, Nat.le_refl _⟩
    have hB : zBg G s c r q h.2.1 := ⟨hH.2.2.1, hH.1, by rw [← hH.1]; exact hH.2.2.2, Or.inl htab⟩
    have h1 := hgo p e _ s m args below meth c r h.2.1 h.2.2 hF hB hj s.heap [] ((lg_sl as ++ List.replicate (r.2.2.1 - (lg_sl as).length) Slot.unset).toArray) hH (fun z hz => by cases hz) (by
      unfold zent
      rw [hml]
      exact zL.entry (by rw [← hml]; exact hlen)) (Nat.le_refl _) (Nat.le_refl _)
    have e1 : entryFrame m args r.2.2.1 = F0 m 0 ((lg_sl as ++ List.replicate (r.2.2.1 - (lg_sl as).length) Slot.unset).toArray) [] := by
      rw [hargs]
      exact lg_entry_eq m as r.2.2.1
    rw [e1]
    exact W.cs (Nat.sub_self _).symm (Nat.sub_self _).symm h1
  by_cases hnh : r.2.2.2.2.2.2 = []
  · refine zofW (cc := r.2.1) (maxL := r.2.2.1) (ret := r.2.2.2.1) hok.1 (by rw [zcw_code hnh]) fun p e s m args below meth c s₁ B h1 h2 h3 => key p e s m args below meth c s₁ B h1 ?_ h3
    rw [hnh, List.map_eq_nil_iff]
    cases ht : c.exceptionTable.toList with
    | nil => rfl
    | cons a t => exact (h2 a (by rw [ht]; exact List.mem_cons_self)).elim
  · refine zofWH (cc := r.2.1) (maxL := r.2.2.1) (ret := r.2.2.2.1) (hh := r.2.2.2.2.2.2) hok.1 (by rw [zcw_with hnh]) fun p e s m args below meth c s₁ B h1 h3 => key p e s m args below meth c s₁ B h1 ?_ h3
    have hcode := atoms_spec (ws := zcw r :: zWS) B.pre _ List.mem_cons_self
    rw [zcw_with hnh] at hcode
    obtain ⟨m9, meth9, c9, g1, g2, g3, -, -, g4, -⟩ := Cond.codeWith_spec hcode
    cases Option.some.inj (g1.symm.trans B.named)
    cases Option.some.inj (g2.symm.trans B.method)
    cases Option.some.inj (g3.symm.trans (Stand.of_body B).code)
    exact g4
end ZSD
/-- THE RUN -/
theorem zsound {G : zG} {l : Launch} (hl0 : l.stackTraces = false) : ∀ (n d j : Nat) (y : zCfg) (q : zOut × zPH), zrun (zgE G) n d j y = some q →
    ∀ (p : Program) (e : Env) (R : Room) (s : State) (m : MethodId) (args : Array Value) (below : List Frame) (meth : Method) (c : Code) (r : zMd) (g0 k0 : Nat), zFm G p l R s m args meth c r d g0 k0 q.2 → zBg G s c r q g0 → zmd j = some r →
      zGo G p l e R s m args below meth c (zQ G below args s q g0 k0) r.2.2.1 g0 k0 y
  | 0, _, _, _, _, hq => by rw [zrun] at hq; cases hq
  | n + 1, d, j, (pc, L, st, h), q, hq => by
    intro p e R s m args below meth c r g0 k0 hF hB hj
    have hle := zrun_ge _ _ _ _ _ _ hq
    rw [zrun_eq] at hq
    cases hi : zins j pc with
    | none => rw [hi] at hq; cases hq
    | some z =>
      obtain ⟨i, len, x⟩ := z
      rw [hi] at hq
      dsimp only at hq
      refine zstep hF hB hj hi hle ?_
      show zact False (zgE G) r.2.2.2.1 i len x pc L st h _ _ _
      rw [zact_free]
      have hrt : zrt j = r.2.2.2.1 := by unfold zrt; rw [hj]
      rw [hrt] at hq
      cases hfr : zfree (zgE G) r.2.2.2.1 i len x pc L st h with
      | inl u => rw [hfr] at hq; cases hq
      | inr f =>
        rw [hfr] at hq
        rcases f with y | o | ⟨j', as, rest⟩
        · have hq : zrun (zgE G) n d j y = some q := hq
          exact ⟨zrun_ge _ _ _ _ _ _ hq, zsound hl0 n d j y q hq p e R s m args below meth c r g0 k0 hF hB hj⟩
        · have hq : some (o.1, o.2) = some q := hq
          exact Option.some.inj hq
        · have hq : zcr (zgE G) n d j pc len L h j' as rest = some q := hq
          show zCal G p l e R s m args below meth c r d g0 k0 q j pc len L h j' as rest
          unfold zcr at hq
          cases d with
          | zero => cases hq
          | succ d' =>
            dsimp only at hq
            cases hbl : Nat.ble (zargs as).length (zml j') with
            | false => rw [hbl] at hq; cases hq
            | true =>
              rw [hbl] at hq
              dsimp only at hq
              cases hc : zrun (zgE G) n d' j' (0, zent j' as, [], h) with
              | none => rw [hc] at hq; cases hq
              | some oh =>
                rw [hc] at hq
                have hmet : zMet G l j' d' as h oh := zmet_of hl0 (Nat.le_of_ble_eq_true hbl) fun p e R s m args below meth c r g0 k0 hF hB hj => zsound hl0 n d' j' _ oh hc p e R s m args below meth c r g0 k0 hF hB hj
                have hg1 := zrun_ge _ _ _ _ _ _ hc
                obtain ⟨o, h'⟩ := oh
                rcases o with v | E
                · have hq : zrun (zgE G) n (d' + 1) j (pc + len, L, v.toList ++ rest, h') = some q := hq
                  refine ⟨d', (.inl v, h'), rfl, hmet, hg1, zrun_ge _ _ _ _ _ _ hq, fun v2 hv2 => ?_, fun E hE => by cases hE⟩
                  cases hv2
                  exact zsound hl0 n (d' + 1) j _ q hq p e R s m args below meth c r g0 k0 hF hB hj
                · have hq : zthr none j pc E L h' (fun y => zrun (zgE G) n (d' + 1) j y) (fun o h' => some (o, h')) = some q := hq
                  have hg2 : zge h' q.2 := by
                    rcases zthr_cases hq with ⟨pc', ls', hk⟩ | rfl
                    · exact zrun_ge _ _ _ _ _ _ hk
                    · exact zge.rf
                  refine ⟨d', (.inr E, h'), rfl, hmet, hg1, hg2, fun v hv => (by cases hv), fun E2 hE2 => ?_⟩
                  cases hE2
                  exact zthr_nat (fun y hy => ⟨zrun_ge _ _ _ _ _ _ hy, zsound hl0 n (d' + 1) j y q hy p e R s m args below meth c r g0 k0 hF hB hj⟩) rfl hq
