/-! ===== a new object; a throw; the method's end ===== -/
/-- how the heap stood as the method began; the exception table, or an end that isn't a throw -/
def zBg (G : zG) (s : State) (c : Code) (r : zMd) (q : zOut × zPH) (g0 : Nat) : Prop := (∀ q, q < zgb G → s.heap[q]? = (zgH G)[q]?) ∧ s.heap.size = g0 ∧ zgb G ≤ g0 ∧
  (c.exceptionTable.toList.map (fun x => (x.startPc, x.endPc, x.handlerPc, x.catchType)) = r.2.2.2.2.2.2 ∨ ((∃ v, q.1 = .inl v) ∧ r.2.2.2.2.2.2 = []))
theorem zchar {y : Int32} (h : (y.toUInt32 % 65536).toInt32 = y) : narrow .char (.int y) = .int y := by
  show Value.int y.toUInt32.toUInt16.toUInt32.toInt32 = .int y
  have e : y.toUInt32.toUInt16.toUInt32 = y.toUInt32 % 65536 := by
    apply UInt32.toNat_inj.mp
    simp
  rw [e, h]
section ZNW
variable {G : zG} {p : Program} {l : Launch} {e : Env} {R : Room} {s : State} {m : MethodId} {args : Array Value} {below : List Frame} {meth : Method} {c : Code} {Q : State → Prop}
variable {r : zMd} {d g0 k0 : Nat} {h : zPH} {Cc : Nat → List Value → List Value → Prop} {x : zAux} {n pc : Nat} {L : zLc} {st : List Value} {q : zOut × zPH}
theorem zisd_t {cc : ByteArray} {pc : Nat} {i : Instr} {n : Nat} (h : zisd cc pc i n = true) : decode cc pc = .ok (i, n) := of_decide_eq_true h
theorem zs_new {k : Nat} (hF : zFm G p l R s m args meth c r d g0 k0 q.2) (hB : zBg G s c r q g0) (hd : decode r.2.1 pc = .ok (.new k, n)) (hn : zln (.new k) n = true) (hz : zck r pc (.new k) x = true) (ha : zAc G p l e R s m args below meth c (zQ G below args s q g0 k0) r g0 k0 q.2 (fun o h => (o, h) = q) Cc (.new k) n x pc L st h) : zGo G p l e R s m args below meth c (zQ G below args s q g0 k0) r.2.2.1 g0 k0 (pc, L, st, h) := by
  have hn1 : Nat.beq 3 n = true := hn
  cases Nat.eq_of_beq_eq_true hn1
  dsimp only [zAc, zact] at ha
  dsimp only [zck] at hz
  obtain ⟨hx, hb, hml, -, hlocks, hown, hon, hts, hK, hl0, -, hR1, hR2, hR3, hR4⟩ := hF
  split at ha
  · rename_i hlt
    rw [hlt] at hz
    obtain ⟨hz1, hz2⟩ := Bool.and_eq_true_iff.mp hz
    obtain ⟨own, rc, ho, hcl, hw⟩ := zNl_t hz1
    cases zon_t ho hon
    obtain ⟨ty, nn, dd, hns, hdf, hdl, hdv, hin, hty, -, hinst, hini⟩ := zC_ok _ _ hcl
    rw [show zns[x.1]? = some nn from hns] at hz2
    have hnn : nn = x.2.1 := znq hz2
    rw [show zdf[x.1]? = some dd from hdf] at ha
    have ha : zge (zalloc h (x.1, dd) x.2.1) q.2 ∧ zGo G p l e R s m args below meth c (zQ G below args s q g0 k0) r.2.2.1 g0 k0 (pc + 3, L, .ref h.2.1 :: st, zalloc h (x.1, dd) x.2.1) := ha
    have hg1 : h.2.1 + 1 ≤ q.2.2.1 := ha.1.1
    have hg2 : h.2.2 + x.2.1 ≤ q.2.2.2 := ha.1.2
    refine zGo_i fun H locs ls hH hl hL hg hk => ?_
    have hku := hK.1 _ _ hcl
    obtain ⟨hfc, kC, hkC, hkind⟩ := hku.2
    refine W.newcK hx hb hown (hts _ hw) (hts _ hinst) (hts _ hini) (g := F0 m pc ls st) rfl hd (by omega) (by omega) hfc hH.1 fun H1 kC2 e0 e1 e2 e3 => ?_
    have hob := u_born (o := h.2.1) (H := H1) ty hts hin hku e0 e1 hty
    have hH1 : zH G (zalloc h (x.1, dd) x.2.1) H1 := by
      refine hH.push hK (by rw [e2, hH.1]) (fun q hq => e3 q (by rw [← hH.1]; exact hq)) (Or.inl ⟨zcl_lt hcl, hH.2.2.2, rc, hcl, hdl, ?_⟩)
      rw [hH.1]
      exact hob.to fun j hj => (hdv j hj).trans rfl
    have h5 := ha.2 H1 locs ls hH1 hl hL (by show g0 ≤ h.2.1 + 1; omega) (by show k0 ≤ h.2.2 + x.2.1; omega)
    exact W.cs (by show h.2.1 - g0 + 1 = h.2.1 + 1 - g0; omega) (by show h.2.2 - k0 + nn = h.2.2 + x.2.1 - k0; omega) h5
  · rename_i hlt
    rw [hlt] at hz
    obtain ⟨hz1, hz2⟩ := Bool.and_eq_true_iff.mp hz
    obtain ⟨hz3, hz4⟩ := Bool.and_eq_true_iff.mp hz2
    obtain ⟨E, t, hT, hE⟩ := zTl_t hz1
    obtain ⟨h1000, ha⟩ := zif_t ha
    obtain ⟨hwt, ha⟩ := zif_t ha
    have hwt := zwt_le hwt
    obtain ⟨own, Es, tx, ho, hex, hstr, hcl, hini, hfitE, hat, hgood⟩ := hT
    cases zon_t ho hon
    have hE2 : x.1 - 1000 = E := by omega
    rw [hE2] at ha
    subst ha
    refine zGo_i fun H locs ls hH hl hL hg hk => ?_
    obtain ⟨hB1, hB2, hB3, hB4⟩ := hB
    have hnh : r.2.2.2.2.2.2 = [] := List.isEmpty_iff.mp hz4
    have htab : c.exceptionTable.toList = [] := by
      rcases hB4 with hB4 | ⟨⟨v, hv⟩, -⟩
      · rw [hnh] at hB4
        exact List.map_eq_nil_iff.mp hB4
      · cases hv
    have hS : va_S (fun z => zgb G ≤ z) s.heap H locs := by
      refine ⟨by rw [hB2, hH.1]; exact hg, fun z h1 h2 => ?_, hl⟩
      have h3 : z < zgb G := Nat.not_le.mp h2
      exact (hH.2.2.1 z h3).trans (hB1 z h3).symm
    have hkp : ∀ {C nm dd : String}, vx_Zq C nm dd (fun z => zgb G ≤ z) s (zgH G) → vx_Zq C nm dd (fun z => zgb G ≤ z) s s.heap := fun hv => hv.kept fun z _ h2 => hB1 z (Nat.not_le.mp h2)
    have hxc : ∀ t : State, s.vm.Alike t.vm → H.size < t.heap.size → (∀ z : Nat, z < H.size → t.heap[z]? = H[z]?) → zXC G (.inr E, (h.1, h.2.1 + 1, h.2.2 + 6)) Es s t := by
      intro t _ h1 h2
      refine ⟨E, rfl, hex, ⟨fun a cc hac => ?_, fun z hz => ?_, ?_⟩, ?_⟩
      · have h3 := hH.2.1 a cc hac
        exact h3.kept (h2 a (h3.lt hK hH.2.2.2))
      · have h4 := hH.2.2.2
        rw [h2 z (by omega)]
        exact hH.2.2.1 z hz
      · have h4 := hH.2.2.2
        omega
      · have h4 := hH.1
        show h.2.1 + 1 ≤ _
        omega
    have hat2 : ∀ w ∈ vx_atS r.1.cls x.2.2.1 Es znm, w.before args s = true := fun w hw => (hat w hw).elim (fun h => hts w h) (fun h => zxuse h (hK.2.2.2.1 w h))
    have hnm : ∀ n ∈ znm, Bundle.fit n = true := by decide +kernel
    have hls : ls.size = c.maxLocals := by rw [hml]; exact hL.2.1
    have hR5 : znm.length + 3 < R.frames := by show 2 + 3 < _; omega
    have hR6 : (st.map fun v => v.category).sum + (13 * (znm.length + 1) + 43) ≤ R.locals := by show _ + (13 * (2 + 1) + 43) ≤ _; omega
    have hR3' : h.2.1 + 1 - g0 ≤ R.cells := hR3
    have hR4' : h.2.2 + 6 - k0 ≤ R.slots := hR4
    have w1 : (Jvm.Cond.classLink r.1.cls k Es).before args s = true := hts _ hcl
    have w2 : (Jvm.Cond.initialized Es).before args s = true := hts _ hini
    have w3 : vk_R r.1.cls x.2.1 tx ((zgE G).2 t) s := hK.2.2.2.2.1 _ _ hstr
    have w4 : ∀ w ∈ Jvm.Cond.classLink r.1.cls k Es :: Jvm.Cond.initialized Es :: vx_atS r.1.cls x.2.2.1 Es znm, vx_ot w = true := hgood
    have w5 := hkp hK.2.2.2.2.2.1
    have w6 := hkp hK.2.2.2.2.2.2.1
    have w7 : h.2.1 - g0 + 1 ≤ h.2.1 + 1 - g0 := by omega
    have w8 : h.2.2 - k0 + 6 ≤ h.2.2 + 6 - k0 := by omega
    have w9 : h.2.1 - g0 + 1 ≤ R.cells := by omega
    have w10 : h.2.2 - k0 + 6 ≤ R.slots := by omega
    have w11 : ∀ pc, ∀ z ∈ c.exceptionTable.toList, covers z pc = false := by rw [htab]; intro _ z hz; cases hz
    unfold zthk at hz3
    split at hz3
    · obtain ⟨d3, hz3⟩ := Bool.and_eq_true_iff.mp hz3
      obtain ⟨d4, hz3⟩ := Bool.and_eq_true_iff.mp hz3
      obtain ⟨d6, d9⟩ := Bool.and_eq_true_iff.mp hz3
      exact zthrowS hx hb hl0 hown hfitE hnm w1 w2 w3 hat2 w4 w5 w6 hS hls hd (zisd_t d3) (zisd_t d4) (zisd_t d6) (zisd_t d9) (w11 _) hR5 hR6 w9 w10 hlocks hxc hl w7 w8
    · obtain ⟨d3, hz3⟩ := Bool.and_eq_true_iff.mp hz3
      obtain ⟨d4, hz3⟩ := Bool.and_eq_true_iff.mp hz3
      obtain ⟨d7, d10⟩ := Bool.and_eq_true_iff.mp hz3
      exact zthrowSW hx hb hl0 hown hfitE hnm w1 w2 w3 hat2 w4 w5 w6 hS hls hd (zisd_t d3) (zisd_t d4) (zisd_t d7) (zisd_t d10) (w11 _) hR5 hR6 w9 w10 hlocks hxc hl w7 w8
/-! ### returns -/
theorem zqc {H : Heap} {v : Option Value} (hH : zH G h H) : ∀ t : State, t.heap = H → s.WarmedH t.vm → zQc G (.inl v, h) args s (.returned v) t := fun t ht _ => ⟨v, rfl, rfl, by rw [ht]; exact hH⟩
theorem zs_ireturn (hF : zFm G p l R s m args meth c r d g0 k0 q.2) (hd : decode r.2.1 pc = .ok (.ireturn, n)) (hn : zln .ireturn n = true) (ha : zAc G p l e R s m args below meth c (zQ G below args s q g0 k0) r g0 k0 q.2 (fun o h => (o, h) = q) Cc .ireturn n x pc L st h) : zGo G p l e R s m args below meth c (zQ G below args s q g0 k0) r.2.2.1 g0 k0 (pc, L, st, h) := by
  have hn1 : Nat.beq 1 n = true := hn
  cases Nat.eq_of_beq_eq_true hn1
  dsimp only [zAc, zact] at ha
  obtain ⟨hx, hb, hml, hr, hlocks, -⟩ := hF
  split at ha
  · rename_i y
    split at ha
    · rename_i ht
      subst ha
      refine zGo_i fun H locs ls hH hl hL hg hk => ?_
      exact vx_ret (W.iret hx hb (hr.trans ht) (zqc hH) hl hd hlocks)
    · rename_i ht
      split at ha
      · rename_i hy
        subst ha
        subst hy
        refine zGo_i fun H locs ls hH hl hL hg hk => ?_
        exact vx_ret (W.zret hx hb (hr.trans ht) rfl (zqc hH) hl hd hlocks)
      · split at ha
        · rename_i hy
          subst ha
          subst hy
          refine zGo_i fun H locs ls hH hl hL hg hk => ?_
          exact vx_ret (W.zret hx hb (hr.trans ht) rfl (zqc hH) hl hd hlocks)
        · exact ha.elim
    · rename_i ht
      obtain ⟨hy, ha⟩ := zif_t ha
      subst ha
      refine zGo_i fun H locs ls hH hl hL hg hk => ?_
      exact vx_ret (W.zret hx hb (hr.trans ht) (congrArg Value.int (eq_of_beq hy)) (zqc hH) hl hd hlocks)
    · rename_i ht
      obtain ⟨hy, ha⟩ := zif_t ha
      subst ha
      refine zGo_i fun H locs ls hH hl hL hg hk => ?_
      exact vx_ret (W.zret hx hb (hr.trans ht) (zchar (eq_of_beq hy)) (zqc hH) hl hd hlocks)
    · exact ha.elim
  · exact ha.elim
theorem zs_lreturn (hF : zFm G p l R s m args meth c r d g0 k0 q.2) (hd : decode r.2.1 pc = .ok (.lreturn, n)) (hn : zln .lreturn n = true) (ha : zAc G p l e R s m args below meth c (zQ G below args s q g0 k0) r g0 k0 q.2 (fun o h => (o, h) = q) Cc .lreturn n x pc L st h) : zGo G p l e R s m args below meth c (zQ G below args s q g0 k0) r.2.2.1 g0 k0 (pc, L, st, h) := by
  have hn1 : Nat.beq 1 n = true := hn
  cases Nat.eq_of_beq_eq_true hn1
  dsimp only [zAc, zact] at ha
  obtain ⟨hx, hb, hml, hr, hlocks, -⟩ := hF
  split at ha
  · split at ha
    · rename_i ht
      subst ha
      refine zGo_i fun H locs ls hH hl hL hg hk => ?_
      exact vx_ret (W.lret hx hb (hr.trans ht) (zqc hH) hl hd hlocks)
    · exact ha.elim
  · exact ha.elim
theorem zs_dreturn (hF : zFm G p l R s m args meth c r d g0 k0 q.2) (hd : decode r.2.1 pc = .ok (.dreturn, n)) (hn : zln .dreturn n = true) (ha : zAc G p l e R s m args below meth c (zQ G below args s q g0 k0) r g0 k0 q.2 (fun o h => (o, h) = q) Cc .dreturn n x pc L st h) : zGo G p l e R s m args below meth c (zQ G below args s q g0 k0) r.2.2.1 g0 k0 (pc, L, st, h) := by
  have hn1 : Nat.beq 1 n = true := hn
  cases Nat.eq_of_beq_eq_true hn1
  dsimp only [zAc, zact] at ha
  obtain ⟨hx, hb, hml, hr, hlocks, -⟩ := hF
  split at ha
  · split at ha
    · rename_i ht
      subst ha
      refine zGo_i fun H locs ls hH hl hL hg hk => ?_
      exact vx_ret (W.dret hx hb (hr.trans ht) (zqc hH) hl hd hlocks)
    · exact ha.elim
  · exact ha.elim
theorem zs_freturn (hF : zFm G p l R s m args meth c r d g0 k0 q.2) (hd : decode r.2.1 pc = .ok (.freturn, n)) (hn : zln .freturn n = true) (ha : zAc G p l e R s m args below meth c (zQ G below args s q g0 k0) r g0 k0 q.2 (fun o h => (o, h) = q) Cc .freturn n x pc L st h) : zGo G p l e R s m args below meth c (zQ G below args s q g0 k0) r.2.2.1 g0 k0 (pc, L, st, h) := by
  have hn1 : Nat.beq 1 n = true := hn
  cases Nat.eq_of_beq_eq_true hn1
  dsimp only [zAc, zact] at ha
  obtain ⟨hx, hb, hml, hr, hlocks, -⟩ := hF
  split at ha
  · split at ha
    · rename_i ht
      subst ha
      refine zGo_i fun H locs ls hH hl hL hg hk => ?_
      exact vx_ret (W.fret hx hb (hr.trans ht) (zqc hH) hl hd hlocks)
    · exact ha.elim
  · exact ha.elim
theorem zs_areturn (hF : zFm G p l R s m args meth c r d g0 k0 q.2) (hd : decode r.2.1 pc = .ok (.areturn, n)) (hn : zln .areturn n = true) (ha : zAc G p l e R s m args below meth c (zQ G below args s q g0 k0) r g0 k0 q.2 (fun o h => (o, h) = q) Cc .areturn n x pc L st h) : zGo G p l e R s m args below meth c (zQ G below args s q g0 k0) r.2.2.1 g0 k0 (pc, L, st, h) := by
  have hn1 : Nat.beq 1 n = true := hn
  cases Nat.eq_of_beq_eq_true hn1
  dsimp only [zAc, zact] at ha
  obtain ⟨hx, hb, hml, hr, hlocks, -⟩ := hF
  split at ha
  · split at ha
    · rename_i ht
      subst ha
      refine zGo_i fun H locs ls hH hl hL hg hk => ?_
      exact vx_ret (W.aret hx hb (hr.trans ht) (Or.inl ⟨_, rfl⟩) (Or.inr ⟨_, rfl⟩) (zqc hH) hl hd hlocks)
    · rename_i ht
      subst ha
      refine zGo_i fun H locs ls hH hl hL hg hk => ?_
      exact vx_ret (W.aret hx hb (hr.trans ht) (Or.inr ⟨_, rfl⟩) (Or.inr ⟨_, rfl⟩) (zqc hH) hl hd hlocks)
    · exact ha.elim
  · split at ha
    · rename_i ht
      subst ha
      refine zGo_i fun H locs ls hH hl hL hg hk => ?_
      exact vx_ret (W.aret hx hb (hr.trans ht) (Or.inl ⟨_, rfl⟩) (Or.inl rfl) (zqc hH) hl hd hlocks)
    · rename_i ht
      subst ha
      refine zGo_i fun H locs ls hH hl hL hg hk => ?_
      exact vx_ret (W.aret hx hb (hr.trans ht) (Or.inr ⟨_, rfl⟩) (Or.inl rfl) (zqc hH) hl hd hlocks)
    · exact ha.elim
  · exact ha.elim
theorem zs_return (hF : zFm G p l R s m args meth c r d g0 k0 q.2) (hd : decode r.2.1 pc = .ok (.return_, n)) (hn : zln .return_ n = true) (ha : zAc G p l e R s m args below meth c (zQ G below args s q g0 k0) r g0 k0 q.2 (fun o h => (o, h) = q) Cc .return_ n x pc L st h) : zGo G p l e R s m args below meth c (zQ G below args s q g0 k0) r.2.2.1 g0 k0 (pc, L, st, h) := by
  have hn1 : Nat.beq 1 n = true := hn
  cases Nat.eq_of_beq_eq_true hn1
  dsimp only [zAc, zact] at ha
  obtain ⟨hx, hb, hml, hr, hlocks, -⟩ := hF
  split at ha
  · split at ha
    · rename_i ht
      subst ha
      refine zGo_i fun H locs ls hH hl hL hg hk => ?_
      exact vx_ret (W.vret hx hb (hr.trans ht) (zqc hH) hl hd hlocks)
    · exact ha.elim
  · exact ha.elim
end ZNW
