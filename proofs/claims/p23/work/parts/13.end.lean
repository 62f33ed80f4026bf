/-! ===== aastore, natives, a new object, a throw, the method's end ===== -/
theorem zwt_le {rest : List Value} (h : Nat.ble (zwt rest) 8 = true) : (rest.map fun v => v.category).sum ≤ 8 := by
  rw [← zwt_eq]
  exact Nat.le_of_ble_eq_true h
def zQc (G : zG) (q : zOut × zPH) : Array Value → State → Outcome → State → Prop := fun _ _ o t => ∃ v, q.1 = .inl v ∧ o = .returned v ∧ zH G q.2 t.heap
def zXC (G : zG) (q : zOut × zPH) : String → State → State → Prop := fun E _ t => ∃ e, q.1 = .inr e ∧ zexn[e]? = some E ∧ zHx G q.2 t.heap ∧ q.2.2.1 ≤ t.heap.size
abbrev zQ (G : zG) (below : List Frame) (args : Array Value) (s : State) (q : zOut × zPH) (g0 k0 : Nat) : State → Prop := vx_MQ below (zQc G q) (zXC G q) args s (q.2.2.1 - g0) (q.2.2.2 - k0) (fun z => zgb G ≤ z)
section ZEN
variable {G : zG} {p : Program} {l : Launch} {e : Env} {R : Room} {s : State} {m : MethodId} {args : Array Value} {below : List Frame} {meth : Method} {c : Code} {Q : State → Prop}
variable {r : zMd} {d g0 k0 : Nat} {hf h : zPH} {Rr : zOut → zPH → Prop} {Cc : Nat → List Value → List Value → Prop} {x : zAux} {n pc : Nat} {L : zLc} {st : List Value} {q : zOut × zPH}
/-- the class of a cell that may be laid into an array -/
theorem zasg_t {t tb : Nat} {ty : FieldType} {H : Heap} {b : Nat} {ws : List Value} (hK : zKn G s) (h1 : 64 ≤ t) (h2 : t < 96) (hty : zar[t - 64]? = some ty) (ha : zasg t tb = true) (hc : zcell G b (tb, ws) H) :
    ∃ (cv : Cell) (kA kv kcomp : Class) (comp : ClassId), H[b]? = some cv ∧ (∀ q, cv.vm ≠ .statics q) ∧ s.vm.classes[zgA G (t - 64)]? = some kA ∧ kA.kind = .array comp ty ∧ ty.isReference = true ∧ s.vm.classes[comp]? = some kcomp ∧ s.vm.classes[cv.cls]? = some kv ∧ s.vm.assignable cv.cls comp = true := by
  have hob : ∀ (rc : vw_C), zcl[tb]? = some rc → ∃ (cv : Cell) (kv : Class), H[b]? = some cv ∧ (∀ q, cv.vm ≠ .statics q) ∧ s.vm.classes[cv.cls]? = some kv ∧ s.vm.findClass rc.1 = some cv.cls := by
    intro rc hrc
    obtain ⟨-, -, cell, q1, q2, q3, -⟩ := hc.ob hrc
    obtain ⟨hfc, kC, hkC, -⟩ := (hK.1 _ _ hrc).2
    exact ⟨cell, kC, q1, fun q hq => (by rw [q3] at hq; cases hq), by rw [q2]; exact hkC, by rw [q2]; exact hfc⟩
  have har : ∀ (tyb : FieldType), 64 ≤ tb → tb < 96 → zar[tb - 64]? = some tyb → ∃ (cv : Cell) (kv : Class), H[b]? = some cv ∧ (∀ q, cv.vm ≠ .statics q) ∧ s.vm.classes[cv.cls]? = some kv ∧ s.vm.findClass ("[" ++ tyb.toString) = some cv.cls := by
    intro tyb g1 g2 g3
    obtain ⟨-, -, hcell⟩ := hc.ar g1 g2
    obtain ⟨kB, cB, hkB, -, hidB, -⟩ := hK.2.1 _ _ g3
    exact ⟨_, kB, hcell, fun q hq => (by cases hq), hkB, hidB⟩
  have hA := hK.2.1 _ _ hty
  obtain ⟨kA, comp, hkA, hkind, hid, hcomp⟩ := hA
  unfold zasg at ha
  split at ha
  · -- Object[]
    cases (Option.some.inj hty : FieldType.object "java/lang/Object" = ty)
    obtain ⟨rc, hrc, hcast⟩ := zobj_ok tb (List.contains_iff_mem.mp ha)
    obtain ⟨cv, kv, f1, f2, f3, f4⟩ := hob rc hrc
    obtain ⟨c3, c4, hc3, hc4, hasg⟩ := Cond.castable_spec (args := #[]) (hK.2.2.2.1 _ hcast)
    cases Option.some.inj (hc3.symm.trans f4)
    cases Option.some.inj (hc4.symm.trans hcomp)
    obtain ⟨kc, hkc, -⟩ := Vm.findClass_spec hcomp
    exact ⟨cv, kA, kv, kc, _, f1, f2, hkA, hkind, rfl, hkc, f3, hasg⟩
  · cases (Option.some.inj hty : FieldType.object "TesseraHall$Board" = ty)
    have htb := znq ha
    subst htb
    obtain ⟨cv, kv, f1, f2, f3, f4⟩ := hob _ rfl
    cases Option.some.inj (hcomp.symm.trans f4)
    exact ⟨cv, kA, kv, kv, _, f1, f2, hkA, hkind, rfl, f3, f3, va_asg _ _⟩
  · cases (Option.some.inj hty : FieldType.array (.array .int) = ty)
    have htb := znq ha
    subst htb
    obtain ⟨cv, kv, f1, f2, f3, f4⟩ := har _ (by decide) (by decide) rfl
    cases Option.some.inj (hcomp.symm.trans f4)
    exact ⟨cv, kA, kv, kv, _, f1, f2, hkA, hkind, rfl, f3, f3, va_asg _ _⟩
  · cases (Option.some.inj hty : FieldType.array .int = ty)
    have htb := znq ha
    subst htb
    obtain ⟨cv, kv, f1, f2, f3, f4⟩ := har _ (by decide) (by decide) rfl
    cases Option.some.inj (hcomp.symm.trans f4)
    exact ⟨cv, kA, kv, kv, _, f1, f2, hkA, hkind, rfl, f3, f3, va_asg _ _⟩
  · cases ha
theorem zs_aastore (hF : zFm G p l R s m args meth c r d g0 k0 hf) (hd : decode r.2.1 pc = .ok (.aastore, n)) (hn : zln .aastore n = true) (ha : zAc G p l e R s m args below meth c Q r g0 k0 hf Rr Cc .aastore n x pc L st h) : zGo G p l e R s m args below meth c Q r.2.2.1 g0 k0 (pc, L, st, h) := by
  have hn1 : Nat.beq 1 n = true := hn
  cases Nat.eq_of_beq_eq_true hn1
  dsimp only [zAc, zact] at ha
  obtain ⟨hx, hb, -, -, -, hown, hon, hts, hK, -⟩ := hF
  split at ha
  · rename_i b y v rest
    obtain ⟨a, t, vs, rfl, hc, ha⟩ := zan_t ha
    obtain ⟨b2, tb, ws, hbb, hcb, ha⟩ := zan_t ha
    have hbb := Value.ref.inj hbb
    subst hbb
    obtain ⟨hasg, ha⟩ := zif_t ha
    obtain ⟨w, hi, hw, ha⟩ := zel_t ha
    have hlt := (List.getElem?_eq_some_iff.mp hw).1
    have ht : 64 ≤ t ∧ t < 96 := by
      unfold zasg at hasg
      split at hasg <;> first | omega | cases hasg
    refine zGo_i fun H locs ls hH hl hL hg hk => ?_
    obtain ⟨-, ⟨ty, hty⟩, hcell⟩ := (hH.2.1 a _ hc).ar ht.1 ht.2
    obtain ⟨cv, kA, kv, kcomp, comp, f1, f2, f3, f4, f5, f6, f7, f8⟩ := zasg_t hK ht.1 ht.2 hty hasg (hH.2.1 _ _ hcb)
    refine W.aast hx hb hcell (fun q hq => by cases hq) (fun q => by cases q) f3 f4 f5 f6 ⟨hi, by simpa [zaC] using hlt⟩ f1 f2 f7 f8 rfl rfl hd fun H1 e1 e2 e3 => ?_
    obtain ⟨hH1, hl1⟩ := zHput hH hl hc ht.1 ht.2 e1 e2 e3
    exact ha.2 H1 _ ls hH1 hl1 hL hg hk
  · rename_i y v rest
    obtain ⟨a, t, vs, rfl, hc, ha⟩ := zan_t ha
    obtain ⟨ht0, ha⟩ := zif_t ha
    obtain ⟨w, hi, hw, ha⟩ := zel_t ha
    have hlt := (List.getElem?_eq_some_iff.mp hw).1
    have ht : t = 68 ∨ t = 69 := (Bool.or_eq_true_iff.mp ht0).imp znq znq
    refine zGo_i fun H locs ls hH hl hL hg hk => ?_
    obtain ⟨-, ⟨ty, hty⟩, hcell⟩ := (hH.2.1 a _ hc).ar (by omega) (by omega)
    have hC : ∃ C, ty = .object C := by
      rcases ht with rfl | rfl
      · exact ⟨_, (Option.some.inj hty).symm⟩
      · exact ⟨_, (Option.some.inj hty).symm⟩
    obtain ⟨C, rfl⟩ := hC
    refine va_WaastN hx hb hcell ((hK.2.1 _ _ hty).arr vs) (fun q => by cases q) (by rintro (q | q); exact hi q; exact absurd q (by simpa [zaC] using hlt)) rfl rfl hd fun H1 e1 e2 e3 => ?_
    obtain ⟨hH1, hl1⟩ := zHput hH hl hc (by omega) (by omega) e1 e2 e3
    exact ha.2 H1 _ ls hH1 hl1 hL hg hk
  · exact ha.elim
/-! ### natives -/
theorem zcopy_eq (G : zG) (k : Nat) {f g : List Value} {sp dp n : Int32} (h1 : sp.toNatClampNeg + n.toNatClampNeg ≤ f.length) (h2 : dp.toNatClampNeg + n.toNatClampNeg ≤ g.length) :
    copied (zaC G k f) (zaC G k g) sp dp n = zaC G k (zcpy f g sp.toNatClampNeg dp.toNatClampNeg n.toNatClampNeg) := by
  have ef : zaC G k f = arrV (zgA G k) f.length (fun j => zV f j) := by
    unfold zaC arrV
    congr 1
    apply Array.ext_getElem?
    intro i
    by_cases hi : i < f.length <;> simp [hi, zV, List.getD_eq_getElem?_getD]
  have eg : zaC G k g = arrV (zgA G k) g.length (fun j => zV g j) := by
    unfold zaC arrV
    congr 1
    apply Array.ext_getElem?
    intro i
    by_cases hi : i < g.length <;> simp [hi, zV, List.getD_eq_getElem?_getD]
  rw [ef, eg]
  refine (va_copied (fun v => v) (zgA G k) (zgA G k) (zV f) (zV g) h1).trans ?_
  unfold zaC arrV
  congr 1
  apply Array.ext_getElem?
  intro i
  have hl : (zcpy f g sp.toNatClampNeg dp.toNatClampNeg n.toNatClampNeg).length = g.length := by
    unfold zcpy
    simp only [List.length_append, List.length_take, List.length_drop]
    omega
  by_cases hi : i < g.length
  · rw [Array.getElem?_eq_getElem (by simpa using hi), List.getElem?_toArray, List.getElem?_eq_getElem (by omega)]
    simp only [Array.getElem_ofFn, va_cpy, zV]
    congr 1
    unfold zcpy
    by_cases c1 : i < dp.toNatClampNeg
    · rw [if_neg (by omega), List.getElem_append_left (by simp; omega), List.getElem_take, List.getD_eq_getElem?_getD, List.getElem?_eq_getElem hi]
      rfl
    · rw [List.getElem_append_right (by simp; omega)]
      by_cases c2 : i < dp.toNatClampNeg + n.toNatClampNeg
      · rw [if_pos ⟨by omega, c2⟩, List.getElem_append_left (by simp; omega), List.getElem_take, List.getElem_drop, List.getD_eq_getElem?_getD, List.getElem?_eq_getElem (by omega)]
        simp only [Option.getD_some, List.length_take]
        congr 1
        omega
      · rw [if_neg (by omega), List.getElem_append_right (by simp; omega), List.getElem_drop, List.getD_eq_getElem?_getD, List.getElem?_eq_getElem hi]
        simp only [Option.getD_some, List.length_take, List.length_drop]
        congr 1
        omega
  · rw [Array.getElem?_eq_none (by simpa using Nat.le_of_not_lt hi), List.getElem?_toArray, List.getElem?_eq_none (by omega)]
theorem zs_copy {k : Nat} (hF : zFm G p l R s m args meth c r d g0 k0 hf) (hd : decode r.2.1 pc = .ok (.invokestatic k, n)) (hn : zln (.invokestatic k) n = true) (hx21 : x.1 = 21) (hz : zck r pc (.invokestatic k) x = true) (ha : zAc G p l e R s m args below meth c Q r g0 k0 hf Rr Cc (.invokestatic k) n x pc L st h) : zGo G p l e R s m args below meth c Q r.2.2.1 g0 k0 (pc, L, st, h) := by
  have hn1 : Nat.beq 3 n = true := hn
  cases Nat.eq_of_beq_eq_true hn1
  obtain ⟨x1, x2⟩ := x
  have hq9 : x1 = 21 := hx21
  subst hq9
  dsimp only [zAc, zact] at ha
  dsimp only [zck] at hz
  conv at ha => whnf
  obtain ⟨hx, hb, hml, -, -, hown, hon, hts, hK, -, -, hR1, hR2, -⟩ := hF
  obtain ⟨own, ho, y, hw, hy⟩ := zWl_t hz
  cases zon_t ho hon
  have hy2 : y = arraycopyName := by
    rcases hy with ⟨h1, -⟩ | ⟨-, h1⟩ | ⟨h1, -⟩ | ⟨h1, -⟩
    · cases h1
    · exact h1
    · cases h1
    · cases h1
  subst hy2
  split at ha
  · rename_i q9 dp w sp v rest
    obtain ⟨a, tv, f, rfl, hc, ha⟩ := zan_t ha
    obtain ⟨b, tw, g, rfl, hcb, ha⟩ := zan_t ha
    obtain ⟨ht, ha⟩ := zif_t ha
    obtain ⟨ht1, ht2⟩ := Bool.and_eq_true_iff.mp ht
    have ht1 := znq ht1
    subst ht1
    have ht2 : tv = 64 ∨ tv = 65 := (Bool.or_eq_true_iff.mp ht2).imp znq znq
    split at ha
    · exact ha.elim
    rename_i hq
    split at ha
    · exact ha.elim
    rename_i hdp
    split at ha
    · exact ha.elim
    rename_i hsp
    obtain ⟨h1, ha⟩ := zif_t ha
    obtain ⟨h2, ha⟩ := zif_t ha
    obtain ⟨hfit, ha⟩ := zif_t ha
    obtain ⟨hwt, ha⟩ := zif_t ha
    have h1 := Nat.le_of_ble_eq_true h1
    have h2 := Nat.le_of_ble_eq_true h2
    have hwt := zwt_le hwt
    have nn : ∀ z : Int32, ¬ z < 0 → z.toInt = (z.toNatClampNeg : Int) := by
      intro z hz
      have hz0 : (0 : Int) ≤ z.toInt := by
        have := Int32.not_lt.mp hz
        simpa using Int32.le_iff_toInt_le.mp this
      show z.toInt = ((z.toInt.toNat : Nat) : Int)
      omega
    refine zGo_i fun H locs ls hH hl hL hg hk => ?_
    obtain ⟨hba, ⟨ty, hty⟩, hcell⟩ := (hH.2.1 a _ hc).ar (by omega) (by omega)
    obtain ⟨hbb, -, hcell2⟩ := (hH.2.1 b _ hcb).ar (by omega) (by omega)
    obtain ⟨kA, comp, hkA, hkind, hid, hcomp⟩ := hK.2.1 _ _ hty
    have hrk : refKind ty = false ∧ ∃ zk, ztyc ty = zk ∧ zcpf tv = zk := by
      rcases ht2 with rfl | rfl
      · cases (Option.some.inj hty : FieldType.int = ty)
        exact ⟨rfl, _, rfl, rfl⟩
      · cases (Option.some.inj hty : FieldType.byte = ty)
        exact ⟨rfl, _, rfl, rfl⟩
    obtain ⟨hprim, zk, hzk1, hzk2⟩ := hrk
    rw [hzk2] at hfit
    intro T hT X
    obtain ⟨vm', X', step⟩ := X.arraycopy hx hown (hts _ hw) (hts _ zacn) (hts _ zacs) (hts _ zacl) (src := a) (dst := b) (cs := zaC G (tv - 64) f) (cd := zaC G (tv - 64) g) (srcPos := sp) (destPos := dp) (n := q9) (by rw [hT]; exact hcell) (by rw [hT]; exact hcell2)
      (fun _ h => by cases h) (fun _ h => by cases h) (fun h => by cases h) (fun h => by cases h) hkA hkA hkind hkind (by simp [hprim]) hsp hdp hq
      (by rw [nn sp hsp, nn q9 hq]; show ¬ _ > ((f.toArray.size : Nat) : Int); simp; omega)
      (by rw [nn dp hdp, nn q9 hq]; show ¬ _ > ((g.toArray.size : Nat) : Int); simp; omega)
      (fun vm₁ _ i hi => by
        have hlt : sp.toNatClampNeg + i < f.length := by omega
        have e9 : (zaC G (tv - 64) f).slots.getD (sp.toNatClampNeg + i) .null = f[sp.toNatClampNeg + i] := by
          show f.toArray.getD _ _ = _
          rw [Array.getD_eq_getD_getElem?, List.getElem?_toArray, List.getElem?_eq_getElem hlt]
          rfl
        have hm := List.all_eq_true.mp hfit (f[sp.toNatClampNeg + i]) (by
          refine List.mem_of_getElem? (i := i) ?_
          rw [List.getElem?_take_of_lt hi, List.getElem?_drop, List.getElem?_eq_getElem hlt])
        have hf2 := (zfit_t hzk1 hm).2
        refine ⟨by rw [e9]; exact hf2, ?_⟩
        rw [e9]
        have hval : ∃ y, f[sp.toNatClampNeg + i] = Value.int y := by
          rcases ht2 with rfl | rfl
          · cases (Option.some.inj hty : FieldType.int = ty)
            cases hv : f[sp.toNatClampNeg + i] <;> rw [hv] at hf2 <;> first | exact ⟨_, rfl⟩ | cases hf2
          · cases (Option.some.inj hty : FieldType.byte = ty)
            cases hv : f[sp.toNatClampNeg + i] <;> rw [hv] at hf2 <;> first | exact ⟨_, rfl⟩ | cases hf2
        obtain ⟨y, hy⟩ := hval
        rw [hy]
        exact trivial)
      (g := F0 m pc ls (.int q9 :: .int dp :: .ref b :: .int sp :: .ref a :: rest)) rfl (by rw [hml]; exact hL.2.1) (rest := rest) rfl (by rw [hb]; exact hd) (by omega) (by
        have e9 : nativeFrameWords "java/lang/System" "arraycopy" 5 + 11 ≤ 100 := by decide +kernel
        show 2 * 0 + _ + _ ≤ _
        omega)
    rw [zcopy_eq G (tv - 64) h1 h2] at X' step
    have hlt : b < H.size := (Array.getElem?_eq_some_iff.mp hcell2).1
    have hheap : ((T.setVm vm').setCell b (zaC G (tv - 64) (zcpy f g sp.toNatClampNeg dp.toNatClampNeg q9.toNatClampNeg))).heap = H.setIfInBounds b (zaC G (tv - 64) (zcpy f g sp.toNatClampNeg dp.toNatClampNeg q9.toNatClampNeg)) := by rw [← hT]; rfl
    have hH1 : zH G (zset h b (tv, zcpy f g sp.toNatClampNeg dp.toNatClampNeg q9.toNatClampNeg)) (H.setIfInBounds b (zaC G (tv - 64) (zcpy f g sp.toNatClampNeg dp.toNatClampNeg q9.toNatClampNeg))) :=
      hH.set hbb (by simp) (fun q hq => by simp [Array.getElem?_setIfInBounds, Ne.symm hq]) (zcell_ar rfl (by omega) (by omega) hbb ⟨ty, hty⟩ (by simp [Array.getElem?_setIfInBounds, hlt]))
    obtain ⟨t, a1, b1⟩ := ha.2 _ _ ls hH1 (fun z hz => by
      rcases List.mem_append.mp hz with h | h
      · exact hl z h
      · obtain ⟨z9, -, hz9⟩ := List.mem_map.mp h
        rw [← hz9]
        exact hbb) hL hg hk _ hheap X'
    exact ⟨t, step t a1, b1⟩
  · exact ha.elim
theorem zs_min {k : Nat} (hF : zFm G p l R s m args meth c r d g0 k0 hf) (hd : decode r.2.1 pc = .ok (.invokestatic k, n)) (hn : zln (.invokestatic k) n = true) (hx25 : x.1 = 25) (hz : zck r pc (.invokestatic k) x = true) (hle : zge h hf) (ha : zAc G p l e R s m args below meth c Q r g0 k0 hf Rr Cc (.invokestatic k) n x pc L st h) : zGo G p l e R s m args below meth c Q r.2.2.1 g0 k0 (pc, L, st, h) := by
  have hn1 : Nat.beq 3 n = true := hn
  cases Nat.eq_of_beq_eq_true hn1
  obtain ⟨x1, x2⟩ := x
  have hq9 : x1 = 25 := hx25
  subst hq9
  dsimp only [zAc, zact] at ha
  dsimp only [zck] at hz
  conv at ha => whnf
  obtain ⟨hx, hb, hml, -, -, hown, hon, hts, hK, -, -, hR1, hR2, hR3, hR4⟩ := hF
  obtain ⟨own, ho, y, hw, hy⟩ := zWl_t hz
  cases zon_t ho hon
  have hy2 : y = ⟨"java/lang/Math", "min", "(FF)F"⟩ := by
    rcases hy with ⟨h1, -⟩ | ⟨h1, -⟩ | ⟨-, h1⟩ | ⟨h1, -⟩
    · cases h1
    · cases h1
    · exact h1
    · cases h1
  subst hy2
  split at ha
  · rename_i b a rest
    obtain ⟨h1, ha⟩ := zif_t ha
    obtain ⟨h2, ha⟩ := zif_t ha
    obtain ⟨hwt, ha⟩ := zif_t ha
    have hwt := zwt_le hwt
    refine zGo_i fun H locs ls hH hl hL hg hk => ?_
    have hq1 := hle.1
    have hq2 := hle.2
    exact zr_min hx hb (by rw [hml]; exact hL.2.1.symm) hown (hts _ hw) (hts _ zmfs) (hts _ zmal) (hts _ zmfc) h1 h2 (by omega) (by omega) (by omega) (by omega) hd (ha.2 H locs ls hH hl hL hg hk)
  · exact ha.elim
theorem zs_abs {k : Nat} (hF : zFm G p l R s m args meth c r d g0 k0 hf) (hd : decode r.2.1 pc = .ok (.invokestatic k, n)) (hn : zln (.invokestatic k) n = true) (hx26 : x.1 = 26) (hz : zck r pc (.invokestatic k) x = true) (hle : zge h hf) (ha : zAc G p l e R s m args below meth c Q r g0 k0 hf Rr Cc (.invokestatic k) n x pc L st h) : zGo G p l e R s m args below meth c Q r.2.2.1 g0 k0 (pc, L, st, h) := by
  have hn1 : Nat.beq 3 n = true := hn
  cases Nat.eq_of_beq_eq_true hn1
  obtain ⟨x1, x2⟩ := x
  have hq9 : x1 = 26 := hx26
  subst hq9
  dsimp only [zAc, zact] at ha
  dsimp only [zck] at hz
  conv at ha => whnf
  obtain ⟨hx, hb, hml, -, -, hown, hon, hts, hK, -, -, hR1, hR2, hR3, hR4⟩ := hF
  obtain ⟨own, ho, y, hw, hy⟩ := zWl_t hz
  cases zon_t ho hon
  have hy2 : y = ⟨"java/lang/Math", "abs", "(D)D"⟩ := by
    rcases hy with ⟨h1, -⟩ | ⟨h1, -⟩ | ⟨h1, -⟩ | ⟨-, h1⟩
    · cases h1
    · cases h1
    · cases h1
    · exact h1
  subst hy2
  split at ha
  · rename_i a rest
    obtain ⟨h1, ha⟩ := zif_t ha
    obtain ⟨hwt, ha⟩ := zif_t ha
    have hwt := zwt_le hwt
    refine zGo_i fun H locs ls hH hl hL hg hk => ?_
    have hq1 := hle.1
    have hq2 := hle.2
    exact zr_abs hx hb (by rw [hml]; exact hL.2.1.symm) hown (hts _ hw) (hts _ zmas) (hts _ zmal) (hts _ zmac) h1 (by omega) (by omega) (by omega) (by omega) hd (ha.2 H locs ls hH hl hL hg hk)
  · exact ha.elim
theorem zs_obj {k : Nat} (hF : zFm G p l R s m args meth c r d g0 k0 hf) (hd : decode r.2.1 pc = .ok (.invokespecial k, n)) (hn : zln (.invokespecial k) n = true) (hx20 : x.1 = 20) (hz : zck r pc (.invokespecial k) x = true) (ha : zAc G p l e R s m args below meth c Q r g0 k0 hf Rr Cc (.invokespecial k) n x pc L st h) : zGo G p l e R s m args below meth c Q r.2.2.1 g0 k0 (pc, L, st, h) := by
  have hn1 : Nat.beq 3 n = true := hn
  cases Nat.eq_of_beq_eq_true hn1
  obtain ⟨x1, x2⟩ := x
  have hq9 : x1 = 20 := hx20
  subst hq9
  dsimp only [zAc, zact] at ha
  dsimp only [zck] at hz
  conv at ha => whnf
  obtain ⟨hx, hb, hml, -, -, hown, hon, hts, hK, -, -, hR1, hR2, hR3, hR4⟩ := hF
  obtain ⟨own, ho, y, hw, hy⟩ := zWl_t hz
  cases zon_t ho hon
  have hy2 : y = Lib.objectInit := by
    rcases hy with ⟨-, h1⟩ | ⟨h1, -⟩ | ⟨h1, -⟩ | ⟨h1, -⟩
    · exact h1
    · cases h1
    · cases h1
    · cases h1
  subst hy2
  split at ha
  · rename_i a rest
    obtain ⟨hwt, ha⟩ := zif_t ha
    have hwt := zwt_le hwt
    refine zGo_i fun H locs ls hH hl hL hg hk => ?_
    exact W.objInit hx hb hown (hts _ hw) (hts _ zoi1) (hts _ zoi2) rfl (by rw [hml]; exact hL.2.1) rfl hd (by omega) (by show 2 * 0 + _ + 12 ≤ _; omega) (ha.2 H locs ls hH hl hL hg hk)
  · exact ha.elim
end ZEN
