/-! ===== throws, with the new cell's place told: after the kit's vx_throwS, vx_throwSW, vx_ofW ===== -/
section ZTH
variable {p : Program} {l : Launch} {e : Env} {R : Room} {s : State} {m : MethodId} {args : Array Value} {below : List Frame} {meth : Method} {c : Code} {H : Heap} {locs : List Loc} {cells slots : Nat} {Q : State → Prop}
variable {mc ms : Nat} {free : Addr → Prop} {A0 A1 : Nat → Prop} {H0 : Heap} {a : Array Value} {ls : Array Slot} {st0 rest : List Value}
variable {Qc : Array Value → State → Outcome → State → Prop} {XC : String → State → State → Prop}
theorem zthrowS {cc : ByteArray} {pc : Nat} (hexec : p.tables.exec = Jvm.exec) (hb : c.code = cc) (hl : l.stackTraces = false) {own cls text : String} {names : List String} {ik is ic mc ms sa : Nat} {A : Nat → Prop}
    (hown : s.vm.findClass own = some m.cls) (hcls : Bundle.fit cls = true) (hnames : ∀ n ∈ names, Bundle.fit n = true)
    (hk : (Cond.classLink own ik cls).before args s = true) (hini : (Cond.initialized cls).before args s = true) (hstr : vk_R own is text sa s) (hat : ∀ w ∈ vx_atS own ic cls names, w.before args s = true)
    (hgood : ∀ w ∈ Cond.classLink own ik cls :: Cond.initialized cls :: vx_atS own ic cls names, vx_ot w = true)
    (hU : vx_Zq Bundle.tN "UNASSIGNED_STACK" Bundle.steD A s s.heap) (hN : vx_Zq Bundle.tN "SUPPRESSED_SENTINEL" Bundle.listD A s s.heap) (hS : va_S A s.heap H locs) (hsize : ls.size = c.maxLocals)
    (d0 : decode cc pc = .ok (.new ik, 3)) (d3 : decode cc (pc + 3) = .ok (.dup, 1)) (d4 : decode cc (pc + 4) = .ok (.ldc is, 2)) (d6 : decode cc (pc + 6) = .ok (.invokespecial ic, 3)) (d9 : decode cc (pc + 9) = .ok (.athrow, 1))
    (hout : ∀ x ∈ c.exceptionTable.toList, covers x (pc + 9) = false)
    (hRframes : names.length + 3 < R.frames) (hRlocals : (rest.map fun v => v.category).sum + (13 * (names.length + 1) + 43) ≤ R.locals) (hRcells : cells + 1 ≤ R.cells) (hRslots : slots + 6 ≤ R.slots) (hlocks : meth.locks = false)
    (hx : ∀ t : State, s.vm.Alike t.vm → H.size < t.heap.size → (∀ q : Nat, q < H.size → t.heap[q]? = H[q]?) → XC cls s t)
    (hf : ∀ z ∈ locs, free z.base) (hc : cells + 1 ≤ mc) (hs : slots + 6 ≤ ms) :
    W p l e R s m args below meth c H locs cells slots (vx_MQ below Qc XC args s mc ms free) (F0 m pc ls rest) := by
  intro T hT X
  have htr : e.platform.stackTraces = false := (show e.platform.stackTraces = l.stackTraces by rw [X.admits.platform]).trans hl
  have Y := vx_rebase X (R' := { frames := R.frames, locals := R.locals, cells := 1, slots := 6 }) (Nat.le_refl _) (Nat.le_refl _) hRcells hRslots
  obtain ⟨s', hA⟩ : ∃ z, z = (T.setVm s.vm).setFrames (.invoking m args :: below) := ⟨_, rfl⟩
  rw [← hA] at Y
  have hvm : s'.vm = s.vm := by rw [hA]; rfl
  have hhp : s'.heap = H := by rw [hA]; exact hT
  have hW0 : s.WarmedH s'.vm := by rw [hvm]; exact State.WarmedH.refl s
  have hat' : ∀ w ∈ vx_atS own ic cls names, w.before args s' = true := fun w hw => vx_ot_at hW0 hvm.symm (hgood w (List.mem_cons_of_mem _ (List.mem_cons_of_mem _ hw))) (hat w hw)
  have hk' : (Cond.classLink own ik cls).before args s' = true := vx_ot_at hW0 hvm.symm (hgood _ List.mem_cons_self) hk
  have hini' : (Cond.initialized cls).before args s' = true := vx_ot_at hW0 hvm.symm (hgood _ (List.mem_cons_of_mem _ List.mem_cons_self)) hini
  have hU' : vx_Zq Bundle.tN "UNASSIGNED_STACK" Bundle.steD A s' s'.heap := by rw [hhp]; exact vx_Zq.moved hW0.alike (hU.kept hS.2.1)
  have hN' : vx_Zq Bundle.tN "SUPPRESSED_SENTINEL" Bundle.listD A s' s'.heap := by rw [hhp]; exact vx_Zq.moved hW0.alike (hN.kept hS.2.1)
  have h : ∀ w ∈ Bundle.ownAtoms own ic cls names, w.before args s' = true := vx_own hat' (vx_isRefq hU'.1) (vx_isRefq hN'.1) hU'.2.word hN'.2.word
  have hown' : s'.vm.findClass own = some m.cls := by rw [hvm]; exact hown
  have hins : (Cond.instantiable cls 6).before args s' = true := h _ (by simp [Bundle.ownAtoms])
  obtain ⟨vm₁, cX, kX, hfX, hkX, -, -, X₁, st1⟩ := Y.newCold hexec (own := own) (C := cls) (index := ik) (n := 6) hown' hk' hins hini'
    (g := F0 m pc ls rest) rfl (by rw [hb]; exact d0) (Nat.le_refl _) (Nat.le_refl _)
  generalize hT1 : (T.setVm vm₁).pushCell { cls := cX, slots := kX.instanceTypes.map defaultValue, vm := .none } = T1 at X₁ st1
  have hcat : (Value.ref T.heap.size).category = 1 := rfl
  have hcellA : T1.heap[T.heap.size]? = some (freshCell cX kX) := by rw [← hT1]; exact State.heap_pushCell_size _ _
  have d3' : decode c.code (pc + 3) = .ok (.dup, 1) := by rw [hb]; exact d3
  have d4' : decode c.code (pc + 4) = .ok (.ldc is, 2) := by rw [hb]; exact d4
  have hstr' : vk_R own is text sa s' := vk_R.warm hW0 hstr
  obtain ⟨U, hsteps, hrun, hend, hW, hsame, ce, hce, hO⟩ := X₁.ctorThrowS hexec htr (own := own) (cls := cls) (names := names) (ic := ic) hown' hcls hnames h (fun x hx => nomatch hx) hfX hkX hcellA (by rw [hhp, hT]; exact Nat.le_refl _) (msg := .ref sa) rfl
    (g := { method := m, pc := pc + 6, locals := ls, stack := .ref sa :: .ref T.heap.size :: .ref T.heap.size :: rest, locked := none }) rfl hsize rfl rfl (rest := rest) rfl
    (by rw [hb]; exact d6) (by rw [hb]; exact d9) hout hRframes (by simp only [List.map_cons, List.sum_cons, hcat]; omega) hlocks
  obtain ⟨f1, f2⟩ := vx_frame hsame
  rw [hhp] at f1 f2
  have hWs : s.WarmedH U.vm := State.WarmedH.trans hW0 hW
  have hcl : s.vm.findClass cls = some ce.cls := by
    have h9 := hO.cls
    rw [hvm] at h9
    exact h9
  have hall : s.sameButNew ({ U with vm := s.vm } : State) locs mc ms := by
    subst hA
    obtain ⟨e1, e2⟩ := hsame
    rw [State.setFrames_setFrames] at e1
    have h2 : (T.setVm s.vm).sameButNew ({ U with vm := s.vm } : State) [] (0 + 1) (0 + 6) := ⟨e1, e2⟩
    have h3 := X.same.trans h2
    rw [List.append_nil] at h3
    exact h3.mono hc hs
  refine ⟨U, ?_, .threw T.heap.size, hrun, hend, Or.inr ⟨T.heap.size, rfl, cls, ce, locs, hx U hWs.alike (by rw [← hT]; exact (Array.getElem?_eq_some_iff.mp hce).1) (fun q hq => f2 q hq (fun z hz => nomatch hz)), hce, hO.vm, hcl, hWs, hall, hf⟩⟩
  refine st1 _ ?_
  show Steps p.tables e below (T1.setTop { method := m, pc := pc + 3, locals := ls, stack := .ref T.heap.size :: rest, locked := none }) _
  jvm_step X₁.here [X₁.here.top, hexec, d3', Value.category]
  exact X₁.ldcString hexec (own := own) (text := text) (index := is) (a := sa) hown' hstr'.1 hstr'.2
    (g := { method := m, pc := pc + 4, locals := ls, stack := .ref T.heap.size :: .ref T.heap.size :: rest, locked := none }) rfl d4' _ hsteps
theorem zthrowSW {cc : ByteArray} {pc : Nat} (hexec : p.tables.exec = Jvm.exec) (hb : c.code = cc) (hl : l.stackTraces = false) {own cls text : String} {names : List String} {ik is ic mc ms sa : Nat} {A : Nat → Prop}
    (hown : s.vm.findClass own = some m.cls) (hcls : Bundle.fit cls = true) (hnames : ∀ n ∈ names, Bundle.fit n = true)
    (hk : (Cond.classLink own ik cls).before args s = true) (hini : (Cond.initialized cls).before args s = true) (hstr : vk_R own is text sa s) (hat : ∀ w ∈ vx_atS own ic cls names, w.before args s = true)
    (hgood : ∀ w ∈ Cond.classLink own ik cls :: Cond.initialized cls :: vx_atS own ic cls names, vx_ot w = true)
    (hU : vx_Zq Bundle.tN "UNASSIGNED_STACK" Bundle.steD A s s.heap) (hN : vx_Zq Bundle.tN "SUPPRESSED_SENTINEL" Bundle.listD A s s.heap) (hS : va_S A s.heap H locs) (hsize : ls.size = c.maxLocals)
    (d0 : decode cc pc = .ok (.new ik, 3)) (d3 : decode cc (pc + 3) = .ok (.dup, 1)) (d4 : decode cc (pc + 4) = .ok (.ldc_w is, 3)) (d7 : decode cc (pc + 7) = .ok (.invokespecial ic, 3)) (d10 : decode cc (pc + 10) = .ok (.athrow, 1))
    (hout : ∀ x ∈ c.exceptionTable.toList, covers x (pc + 10) = false)
    (hRframes : names.length + 3 < R.frames) (hRlocals : (rest.map fun v => v.category).sum + (13 * (names.length + 1) + 43) ≤ R.locals) (hRcells : cells + 1 ≤ R.cells) (hRslots : slots + 6 ≤ R.slots) (hlocks : meth.locks = false)
    (hx : ∀ t : State, s.vm.Alike t.vm → H.size < t.heap.size → (∀ q : Nat, q < H.size → t.heap[q]? = H[q]?) → XC cls s t)
    (hf : ∀ z ∈ locs, free z.base) (hc : cells + 1 ≤ mc) (hs : slots + 6 ≤ ms) :
    W p l e R s m args below meth c H locs cells slots (vx_MQ below Qc XC args s mc ms free) (F0 m pc ls rest) := by
  intro T hT X
  have htr : e.platform.stackTraces = false := (show e.platform.stackTraces = l.stackTraces by rw [X.admits.platform]).trans hl
  have Y := vx_rebase X (R' := { frames := R.frames, locals := R.locals, cells := 1, slots := 6 }) (Nat.le_refl _) (Nat.le_refl _) hRcells hRslots
  obtain ⟨s', hA⟩ : ∃ z, z = (T.setVm s.vm).setFrames (.invoking m args :: below) := ⟨_, rfl⟩
  rw [← hA] at Y
  have hvm : s'.vm = s.vm := by rw [hA]; rfl
  have hhp : s'.heap = H := by rw [hA]; exact hT
  have hW0 : s.WarmedH s'.vm := by rw [hvm]; exact State.WarmedH.refl s
  have hat' : ∀ w ∈ vx_atS own ic cls names, w.before args s' = true := fun w hw => vx_ot_at hW0 hvm.symm (hgood w (List.mem_cons_of_mem _ (List.mem_cons_of_mem _ hw))) (hat w hw)
  have hk' : (Cond.classLink own ik cls).before args s' = true := vx_ot_at hW0 hvm.symm (hgood _ List.mem_cons_self) hk
  have hini' : (Cond.initialized cls).before args s' = true := vx_ot_at hW0 hvm.symm (hgood _ (List.mem_cons_of_mem _ List.mem_cons_self)) hini
  have hU' : vx_Zq Bundle.tN "UNASSIGNED_STACK" Bundle.steD A s' s'.heap := by rw [hhp]; exact vx_Zq.moved hW0.alike (hU.kept hS.2.1)
  have hN' : vx_Zq Bundle.tN "SUPPRESSED_SENTINEL" Bundle.listD A s' s'.heap := by rw [hhp]; exact vx_Zq.moved hW0.alike (hN.kept hS.2.1)
  have h : ∀ w ∈ Bundle.ownAtoms own ic cls names, w.before args s' = true := vx_own hat' (vx_isRefq hU'.1) (vx_isRefq hN'.1) hU'.2.word hN'.2.word
  have hown' : s'.vm.findClass own = some m.cls := by rw [hvm]; exact hown
  have hins : (Cond.instantiable cls 6).before args s' = true := h _ (by simp [Bundle.ownAtoms])
  obtain ⟨vm₁, cX, kX, hfX, hkX, -, -, X₁, st1⟩ := Y.newCold hexec (own := own) (C := cls) (index := ik) (n := 6) hown' hk' hins hini'
    (g := F0 m pc ls rest) rfl (by rw [hb]; exact d0) (Nat.le_refl _) (Nat.le_refl _)
  generalize hT1 : (T.setVm vm₁).pushCell { cls := cX, slots := kX.instanceTypes.map defaultValue, vm := .none } = T1 at X₁ st1
  have hcat : (Value.ref T.heap.size).category = 1 := rfl
  have hcellA : T1.heap[T.heap.size]? = some (freshCell cX kX) := by rw [← hT1]; exact State.heap_pushCell_size _ _
  have d3' : decode c.code (pc + 3) = .ok (.dup, 1) := by rw [hb]; exact d3
  have d4' : decode c.code (pc + 4) = .ok (.ldc_w is, 3) := by rw [hb]; exact d4
  have hstr' : vk_R own is text sa s' := vk_R.warm hW0 hstr
  obtain ⟨U, hsteps, hrun, hend, hW, hsame, ce, hce, hO⟩ := X₁.ctorThrowS hexec htr (own := own) (cls := cls) (names := names) (ic := ic) hown' hcls hnames h (fun x hx => nomatch hx) hfX hkX hcellA (by rw [hhp, hT]; exact Nat.le_refl _) (msg := .ref sa) rfl
    (g := { method := m, pc := pc + 7, locals := ls, stack := .ref sa :: .ref T.heap.size :: .ref T.heap.size :: rest, locked := none }) rfl hsize rfl rfl (rest := rest) rfl
    (by rw [hb]; exact d7) (by rw [hb]; exact d10) hout hRframes (by simp only [List.map_cons, List.sum_cons, hcat]; omega) hlocks
  obtain ⟨f1, f2⟩ := vx_frame hsame
  rw [hhp] at f1 f2
  have hWs : s.WarmedH U.vm := State.WarmedH.trans hW0 hW
  have hcl : s.vm.findClass cls = some ce.cls := by
    have h9 := hO.cls
    rw [hvm] at h9
    exact h9
  have hall : s.sameButNew ({ U with vm := s.vm } : State) locs mc ms := by
    subst hA
    obtain ⟨e1, e2⟩ := hsame
    rw [State.setFrames_setFrames] at e1
    have h2 : (T.setVm s.vm).sameButNew ({ U with vm := s.vm } : State) [] (0 + 1) (0 + 6) := ⟨e1, e2⟩
    have h3 := X.same.trans h2
    rw [List.append_nil] at h3
    exact h3.mono hc hs
  refine ⟨U, ?_, .threw T.heap.size, hrun, hend, Or.inr ⟨T.heap.size, rfl, cls, ce, locs, hx U hWs.alike (by rw [← hT]; exact (Array.getElem?_eq_some_iff.mp hce).1) (fun q hq => f2 q hq (fun z hz => nomatch hz)), hce, hO.vm, hcl, hWs, hall, hf⟩⟩
  refine st1 _ ?_
  show Steps p.tables e below (T1.setTop { method := m, pc := pc + 3, locals := ls, stack := .ref T.heap.size :: rest, locked := none }) _
  jvm_step X₁.here [X₁.here.top, hexec, d3', Value.category]
  exact X₁.ldcStringW hexec (own := own) (text := text) (index := is) (a := sa) hown' hstr'.1 hstr'.2
    (g := { method := m, pc := pc + 4, locals := ls, stack := .ref T.heap.size :: .ref T.heap.size :: rest, locked := none }) rfl d4' _ hsteps
end ZTH
section ZBD
variable {l : Launch}
theorem zofW {y : MethodName} {ws ws' : List Cond} {rm : Room} {Pc : Array Value → State → Prop} {Qc : Array Value → State → Outcome → State → Prop} {XC : String → State → State → Prop} {mc ms : Nat} {free : Addr → Prop} {cc : ByteArray} {maxL : Nat} {ret : Option FieldType}
    (hy : plainFor y = true) (hw : ws = Cond.code y cc maxL ret :: ws')
    (body : ∀ p e s m args below meth c s₁, BodyLoose p l y (headSpec ws rm) cc maxL ret e s m args below meth c s₁ → c.maxLocals = maxL → (∀ x ∈ c.exceptionTable.toList, False) → Pc args s →
      W p l e (headSpec ws rm).room s m args below meth c s.heap [] 0 0 (vx_MQ below Qc XC args s mc ms free) (entryFrame m args maxL)) : vx_Met l y ws rm Pc Qc XC mc ms free := by
  refine MetFree.of_bodySF (code := cc) (maxLocals := maxL) (ret := ret) hy ?_ ?_
  · intro args s m h hn
    obtain ⟨meth, c, h1, h2, h3, h4, h5, h6, -, -⟩ := Cond.code_spec hn (atoms_spec (ws := ws) h _ (by rw [hw]; exact List.mem_cons_self))
    exact ⟨meth, c, h1, h2, h3, h4, h5, h6⟩
  · intro p e s m args below meth c s₁ B hml hP _
    have hh0 : s₁.heap = s.heap := by rw [B.state]; rfl
    have ht : ∀ x ∈ c.exceptionTable.toList, False := by
      obtain ⟨meth9, c9, h1, h2, -, -, -, -, h7, -⟩ := Cond.code_spec B.named (atoms_spec (ws := ws) B.pre _ (by rw [hw]; exact List.mem_cons_self))
      cases Option.some.inj (h1.symm.trans B.method)
      cases Option.some.inj (h2.symm.trans (Stand.of_body B).code)
      intro x hx
      rw [Array.isEmpty_iff.mp h7] at hx
      cases hx
    obtain ⟨t, a1, o, b1, b2, b3⟩ := body p e s m args below meth c s₁ B hml ht hP s₁ hh0 (Stand.of_body B)
    exact ⟨t, o, a1, b1, b2, b3⟩
theorem zofWH {l : Launch} {y : MethodName} {ws ws' : List Cond} {rm : Room} {Pc : Array Value → State → Prop} {Qc : Array Value → State → Outcome → State → Prop} {XC : String → State → State → Prop} {mc ms : Nat} {free : Addr → Prop} {cc : ByteArray} {maxL : Nat} {ret : Option FieldType} {hh : List (Nat × Nat × Nat × Nat)}
    (hy : plainFor y = true) (hw : ws = Cond.codeWith y cc maxL ret hh :: ws')
    (body : ∀ p e s m args below meth c s₁, BodyLoose p l y (headSpec ws rm) cc maxL ret e s m args below meth c s₁ → c.maxLocals = maxL → Pc args s →
      W p l e (headSpec ws rm).room s m args below meth c s.heap [] 0 0 (vx_MQ below Qc XC args s mc ms free) (entryFrame m args maxL)) : vx_Met l y ws rm Pc Qc XC mc ms free := by
  refine MetFree.of_bodySF (code := cc) (maxLocals := maxL) (ret := ret) hy ?_ ?_
  · intro args s m h hn
    obtain ⟨m9, meth, c, hn9, h1, h2, h3, h4, -, h5, h6, -⟩ := Cond.codeWith_spec (atoms_spec (ws := ws) h _ (by rw [hw]; exact List.mem_cons_self))
    cases hn.symm.trans hn9
    exact ⟨meth, c, h1, h2, h3, h4, h5, h6⟩
  · intro p e s m args below meth c s₁ B hml hP _
    have hh0 : s₁.heap = s.heap := by rw [B.state]; rfl
    obtain ⟨t, a1, o, b1, b2, b3⟩ := body p e s m args below meth c s₁ B hml hP s₁ hh0 (Stand.of_body B)
    exact ⟨t, o, a1, b1, b2, b3⟩
end ZBD
/-! ===== THE WORLD: what a machine's state and a pure heap have to do with each other ===== -/
/-- classes and fields, arrays' classes, the first address of ours, the heap of the start, statics and texts, the cells that nobody writes -/
abbrev zG : Type := va_G × (Nat → ClassId) × Nat × Heap × zEnv × (Nat → Option zCel)
abbrev zgD (G : zG) : va_G := G.1
abbrev zgA (G : zG) : Nat → ClassId := G.2.1
abbrev zgb (G : zG) : Nat := G.2.2.1
abbrev zgH (G : zG) : Heap := G.2.2.2.1
abbrev zgE (G : zG) : zEnv := G.2.2.2.2.1
abbrev zgr (G : zG) : Nat → Option zCel := G.2.2.2.2.2
def zV (vs : List Value) : Nat → Value := fun k => vs.getD k .null
def zaC (G : zG) (k : Nat) (vs : List Value) : Cell := { cls := zgA G k, slots := vs.toArray, vm := .none }
def zcell (G : zG) (a : Nat) (c : zCel) (H : Heap) : Prop :=
  (c.1 < 64 ∧ zgb G ≤ a ∧ ∃ r : vw_C, zcl[c.1]? = some r ∧ c.2.length = r.2.2 ∧ t_OB a ((zgD G).1 c.1) r.2.2 ((zgD G).2 c.1) H (zV c.2)) ∨
  (64 ≤ c.1 ∧ c.1 < 96 ∧ zgb G ≤ a ∧ (∃ ty, zar[c.1 - 64]? = some ty) ∧ H[a]? = some (zaC G (c.1 - 64) c.2)) ∨
  (96 ≤ c.1 ∧ zgr G a = some c)
/-- the heap from the size n on, or just of that size -/
def zHx (G : zG) (h : zPH) (H : Heap) : Prop := (∀ a c, h.1 a = some c → zcell G a c H) ∧ (∀ q, q < zgb G → H[q]? = (zgH G)[q]?) ∧ zgb G ≤ H.size
def zH (G : zG) (h : zPH) (H : Heap) : Prop := H.size = h.2.1 ∧ zHx G h H
/-- an array's class -/
def zAr (s : State) (cA : ClassId) (ty : FieldType) : Prop := ∃ (kA : Class) (comp : ClassId), s.vm.classes[cA]? = some kA ∧ kA.kind = .array comp ty ∧ s.vm.findClass ("[" ++ ty.toString) = some cA ∧ (match ty with | .object C => s.vm.findClass C = some comp | .array t => s.vm.findClass (FieldType.array t).toString = some comp | _ => True)
def zro (G : zG) (s : State) (a : Nat) (c : zCel) : Prop := ∃ (ty : FieldType) (cell : Cell), 96 ≤ c.1 ∧ zar[c.1 - 96]? = some ty ∧ a < zgb G ∧ (zgH G)[a]? = some cell ∧ s.isArrayOf cell ty ∧ cell.vm ≠ .unknown ∧ c.2.length ≤ cell.slots.size ∧ cell.slots.size.toInt32 = Int32.ofNat c.2.length ∧ ∀ j, j < c.2.length → cell.slots[j]? = some (zV c.2 j)
def zKn (G : zG) (s : State) : Prop :=
  (∀ (c : Nat) (q : vw_C), zcl[c]? = some q → u_Kn s q.1 q.2.1 q.2.2 ((zgD G).1 c) ((zgD G).2 c)) ∧
  (∀ (k : Nat) (ty : FieldType), zar[k]? = some ty → zAr s (zgA G k) ty) ∧
  (∀ (i : Nat) (e : String × String × String), zsts[i]? = some e → va_Z e.1 e.2.1 e.2.2 ((zgE G).1 i) (fun q => zgb G ≤ q) s (zgH G)) ∧
  (∀ w ∈ zXW, w.before #[] s = true) ∧
  (∀ (i : Nat) (e : String × Nat × String), zstr[i]? = some e → vk_R e.1 e.2.1 e.2.2 ((zgE G).2 i) s) ∧
  vx_Zq Bundle.tN "UNASSIGNED_STACK" Bundle.steD (fun q => zgb G ≤ q) s (zgH G) ∧ vx_Zq Bundle.tN "SUPPRESSED_SENTINEL" Bundle.listD (fun q => zgb G ≤ q) s (zgH G) ∧
  (∀ (i j : Nat) (E F : String), zexn[i]? = some E → zexn[j]? = some F → i ≠ j → va_Nc E F s) ∧
  (∀ a c, zgr G a = some c → zro G s a c)
theorem zAr.moved {u U : State} (hvm : u.vm.Alike U.vm) {cA : ClassId} {ty : FieldType} (h : zAr u cA ty) : zAr U cA ty := by
  obtain ⟨kA, comp, h1, h2, h3, h4⟩ := h
  obtain ⟨k', hk', he⟩ := hvm.2.2 _ _ h1
  refine ⟨k', comp, hk', by rw [he]; exact h2, by rw [hvm.findClass]; exact h3, ?_⟩
  cases ty <;> first | trivial | (dsimp only at h4 ⊢; rw [hvm.findClass]; exact h4)
theorem zro.moved {G : zG} {u U : State} (hvm : u.vm.Alike U.vm) {a : Nat} {c : zCel} (h : zro G u a c) : zro G U a c := by
  obtain ⟨ty, cell, h1, h2, h3, h4, h5, h6⟩ := h
  exact ⟨ty, cell, h1, h2, h3, h4, State.isArrayOf_alike hvm h5, h6⟩
theorem zAO.moved {t : FieldType} {u U : State} (hvm : u.vm.Alike U.vm) (h : (Jvm.Cond.arrayOver (.array t)).before #[] u = true) : (Jvm.Cond.arrayOver (.array t)).before #[] U = true := by
  obtain ⟨comp, c, k, h1, h2, h3, h4, h5⟩ := arrayOverA_spec h
  obtain ⟨k', hk', he⟩ := hvm.2.2 _ _ h3
  have hi : (U.vm.classes.findIdx? fun (x : Class) => match x.kind with | .array component _ => component == comp | _ => false) = some c := by
    rw [hvm.findIdx?_eq _ (fun _ => rfl)]
    exact h2
  have hkind : k'.kind = .array comp (.array t) := by rw [he]; exact h4
  have f1 : U.vm.findClass (FieldType.array t).toString = some comp := by rw [hvm.findClass]; exact h1
  have f2 : U.vm.findClass ("[" ++ (FieldType.array t).toString) = some c := by rw [hvm.findClass]; exact h5
  unfold Cond.before Cond.holds
  simp only [Cond.value]
  rw [f1, Option.bind_some]
  refine (congrArg (fun o : Option Nat => (o.bind (fun c => (U.vm.classes[c]?).map fun (k : Class) => match k.kind with | .array _ ty => decide (ty = FieldType.array t) && decide (U.vm.findClass ("[" ++ (FieldType.array t).toString) = some c) | _ => false) == some true)) hi).trans ?_
  simp [hk', hkind, f2]
theorem zxw_moved {s U : State} (hW : s.WarmedH U.vm) {w : Jvm.Cond} (hg : zxgood w = true) (h : w.before #[] s = true) : w.before #[] U = true := by
  have key : w.faceAtom = true → w.onTables = true → w.before #[] U = true := fun h1 h2 => by
    have h3 := Cond.faceAtom_setVm hW.alike w h1 h
    rw [Cond.onTables_vm (A' := #[]) (U' := U) U.vm w h2] at h3
    rwa [State.setVm_self] at h3
  cases w <;> try (exfalso; simp [zxgood] at hg; done)
  case methodLinkNest a i x k => exact va_Nw.warmM hW h
  case fieldLinkNest a i b n d k => exact va_Nw.warmF hW h
  case castable a b => exact key rfl rfl
  case declares x => exact key rfl rfl
  case publicMethod x => exact key rfl rfl
  case privateMethod x => exact key rfl rfl
  case unhidden a b d => exact key rfl rfl
  case interfaceMethod a b d k =>
    simp only [zxgood] at hg
    exact key (by simpa [Cond.faceAtom] using hg) rfl
  case arrayOver ty =>
    cases ty with
    | object C => exact va_AO.moved hW.alike h
    | array t => exact zAO.moved hW.alike h
    | _ => exact absurd h (by simp [Cond.before, Cond.holds, Cond.value])
theorem zKn.moved {G : zG} {s U : State} (hW : s.WarmedH U.vm) (h : zKn G s) : zKn G U := by
  obtain ⟨h1, h2, h3, h4, h5, h6, h7, h8, h9⟩ := h
  have ha := hW.alike
  exact ⟨fun c q hq => u_Kn_moved ha (h1 c q hq), fun k ty hk => (h2 k ty hk).moved ha, fun i e he => (h3 i e he).moved ha, fun w hw => zxw_moved hW (List.mem_filter.mp hw).2 (h4 w hw), fun i e he => vk_R.warm hW (h5 i e he), vx_Zq.moved ha h6, vx_Zq.moved ha h7, fun i j E F hi hj hn => va_Nc.moved ha (h8 i j E F hi hj hn), fun a c hc => (h9 a c hc).moved ha⟩
/-! ### the heap relation under the machine's writes -/
theorem zcell.kept {G : zG} {a : Nat} {c : zCel} {H H1 : Heap} (h : zcell G a c H) (hq : H1[a]? = H[a]?) : zcell G a c H1 := by
  rcases h with ⟨h1, hb, r, h2, h3, h4⟩ | ⟨h1, h2, hb, h3, h4⟩ | h
  · exact Or.inl ⟨h1, hb, r, h2, h3, h4.kept hq⟩
  · exact Or.inr (Or.inl ⟨h1, h2, hb, h3, hq.trans h4⟩)
  · exact Or.inr (Or.inr h)
theorem zcell.lt {G : zG} {a : Nat} {c : zCel} {H : Heap} {s : State} (hK : zKn G s) (hb : zgb G ≤ H.size) (h : zcell G a c H) : a < H.size := by
  rcases h with ⟨-, -, r, -, -, cell, h4, -⟩ | ⟨-, -, -, -, h4⟩ | ⟨-, h⟩
  · exact (Array.getElem?_eq_some_iff.mp h4).1
  · exact (Array.getElem?_eq_some_iff.mp h4).1
  · obtain ⟨_, _, -, -, h3, -⟩ := hK.2.2.2.2.2.2.2.2 a c h
    omega
/-- a cell written -/
theorem zH.set {G : zG} {h : zPH} {H H1 : Heap} (hH : zH G h H) {a : Nat} {c : zCel} (hba : zgb G ≤ a) (z : H1.size = H.size) (oq : ∀ q : Nat, q ≠ a → H1[q]? = H[q]?) (he : zcell G a c H1) : zH G (zset h a c) H1 := by
  obtain ⟨h1, h2, h3, h4⟩ := hH
  refine ⟨z.trans h1, fun b d hb => ?_, fun q hq => ?_, by rw [z]; exact h4⟩
  · by_cases hab : b = a
    · have : some c = some d := by simpa [zset, hab] using hb
      cases this
      rw [hab]
      exact he
    · exact (h2 b d (by simpa [zset, hab] using hb)).kept (oq b hab)
  · rw [oq q (by omega)]
    exact h3 q hq
/-- a cell made -/
theorem zH.push {G : zG} {h : zPH} {H H1 : Heap} (hH : zH G h H) {s : State} (hK : zKn G s) {c : zCel} {n : Nat} (z : H1.size = H.size + 1) (oq : ∀ q : Nat, q < H.size → H1[q]? = H[q]?) (he : zcell G H.size c H1) : zH G (zalloc h c n) H1 := by
  obtain ⟨h1, h2, h3, h4⟩ := hH
  refine ⟨by rw [z, h1]; rfl, fun b d hb => ?_, fun q hq => ?_, by omega⟩
  · by_cases hab : b = h.2.1
    · have : some c = some d := by simpa [zalloc, hab] using hb
      cases this
      rw [hab, ← h1]
      exact he
    · have hd : h.1 b = some d := by simpa [zalloc, hab] using hb
      have hc := h2 b d hd
      exact hc.kept (oq b (hc.lt hK h4))
  · rw [oq q (by omega)]
    exact h3 q hq
/-! ### locals -/
def zL (ls : Array Slot) (nL : Nat) (L : zLc) : Prop := L.length = nL ∧ ls.size = nL ∧ lv_wf ls ∧ ∀ (i : Nat) (v : Value), L[i]? = some (some v) → ls[i]? = some (.val v)
theorem zcat_eq (v : Value) : zcat v = v.category := by cases v <;> rfl
theorem zwt_eq (st : List Value) : zwt st = (st.map fun v => v.category).sum := by
  induction st with
  | nil => rfl
  | cons v r ih => simp [zwt, zcat_eq, ih]
/-- the list of what is known -/
def zls (L : zLc) (i : Nat) : List (Nat × Value) := match L with
  | [] => []
  | none :: r => zls r (i + 1)
  | some v :: r => (i, v) :: zls r (i + 1)
theorem zls_mem (L : zLc) : ∀ (i : Nat) (q : Nat × Value), q ∈ zls L i ↔ ∃ k, q.1 = i + k ∧ L[k]? = some (some q.2) := by
  induction L with
  | nil => intro i q; simp [zls]
  | cons x r ih =>
    intro i q
    have hr : (∃ k, q.1 = i + k ∧ (x :: r)[k]? = some (some q.2)) ↔ (q.1 = i ∧ x = some q.2) ∨ ∃ k, q.1 = i + 1 + k ∧ r[k]? = some (some q.2) := by
      constructor
      · rintro ⟨k, h1, h2⟩
        cases k with
        | zero => exact Or.inl ⟨h1, by simpa using h2⟩
        | succ k => exact Or.inr ⟨k, by omega, by simpa using h2⟩
      · rintro (⟨h1, h2⟩ | ⟨k, h1, h2⟩)
        · exact ⟨0, h1, by simp [h2]⟩
        · exact ⟨k + 1, by omega, by simpa using h2⟩
    rw [hr]
    cases x with
    | none => simp [zls, ih]
    | some v =>
      simp only [zls, List.mem_cons, ih]
      constructor
      · rintro (h | h)
        · exact Or.inl (by rw [h]; exact ⟨rfl, rfl⟩)
        · exact Or.inr h
      · rintro (⟨h1, h2⟩ | h)
        · exact Or.inl (by cases h2; exact Prod.ext h1 rfl)
        · exact Or.inr h
theorem zL.has {ls : Array Slot} {nL : Nat} {L : zLc} (h : zL ls nL L) : lv_has ls nL (zls L 0) := ⟨h.2.1, h.2.2.1, fun q hq => by
  obtain ⟨k, h1, h2⟩ := (zls_mem L 0 q).mp hq
  rw [h1, Nat.zero_add]
  exact h.2.2.2 k q.2 h2⟩
theorem zmod_len (L : zLc) : ∀ k, (zmod L k).length = L.length := by
  induction L with
  | nil => intro k; rfl
  | cons x r ih => intro k; cases k <;> simp [zmod, ih]
theorem zmod_at (L : zLc) : ∀ (k i : Nat) (v : Value), (zmod L k)[i]? = some (some v) → L[i]? = some (some v) ∧ (i = k → v.category = 1) := by
  induction L with
  | nil => intro k i v h; simp [zmod] at h
  | cons x r ih =>
    intro k i v h
    cases k with
    | zero =>
      cases i with
      | zero =>
        have h1 : zcl1 x = some v := by simpa [zmod] using h
        cases x with
        | none => cases h1
        | some w => cases w <;> simp [zcl1] at h1 <;> subst h1 <;> exact ⟨rfl, fun _ => rfl⟩
      | succ i => exact ⟨by simpa [zmod] using h, fun e => by omega⟩
    | succ k =>
      cases i with
      | zero => exact ⟨by simpa [zmod] using h, fun e => by omega⟩
      | succ i =>
        obtain ⟨h1, h2⟩ := ih k i v (by simpa [zmod] using h)
        exact ⟨by simpa using h1, fun e => h2 (by omega)⟩
theorem zpre_len (L : zLc) (k : Nat) : (zpre L k).length = L.length := by cases k <;> simp [zpre, zmod_len]
theorem zpre_at {L : zLc} {k i : Nat} {v : Value} (h : (zpre L k)[i]? = some (some v)) : L[i]? = some (some v) ∧ (i + 1 = k → v.category = 1) := by
  cases k with
  | zero => exact ⟨h, fun e => by omega⟩
  | succ k =>
    obtain ⟨h1, h2⟩ := zmod_at L k i v h
    exact ⟨h1, fun e => h2 (by omega)⟩
/-- a value of one place is laid (o: it, or nothing known of it) -/
theorem zL.put {ls ls' : Array Slot} {nL k : Nat} {L : zLc} {v : Value} {o : Option Value} (ho : o = some v ∨ o = none) (hL : zL ls nL L) (h : lv_has ls' nL ((k, v) :: (zls L 0).filter (fun q => !(q.1 == k) && !(q.1 + 1 == k && q.2.category == 2)))) : zL ls' nL (zput L k o) := by
  refine ⟨by rw [zput, List.length_set, zpre_len]; exact hL.1, h.1, h.2.1, fun i w hw => ?_⟩
  by_cases hik : i = k
  · subst hik
    have hlt : i < (zpre L i).length := by
      have := (List.getElem?_eq_some_iff.mp hw).1
      simpa [zput] using this
    rw [zput, List.getElem?_set_self hlt] at hw
    rcases ho with rfl | rfl
    · cases hw
      exact h.2.2 (i, v) List.mem_cons_self
    · cases hw
  · rw [zput, List.getElem?_set_ne (Ne.symm hik)] at hw
    obtain ⟨h1, h2⟩ := zpre_at hw
    refine h.2.2 (i, w) (List.mem_cons_of_mem _ (List.mem_filter.mpr ⟨(zls_mem L 0 (i, w)).mpr ⟨i, by simp, h1⟩, ?_⟩))
    simp only [Bool.and_eq_true, Bool.not_eq_true', beq_eq_false_iff_ne, ne_eq, Bool.and_eq_false_iff]
    refine ⟨hik, ?_⟩
    by_cases e : i + 1 = k
    · exact Or.inr (by rw [h2 e]; decide)
    · exact Or.inl e
theorem zL.put2 {ls ls' : Array Slot} {nL k : Nat} {L : zLc} {v : Value} (hL : zL ls nL L) (h : lv_has ls' nL ((k, v) :: (zls L 0).filter (fun q => !(q.1 == k) && (!(q.1 == k + 1) && !(q.1 + 1 == k && q.2.category == 2))))) : zL ls' nL (zput2 L k v) := by
  refine ⟨by rw [zput2, List.length_set, zput, List.length_set, zpre_len]; exact hL.1, h.1, h.2.1, fun i w hw => ?_⟩
  by_cases hi1 : i = k + 1
  · subst hi1
    have hlt : k + 1 < (zput L k (some v)).length := by
      have := (List.getElem?_eq_some_iff.mp hw).1
      simpa [zput2] using this
    rw [zput2, List.getElem?_set_self hlt] at hw
    cases hw
  · rw [zput2, List.getElem?_set_ne (Ne.symm hi1)] at hw
    by_cases hik : i = k
    · subst hik
      have hlt : i < (zpre L i).length := by
        have := (List.getElem?_eq_some_iff.mp hw).1
        simpa [zput] using this
      rw [zput, List.getElem?_set_self hlt] at hw
      cases hw
      exact h.2.2 (i, v) List.mem_cons_self
    · rw [zput, List.getElem?_set_ne (Ne.symm hik)] at hw
      obtain ⟨h1, h2⟩ := zpre_at hw
      refine h.2.2 (i, w) (List.mem_cons_of_mem _ (List.mem_filter.mpr ⟨(zls_mem L 0 (i, w)).mpr ⟨i, by simp, h1⟩, ?_⟩))
      simp only [Bool.and_eq_true, Bool.not_eq_true', beq_eq_false_iff_ne, ne_eq, Bool.and_eq_false_iff]
      refine ⟨hik, hi1, ?_⟩
      by_cases e : i + 1 = k
      · exact Or.inr (by rw [h2 e]; decide)
      · exact Or.inl e
/-! ### a method's start -/
theorem zfill_len (n : Nat) : ∀ L : zLc, L.length ≤ n → (zfill n L).length = n := by
  induction n with
  | zero => intro L h; cases L <;> simp_all [zfill]
  | succ n ih => intro L h; cases L with
    | nil => simp [zfill, ih [] (Nat.zero_le _)]
    | cons x r => simp [zfill, ih r (by simpa using h)]
theorem zfill_at (n : Nat) : ∀ (L : zLc) (i : Nat) (v : Value), (zfill n L)[i]? = some (some v) → L[i]? = some (some v) := by
  induction n with
  | zero => intro L i v h; exact h
  | succ n ih => intro L i v h; cases L with
    | nil =>
      cases i with
      | zero => simp [zfill] at h
      | succ i => have := ih [] i v (by simpa [zfill] using h); simp at this
    | cons x r =>
      cases i with
      | zero => simpa [zfill] using h
      | succ i => have := ih r i v (by simpa [zfill] using h); simpa using this
theorem zargs_at (as : List Value) : ∀ (b i : Nat) (v : Value), (zargs as)[i]? = some (some v) → (b + i, v) ∈ lv_args b as := by
  induction as with
  | nil => intro b i v h; simp [zargs] at h
  | cons w r ih =>
    intro b i v h
    rcases lv_cat w with hc | hc
    · have e : zargs (w :: r) = some w :: zargs r := by simp [zargs, zcat_eq, hc]
      rw [e] at h
      have e2 : lv_args b (w :: r) = (b, w) :: lv_args (b + 1) r := by simp [lv_args, hc]
      rw [e2]
      cases i with
      | zero => have : w = v := by simpa using h
                subst this
                exact List.mem_cons_self
      | succ i =>
        have := ih (b + 1) i v (by simpa using h)
        rw [show b + (i + 1) = b + 1 + i by omega]
        exact List.mem_cons_of_mem _ this
    · have e : zargs (w :: r) = some w :: none :: zargs r := by simp [zargs, zcat_eq, hc]
      rw [e] at h
      have e2 : lv_args b (w :: r) = (b, w) :: lv_args (b + 2) r := by simp [lv_args, hc]
      rw [e2]
      match i with
      | 0 => have : w = v := by simpa using h
             subst this
             exact List.mem_cons_self
      | 1 => simp at h
      | i + 2 =>
        have := ih (b + 2) i v (by simpa using h)
        rw [show b + (i + 2) = b + 2 + i by omega]
        exact List.mem_cons_of_mem _ this
theorem zargs_len (as : List Value) : (zargs as).length = (lg_sl as).length := by
  induction as with
  | nil => rfl
  | cons w r ih =>
    rcases lv_cat w with hc | hc <;> simp [zargs, lg_sl, zcat_eq, hc] <;> simpa [lg_sl] using ih
theorem zL.entry {as : List Value} {n : Nat} (h : (zargs as).length ≤ n) : zL ((lg_sl as ++ List.replicate (n - (lg_sl as).length) Slot.unset).toArray) n (zfill n (zargs as)) := by
  have hl := lv_entry as (n := n) (by rw [← zargs_len]; exact h)
  refine ⟨zfill_len n _ h, hl.1, hl.2.1, fun i v hv => ?_⟩
  have := zargs_at as 0 i v (zfill_at n _ i v hv)
  rw [Nat.zero_add] at this
  exact hl.2.2 _ this
