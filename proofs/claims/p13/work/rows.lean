section
/-! ===== BEGIN words of one list among another's, by their places ===== -/
theorem goodIn_r {big : List Cond} (ws : List Cond) (ps : List Nat) (hp : ws = ps.filterMap (fun i => big[i]?)) (h : ws.all goodWord = true) : GoodIn big ws := by
  intro w hw
  have h1 := List.all_eq_true.mp h w hw
  rw [hp] at hw
  obtain ⟨i, -, hi⟩ := List.mem_filterMap.mp hw
  have hm : w ∈ big := by first | exact List.mem_of_getElem? hi | exact List.getElem?_mem hi
  exact ⟨hm, good_of_word h1⟩
theorem goodIn_app {big a b : List Cond} (ha : GoodIn big a) (hb : GoodIn big b) : GoodIn big (a ++ b) := fun w h => (List.mem_append.mp h).elim (ha w) (hb w)
theorem goodIn_ca {big a b : List Cond} {c : Cond} (ha : GoodIn big (c :: a)) (hb : GoodIn big b) : GoodIn big (c :: (a ++ b)) := fun w h => (List.mem_cons.mp h).elim (fun e => ha w (List.mem_cons.mpr (Or.inl e))) (fun h => (List.mem_append.mp h).elim (fun h => ha w (List.mem_cons.mpr (Or.inr h))) (hb w))
theorem goodIn_sub {big ws : List Cond} (hm : ∀ w ∈ ws, w ∈ big) (h : ws.all goodWord = true) : GoodIn big ws := fun w hw => ⟨hm w hw, good_of_word (List.all_eq_true.mp h w hw)⟩
/-! ===== END ===== -/
/-! ===== BEGIN exceptions that leave a method, and their catching by the caller (launches without stack traces) ===== -/
section VXA
/-! The laws vx_back, vx_callV, vx_callS, vx_callSW, vx_throw0, vx_throwS follow proofs of the library, with one case more: JvmDerived/Free/Laws.lean (Back.of_free), Shelf42/LK1.lean (callV, callS), Shelf/KitTraced.lean (throwNew0V, throwNewS). -/
/-- where a method has thrown q: the class by its name, the cell, what was written, the world -/
def vx_T (XC : String → State → State → Prop) (st : State) (q : Addr) (t : State) (mc ms : Nat) (free : Addr → Prop) : Prop :=
  ∃ (E : String) (ce : Cell) (L : List Loc), XC E st t ∧ t.heap[q]? = some ce ∧ ce.vm = .none ∧ st.vm.findClass E = some ce.cls ∧ st.WarmedH t.vm ∧ st.sameButNew ({ t with vm := st.vm } : State) L mc ms ∧ ∀ z ∈ L, free z.base
def vx_Q (Qc : Array Value → State → Outcome → State → Prop) (XC : String → State → State → Prop) (mc ms : Nat) (free : Addr → Prop) : Array Value → State → Outcome → State → Prop := fun a st o t =>
  (Qc a st o t ∧ ∃ L, FrameEnd st o t L mc ms ∧ ∀ q ∈ L, free q.base) ∨ ∃ q, o = .threw q ∧ vx_T XC st q t mc ms free
/-- a callee that returns or throws -/
def vx_Met (l : Launch) (y : MethodName) (ws : List Cond) (rm : Room) (Pc : Array Value → State → Prop) (Qc : Array Value → State → Outcome → State → Prop) (XC : String → State → State → Prop) (mc ms : Nat) (free : Addr → Prop) : Prop :=
  MetFree l y (headSpec ws rm) Pc (fun _ _ _ _ _ => True) (vx_Q Qc XC mc ms free)
def vx_Post (XC : String → State → State → Prop) (mc ms : Nat) (free : Addr → Prop) : Pt → Array Value → Addr → Pt → Prop := fun A a q B =>
  ∃ (g : JFrame) (mk : MethodId) (t : State) (L : List Loc) (E : String) (ce : Cell), B.U.heap = t.heap ∧ B.U.vm = t.vm ∧ XC E (A.U.calling g mk a) t ∧ t.heap[q]? = some ce ∧ ce.vm = .none ∧ A.U.vm.findClass E = some ce.cls ∧ B.locs = A.locs ++ L ∧ (∀ z ∈ L, free z.base) ∧ B.cells = A.cells + mc ∧ B.slots = A.slots + ms
def vx_Back (l : Launch) (R : Room) (p : Program) (e : Env) (below : List Frame) (s : State) (sargs : Array Value) (y : MethodName) (len W9 : Nat)
    (Pre : Pt → Array Value → Prop) (Post : Pt → Array Value → Option Value → Pt → Prop) (PostX : Pt → Array Value → Addr → Pt → Prop) : Prop :=
  ∀ (m : MethodId) (meth : Method) (c : Code) (A : Pt) (g : JFrame) (ig : Instr) (mk : MethodId) (a : Array Value),
    Stand p l e R s m sargs below meth c A.U A.locs A.cells A.slots → g.method = m → g.locals.size = c.maxLocals → decode c.code g.pc = .ok (ig, len) →
    2 * g.monitorRoom + (g.stack.map fun v => v.category).sum ≤ W9 → A.U.methodNamed? y = some mk → Pre A a →
    (∃ (v : Option Value) (B : Pt), Stand p l e R s m sargs below meth c B.U B.locs B.cells B.slots ∧ Post A a v B ∧
      Steps p.tables e below (doInvoke e (A.U.setTop g) [] mk a).1 (B.U.setTop { g with pc := g.pc + len, stack := v.toList ++ g.stack })) ∨
    (∃ (q : Addr) (B : Pt), Stand p l e R s m sargs below meth c B.U B.locs B.cells B.slots ∧ PostX A a q B ∧
      Steps p.tables e below (doInvoke e (A.U.setTop g) [] mk a).1 ((B.U.setTop g).pushFrame (.throwing q)))
section Payer
variable {l : Launch} {R : Room} {p : Program} {e : Env} {below : List Frame} {s : State} {sargs : Array Value} {y : MethodName} {len W9 : Nat}
theorem vx_back {ws : List Cond} {rm : Room} {Pc : Array Value → State → Prop} {Qc : Array Value → State → Outcome → State → Prop} {XC : String → State → State → Prop} {mc ms : Nat} {free : Addr → Prop} {bytes : ByteArray} {maxL : Nat} {ret : Option FieldType}
    (hM : vx_Met l y ws rm Pc Qc XC mc ms free) (hblind : FrameBlind Pc) (hrc : rm.cells = mc) (hrs : rm.slots = ms)
    (hframes : rm.frames + 1 ≤ R.frames) (hlocals : W9 + (maxL + 11) + rm.locals ≤ R.locals)
    (hws : ∀ w ∈ ws, ∀ a' U, s.WarmedH U.vm → w.before a' U = true) (hcode : Cond.code y bytes maxL ret ∈ ws) (hinit : ∀ a' U, s.WarmedH U.vm → (Cond.initialized y.cls).before a' U = true) :
    vx_Back l R p e below s sargs y len W9 (PreOf R mc ms Pc) (PostOf Qc mc ms free) (vx_Post XC mc ms free) := by
  intro m meth c A g ig mk a X hg hsize hdg hW hn hp
  have h1 : (headSpec ws rm).pre.before a A.U = true := atoms_intro fun w hw => hws w hw _ _ X.warmed
  have h2 : (Cond.code y bytes maxL ret).before a A.U = true := hws _ hcode _ _ X.warmed
  have h3 : (Cond.initialized y.cls).before a A.U = true := hinit _ _ X.warmed
  have h4 : A.cells + (headSpec ws rm).room.cells ≤ R.cells := by rw [show (headSpec ws rm).room.cells = mc from hrc]; exact hp.1
  have h5 : A.slots + (headSpec ws rm).room.slots ≤ R.slots := by rw [show (headSpec ws rm).room.slots = ms from hrs]; exact hp.2.1
  have hPc : Pc a (A.U.calling g mk a) := hblind _ _ _ _ hp.2.2
  obtain ⟨U, Ls, c0, s0⟩ := A
  dsimp only [Pt.U, Pt.locs, Pt.cells, Pt.slots] at h1 h2 h3 h4 h5 X hn hPc ⊢
  obtain ⟨methY, cY, hmY, hcY, -, hlY, -, -, -, -⟩ := Cond.code_spec hn h2
  obtain ⟨kY, hkY, -⟩ := className_of_methodNamed hn
  have hinitY : kY.init = .initialized := Cond.initialized_spec (findClass_of_methodNamed hn) hkY h3
  have h : At U g.method c below := by rw [hg]; exact X.here
  have hlocals9 : W9 + (maxL + 11) + (headSpec ws rm).room.locals ≤ R.locals := hlocals
  have happ : (headSpec ws rm).appliesLoose y e.platform (U.calling g mk a) = true :=
    Spec.appliesLoose_calling (g := g) h hdg hn hkY hinitY
      (X.room_calling (g := g) (R' := (headSpec ws rm).room) hsize hmY hcY hframes (by rw [hlY]; omega) h4 h5) h1
  obtain ⟨mid, hmid⟩ := h.above
  have hfr : (U.setTop g).frames = (.java g :: mid) ++ below := by rw [State.frames_setTop' g h.top, hmid]; rfl
  obtain ⟨o, s₂, hsteps, -, hend, hq⟩ := Steps.callFree hM p X.admits X.cas X.clock (acts := []) hfr happ hPc trivial
  have hq' : vx_Q Qc XC mc ms free a (U.calling g mk a) o s₂ := hq
  rw [State.frames_setTop' g h.top] at hend
  obtain ⟨g₀, hg0⟩ := Option.isSome_iff_exists.mp h.top
  obtain ⟨r, hr⟩ := State.topJava?_eq_some.mp hg0
  have hr' : (({ U with heap := s₂.heap, slotsUsed := s₂.slotsUsed } : State).setVm s₂.vm).frames = .java g₀ :: r := hr
  rcases hq' with ⟨hqc, L, hfe, hL⟩ | ⟨q, rfl, E, ce, L, hx, hce, hcv, hcl, hW₂, hsm, hL⟩
  · obtain ⟨⟨v, rfl⟩, hW₂, e2, q2, q3, q4, q5, q6⟩ := id hfe
    have e3 : s₂ = ({ (U.calling g mk a).setFrames s₂.frames with heap := s₂.heap, slotsUsed := s₂.slotsUsed } : State).setVm s₂.vm := by
      have : s₂ = ({ s₂ with vm := (U.calling g mk a).vm } : State).setVm s₂.vm := rfl
      rw [e2] at this
      exact this
    obtain ⟨c₂, i₂, len₂, hc₂, hd₂, hf₂⟩ := hend
    have hW' : U.WarmedH s₂.vm := hW₂
    have hcc : c₂ = c := by
      have h1 : s₂.code? g.method = U.code? g.method := by
        rw [State.code?_eq, State.code?_eq, hW'.alike.method?]
      exact Option.some.inj (hc₂.symm.trans (h1.trans h.code))
    subst hcc
    have hlen : len₂ = len := by rw [hdg] at hd₂; cases hd₂; rfl
    subst hlen
    have hs₂ : s₂ = (({ U with heap := s₂.heap, slotsUsed := s₂.slotsUsed } : State).setVm s₂.vm).setTop { g with pc := g.pc + len₂, stack := v.toList ++ g.stack } := by
      refine e3.trans ?_
      rw [hf₂, State.calling_eq h.top, State.setFrames_setFrames, State.setTop_of_frames _ hr', hr]
      rfl
    have hsame : U.sameButNew ({ U with heap := s₂.heap, slotsUsed := s₂.slotsUsed } : State) L mc ms := by
      refine ⟨?_, q2, q3, q4, q5, q6⟩
      obtain ⟨t, ht, -⟩ := State.frames_cons hr
      show ({ U with heap := s₂.heap, slotsUsed := s₂.slotsUsed } : State) = { U.setFrames U.frames with heap := s₂.heap, slotsUsed := s₂.slotsUsed }
      rw [State.setFrames_self ht]
    subst hg
    refine Or.inl ⟨v, ⟨(({ U with heap := s₂.heap, slotsUsed := s₂.slotsUsed } : State).setVm s₂.vm), Ls ++ L, c0 + mc, s0 + ms⟩,
      ⟨X.admits, X.cas, X.clock, X.frames, X.room, X.hears, X.method, X.code, (X.here.setHeapUsed s₂.heap s₂.slotsUsed).setVm hW'.alike, X.tail, State.WarmedH.trans X.warmed hW', X.limits, X.bytes, X.same.trans (hsame.setVm s.vm)⟩,
      ⟨g, mk, s₂, L, rfl, rfl, hqc, rfl, hL, rfl, rfl⟩, ?_⟩
    show Steps p.tables e below _ ((({ U with heap := s₂.heap, slotsUsed := s₂.slotsUsed } : State).setVm s₂.vm).setTop { g with pc := g.pc + len₂, stack := v.toList ++ g.stack })
    rw [← hs₂]
    exact hsteps
  · obtain ⟨e2, q2, q3, q4, q5, q6⟩ := id hsm
    have e3 : s₂ = ({ (U.calling g mk a).setFrames s₂.frames with heap := s₂.heap, slotsUsed := s₂.slotsUsed } : State).setVm s₂.vm := by
      have : s₂ = ({ s₂ with vm := (U.calling g mk a).vm } : State).setVm s₂.vm := rfl
      rw [e2] at this
      exact this
    have hf₂ : s₂.frames = .throwing q :: .java g :: U.frames.tail := hend
    have hW' : U.WarmedH s₂.vm := hW₂
    have hs₂ : s₂ = ((({ U with heap := s₂.heap, slotsUsed := s₂.slotsUsed } : State).setVm s₂.vm).setTop g).pushFrame (.throwing q) := by
      refine e3.trans ?_
      rw [hf₂, State.calling_eq h.top, State.setFrames_setFrames, State.pushFrame, State.frames_setTop _ hr', State.setTop_of_frames _ hr', State.setFrames_setFrames, hr]
      rfl
    have hsame : U.sameButNew ({ U with heap := s₂.heap, slotsUsed := s₂.slotsUsed } : State) L mc ms := by
      refine ⟨?_, q2, q3, q4, q5, q6⟩
      obtain ⟨t, ht, -⟩ := State.frames_cons hr
      show ({ U with heap := s₂.heap, slotsUsed := s₂.slotsUsed } : State) = { U.setFrames U.frames with heap := s₂.heap, slotsUsed := s₂.slotsUsed }
      rw [State.setFrames_self ht]
    subst hg
    refine Or.inr ⟨q, ⟨(({ U with heap := s₂.heap, slotsUsed := s₂.slotsUsed } : State).setVm s₂.vm), Ls ++ L, c0 + mc, s0 + ms⟩,
      ⟨X.admits, X.cas, X.clock, X.frames, X.room, X.hears, X.method, X.code, (X.here.setHeapUsed s₂.heap s₂.slotsUsed).setVm hW'.alike, X.tail, State.WarmedH.trans X.warmed hW', X.limits, X.bytes, X.same.trans (hsame.setVm s.vm)⟩,
      ⟨g, mk, s₂, L, E, ce, rfl, rfl, hx, hce, hcv, hcl, rfl, hL, rfl, rfl⟩, ?_⟩
    show Steps p.tables e below _ (((({ U with heap := s₂.heap, slotsUsed := s₂.slotsUsed } : State).setVm s₂.vm).setTop g).pushFrame (.throwing q))
    rw [← hs₂]
    exact hsteps
end Payer
section Calls
variable {p : Program} {l : Launch} {e : Env} {R : Room} {s : State} {m : MethodId} {args : Array Value} {below : List Frame} {meth : Method} {c : Code} {T : State} {locs : List Loc} {cells slots : Nat}
theorem vx_callV (X : Stand p l e R s m args below meth c T locs cells slots) (hexec : p.tables.exec = Jvm.exec) {own C : String} {index : Nat} {y : MethodName} {bytes : ByteArray} {maxL : Nat} {ret : Option FieldType}
    (hown : s.vm.findClass own = some m.cls) (hlink : (Cond.methodLink own index y).before args s = true) (hinst : (Cond.instanceMethod y).before args s = true) (hsel : (Cond.selects C y y).before args s = true)
    (hcode : (Cond.code y bytes maxL ret).before args s = true) (hy : y.cls ≠ "java/lang/invoke/MethodHandle" ∧ y.cls ≠ "java/lang/invoke/VarHandle")
    {W9 : Nat} {Pre : Pt → Array Value → Prop} {Post : Pt → Array Value → Option Value → Pt → Prop} {PostX : Pt → Array Value → Addr → Pt → Prop} (hK : vx_Back l R p e below s args y 3 W9 Pre Post PostX)
    {b : Addr} {cellB : Cell} (hcell : T.heap[b]? = some cellB) (hobj : cellB.vm.isStatics = false) (hcls : s.vm.findClass C = some cellB.cls)
    {g : JFrame} (hg : g.method = m) (hsize : g.locals.size = c.maxLocals) {argsL rest : List Value} (hlen : ∀ sig, parseMethodDescriptor y.desc = some sig → argsL.length = sig.parameters.length)
    (hstack : g.stack = argsL.reverse ++ .ref b :: rest) (hW : 2 * g.monitorRoom + (rest.map fun v => v.category).sum ≤ W9) (hdg : decode c.code g.pc = .ok (.invokevirtual index, 3))
    (hpre : ∀ vm₁, s.WarmedH vm₁ → Pre ⟨T.setVm vm₁, locs, cells, slots⟩ (Value.ref b :: argsL).toArray) :
    (∃ (v : Option Value) (vm₁ : Vm) (B : Pt), s.WarmedH vm₁ ∧ Stand p l e R s m args below meth c B.U B.locs B.cells B.slots ∧ Post ⟨T.setVm vm₁, locs, cells, slots⟩ (Value.ref b :: argsL).toArray v B ∧
      ∀ target, Steps p.tables e below (B.U.setTop { g with pc := g.pc + 3, stack := v.toList ++ rest }) target → Steps p.tables e below (T.setTop g) target) ∨
    (∃ (q : Addr) (vm₁ : Vm) (B : Pt), s.WarmedH vm₁ ∧ Stand p l e R s m args below meth c B.U B.locs B.cells B.slots ∧ PostX ⟨T.setVm vm₁, locs, cells, slots⟩ (Value.ref b :: argsL).toArray q B ∧
      Steps p.tables e below (T.setTop g) ((B.U.setTop { g with stack := rest }).pushFrame (.throwing q))) := by
  obtain ⟨mk, methM, hnamed, hmethM, hstM, habM⟩ := Cond.instanceMethod_spec hinst
  obtain ⟨methM', cM, hmethM', -, -, -, -, -, -, hsigM⟩ := Cond.code_spec hnamed hcode
  cases hmethM.symm.trans hmethM'
  obtain ⟨c2, r2, m2, q1, q2, q3, q4, kP, hkP, hkPi⟩ := Cond.selects_spec hsel
  cases hcls.symm.trans q1
  cases (State.methodFound?_of_named hnamed hy).symm.trans q2
  cases hnamed.symm.trans q3
  have hselP : selectMethod e.platform s.vm cellB.cls mk = .method mk := by rw [Launch.admits_selectMethod X.admits]; exact q4
  obtain ⟨vm₁, X₁, hstep₁⟩ := X.invokevirtual hexec hown hlink hnamed hmethM hstM hkP hkPi hy (a := b) (cell := cellB) hcell
    (fun z h => by rw [h] at hobj; cases hobj) hselP hmethM habM hkP hkPi (g := g) hg (argsL := argsL) (rest := rest) (hlen _ hsigM) hstack hdg
  rcases hK m meth c ⟨T.setVm vm₁, locs, cells, slots⟩ { g with stack := rest } (.invokevirtual index) mk (Value.ref b :: argsL).toArray X₁ hg hsize hdg hW (X₁.named hnamed) (hpre vm₁ X₁.warmed) with ⟨v, B, X', hpost, hsteps⟩ | ⟨q, B, X', hpost, hsteps⟩
  · exact Or.inl ⟨v, vm₁, B, X₁.warmed, X', hpost, fun target h => hstep₁ _ fun acts => by rw [doInvoke_state]; exact hsteps.trans h⟩
  · exact Or.inr ⟨q, vm₁, B, X₁.warmed, X', hpost, hstep₁ _ fun acts => by rw [doInvoke_state]; exact hsteps⟩
theorem vx_callS (X : Stand p l e R s m args below meth c T locs cells slots) (hexec : p.tables.exec = Jvm.exec) {own : String} {index : Nat} {y : MethodName} {bytes : ByteArray} {maxL : Nat} {ret : Option FieldType}
    (hown : s.vm.findClass own = some m.cls) (hlink : (Cond.methodLink own index y).before args s = true) (hstat : (Cond.static y).before args s = true) (hinit : (Cond.initialized y.cls).before args s = true)
    (hcode : (Cond.code y bytes maxL ret).before args s = true) (hy : y.cls ≠ "java/lang/invoke/MethodHandle" ∧ y.cls ≠ "java/lang/invoke/VarHandle")
    {W9 : Nat} {Pre : Pt → Array Value → Prop} {Post : Pt → Array Value → Option Value → Pt → Prop} {PostX : Pt → Array Value → Addr → Pt → Prop} (hK : vx_Back l R p e below s args y 3 W9 Pre Post PostX)
    {g : JFrame} (hg : g.method = m) (hsize : g.locals.size = c.maxLocals) {argsL rest : List Value} (hlen : ∀ sig, parseMethodDescriptor y.desc = some sig → argsL.length = sig.parameters.length)
    (hstack : g.stack = argsL.reverse ++ rest) (hW : 2 * g.monitorRoom + (rest.map fun v => v.category).sum ≤ W9) (hdg : decode c.code g.pc = .ok (.invokestatic index, 3))
    (hpre : ∀ vm₁, s.WarmedH vm₁ → Pre ⟨T.setVm vm₁, locs, cells, slots⟩ argsL.toArray) :
    (∃ (v : Option Value) (vm₁ : Vm) (B : Pt), s.WarmedH vm₁ ∧ Stand p l e R s m args below meth c B.U B.locs B.cells B.slots ∧ Post ⟨T.setVm vm₁, locs, cells, slots⟩ argsL.toArray v B ∧
      ∀ target, Steps p.tables e below (B.U.setTop { g with pc := g.pc + 3, stack := v.toList ++ rest }) target → Steps p.tables e below (T.setTop g) target) ∨
    (∃ (q : Addr) (vm₁ : Vm) (B : Pt), s.WarmedH vm₁ ∧ Stand p l e R s m args below meth c B.U B.locs B.cells B.slots ∧ PostX ⟨T.setVm vm₁, locs, cells, slots⟩ argsL.toArray q B ∧
      Steps p.tables e below (T.setTop g) ((B.U.setTop { g with stack := rest }).pushFrame (.throwing q))) := by
  obtain ⟨mk, hnamed⟩ := Cond.code_named hcode
  obtain ⟨methM, cM, hmethM, -, -, -, -, -, -, hsigM⟩ := Cond.code_spec hnamed hcode
  have hstatic : methM.isStatic = true := Cond.static_spec hnamed hmethM hstat
  obtain ⟨kP, hkP, -⟩ := className_of_methodNamed hnamed
  have hinitP : kP.init = .initialized := Cond.initialized_spec (findClass_of_methodNamed hnamed) hkP hinit
  obtain ⟨vm₁, X₁, hstep₁⟩ := X.invokestatic hexec hown hlink hnamed hmethM hstatic hkP hinitP hy (g := g) hg (argsL := argsL) (rest := rest) (hlen _ hsigM) hstack hdg
  rcases hK m meth c ⟨T.setVm vm₁, locs, cells, slots⟩ { g with stack := rest } (.invokestatic index) mk argsL.toArray X₁ hg hsize hdg hW (X₁.named hnamed) (hpre vm₁ X₁.warmed) with ⟨v, B, X', hpost, hsteps⟩ | ⟨q, B, X', hpost, hsteps⟩
  · exact Or.inl ⟨v, vm₁, B, X₁.warmed, X', hpost, fun target h => hstep₁ _ fun acts => by rw [doInvoke_state]; exact hsteps.trans h⟩
  · exact Or.inr ⟨q, vm₁, B, X₁.warmed, X', hpost, hstep₁ _ fun acts => by rw [doInvoke_state]; exact hsteps⟩
end Calls
theorem vx_cls {s : State} {T : State} {vm₁ : Vm} {E : String} {k : ClassId} (hW : s.WarmedH vm₁) (h : (T.setVm vm₁).vm.findClass E = some k) : s.vm.findClass E = some k := by
  have h1 : vm₁.findClass E = some k := h
  rw [hW.alike.findClass] at h1
  exact h1
/-- the method's frame g, with q thrown over it -/
def vx_W (p : Program) (l : Launch) (e : Env) (R : Room) (s : State) (m : MethodId) (args : Array Value) (below : List Frame) (meth : Method) (c : Code) (H : Heap) (locs : List Loc) (cells slots : Nat) (Q : State → Prop) (g : JFrame) (q : Addr) : Prop :=
  ∀ T : State, T.heap = H → Stand p l e R s m args below meth c T locs cells slots → ∃ t, Steps p.tables e below ((T.setTop g).pushFrame (.throwing q)) t ∧ Q t
def vx_Run (p : Program) (l : Launch) (e : Env) (R : Room) (s : State) (m : MethodId) (args : Array Value) (below : List Frame) (meth : Method) (c : Code) (H : Heap) (locs : List Loc) (cells slots mc ms : Nat) (g : JFrame) (rest : List Value) (Qa : State → Outcome → State → Prop) (XC : String → State → State → Prop) (free : Addr → Prop) : Prop :=
  ∀ T : State, T.heap = H → Stand p l e R s m args below meth c T locs cells slots →
    (∃ (v : Option Value) (st₀ t T' : State) (L : List Loc), st₀.heap = H ∧ Stand p l e R s m args below meth c T' (locs ++ L) (cells + mc) (slots + ms) ∧ (∀ q ∈ L, free q.base) ∧ T'.heap = t.heap ∧ T'.vm = t.vm ∧ Qa st₀ (.returned v) t ∧
      Goes p e below T g T' { g with pc := g.pc + 3, stack := v.toList ++ rest }) ∨
    (∃ (q : Addr) (st₀ t T' : State) (L : List Loc) (E : String) (ce : Cell), st₀.heap = H ∧ Stand p l e R s m args below meth c T' (locs ++ L) (cells + mc) (slots + ms) ∧ (∀ z ∈ L, free z.base) ∧ T'.heap = t.heap ∧ T'.vm = t.vm ∧ XC E st₀ t ∧ t.heap[q]? = some ce ∧ ce.vm = .none ∧ s.vm.findClass E = some ce.cls ∧
      Steps p.tables e below (T.setTop g) ((T'.setTop { g with stack := rest }).pushFrame (.throwing q)))
def vx_X {S : Type} (px : S → Prop) (B : String → S → State → Prop) (A : Nat → Prop) : String → State → State → Prop := fun E st t => ∃ u : S, px u ∧ B E u t ∧ va_F A st t
section Runs
variable {p : Program} {l : Launch} {e : Env} {R : Room} {s : State} {m : MethodId} {args : Array Value} {below : List Frame} {meth : Method} {c : Code} {H : Heap} {locs : List Loc} {cells slots : Nat}
variable {y : MethodName} {bytes cc : ByteArray} {maxL nL mc ms n index : Nat} {ret : Option FieldType} {ws : List Cond} {rm : Room} {Pc : Array Value → State → Prop} {Qc : Array Value → State → Outcome → State → Prop} {XC : String → State → State → Prop} {free : Addr → Prop} {Ts : List Cond} {own C : String} {b : Addr} {As rest : List Value} {g : JFrame}
theorem vx_callBack (cb : CallB R s args own index y bytes maxL ret ws rm mc ms n) (hM : vx_Met l y ws rm Pc Qc XC mc ms free) (hbl : FrameBlind Pc) : vx_Back l R p e below s args y 3 8 (PreOf R mc ms Pc) (PostOf Qc mc ms free) (vx_Post XC mc ms free) := by
  obtain ⟨hrc, hrs, hfr, hlo, hws, hcw, -, hini, -⟩ := cb
  exact vx_back (bytes := bytes) (maxL := maxL) (ret := ret) hM hbl hrc hrs hfr hlo hws hcw (fun a' U hW => word_at hW (Or.inl (by first | rfl | simp [Cond.onTables, Cond.keeps, Cond.steady])) hini)
theorem vx_runV (S : CallFix p m c cc nL s args Ts own) (hM : vx_Met l y ws rm Pc Qc XC mc ms free) (cw : CallW R s args own C index y bytes maxL ret ws rm mc ms n) (hp : PreV s H C b Pc As)
    (hg : g.method = m) (hn : As.length = n) (hsize : g.locals.size = nL) (hstack : g.stack = As.reverse ++ .ref b :: rest) (hW : 2 * g.monitorRoom + (rest.map fun v => v.category).sum ≤ 8) (hdg : decode cc g.pc = .ok (.invokevirtual index, 3)) (hf : cells + mc ≤ R.cells ∧ slots + ms ≤ R.slots) :
    vx_Run p l e R s m args below meth c H locs cells slots mc ms g rest (Qc (Value.ref b :: As).toArray) XC free := by
  have hK : vx_Back l R p e below s args y 3 8 (PreOf R mc ms Pc) (PostOf Qc mc ms free) (vx_Post XC mc ms free) := vx_callBack cw.1 hM hp.1
  obtain ⟨⟨-, -, -, -, -, -, hcode, -, hy, hlen, hl⟩, hin, hse⟩ := cw
  obtain ⟨hx, hb, hml, ho, -⟩ := S
  obtain ⟨-, ⟨cellB, hcB, hoB, hclB⟩, hPc⟩ := hp
  intro T hT X
  rcases vx_callV X hx (C := C) (bytes := bytes) (maxL := maxL) (ret := ret) ho hl hin hse hcode hy hK (by rw [hT]; exact hcB) hoB hclB hg (hsize.trans hml.symm) (argsL := As) (rest := rest) (fun sig h => hn.trans (hlen sig h)) hstack hW (by rw [hb]; exact hdg)
    (fun vm₁ hW₁ => ⟨hf.1, hf.2, hPc (T.setVm vm₁) hT hW₁⟩) with ⟨v, vm₁, ⟨U', l2, c2, s2⟩, hW₁, X', ⟨g', mk, t, L, e1, e2, hq, h1, hL, h2, h3⟩, st⟩ | ⟨q, vm₁, ⟨U', l2, c2, s2⟩, hW₁, X', ⟨g', mk, t, L, E, ce, e1, e2, hq, hce, hcv, hcl, h1, hL, h2, h3⟩, st⟩
  · dsimp only [Pt.U, Pt.locs, Pt.cells, Pt.slots] at X' e1 e2 h1 h2 h3 st
    subst h1; subst h2; subst h3
    exact Or.inl ⟨v, (T.setVm vm₁).calling g' mk (Value.ref b :: As).toArray, t, U', L, hT, X', hL, e1, e2, hq, st⟩
  · dsimp only [Pt.U, Pt.locs, Pt.cells, Pt.slots] at X' e1 e2 h1 h2 h3 st hcl
    subst h1; subst h2; subst h3
    exact Or.inr ⟨q, (T.setVm vm₁).calling g' mk (Value.ref b :: As).toArray, t, U', L, E, ce, hT, X', hL, e1, e2, hq, hce, hcv, vx_cls hW₁ hcl, st⟩
theorem vx_runS (S : CallFix p m c cc nL s args Ts own) (hM : vx_Met l y ws rm Pc Qc XC mc ms free) (cw : CallB R s args own index y bytes maxL ret ws rm mc ms n ∧ (Cond.static y).before args s = true) (hp : PreS s H Pc As)
    (hg : g.method = m) (hn : As.length = n) (hsize : g.locals.size = nL) (hstack : g.stack = As.reverse ++ rest) (hW : 2 * g.monitorRoom + (rest.map fun v => v.category).sum ≤ 8) (hdg : decode cc g.pc = .ok (.invokestatic index, 3)) (hf : cells + mc ≤ R.cells ∧ slots + ms ≤ R.slots) :
    vx_Run p l e R s m args below meth c H locs cells slots mc ms g rest (Qc As.toArray) XC free := by
  have hK : vx_Back l R p e below s args y 3 8 (PreOf R mc ms Pc) (PostOf Qc mc ms free) (vx_Post XC mc ms free) := vx_callBack cw.1 hM hp.1
  obtain ⟨⟨-, -, -, -, -, -, hcode, hini, hy, hlen, hl⟩, hstt⟩ := cw
  obtain ⟨hx, hb, hml, ho, -⟩ := S
  intro T hT X
  rcases vx_callS X hx (bytes := bytes) (maxL := maxL) (ret := ret) ho hl hstt hini hcode hy hK hg (hsize.trans hml.symm) (argsL := As) (rest := rest) (fun sig h => hn.trans (hlen sig h)) hstack hW (by rw [hb]; exact hdg)
    (fun vm₁ hW₁ => ⟨hf.1, hf.2, hp.2 (T.setVm vm₁) hT hW₁⟩) with ⟨v, vm₁, ⟨U', l2, c2, s2⟩, hW₁, X', ⟨g', mk, t, L, e1, e2, hq, h1, hL, h2, h3⟩, st⟩ | ⟨q, vm₁, ⟨U', l2, c2, s2⟩, hW₁, X', ⟨g', mk, t, L, E, ce, e1, e2, hq, hce, hcv, hcl, h1, hL, h2, h3⟩, st⟩
  · dsimp only [Pt.U, Pt.locs, Pt.cells, Pt.slots] at X' e1 e2 h1 h2 h3 st
    subst h1; subst h2; subst h3
    exact Or.inl ⟨v, (T.setVm vm₁).calling g' mk As.toArray, t, U', L, hT, X', hL, e1, e2, hq, st⟩
  · dsimp only [Pt.U, Pt.locs, Pt.cells, Pt.slots] at X' e1 e2 h1 h2 h3 st hcl
    subst h1; subst h2; subst h3
    exact Or.inr ⟨q, (T.setVm vm₁).calling g' mk As.toArray, t, U', L, E, ce, hT, X', hL, e1, e2, hq, hce, hcv, vx_cls hW₁ hcl, st⟩
end Runs
section Rows
variable {p : Program} {l : Launch} {e : Env} {R : Room} {s : State} {m : MethodId} {args : Array Value} {below : List Frame} {meth : Method} {c : Code} {H : Heap} {locs : List Loc} {cells slots : Nat} {Q : State → Prop}
variable {mc ms : Nat} {free : Addr → Prop} {A0 A1 : Nat → Prop} {H0 : Heap} {a : Array Value} {pc : Nat} {ls : Array Slot} {st0 rest : List Value}
theorem vx_keep {st₀ t T' : State} {L : List Loc} (h0 : st₀.heap = H) (e1 : T'.heap = t.heap) (hS : va_S A0 H0 H locs) (hA : ∀ q, q < H.size → A1 q → A0 q) (hf : ∀ q, free q → A0 q) (hL : ∀ q ∈ L, free q.base) (hF : va_F A1 st₀ t) :
    H.size ≤ T'.heap.size ∧ (∀ q : Nat, q < H.size → ¬ A1 q → T'.heap[q]? = H[q]?) ∧ va_S A0 H0 T'.heap (locs ++ L) := by
  obtain ⟨hz, hk⟩ := hF
  rw [h0] at hz hk
  exact ⟨by rw [e1]; exact hz, fun q h1 h2 => by rw [e1]; exact hk q h1 h2,
    ⟨Nat.le_trans hS.1 (by rw [e1]; exact hz), fun q h1 h2 => by rw [e1, hk q (Nat.lt_of_lt_of_le h1 hS.1) (fun z => h2 (hA q (Nat.lt_of_lt_of_le h1 hS.1) z))]; exact hS.2.1 q h1 h2, fun q hq => by
      rcases List.mem_append.mp hq with h | h
      · exact hS.2.2 q h
      · exact hf _ (hL q h)⟩⟩
theorem vx_calli {S SX : Type} {post : Int32 → S → Prop} {px : SX → Prop} {B : S → State → Prop} {BX : String → SX → State → Prop} {AX : Nat → Prop} (hr : vx_Run p l e R s m args below meth c H locs cells slots mc ms (F0 m pc ls st0) rest (va_Qi post B A1 a) (vx_X px BX AX) free) (hS : va_S A0 H0 H locs) (hA : ∀ q, q < H.size → A1 q → A0 q) (hf : ∀ q, free q → A0 q) (hAX : ∀ q, q < H.size → AX q → A0 q)
    (kx : ∀ (E : String) (ce : Cell) (q9 : Addr) (u : SX) (t : State) (H1 : Heap) (locs1 : List Loc), t.heap = H1 → s.vm.Alike t.vm → px u → BX E u t → H.size ≤ H1.size → (∀ q : Nat, q < H.size → ¬ AX q → H1[q]? = H[q]?) → va_S A0 H0 H1 locs1 → H1[q9]? = some ce → ce.vm = .none → s.vm.findClass E = some ce.cls → vx_W p l e R s m args below meth c H1 locs1 (cells + mc) (slots + ms) Q (F0 m pc ls rest) q9)
    (kk : ∀ (r : Int32) (u : S) (t : State) (H1 : Heap) (locs1 : List Loc), t.heap = H1 → s.vm.Alike t.vm → post r u → B u t → H.size ≤ H1.size → (∀ q : Nat, q < H.size → ¬ A1 q → H1[q]? = H[q]?) → va_S A0 H0 H1 locs1 → W p l e R s m args below meth c H1 locs1 (cells + mc) (slots + ms) Q (F0 m (pc + 3) ls (.int r :: rest))) : W p l e R s m args below meth c H locs cells slots Q (F0 m pc ls st0) := by
  intro T hT X
  rcases hr T hT X with ⟨v, st₀, t, T', L, h0, X', hL, e1, e2, ⟨⟨r, u, hv, hp, hb⟩, hF⟩, st⟩ | ⟨q, st₀, t, T', L, E, ce, h0, X', hL, e1, e2, ⟨u, hp, hb, hF⟩, hce, hcv, hcl, st⟩
  · cases hv
    obtain ⟨k1, k2, k3⟩ := vx_keep h0 e1 hS hA hf hL hF
    obtain ⟨t2, a1, b1⟩ := kk r u t T'.heap (locs ++ L) e1.symm (by rw [← e2]; exact X'.warmed.alike) hp hb k1 k2 k3 T' rfl X'
    exact ⟨t2, st t2 a1, b1⟩
  · obtain ⟨k1, k2, k3⟩ := vx_keep h0 e1 hS hAX hf hL hF
    obtain ⟨t2, a1, b1⟩ := kx E ce q u t T'.heap (locs ++ L) e1.symm (by rw [← e2]; exact X'.warmed.alike) hp hb k1 k2 k3 (by rw [e1]; exact hce) hcv hcl T' rfl X'
    exact ⟨t2, st.trans a1, b1⟩
theorem vx_calll {S SX : Type} {post : Int64 → S → Prop} {px : SX → Prop} {B : S → State → Prop} {BX : String → SX → State → Prop} {AX : Nat → Prop} (hr : vx_Run p l e R s m args below meth c H locs cells slots mc ms (F0 m pc ls st0) rest (va_Ql post B A1 a) (vx_X px BX AX) free) (hS : va_S A0 H0 H locs) (hA : ∀ q, q < H.size → A1 q → A0 q) (hf : ∀ q, free q → A0 q) (hAX : ∀ q, q < H.size → AX q → A0 q)
    (kx : ∀ (E : String) (ce : Cell) (q9 : Addr) (u : SX) (t : State) (H1 : Heap) (locs1 : List Loc), t.heap = H1 → s.vm.Alike t.vm → px u → BX E u t → H.size ≤ H1.size → (∀ q : Nat, q < H.size → ¬ AX q → H1[q]? = H[q]?) → va_S A0 H0 H1 locs1 → H1[q9]? = some ce → ce.vm = .none → s.vm.findClass E = some ce.cls → vx_W p l e R s m args below meth c H1 locs1 (cells + mc) (slots + ms) Q (F0 m pc ls rest) q9)
    (kk : ∀ (r : Int64) (u : S) (t : State) (H1 : Heap) (locs1 : List Loc), t.heap = H1 → s.vm.Alike t.vm → post r u → B u t → H.size ≤ H1.size → (∀ q : Nat, q < H.size → ¬ A1 q → H1[q]? = H[q]?) → va_S A0 H0 H1 locs1 → W p l e R s m args below meth c H1 locs1 (cells + mc) (slots + ms) Q (F0 m (pc + 3) ls (.long r :: rest))) : W p l e R s m args below meth c H locs cells slots Q (F0 m pc ls st0) := by
  intro T hT X
  rcases hr T hT X with ⟨v, st₀, t, T', L, h0, X', hL, e1, e2, ⟨⟨r, u, hv, hp, hb⟩, hF⟩, st⟩ | ⟨q, st₀, t, T', L, E, ce, h0, X', hL, e1, e2, ⟨u, hp, hb, hF⟩, hce, hcv, hcl, st⟩
  · cases hv
    obtain ⟨k1, k2, k3⟩ := vx_keep h0 e1 hS hA hf hL hF
    obtain ⟨t2, a1, b1⟩ := kk r u t T'.heap (locs ++ L) e1.symm (by rw [← e2]; exact X'.warmed.alike) hp hb k1 k2 k3 T' rfl X'
    exact ⟨t2, st t2 a1, b1⟩
  · obtain ⟨k1, k2, k3⟩ := vx_keep h0 e1 hS hAX hf hL hF
    obtain ⟨t2, a1, b1⟩ := kx E ce q u t T'.heap (locs ++ L) e1.symm (by rw [← e2]; exact X'.warmed.alike) hp hb k1 k2 k3 (by rw [e1]; exact hce) hcv hcl T' rfl X'
    exact ⟨t2, st.trans a1, b1⟩
theorem vx_callf {S SX : Type} {post : UInt32 → S → Prop} {px : SX → Prop} {B : S → State → Prop} {BX : String → SX → State → Prop} {AX : Nat → Prop} (hr : vx_Run p l e R s m args below meth c H locs cells slots mc ms (F0 m pc ls st0) rest (va_Qf post B A1 a) (vx_X px BX AX) free) (hS : va_S A0 H0 H locs) (hA : ∀ q, q < H.size → A1 q → A0 q) (hf : ∀ q, free q → A0 q) (hAX : ∀ q, q < H.size → AX q → A0 q)
    (kx : ∀ (E : String) (ce : Cell) (q9 : Addr) (u : SX) (t : State) (H1 : Heap) (locs1 : List Loc), t.heap = H1 → s.vm.Alike t.vm → px u → BX E u t → H.size ≤ H1.size → (∀ q : Nat, q < H.size → ¬ AX q → H1[q]? = H[q]?) → va_S A0 H0 H1 locs1 → H1[q9]? = some ce → ce.vm = .none → s.vm.findClass E = some ce.cls → vx_W p l e R s m args below meth c H1 locs1 (cells + mc) (slots + ms) Q (F0 m pc ls rest) q9)
    (kk : ∀ (r : UInt32) (u : S) (t : State) (H1 : Heap) (locs1 : List Loc), t.heap = H1 → s.vm.Alike t.vm → post r u → B u t → H.size ≤ H1.size → (∀ q : Nat, q < H.size → ¬ A1 q → H1[q]? = H[q]?) → va_S A0 H0 H1 locs1 → W p l e R s m args below meth c H1 locs1 (cells + mc) (slots + ms) Q (F0 m (pc + 3) ls (.float r :: rest))) : W p l e R s m args below meth c H locs cells slots Q (F0 m pc ls st0) := by
  intro T hT X
  rcases hr T hT X with ⟨v, st₀, t, T', L, h0, X', hL, e1, e2, ⟨⟨r, u, hv, hp, hb⟩, hF⟩, st⟩ | ⟨q, st₀, t, T', L, E, ce, h0, X', hL, e1, e2, ⟨u, hp, hb, hF⟩, hce, hcv, hcl, st⟩
  · cases hv
    obtain ⟨k1, k2, k3⟩ := vx_keep h0 e1 hS hA hf hL hF
    obtain ⟨t2, a1, b1⟩ := kk r u t T'.heap (locs ++ L) e1.symm (by rw [← e2]; exact X'.warmed.alike) hp hb k1 k2 k3 T' rfl X'
    exact ⟨t2, st t2 a1, b1⟩
  · obtain ⟨k1, k2, k3⟩ := vx_keep h0 e1 hS hAX hf hL hF
    obtain ⟨t2, a1, b1⟩ := kx E ce q u t T'.heap (locs ++ L) e1.symm (by rw [← e2]; exact X'.warmed.alike) hp hb k1 k2 k3 (by rw [e1]; exact hce) hcv hcl T' rfl X'
    exact ⟨t2, st.trans a1, b1⟩
theorem vx_calld {S SX : Type} {post : UInt64 → S → Prop} {px : SX → Prop} {B : S → State → Prop} {BX : String → SX → State → Prop} {AX : Nat → Prop} (hr : vx_Run p l e R s m args below meth c H locs cells slots mc ms (F0 m pc ls st0) rest (va_Qd post B A1 a) (vx_X px BX AX) free) (hS : va_S A0 H0 H locs) (hA : ∀ q, q < H.size → A1 q → A0 q) (hf : ∀ q, free q → A0 q) (hAX : ∀ q, q < H.size → AX q → A0 q)
    (kx : ∀ (E : String) (ce : Cell) (q9 : Addr) (u : SX) (t : State) (H1 : Heap) (locs1 : List Loc), t.heap = H1 → s.vm.Alike t.vm → px u → BX E u t → H.size ≤ H1.size → (∀ q : Nat, q < H.size → ¬ AX q → H1[q]? = H[q]?) → va_S A0 H0 H1 locs1 → H1[q9]? = some ce → ce.vm = .none → s.vm.findClass E = some ce.cls → vx_W p l e R s m args below meth c H1 locs1 (cells + mc) (slots + ms) Q (F0 m pc ls rest) q9)
    (kk : ∀ (r : UInt64) (u : S) (t : State) (H1 : Heap) (locs1 : List Loc), t.heap = H1 → s.vm.Alike t.vm → post r u → B u t → H.size ≤ H1.size → (∀ q : Nat, q < H.size → ¬ A1 q → H1[q]? = H[q]?) → va_S A0 H0 H1 locs1 → W p l e R s m args below meth c H1 locs1 (cells + mc) (slots + ms) Q (F0 m (pc + 3) ls (.double r :: rest))) : W p l e R s m args below meth c H locs cells slots Q (F0 m pc ls st0) := by
  intro T hT X
  rcases hr T hT X with ⟨v, st₀, t, T', L, h0, X', hL, e1, e2, ⟨⟨r, u, hv, hp, hb⟩, hF⟩, st⟩ | ⟨q, st₀, t, T', L, E, ce, h0, X', hL, e1, e2, ⟨u, hp, hb, hF⟩, hce, hcv, hcl, st⟩
  · cases hv
    obtain ⟨k1, k2, k3⟩ := vx_keep h0 e1 hS hA hf hL hF
    obtain ⟨t2, a1, b1⟩ := kk r u t T'.heap (locs ++ L) e1.symm (by rw [← e2]; exact X'.warmed.alike) hp hb k1 k2 k3 T' rfl X'
    exact ⟨t2, st t2 a1, b1⟩
  · obtain ⟨k1, k2, k3⟩ := vx_keep h0 e1 hS hAX hf hL hF
    obtain ⟨t2, a1, b1⟩ := kx E ce q u t T'.heap (locs ++ L) e1.symm (by rw [← e2]; exact X'.warmed.alike) hp hb k1 k2 k3 (by rw [e1]; exact hce) hcv hcl T' rfl X'
    exact ⟨t2, st.trans a1, b1⟩
theorem vx_callv {S SX : Type} {post : S → Prop} {px : SX → Prop} {B : S → State → Prop} {BX : String → SX → State → Prop} {AX : Nat → Prop} (hr : vx_Run p l e R s m args below meth c H locs cells slots mc ms (F0 m pc ls st0) rest (va_Qv post B A1 a) (vx_X px BX AX) free) (hS : va_S A0 H0 H locs) (hA : ∀ q, q < H.size → A1 q → A0 q) (hf : ∀ q, free q → A0 q) (hAX : ∀ q, q < H.size → AX q → A0 q)
    (kx : ∀ (E : String) (ce : Cell) (q9 : Addr) (u : SX) (t : State) (H1 : Heap) (locs1 : List Loc), t.heap = H1 → s.vm.Alike t.vm → px u → BX E u t → H.size ≤ H1.size → (∀ q : Nat, q < H.size → ¬ AX q → H1[q]? = H[q]?) → va_S A0 H0 H1 locs1 → H1[q9]? = some ce → ce.vm = .none → s.vm.findClass E = some ce.cls → vx_W p l e R s m args below meth c H1 locs1 (cells + mc) (slots + ms) Q (F0 m pc ls rest) q9)
    (kk : ∀ (u : S) (t : State) (H1 : Heap) (locs1 : List Loc), t.heap = H1 → s.vm.Alike t.vm → post u → B u t → H.size ≤ H1.size → (∀ q : Nat, q < H.size → ¬ A1 q → H1[q]? = H[q]?) → va_S A0 H0 H1 locs1 → W p l e R s m args below meth c H1 locs1 (cells + mc) (slots + ms) Q (F0 m (pc + 3) ls (rest))) : W p l e R s m args below meth c H locs cells slots Q (F0 m pc ls st0) := by
  intro T hT X
  rcases hr T hT X with ⟨v, st₀, t, T', L, h0, X', hL, e1, e2, ⟨⟨u, hv, hp, hb⟩, hF⟩, st⟩ | ⟨q, st₀, t, T', L, E, ce, h0, X', hL, e1, e2, ⟨u, hp, hb, hF⟩, hce, hcv, hcl, st⟩
  · cases hv
    obtain ⟨k1, k2, k3⟩ := vx_keep h0 e1 hS hA hf hL hF
    obtain ⟨t2, a1, b1⟩ := kk u t T'.heap (locs ++ L) e1.symm (by rw [← e2]; exact X'.warmed.alike) hp hb k1 k2 k3 T' rfl X'
    exact ⟨t2, st t2 a1, b1⟩
  · obtain ⟨k1, k2, k3⟩ := vx_keep h0 e1 hS hAX hf hL hF
    obtain ⟨t2, a1, b1⟩ := kx E ce q u t T'.heap (locs ++ L) e1.symm (by rw [← e2]; exact X'.warmed.alike) hp hb k1 k2 k3 (by rw [e1]; exact hce) hcv hcl T' rfl X'
    exact ⟨t2, st.trans a1, b1⟩
/-- caught by the row x of this method's table; the rows ahead don't take it -/
theorem vx_catch {own name : String} {E : String} {ce : Cell} {q : Addr} (hown : s.vm.findClass own = some m.cls) (pre : List ExceptionTableEntry) (x : ExceptionTableEntry) (suf : List ExceptionTableEntry) (hsplit : c.exceptionTable.toList = pre ++ x :: suf)
    (hpass : ∀ z ∈ pre, covers z pc = false ∨ (z.catchType ≠ 0 ∧ ∃ nm : String, (Cond.classLink own z.catchType nm).before args s = true ∧ va_Nc E nm s)) (hx : covers x pc = true) (h0 : x.catchType ≠ 0)
    (hlink : (Cond.classLink own x.catchType name).before args s = true) (hcast : (Cond.castable E name).before args s = true) (hcell : H[q]? = some ce) (hv : ce.vm = .none) (hcl : s.vm.findClass E = some ce.cls)
    (kk : W p l e R s m args below meth c H locs cells slots Q (F0 m x.handlerPc ls [.ref q])) : vx_W p l e R s m args below meth c H locs cells slots Q (F0 m pc ls rest) q := by
  intro T hT X
  have hpl : e.platform.magicAccessors = ({} : Platform).magicAccessors := by rw [X.admits.platform]
  obtain ⟨c3, c4, hc3, hc4, hasg⟩ := Cond.castable_spec hcast
  cases Option.some.inj (hc3.symm.trans hcl)
  obtain ⟨c5, hc5, hcl5⟩ := Cond.classLink_spec hown hlink e.platform hpl
  cases Option.some.inj (hc4.symm.trans hc5)
  obtain ⟨vm', X', st⟩ := X.thenCaughtThrough q (g := F0 m pc ls rest) rfl (Steps.refl _) (by rw [hT]; exact hcell) (by rw [hv]; rfl) (by obtain ⟨k9, h9, -⟩ := Vm.findClass_spec hcl; exact ⟨k9, h9⟩) pre x suf hsplit
    (fun z hz => by
      rcases hpass z hz with h | ⟨hz0, nm, hl1, hn1⟩
      · exact Or.inl h
      · obtain ⟨c6, hc6, hcl6⟩ := Cond.classLink_spec hown hl1 e.platform hpl
        obtain ⟨a8, b8, h1, h2, h3⟩ := hn1
        cases Option.some.inj (h1.symm.trans hcl)
        cases Option.some.inj (h2.symm.trans hc6)
        exact Or.inr ⟨hz0, _, hcl6, h3⟩) hx (Or.inr ⟨h0, c4, hcl5, hasg⟩)
  obtain ⟨t, a1, b1⟩ := kk (T.setVm vm') hT X'
  exact ⟨t, st.trans a1, b1⟩
end Rows
section Ends
variable {p : Program} {l : Launch} {e : Env} {R : Room} {s : State} {m : MethodId} {args : Array Value} {below : List Frame} {meth : Method} {c : Code} {H : Heap} {locs : List Loc} {cells slots : Nat} {Q : State → Prop}
variable {mc ms : Nat} {free : Addr → Prop} {A0 A1 : Nat → Prop} {H0 : Heap} {a : Array Value} {ls : Array Slot} {st0 rest : List Value}
variable {Qc : Array Value → State → Outcome → State → Prop} {XC : String → State → State → Prop}
/-- what a body that may throw owes at its end -/
def vx_MQ (below : List Frame) (Qc : Array Value → State → Outcome → State → Prop) (XC : String → State → State → Prop) (a : Array Value) (s : State) (mc ms : Nat) (free : Addr → Prop) : State → Prop := fun t =>
  ∃ o, t.status = .running ∧ Ended t below o ∧ vx_Q Qc XC mc ms free a s o t
theorem vx_ret {g : JFrame} {mc ms : Nat} (k : W p l e R s m args below meth c H locs cells slots (MQ below Qc args s mc ms free) g) : W p l e R s m args below meth c H locs cells slots (vx_MQ below Qc XC args s mc ms free) g := by
  intro T hT X
  obtain ⟨t, a1, o, b1, b2, b3, b4⟩ := k T hT X
  exact ⟨t, a1, o, b1, b2, Or.inl ⟨b3, b4⟩⟩
/-- not caught here: it goes on to the caller -/
theorem vx_widen {g : JFrame} {q : Addr} {k n : Nat} (h1 : cells ≤ k) (h2 : slots ≤ n) (kk : vx_W p l e R s m args below meth c H locs k n Q g q) : vx_W p l e R s m args below meth c H locs cells slots Q g q := fun T hT X => kk T hT (stand_widen X h1 h2)
theorem vx_out {pc : Nat} {E : String} {ce : Cell} {q : Addr} {mc ms : Nat} (hout : ∀ x ∈ c.exceptionTable.toList, covers x pc = false) (hlocks : meth.locks = false) (hcell : H[q]? = some ce) (hv : ce.vm = .none) (hcl : s.vm.findClass E = some ce.cls)
    (hx : ∀ t : State, t.heap = H → s.vm.Alike t.vm → XC E s t) (hf : ∀ z ∈ locs, free z.base) (hc : cells ≤ mc) (hs : slots ≤ ms) :
    vx_W p l e R s m args below meth c H locs cells slots (vx_MQ below Qc XC args s mc ms free) (F0 m pc ls rest) q := by
  intro T hT X
  obtain ⟨st1, hrun, hend, hW, hsm⟩ := X.leaveThrown q (g := F0 m pc ls rest) rfl rfl rfl hout hlocks
  have hcell9 : (T.setFrames (.throwing q :: below)).heap[q]? = some ce := by
    show T.heap[q]? = some ce
    rw [hT]; exact hcell
  exact ⟨_, st1, .threw q, hrun, hend, Or.inr ⟨q, rfl, E, ce, locs, hx _ hT hW.alike, hcell9, hv, hcl, hW, hsm.mono hc hs, hf⟩⟩
theorem vx_frame {U : State} {k n : Nat} (h : s.sameButNew ({ U with vm := s.vm } : State) locs k n) : s.heap.size ≤ U.heap.size ∧ ∀ q : Nat, q < s.heap.size → (∀ z ∈ locs, z.base ≠ q) → U.heap[q]? = s.heap[q]? := by
  obtain ⟨-, h2, -, -, -, h6⟩ := h
  refine ⟨h2, fun q hq hz => ?_⟩
  obtain ⟨c9, e1, e2, e3, e4⟩ := h6 q _ (Array.getElem?_eq_getElem hq)
  have hs : c9.slots = (s.heap[q]).slots := Array.ext_getElem? fun i => e4 i fun hm => hz _ hm rfl
  have h9 : c9 = s.heap[q] := by
    rw [hs] at e2
    exact e2
  have e5 : U.heap[q]? = some c9 := e1
  rw [e5, h9, Array.getElem?_eq_getElem hq]
/-- the words of a throw but the four that speak of the heap -/
def vx_no (w : Cond) : Bool := decide (w ≠ .isRef (.static Bundle.tN "UNASSIGNED_STACK" Bundle.steD)) && decide (w ≠ .isRef (.static Bundle.tN "SUPPRESSED_SENTINEL" Bundle.listD)) && decide (w ≠ .laysStatic Bundle.tN "UNASSIGNED_STACK" Bundle.steD) && decide (w ≠ .laysStatic Bundle.tN "SUPPRESSED_SENTINEL" Bundle.listD)
def vx_at0 (own : String) (ic : Nat) (X : String) (names : List String) : List Cond := (Bundle.ownAtoms0 own ic X names).filter vx_no
def vx_atS (own : String) (ic : Nat) (X : String) (names : List String) : List Cond := (Bundle.ownAtoms own ic X names).filter vx_no
/-- a word that the tables alone decide, or a good one -/
def vx_ot (w : Cond) : Bool := w.onTables || goodWord w
theorem vx_ot_at {args a' : Array Value} {s U : State} {w : Cond} (hW : s.WarmedH U.vm) (hvm : s.vm = U.vm) (hg : vx_ot w = true) (h : w.before args s = true) : w.before a' U = true := by
  simp only [vx_ot, Bool.or_eq_true] at hg
  rcases hg with hg | hg
  · exact va_tabs hg hvm h
  · exact word_at hW (good_of_word hg) h
/-- a list's words: the good ones out of the method's own list, the others by premises of their own -/
theorem vx_hat {args : Array Value} {s : State} {L B : List Cond} (h1 : ∀ w ∈ L.filter goodWord, w.before args s = true) (h2 : ∀ w ∈ L.filter (fun w => !goodWord w), w ∈ B) (h3 : ∀ w ∈ B, w.before args s = true) : ∀ w ∈ L, w.before args s = true := by
  intro w hw
  by_cases g : goodWord w = true
  · exact h1 w (List.mem_filter.mpr ⟨hw, g⟩)
  · refine h3 w (h2 w (List.mem_filter.mpr ⟨hw, ?_⟩))
    show (!goodWord w) = true
    cases hgw : goodWord w
    · rfl
    · exact absurd hgw g
theorem vx_c {args : Array Value} {s : State} {w : Cond} {B : List Cond} (h : w.before args s = true) (t : ∀ w ∈ B, w.before args s = true) : ∀ w' ∈ w :: B, w'.before args s = true := fun w' h' => (List.mem_cons.mp h').elim (fun e => by rw [e]; exact h) (t w')
theorem vx_n {args : Array Value} {s : State} : ∀ w ∈ ([] : List Cond), w.before args s = true := fun _ h => nomatch h
theorem vx_own {args : Array Value} {s : State} {L : List Cond} (h1 : ∀ w ∈ L.filter vx_no, w.before args s = true)
    (hU : (Cond.isRef (.static Bundle.tN "UNASSIGNED_STACK" Bundle.steD)).before args s = true) (hN : (Cond.isRef (.static Bundle.tN "SUPPRESSED_SENTINEL" Bundle.listD)).before args s = true)
    (lU : (Cond.laysStatic Bundle.tN "UNASSIGNED_STACK" Bundle.steD).before args s = true) (lN : (Cond.laysStatic Bundle.tN "SUPPRESSED_SENTINEL" Bundle.listD).before args s = true) : ∀ w ∈ L, w.before args s = true := by
  intro w hw
  by_cases e1 : w = .isRef (.static Bundle.tN "UNASSIGNED_STACK" Bundle.steD)
  · rw [e1]; exact hU
  · by_cases e2 : w = .isRef (.static Bundle.tN "SUPPRESSED_SENTINEL" Bundle.listD)
    · rw [e2]; exact hN
    · by_cases e3 : w = .laysStatic Bundle.tN "UNASSIGNED_STACK" Bundle.steD
      · rw [e3]; exact lU
      · by_cases e4 : w = .laysStatic Bundle.tN "SUPPRESSED_SENTINEL" Bundle.listD
        · rw [e4]; exact lN
        · exact h1 w (List.mem_filter.mpr ⟨hw, by unfold vx_no; rw [decide_eq_true e1, decide_eq_true e2, decide_eq_true e3, decide_eq_true e4]; rfl⟩)
/-- where a static field lies, its class's statics cell in H -/
def vx_L (C n d : String) (A : Nat → Prop) (U : State) (H : Heap) : Prop := ∃ (c : ClassId) (k : Class) (i : Nat) (f : Field) (a : Nat) (cell : Cell), U.vm.findClass C = some c ∧ U.fieldFound? C n d = some (c, k, i, f) ∧ f.isStatic = true ∧ k.statics = some a ∧ H[a]? = some cell ∧ cell.vm.isStatics = true ∧ cell.cls = c ∧ f.slot < cell.slots.size ∧ k.staticTypes[f.slot]? = some f.type ∧ ¬ A a
theorem vx_L.moved {C n d : String} {A : Nat → Prop} {u U : State} {H : Heap} (hvm : u.vm.Alike U.vm) (h : vx_L C n d A u H) : vx_L C n d A U H := by
  obtain ⟨c, k, i, f, a, cell, h1, h2, h3, h4, h5, h6, h7, h8, h9, h10⟩ := h
  obtain ⟨k', hi', he⟩ := State.fieldFound?_setVm hvm h2
  exact ⟨c, k', i, f, a, cell, by rw [hvm.findClass]; exact h1, hi', h3, by rw [he]; exact h4, h5, h6, h7, h8, by rw [he]; exact h9, h10⟩
theorem vx_L.kept {C n d : String} {A : Nat → Prop} {U : State} {H H1 : Heap} (h : vx_L C n d A U H) (hq : ∀ a : Nat, a < H.size → ¬ A a → H1[a]? = H[a]?) : vx_L C n d A U H1 := by
  obtain ⟨c, k, i, f, a, cell, h1, h2, h3, h4, h5, h6, h7, h8, h9, h10⟩ := h
  exact ⟨c, k, i, f, a, cell, h1, h2, h3, h4, by rw [hq a (Array.getElem?_eq_some_iff.mp h5).1 h10]; exact h5, h6, h7, h8, h9, h10⟩
theorem vx_L.narrow {C n d : String} {A B : Nat → Prop} {U : State} {H : Heap} (h : vx_L C n d A U H) (hAB : ∀ q, B q → A q) : vx_L C n d B U H := by
  obtain ⟨c, k, i, f, a, cell, h1, h2, h3, h4, h5, h6, h7, h8, h9, h10⟩ := h
  exact ⟨c, k, i, f, a, cell, h1, h2, h3, h4, h5, h6, h7, h8, h9, fun z => h10 (hAB _ z)⟩
theorem vx_L.word {C n d : String} {A : Nat → Prop} {s : State} {args : Array Value} (h : vx_L C n d A s s.heap) : (Cond.laysStatic C n d).before args s = true := by
  obtain ⟨c, k, i, f, a, cell, h1, h2, h3, h4, h5, h6, h7, h8, h9, -⟩ := h
  show (Cond.laysStatic C n d).holds args s none s [] = true
  exact Cond.laysStatic_of h1 h2 h3 h4 h5 h6 h7 h8 h9
/-- .. and what it holds: null or some reference -/
def vx_Zq (C n d : String) (A : Nat → Prop) (U : State) (H : Heap) : Prop := va_Zq C n d A U H ∧ vx_L C n d A U H
theorem vx_Zq.moved {C n d : String} {A : Nat → Prop} {u U : State} {H : Heap} (hvm : u.vm.Alike U.vm) (h : vx_Zq C n d A u H) : vx_Zq C n d A U H := ⟨va_Zq.moved hvm h.1, vx_L.moved hvm h.2⟩
theorem vx_Zq.kept {C n d : String} {A : Nat → Prop} {U : State} {H H1 : Heap} (h : vx_Zq C n d A U H) (hq : ∀ a : Nat, a < H.size → ¬ A a → H1[a]? = H[a]?) : vx_Zq C n d A U H1 := ⟨va_Zq.kept h.1 hq, vx_L.kept h.2 hq⟩
theorem vx_Zq.narrow {C n d : String} {A B : Nat → Prop} {U : State} {H : Heap} (h : vx_Zq C n d A U H) (hAB : ∀ q, B q → A q) : vx_Zq C n d B U H := ⟨va_Zq.narrow h.1 hAB, vx_L.narrow h.2 hAB⟩
theorem vx_Zqof {args : Array Value} {s : State} {C n d : String} {A : Nat → Prop} (hl : (Cond.laysStatic C n d).before args s = true) (hini : (Cond.initialized C).before args s = true) (h : (Cond.isRef (.static C n d)).before args s = true) (hA : ∀ a : Nat, a < s.heap.size → ¬ A a) : vx_Zq C n d A s s.heap := by
  refine ⟨va_Zqof hl hini h hA, ?_⟩
  obtain ⟨c, k, i, f, a, cell, h1, h2, h3, h4, h5, h6, h7, h8, h9⟩ := Cond.laysStatic_spec hl
  exact ⟨c, k, i, f, a, cell, h1, h2, h3, h4, h5, h6, h7, h8, h9, hA a (Array.getElem?_eq_some_iff.mp h5).1⟩
theorem vx_isRef {C n d : String} {v : Value} {A : Nat → Prop} {s : State} {args : Array Value} (h : va_Z C n d v A s s.heap) (hv : v.isRef = true) : (Cond.isRef (.static C n d)).before args s = true := by
  obtain ⟨cf, kf, fi, f, a, cell, h1, h2, h3, h4, h5, h6, h7, -⟩ := h
  have he : (Term.static C n d).eval args s none [] s = some v := by
    simp [Term.eval, State.fieldNamed?, h1, h2, h4, h5, h6, h7]
  simp only [Cond.before, Cond.holds, Cond.value, he]
  cases v <;> simp_all [Value.isRef]
theorem vx_isRefq {C n d : String} {A : Nat → Prop} {s : State} {args : Array Value} (h : va_Zq C n d A s s.heap) : (Cond.isRef (.static C n d)).before args s = true := by
  rcases h with h | ⟨t, h⟩
  · exact vx_isRef h rfl
  · exact vx_isRef h rfl
/-- the same frame, seen from here: as if the method were called anew in this heap -/
theorem vx_rebase {T : State} (X : Stand p l e R s m args below meth c T locs cells slots) {R' : Room} (hf : R'.frames ≤ R.frames) (hl : R'.locals ≤ R.locals) (hc : cells + R'.cells ≤ R.cells) (hs : slots + R'.slots ≤ R.slots) :
    Stand p l e R' ((T.setVm s.vm).setFrames (.invoking m args :: below)) m args below meth c T [] 0 0 := by
  have htop : (T.setVm s.vm).topJava?.isSome := X.here.top
  have hF : ((T.setVm s.vm).setFrames (.invoking m args :: below)).frames = .invoking m args :: below := State.frames_setFrames _ (State.cur_lt_of_top htop)
  obtain ⟨g₀, hg0⟩ := Option.isSome_iff_exists.mp htop
  obtain ⟨r, hr⟩ := State.topJava?_eq_some.mp hg0
  have hl9 : e.platform.stackLimits (T.setVm s.vm).me = e.platform.stackLimits s.me := X.limits
  have hb9 : (T.setVm s.vm).me.stackBytes = s.me.stackBytes := X.bytes
  refine ⟨X.admits, X.cas, X.clock, hF, ?_, X.hears, X.method, X.code, X.here, X.tail, X.warmed, ?_, ?_, ?_⟩
  · have h := X.room
    have hU : ((T.setVm s.vm).setFrames (.invoking m args :: below)).localsInUse = s.localsInUse := by
      rw [State.localsInUse_invoking hF (meth := meth) (c := c) X.method X.code, State.localsInUse_invoking X.frames X.method X.code]
    simp only [State.hasRoom, Bool.and_eq_true, decide_eq_true_eq] at h ⊢
    obtain ⟨⟨⟨⟨h1, h2, h3, h4, h5, h6⟩, h7⟩, h8⟩, h9⟩ := h
    rw [X.frames, List.length_cons] at h2 h3
    have q1 := X.heapSize
    have q2 := X.used
    simp only [hF, hU, List.length_cons, State.stackLimits_setFrames, State.stackBytes_setFrames, hl9, hb9]
    refine ⟨⟨⟨⟨by omega, by omega, by omega, by omega, by omega, h6⟩, ?_⟩, ?_⟩, X.book⟩
    · show T.heap.size + R'.cells ≤ e.platform.maxCells
      omega
    · show T.slotsUsed + R'.slots ≤ e.platform.maxSlots
      omega
  · rw [State.stackLimits_setFrames]; rfl
  · rw [State.stackBytes_setFrames]; rfl
  · refine ⟨?_, Nat.le_refl _, Nat.le_refl _, ?_, ?_, fun a c9 h9 => ⟨c9, h9, rfl, rfl, fun _ _ => rfl⟩⟩
    · obtain ⟨t, ht, -⟩ := State.frames_cons hr
      show T.setVm s.vm = { ((T.setVm s.vm).setFrames (.invoking m args :: below)).setFrames (T.setVm s.vm).frames with heap := T.heap, slotsUsed := T.slotsUsed }
      rw [State.setFrames_setFrames, State.setFrames_self ht]
      rfl
    · show T.slotsUsed = T.slotsUsed + ((T.heap.toList.drop T.heap.size).map (·.slots.size)).sum
      rw [List.drop_eq_nil_of_le (Nat.le_of_eq Array.length_toList)]
      rfl
    · show ((T.heap.toList.drop T.heap.size).map (·.slots.size)).sum ≤ 0
      rw [List.drop_eq_nil_of_le (Nat.le_of_eq Array.length_toList)]
      exact Nat.le_refl _
/-- 'throw new E()': new; dup; invokespecial; athrow -/
theorem vx_throw0 {cc : ByteArray} {pc : Nat} (hexec : p.tables.exec = Jvm.exec) (hb : c.code = cc) (hl : l.stackTraces = false) {own cls : String} {names : List String} {ik ic mc ms : Nat} {A : Nat → Prop}
    (hown : s.vm.findClass own = some m.cls) (hcls : Bundle.fit cls = true) (hnames : ∀ n ∈ names, Bundle.fit n = true)
    (hk : (Cond.classLink own ik cls).before args s = true) (hini : (Cond.initialized cls).before args s = true) (hat : ∀ w ∈ vx_at0 own ic cls names, w.before args s = true)
    (hgood : ∀ w ∈ Cond.classLink own ik cls :: Cond.initialized cls :: vx_at0 own ic cls names, vx_ot w = true)
    (hU : vx_Zq Bundle.tN "UNASSIGNED_STACK" Bundle.steD A s s.heap) (hN : vx_Zq Bundle.tN "SUPPRESSED_SENTINEL" Bundle.listD A s s.heap) (hS : va_S A s.heap H locs) (hsize : ls.size = c.maxLocals)
    (d0 : decode cc pc = .ok (.new ik, 3)) (d3 : decode cc (pc + 3) = .ok (.dup, 1)) (d4 : decode cc (pc + 4) = .ok (.invokespecial ic, 3)) (d7 : decode cc (pc + 7) = .ok (.athrow, 1))
    (hout : ∀ x ∈ c.exceptionTable.toList, covers x (pc + 7) = false)
    (hRframes : names.length + 3 < R.frames) (hRlocals : (rest.map fun v => v.category).sum + (13 * (names.length + 1) + 42) ≤ R.locals) (hRcells : cells + 1 ≤ R.cells) (hRslots : slots + 6 ≤ R.slots) (hlocks : meth.locks = false)
    (hx : ∀ t : State, s.vm.Alike t.vm → H.size ≤ t.heap.size → (∀ q : Nat, q < H.size → t.heap[q]? = H[q]?) → XC cls s t)
    (hf : ∀ z ∈ locs, free z.base) (hc : cells + 1 ≤ mc) (hs : slots + 6 ≤ ms) :
    W p l e R s m args below meth c H locs cells slots (vx_MQ below Qc XC args s mc ms free) (F0 m pc ls rest) := by
  intro T hT X
  have htr : e.platform.stackTraces = false := (show e.platform.stackTraces = l.stackTraces by rw [X.admits.platform]).trans hl
  have Y := vx_rebase X (R' := { frames := R.frames, locals := R.locals, cells := 1, slots := 6 }) (Nat.le_refl _) (Nat.le_refl _) hRcells hRslots
  obtain ⟨s', hA⟩ : ∃ z, z = (T.setVm s.vm).setFrames (.invoking m args :: below) := ⟨_, rfl⟩
  rw [← hA] at Y
  have hvm : s'.vm = s.vm := by rw [hA]; rfl
  have hhp : s'.heap = H := by rw [hA]; exact hT
  have hW0 : s.WarmedH s'.vm := by rw [hvm]; exact State.WarmedH.refl s
  have hat' : ∀ w ∈ vx_at0 own ic cls names, w.before args s' = true := fun w hw => vx_ot_at hW0 hvm.symm (hgood w (List.mem_cons_of_mem _ (List.mem_cons_of_mem _ hw))) (hat w hw)
  have hk' : (Cond.classLink own ik cls).before args s' = true := vx_ot_at hW0 hvm.symm (hgood _ List.mem_cons_self) hk
  have hini' : (Cond.initialized cls).before args s' = true := vx_ot_at hW0 hvm.symm (hgood _ (List.mem_cons_of_mem _ List.mem_cons_self)) hini
  have hU' : vx_Zq Bundle.tN "UNASSIGNED_STACK" Bundle.steD A s' s'.heap := by rw [hhp]; exact vx_Zq.moved hW0.alike (hU.kept hS.2.1)
  have hN' : vx_Zq Bundle.tN "SUPPRESSED_SENTINEL" Bundle.listD A s' s'.heap := by rw [hhp]; exact vx_Zq.moved hW0.alike (hN.kept hS.2.1)
  have h : ∀ w ∈ Bundle.ownAtoms0 own ic cls names, w.before args s' = true := vx_own hat' (vx_isRefq hU'.1) (vx_isRefq hN'.1) hU'.2.word hN'.2.word
  have hown' : s'.vm.findClass own = some m.cls := by rw [hvm]; exact hown
  have hins : (Cond.instantiable cls 6).before args s' = true := h _ (by simp [Bundle.ownAtoms0])
  obtain ⟨vm₁, cX, kX, hfX, hkX, -, -, X₁, st1⟩ := Y.newCold hexec (own := own) (C := cls) (index := ik) (n := 6) hown' hk' hins hini'
    (g := F0 m pc ls rest) rfl (by rw [hb]; exact d0) (Nat.le_refl _) (Nat.le_refl _)
  generalize hT1 : (T.setVm vm₁).pushCell { cls := cX, slots := kX.instanceTypes.map defaultValue, vm := .none } = T1 at X₁ st1
  have hcat : (Value.ref T.heap.size).category = 1 := rfl
  have hcellA : T1.heap[T.heap.size]? = some (freshCell cX kX) := by rw [← hT1]; exact State.heap_pushCell_size _ _
  have d3' : decode c.code (pc + 3) = .ok (.dup, 1) := by rw [hb]; exact d3
  obtain ⟨U, hsteps, hrun, hend, hW, hsame, ce, hce, hO⟩ := X₁.ctorThrow0 hexec htr (own := own) (cls := cls) (names := names) (ic := ic) hown' hcls hnames h (fun x hx => nomatch hx) hfX hkX hcellA (by rw [hhp, hT]; exact Nat.le_refl _)
    (g := { method := m, pc := pc + 4, locals := ls, stack := .ref T.heap.size :: .ref T.heap.size :: rest, locked := none }) rfl hsize rfl rfl (rest := rest) rfl
    (by rw [hb]; exact d4) (by rw [hb]; exact d7) hout hRframes (by simp only [List.map_cons, List.sum_cons, hcat]; omega) hlocks
  obtain ⟨f1, f2⟩ := vx_frame hsame
  rw [hhp] at f1 f2
  have hWs : s.WarmedH U.vm := State.WarmedH.trans hW0 hW
  have hcl : s.vm.findClass cls = some ce.cls := by
    have h9 := hO.cls
    rw [hvm] at h9
    exact h9
  have hall : s.sameButNew ({ U with vm := s.vm } : State) locs mc ms := by
    subst hA
    obtain ⟨e1, e2⟩ := hsame
    rw [State.setFrames_setFrames] at e1
    have h2 : (T.setVm s.vm).sameButNew ({ U with vm := s.vm } : State) [] (0 + 1) (0 + 6) := ⟨e1, e2⟩
    have h3 := X.same.trans h2
    rw [List.append_nil] at h3
    exact h3.mono hc hs
  refine ⟨U, ?_, .threw T.heap.size, hrun, hend, Or.inr ⟨T.heap.size, rfl, cls, ce, locs, hx U hWs.alike f1 (fun q hq => f2 q hq (fun z hz => nomatch hz)), hce, hO.vm, hcl, hWs, hall, hf⟩⟩
  refine st1 _ ?_
  show Steps p.tables e below (T1.setTop { method := m, pc := pc + 3, locals := ls, stack := .ref T.heap.size :: rest, locked := none }) _
  jvm_step X₁.here [X₁.here.top, hexec, d3', Value.category]
  exact hsteps
/-- 'throw new E("text")': new; dup; ldc; invokespecial; athrow -/
theorem vx_throwS {cc : ByteArray} {pc : Nat} (hexec : p.tables.exec = Jvm.exec) (hb : c.code = cc) (hl : l.stackTraces = false) {own cls text : String} {names : List String} {ik is ic mc ms sa : Nat} {A : Nat → Prop}
    (hown : s.vm.findClass own = some m.cls) (hcls : Bundle.fit cls = true) (hnames : ∀ n ∈ names, Bundle.fit n = true)
    (hk : (Cond.classLink own ik cls).before args s = true) (hini : (Cond.initialized cls).before args s = true) (hstr : vk_R own is text sa s) (hat : ∀ w ∈ vx_atS own ic cls names, w.before args s = true)
    (hgood : ∀ w ∈ Cond.classLink own ik cls :: Cond.initialized cls :: vx_atS own ic cls names, vx_ot w = true)
    (hU : vx_Zq Bundle.tN "UNASSIGNED_STACK" Bundle.steD A s s.heap) (hN : vx_Zq Bundle.tN "SUPPRESSED_SENTINEL" Bundle.listD A s s.heap) (hS : va_S A s.heap H locs) (hsize : ls.size = c.maxLocals)
    (d0 : decode cc pc = .ok (.new ik, 3)) (d3 : decode cc (pc + 3) = .ok (.dup, 1)) (d4 : decode cc (pc + 4) = .ok (.ldc is, 2)) (d6 : decode cc (pc + 6) = .ok (.invokespecial ic, 3)) (d9 : decode cc (pc + 9) = .ok (.athrow, 1))
    (hout : ∀ x ∈ c.exceptionTable.toList, covers x (pc + 9) = false)
    (hRframes : names.length + 3 < R.frames) (hRlocals : (rest.map fun v => v.category).sum + (13 * (names.length + 1) + 43) ≤ R.locals) (hRcells : cells + 1 ≤ R.cells) (hRslots : slots + 6 ≤ R.slots) (hlocks : meth.locks = false)
    (hx : ∀ t : State, s.vm.Alike t.vm → H.size ≤ t.heap.size → (∀ q : Nat, q < H.size → t.heap[q]? = H[q]?) → XC cls s t)
    (hf : ∀ z ∈ locs, free z.base) (hc : cells + 1 ≤ mc) (hs : slots + 6 ≤ ms) :
    W p l e R s m args below meth c H locs cells slots (vx_MQ below Qc XC args s mc ms free) (F0 m pc ls rest) := by
  intro T hT X
  have htr : e.platform.stackTraces = false := (show e.platform.stackTraces = l.stackTraces by rw [X.admits.platform]).trans hl
  have Y := vx_rebase X (R' := { frames := R.frames, locals := R.locals, cells := 1, slots := 6 }) (Nat.le_refl _) (Nat.le_refl _) hRcells hRslots
  obtain ⟨s', hA⟩ : ∃ z, z = (T.setVm s.vm).setFrames (.invoking m args :: below) := ⟨_, rfl⟩
  rw [← hA] at Y
  have hvm : s'.vm = s.vm := by rw [hA]; rfl
  have hhp : s'.heap = H := by rw [hA]; exact hT
  have hW0 : s.WarmedH s'.vm := by rw [hvm]; exact State.WarmedH.refl s
  have hat' : ∀ w ∈ vx_atS own ic cls names, w.before args s' = true := fun w hw => vx_ot_at hW0 hvm.symm (hgood w (List.mem_cons_of_mem _ (List.mem_cons_of_mem _ hw))) (hat w hw)
  have hk' : (Cond.classLink own ik cls).before args s' = true := vx_ot_at hW0 hvm.symm (hgood _ List.mem_cons_self) hk
  have hini' : (Cond.initialized cls).before args s' = true := vx_ot_at hW0 hvm.symm (hgood _ (List.mem_cons_of_mem _ List.mem_cons_self)) hini
  have hU' : vx_Zq Bundle.tN "UNASSIGNED_STACK" Bundle.steD A s' s'.heap := by rw [hhp]; exact vx_Zq.moved hW0.alike (hU.kept hS.2.1)
  have hN' : vx_Zq Bundle.tN "SUPPRESSED_SENTINEL" Bundle.listD A s' s'.heap := by rw [hhp]; exact vx_Zq.moved hW0.alike (hN.kept hS.2.1)
  have h : ∀ w ∈ Bundle.ownAtoms own ic cls names, w.before args s' = true := vx_own hat' (vx_isRefq hU'.1) (vx_isRefq hN'.1) hU'.2.word hN'.2.word
  have hown' : s'.vm.findClass own = some m.cls := by rw [hvm]; exact hown
  have hins : (Cond.instantiable cls 6).before args s' = true := h _ (by simp [Bundle.ownAtoms])
  obtain ⟨vm₁, cX, kX, hfX, hkX, -, -, X₁, st1⟩ := Y.newCold hexec (own := own) (C := cls) (index := ik) (n := 6) hown' hk' hins hini'
    (g := F0 m pc ls rest) rfl (by rw [hb]; exact d0) (Nat.le_refl _) (Nat.le_refl _)
  generalize hT1 : (T.setVm vm₁).pushCell { cls := cX, slots := kX.instanceTypes.map defaultValue, vm := .none } = T1 at X₁ st1
  have hcat : (Value.ref T.heap.size).category = 1 := rfl
  have hcellA : T1.heap[T.heap.size]? = some (freshCell cX kX) := by rw [← hT1]; exact State.heap_pushCell_size _ _
  have d3' : decode c.code (pc + 3) = .ok (.dup, 1) := by rw [hb]; exact d3
  have d4' : decode c.code (pc + 4) = .ok (.ldc is, 2) := by rw [hb]; exact d4
  have hstr' : vk_R own is text sa s' := vk_R.warm hW0 hstr
  obtain ⟨U, hsteps, hrun, hend, hW, hsame, ce, hce, hO⟩ := X₁.ctorThrowS hexec htr (own := own) (cls := cls) (names := names) (ic := ic) hown' hcls hnames h (fun x hx => nomatch hx) hfX hkX hcellA (by rw [hhp, hT]; exact Nat.le_refl _) (msg := .ref sa) rfl
    (g := { method := m, pc := pc + 6, locals := ls, stack := .ref sa :: .ref T.heap.size :: .ref T.heap.size :: rest, locked := none }) rfl hsize rfl rfl (rest := rest) rfl
    (by rw [hb]; exact d6) (by rw [hb]; exact d9) hout hRframes (by simp only [List.map_cons, List.sum_cons, hcat]; omega) hlocks
  obtain ⟨f1, f2⟩ := vx_frame hsame
  rw [hhp] at f1 f2
  have hWs : s.WarmedH U.vm := State.WarmedH.trans hW0 hW
  have hcl : s.vm.findClass cls = some ce.cls := by
    have h9 := hO.cls
    rw [hvm] at h9
    exact h9
  have hall : s.sameButNew ({ U with vm := s.vm } : State) locs mc ms := by
    subst hA
    obtain ⟨e1, e2⟩ := hsame
    rw [State.setFrames_setFrames] at e1
    have h2 : (T.setVm s.vm).sameButNew ({ U with vm := s.vm } : State) [] (0 + 1) (0 + 6) := ⟨e1, e2⟩
    have h3 := X.same.trans h2
    rw [List.append_nil] at h3
    exact h3.mono hc hs
  refine ⟨U, ?_, .threw T.heap.size, hrun, hend, Or.inr ⟨T.heap.size, rfl, cls, ce, locs, hx U hWs.alike f1 (fun q hq => f2 q hq (fun z hz => nomatch hz)), hce, hO.vm, hcl, hWs, hall, hf⟩⟩
  refine st1 _ ?_
  show Steps p.tables e below (T1.setTop { method := m, pc := pc + 3, locals := ls, stack := .ref T.heap.size :: rest, locked := none }) _
  jvm_step X₁.here [X₁.here.top, hexec, d3', Value.category]
  exact X₁.ldcString hexec (own := own) (text := text) (index := is) (a := sa) hown' hstr'.1 hstr'.2
    (g := { method := m, pc := pc + 4, locals := ls, stack := .ref T.heap.size :: .ref T.heap.size :: rest, locked := none }) rfl d4' _ hsteps
/-- 'throw new E("text")', the text by a wide index -/
theorem vx_throwSW {cc : ByteArray} {pc : Nat} (hexec : p.tables.exec = Jvm.exec) (hb : c.code = cc) (hl : l.stackTraces = false) {own cls text : String} {names : List String} {ik is ic mc ms sa : Nat} {A : Nat → Prop}
    (hown : s.vm.findClass own = some m.cls) (hcls : Bundle.fit cls = true) (hnames : ∀ n ∈ names, Bundle.fit n = true)
    (hk : (Cond.classLink own ik cls).before args s = true) (hini : (Cond.initialized cls).before args s = true) (hstr : vk_R own is text sa s) (hat : ∀ w ∈ vx_atS own ic cls names, w.before args s = true)
    (hgood : ∀ w ∈ Cond.classLink own ik cls :: Cond.initialized cls :: vx_atS own ic cls names, vx_ot w = true)
    (hU : vx_Zq Bundle.tN "UNASSIGNED_STACK" Bundle.steD A s s.heap) (hN : vx_Zq Bundle.tN "SUPPRESSED_SENTINEL" Bundle.listD A s s.heap) (hS : va_S A s.heap H locs) (hsize : ls.size = c.maxLocals)
    (d0 : decode cc pc = .ok (.new ik, 3)) (d3 : decode cc (pc + 3) = .ok (.dup, 1)) (d4 : decode cc (pc + 4) = .ok (.ldc_w is, 3)) (d7 : decode cc (pc + 7) = .ok (.invokespecial ic, 3)) (d10 : decode cc (pc + 10) = .ok (.athrow, 1))
    (hout : ∀ x ∈ c.exceptionTable.toList, covers x (pc + 10) = false)
    (hRframes : names.length + 3 < R.frames) (hRlocals : (rest.map fun v => v.category).sum + (13 * (names.length + 1) + 43) ≤ R.locals) (hRcells : cells + 1 ≤ R.cells) (hRslots : slots + 6 ≤ R.slots) (hlocks : meth.locks = false)
    (hx : ∀ t : State, s.vm.Alike t.vm → H.size ≤ t.heap.size → (∀ q : Nat, q < H.size → t.heap[q]? = H[q]?) → XC cls s t)
    (hf : ∀ z ∈ locs, free z.base) (hc : cells + 1 ≤ mc) (hs : slots + 6 ≤ ms) :
    W p l e R s m args below meth c H locs cells slots (vx_MQ below Qc XC args s mc ms free) (F0 m pc ls rest) := by
  intro T hT X
  have htr : e.platform.stackTraces = false := (show e.platform.stackTraces = l.stackTraces by rw [X.admits.platform]).trans hl
  have Y := vx_rebase X (R' := { frames := R.frames, locals := R.locals, cells := 1, slots := 6 }) (Nat.le_refl _) (Nat.le_refl _) hRcells hRslots
  obtain ⟨s', hA⟩ : ∃ z, z = (T.setVm s.vm).setFrames (.invoking m args :: below) := ⟨_, rfl⟩
  rw [← hA] at Y
  have hvm : s'.vm = s.vm := by rw [hA]; rfl
  have hhp : s'.heap = H := by rw [hA]; exact hT
  have hW0 : s.WarmedH s'.vm := by rw [hvm]; exact State.WarmedH.refl s
  have hat' : ∀ w ∈ vx_atS own ic cls names, w.before args s' = true := fun w hw => vx_ot_at hW0 hvm.symm (hgood w (List.mem_cons_of_mem _ (List.mem_cons_of_mem _ hw))) (hat w hw)
  have hk' : (Cond.classLink own ik cls).before args s' = true := vx_ot_at hW0 hvm.symm (hgood _ List.mem_cons_self) hk
  have hini' : (Cond.initialized cls).before args s' = true := vx_ot_at hW0 hvm.symm (hgood _ (List.mem_cons_of_mem _ List.mem_cons_self)) hini
  have hU' : vx_Zq Bundle.tN "UNASSIGNED_STACK" Bundle.steD A s' s'.heap := by rw [hhp]; exact vx_Zq.moved hW0.alike (hU.kept hS.2.1)
  have hN' : vx_Zq Bundle.tN "SUPPRESSED_SENTINEL" Bundle.listD A s' s'.heap := by rw [hhp]; exact vx_Zq.moved hW0.alike (hN.kept hS.2.1)
  have h : ∀ w ∈ Bundle.ownAtoms own ic cls names, w.before args s' = true := vx_own hat' (vx_isRefq hU'.1) (vx_isRefq hN'.1) hU'.2.word hN'.2.word
  have hown' : s'.vm.findClass own = some m.cls := by rw [hvm]; exact hown
  have hins : (Cond.instantiable cls 6).before args s' = true := h _ (by simp [Bundle.ownAtoms])
  obtain ⟨vm₁, cX, kX, hfX, hkX, -, -, X₁, st1⟩ := Y.newCold hexec (own := own) (C := cls) (index := ik) (n := 6) hown' hk' hins hini'
    (g := F0 m pc ls rest) rfl (by rw [hb]; exact d0) (Nat.le_refl _) (Nat.le_refl _)
  generalize hT1 : (T.setVm vm₁).pushCell { cls := cX, slots := kX.instanceTypes.map defaultValue, vm := .none } = T1 at X₁ st1
  have hcat : (Value.ref T.heap.size).category = 1 := rfl
  have hcellA : T1.heap[T.heap.size]? = some (freshCell cX kX) := by rw [← hT1]; exact State.heap_pushCell_size _ _
  have d3' : decode c.code (pc + 3) = .ok (.dup, 1) := by rw [hb]; exact d3
  have d4' : decode c.code (pc + 4) = .ok (.ldc_w is, 3) := by rw [hb]; exact d4
  have hstr' : vk_R own is text sa s' := vk_R.warm hW0 hstr
  obtain ⟨U, hsteps, hrun, hend, hW, hsame, ce, hce, hO⟩ := X₁.ctorThrowS hexec htr (own := own) (cls := cls) (names := names) (ic := ic) hown' hcls hnames h (fun x hx => nomatch hx) hfX hkX hcellA (by rw [hhp, hT]; exact Nat.le_refl _) (msg := .ref sa) rfl
    (g := { method := m, pc := pc + 7, locals := ls, stack := .ref sa :: .ref T.heap.size :: .ref T.heap.size :: rest, locked := none }) rfl hsize rfl rfl (rest := rest) rfl
    (by rw [hb]; exact d7) (by rw [hb]; exact d10) hout hRframes (by simp only [List.map_cons, List.sum_cons, hcat]; omega) hlocks
  obtain ⟨f1, f2⟩ := vx_frame hsame
  rw [hhp] at f1 f2
  have hWs : s.WarmedH U.vm := State.WarmedH.trans hW0 hW
  have hcl : s.vm.findClass cls = some ce.cls := by
    have h9 := hO.cls
    rw [hvm] at h9
    exact h9
  have hall : s.sameButNew ({ U with vm := s.vm } : State) locs mc ms := by
    subst hA
    obtain ⟨e1, e2⟩ := hsame
    rw [State.setFrames_setFrames] at e1
    have h2 : (T.setVm s.vm).sameButNew ({ U with vm := s.vm } : State) [] (0 + 1) (0 + 6) := ⟨e1, e2⟩
    have h3 := X.same.trans h2
    rw [List.append_nil] at h3
    exact h3.mono hc hs
  refine ⟨U, ?_, .threw T.heap.size, hrun, hend, Or.inr ⟨T.heap.size, rfl, cls, ce, locs, hx U hWs.alike f1 (fun q hq => f2 q hq (fun z hz => nomatch hz)), hce, hO.vm, hcl, hWs, hall, hf⟩⟩
  refine st1 _ ?_
  show Steps p.tables e below (T1.setTop { method := m, pc := pc + 3, locals := ls, stack := .ref T.heap.size :: rest, locked := none }) _
  jvm_step X₁.here [X₁.here.top, hexec, d3', Value.category]
  exact X₁.ldcStringW hexec (own := own) (text := text) (index := is) (a := sa) hown' hstr'.1 hstr'.2
    (g := { method := m, pc := pc + 4, locals := ls, stack := .ref T.heap.size :: .ref T.heap.size :: rest, locked := none }) rfl d4' _ hsteps
end Ends
section Bodies
variable {l : Launch}
theorem vx_ofW {y : MethodName} {ws ws' : List Cond} {rm : Room} {Pc : Array Value → State → Prop} {Qc : Array Value → State → Outcome → State → Prop} {XC : String → State → State → Prop} {mc ms : Nat} {free : Addr → Prop} {cc : ByteArray} {maxL : Nat} {ret : Option FieldType}
    (hy : plainName y.cls = true) (hw : ws = Cond.code y cc maxL ret :: ws')
    (body : ∀ p e s m args below meth c s₁, BodyLoose p l y (headSpec ws rm) cc maxL ret e s m args below meth c s₁ → c.maxLocals = maxL → (∀ x ∈ c.exceptionTable.toList, False) → Pc args s →
      W p l e (headSpec ws rm).room s m args below meth c s.heap [] 0 0 (vx_MQ below Qc XC args s mc ms free) (entryFrame m args maxL)) : vx_Met l y ws rm Pc Qc XC mc ms free := by
  refine MetFree.of_bodyS (code := cc) (maxLocals := maxL) (ret := ret) hy ?_ ?_
  · intro args s m h hn
    obtain ⟨meth, c, h1, h2, h3, h4, h5, h6, -, -⟩ := Cond.code_spec hn (atoms_spec (ws := ws) h _ (by rw [hw]; exact List.mem_cons_self))
    exact ⟨meth, c, h1, h2, h3, h4, h5, h6⟩
  · intro p e s m args below meth c s₁ B hml hP _
    have hh0 : s₁.heap = s.heap := by rw [B.state]; rfl
    have ht : ∀ x ∈ c.exceptionTable.toList, False := by
      obtain ⟨meth9, c9, h1, h2, -, -, -, -, h7, -⟩ := Cond.code_spec B.named (atoms_spec (ws := ws) B.pre _ (by rw [hw]; exact List.mem_cons_self))
      cases Option.some.inj (h1.symm.trans B.method)
      cases Option.some.inj (h2.symm.trans (Stand.of_body B).code)
      intro x hx
      rw [Array.isEmpty_iff.mp h7] at hx
      cases hx
    obtain ⟨t, a1, o, b1, b2, b3⟩ := body p e s m args below meth c s₁ B hml ht hP s₁ hh0 (Stand.of_body B)
    exact ⟨t, o, a1, b1, b2, b3⟩
/-- the table of a body with handlers -/
theorem vx_table {p : Program} {x y : MethodName} {S : Spec} {cc bytes : ByteArray} {maxL maxL' : Nat} {ret ret' : Option FieldType} {e : Env} {s s₁ : State} {m : MethodId} {args : Array Value} {below : List Frame} {meth : Method} {c : Code} {hh : List (Nat × Nat × Nat × Nat)}
    (B : BodyLoose p l y S cc maxL ret e s m args below meth c s₁) (h : (Cond.codeWith y bytes maxL' ret' hh).before args s = true) : c.exceptionTable.toList = tableOf hh := by
  obtain ⟨m9, meth9, c9, hn9, h1, h2, -, -, h6, -⟩ := Cond.codeWith_spec h
  cases Option.some.inj (hn9.symm.trans B.named)
  cases Option.some.inj (h1.symm.trans B.method)
  cases Option.some.inj (h2.symm.trans (Stand.of_body B).code)
  rw [← h6, table_eq]
end Bodies
end VXA
/-! ===== END ===== -/
/-! ===== BEGIN a static call of a method with an exception table ===== -/
section VXS
variable {p : Program} {l : Launch} {e : Env} {R : Room} {s : State} {m : MethodId} {args : Array Value} {below : List Frame} {meth : Method} {c : Code} {T : State} {H : Heap} {locs : List Loc} {cells slots : Nat}
abbrev vx_CSW (R : Room) (s : State) (args : Array Value) (own : String) (index : Nat) (y : MethodName) (bytes : ByteArray) (maxL : Nat) (ret : Option FieldType) (hh : List (Nat × Nat × Nat × Nat)) (ws : List Cond) (rm : Room) (mc ms n : Nat) : Prop :=
  (rm.cells = mc ∧ rm.slots = ms ∧ rm.frames + 1 ≤ R.frames ∧ 8 + (maxL + 11) + rm.locals ≤ R.locals ∧ (∀ w ∈ ws, ∀ (a' : Array Value) (U : State), s.WarmedH U.vm → w.before a' U = true) ∧ Cond.codeWith y bytes maxL ret hh ∈ ws) ∧
  (Cond.codeWith y bytes maxL ret hh).before args s = true ∧ (Cond.initialized y.cls).before args s = true ∧ (y.cls ≠ "java/lang/invoke/MethodHandle" ∧ y.cls ≠ "java/lang/invoke/VarHandle") ∧
  (∀ sig, parseMethodDescriptor y.desc = some sig → n = sig.parameters.length) ∧ (Cond.methodLink own index y).before args s = true ∧ (Cond.static y).before args s = true
theorem vx_cwSW {own : String} {index maxL mc ms : Nat} {y : MethodName} {bytes : ByteArray} {ret : Option FieldType} {hh : List (Nat × Nat × Nat × Nat)} {Ts ws ws' : List Cond} {rm : Room} (n : Nat) (ht : ∀ w ∈ Ts, w.before args s = true) (hT : GoodIn Ts (va_wsS own index y ws)) (hw : ws = Cond.codeWith y bytes maxL ret hh :: ws') (hrc : rm.cells = mc) (hrs : rm.slots = ms)
    (hd : y.cls ≠ "java/lang/invoke/MethodHandle" ∧ y.cls ≠ "java/lang/invoke/VarHandle" ∧ (parseMethodDescriptor y.desc).map (fun d => d.parameters.length) = some n) (hR : rm.frames + 1 ≤ R.frames ∧ 8 + (maxL + 11) + rm.locals ≤ R.locals) :
    vx_CSW R s args own index y bytes maxL ret hh ws rm mc ms n := by
  have ok : ∀ w ∈ va_wsS own index y ws, w.before args s = true := fun w h => ht w (hT w h).1
  have hG : GoodIn Ts ws := fun w h => hT w (by unfold va_wsS; exact List.mem_append_right _ h)
  have hc : Cond.codeWith y bytes maxL ret hh ∈ ws := by rw [hw]; exact List.mem_cons_self
  refine ⟨⟨hrc, hrs, hR.1, hR.2, pay_in ht hG, hc⟩, ht _ (hG _ hc).1, ok _ (by simp [va_wsS]), ⟨hd.1, hd.2.1⟩, fun sig h => ?_, ok _ (by simp [va_wsS]), ok _ (by simp [va_wsS])⟩
  have h2 := hd.2.2
  rw [h] at h2
  exact (Option.some.inj h2).symm
theorem vx_callSW (X : Stand p l e R s m args below meth c T locs cells slots) (hexec : p.tables.exec = Jvm.exec) {own : String} {index : Nat} {y : MethodName} {bytes : ByteArray} {maxL : Nat} {ret : Option FieldType} {hh : List (Nat × Nat × Nat × Nat)}
    (hown : s.vm.findClass own = some m.cls) (hlink : (Cond.methodLink own index y).before args s = true) (hstat : (Cond.static y).before args s = true) (hinit : (Cond.initialized y.cls).before args s = true)
    (hcode : (Cond.codeWith y bytes maxL ret hh).before args s = true) (hy : y.cls ≠ "java/lang/invoke/MethodHandle" ∧ y.cls ≠ "java/lang/invoke/VarHandle")
    {W9 : Nat} {Pre : Pt → Array Value → Prop} {Post : Pt → Array Value → Option Value → Pt → Prop} (hK : Back l R p e below s args y 3 W9 Pre Post)
    {g : JFrame} (hg : g.method = m) (hsize : g.locals.size = c.maxLocals) {argsL rest : List Value} (hlen : ∀ sig, parseMethodDescriptor y.desc = some sig → argsL.length = sig.parameters.length)
    (hstack : g.stack = argsL.reverse ++ rest) (hW : 2 * g.monitorRoom + (rest.map fun v => v.category).sum ≤ W9) (hdg : decode c.code g.pc = .ok (.invokestatic index, 3))
    (hpre : ∀ vm₁, s.WarmedH vm₁ → Pre ⟨T.setVm vm₁, locs, cells, slots⟩ argsL.toArray) :
    ∃ (v : Option Value) (vm₁ : Vm) (B : Pt), s.WarmedH vm₁ ∧ Stand p l e R s m args below meth c B.U B.locs B.cells B.slots ∧ Post ⟨T.setVm vm₁, locs, cells, slots⟩ argsL.toArray v B ∧
      ∀ target, Steps p.tables e below (B.U.setTop { g with pc := g.pc + 3, stack := v.toList ++ rest }) target → Steps p.tables e below (T.setTop g) target := by
  obtain ⟨mk, methM, cM, hnamed, hmethM, -, -, -, -, -, -, hsigM⟩ := Cond.codeWith_spec hcode
  have hstatic : methM.isStatic = true := Cond.static_spec hnamed hmethM hstat
  obtain ⟨kP, hkP, -⟩ := className_of_methodNamed hnamed
  have hinitP : kP.init = .initialized := Cond.initialized_spec (findClass_of_methodNamed hnamed) hkP hinit
  obtain ⟨vm₁, X₁, hstep₁⟩ := X.invokestatic hexec hown hlink hnamed hmethM hstatic hkP hinitP hy (g := g) hg (argsL := argsL) (rest := rest) (hlen _ hsigM) hstack hdg
  obtain ⟨v, B, X', hpost, hsteps⟩ := hK m meth c ⟨T.setVm vm₁, locs, cells, slots⟩ { g with stack := rest } (.invokestatic index) mk argsL.toArray X₁ hg hsize hdg hW (X₁.named hnamed) (hpre vm₁ X₁.warmed)
  exact ⟨v, vm₁, B, X₁.warmed, X', hpost, fun target h => hstep₁ _ fun acts => by rw [doInvoke_state]; exact hsteps.trans h⟩
theorem vx_runSW {y : MethodName} {bytes cc : ByteArray} {maxL nL mc ms n index : Nat} {ret : Option FieldType} {hh : List (Nat × Nat × Nat × Nat)} {ws : List Cond} {rm : Room} {Pc : Array Value → State → Prop} {Qc : Array Value → State → Outcome → State → Prop} {free : Addr → Prop} {Ts : List Cond} {own : String} {As rest : List Value} {g : JFrame}
    (S : CallFix p m c cc nL s args Ts own) (hM : Met l y ws rm Pc Qc mc ms free) (cw : vx_CSW R s args own index y bytes maxL ret hh ws rm mc ms n) (hp : PreS s H Pc As)
    (hg : g.method = m) (hn : As.length = n) (hsize : g.locals.size = nL) (hstack : g.stack = As.reverse ++ rest) (hW : 2 * g.monitorRoom + (rest.map fun v => v.category).sum ≤ 8) (hdg : decode cc g.pc = .ok (.invokestatic index, 3)) (hf : cells + mc ≤ R.cells ∧ slots + ms ≤ R.slots) :
    va_Run p l e R s m args below meth c H locs cells slots mc ms g rest (Qc As.toArray) (free) := by
  obtain ⟨⟨hrc, hrs, hfr, hlo, hws, hcw⟩, hcode, hini, hy, hlen, hl, hstt⟩ := cw
  have hK : Back l R p e below s args y 3 8 (PreOf R mc ms Pc) (PostOf Qc mc ms free) := va_backW (hh := hh) (bytes := bytes) (maxL := maxL) (ret := ret) hM hp.1 hrc hrs hfr hlo hws hcw (fun a' U hW => word_at hW (Or.inl (by first | rfl | simp [Cond.onTables, Cond.keeps, Cond.steady])) hini)
  obtain ⟨hx, hb, hml, ho, -⟩ := S
  intro T hT X
  obtain ⟨v, vm₁, ⟨U', l2, c2, s2⟩, hW₁, X', ⟨g', mk, t, L, e1, e2, hq, h1, hL, h2, h3⟩, st⟩ := vx_callSW X hx (hh := hh) (bytes := bytes) (maxL := maxL) (ret := ret) ho hl hstt hini hcode hy hK hg (hsize.trans hml.symm) (argsL := As) (rest := rest) (fun sig h => hn.trans (hlen sig h)) hstack hW (by rw [hb]; exact hdg)
    (fun vm₁ hW₁ => ⟨hf.1, hf.2, hp.2 (T.setVm vm₁) hT hW₁⟩)
  dsimp only [Pt.U, Pt.locs, Pt.cells, Pt.slots] at X' e1 e2 h1 h2 h3 st
  subst h1; subst h2; subst h3
  exact ⟨v, (T.setVm vm₁).calling g' mk As.toArray, t, U', L, hT, X', hL, e1, e2, hq, st⟩
/-- not caught here, past rows that name other classes: it goes on to the caller -/
theorem vx_outP {p : Program} {l : Launch} {e : Env} {R : Room} {s : State} {m : MethodId} {args : Array Value} {below : List Frame} {meth : Method} {c : Code} {H : Heap} {locs : List Loc} {cells slots : Nat} {free : Addr → Prop} {ls : Array Slot} {rest : List Value} {Qc : Array Value → State → Outcome → State → Prop} {XC : String → State → State → Prop}
    {pc : Nat} {own E : String} {ce : Cell} {q : Addr} {mc ms : Nat} (hown : s.vm.findClass own = some m.cls) (hlocks : meth.locks = false)
    (hpass : ∀ z ∈ c.exceptionTable.toList, covers z pc = false ∨ (z.catchType ≠ 0 ∧ ∃ nm : String, (Cond.classLink own z.catchType nm).before args s = true ∧ va_Nc E nm s)) (hcell : H[q]? = some ce) (hv : ce.vm = .none) (hcl : s.vm.findClass E = some ce.cls)
    (hx : ∀ t : State, t.heap = H → s.vm.Alike t.vm → XC E s t) (hf : ∀ z ∈ locs, free z.base) (hc : cells ≤ mc) (hs : slots ≤ ms) :
    vx_W p l e R s m args below meth c H locs cells slots (vx_MQ below Qc XC args s mc ms free) (F0 m pc ls rest) q := by
  intro T hT X
  have hpl : e.platform.magicAccessors = ({} : Platform).magicAccessors := by rw [X.admits.platform]
  obtain ⟨vm', hW', X', st⟩ := X.outThrough hlocks q (g := F0 m pc ls rest) rfl rfl rfl (cell := ce) (by rw [hT]; exact hcell) (by rw [hv]; rfl)
    (by obtain ⟨k9, h9, -⟩ := Vm.findClass_spec hcl; exact ⟨k9, h9⟩) (fun z hz => by
      rcases hpass z hz with h | ⟨hz0, nm, hl1, hn1⟩
      · exact Or.inl h
      · obtain ⟨c6, hc6, hcl6⟩ := Cond.classLink_spec hown hl1 e.platform hpl
        obtain ⟨a8, b8, h1, h2, h3⟩ := hn1
        cases Option.some.inj (h1.symm.trans hcl)
        cases Option.some.inj (h2.symm.trans hc6)
        exact Or.inr ⟨hz0, _, hcl6, h3⟩)
  obtain ⟨g₀, hfr⟩ := X'.frames_eq
  have hcell9 : ((T.setVm vm').setFrames (.throwing q :: below)).heap[q]? = some ce := by
    show T.heap[q]? = some ce
    rw [hT]; exact hcell
  have hend : Ended ((T.setVm vm').setFrames (.throwing q :: below)) below (.threw q) := State.frames_setFrames _ (State.cur_lt_of_frames hfr)
  refine ⟨(T.setVm vm').setFrames (.throwing q :: below), ?_, .threw q, X'.here.running, hend, Or.inr ⟨q, rfl, E, ce, locs, hx _ hT (X'.ends _).1.alike, hcell9, hv, hcl, (X'.ends _).1, (X'.ends _).2.mono hc hs, hf⟩⟩
  rw [X.pushThrowing_eq]
  exact st
/-- a thing of a world lies in the heap -/
theorem vx_lt {D : va_G} {cl : List vw_C} {ws : va_W} {H1 : Heap} (h : va_P D cl ws H1) {k : Nat} {q : Nat × va_E} (hk : ws[k]? = some q) : q.1 < H1.size := (h k q hk).lt
end VXS
/-! ===== END ===== -/
/-! ===== BEGIN methods with a table of their own: called by a name, returning or throwing ===== -/
section VXH
/-! vx_backW, vx_callVX, vx_callSX, vx_callVW, vx_runVW, vx_runVX, vx_runSX, vx_ofWH follow the same proofs as their sisters above (Free/Laws.lean, Shelf42/LK1.lean); vx_outP calls Shelf42/NT130.lean (outThrough). -/
section
variable {l : Launch} {R : Room} {p : Program} {e : Env} {below : List Frame} {s : State} {sargs : Array Value} {y : MethodName} {len W9 : Nat}
theorem vx_backW {ws : List Cond} {rm : Room} {Pc : Array Value → State → Prop} {Qc : Array Value → State → Outcome → State → Prop} {XC : String → State → State → Prop} {mc ms : Nat} {free : Addr → Prop} {bytes : ByteArray} {maxL : Nat} {ret : Option FieldType} {hh : List (Nat × Nat × Nat × Nat)}
    (hM : vx_Met l y ws rm Pc Qc XC mc ms free) (hblind : FrameBlind Pc) (hrc : rm.cells = mc) (hrs : rm.slots = ms)
    (hframes : rm.frames + 1 ≤ R.frames) (hlocals : W9 + (maxL + 11) + rm.locals ≤ R.locals)
    (hws : ∀ w ∈ ws, ∀ a' U, s.WarmedH U.vm → w.before a' U = true) (hcode : Cond.codeWith y bytes maxL ret hh ∈ ws) (hinit : ∀ a' U, s.WarmedH U.vm → (Cond.initialized y.cls).before a' U = true) :
    vx_Back l R p e below s sargs y len W9 (PreOf R mc ms Pc) (PostOf Qc mc ms free) (vx_Post XC mc ms free) := by
  intro m meth c A g ig mk a X hg hsize hdg hW hn hp
  have h1 : (headSpec ws rm).pre.before a A.U = true := atoms_intro fun w hw => hws w hw _ _ X.warmed
  have h2 : (Cond.codeWith y bytes maxL ret hh).before a A.U = true := hws _ hcode _ _ X.warmed
  have h3 : (Cond.initialized y.cls).before a A.U = true := hinit _ _ X.warmed
  have h4 : A.cells + (headSpec ws rm).room.cells ≤ R.cells := by rw [show (headSpec ws rm).room.cells = mc from hrc]; exact hp.1
  have h5 : A.slots + (headSpec ws rm).room.slots ≤ R.slots := by rw [show (headSpec ws rm).room.slots = ms from hrs]; exact hp.2.1
  have hPc : Pc a (A.U.calling g mk a) := hblind _ _ _ _ hp.2.2
  obtain ⟨U, Ls, c0, s0⟩ := A
  dsimp only [Pt.U, Pt.locs, Pt.cells, Pt.slots] at h1 h2 h3 h4 h5 X hn hPc ⊢
  obtain ⟨m9, methY, cY, hn9, hmY, hcY, -, hlY, -⟩ := Cond.codeWith_spec h2
  cases Option.some.inj (hn9.symm.trans hn)
  obtain ⟨kY, hkY, -⟩ := className_of_methodNamed hn
  have hinitY : kY.init = .initialized := Cond.initialized_spec (findClass_of_methodNamed hn) hkY h3
  have h : At U g.method c below := by rw [hg]; exact X.here
  have hlocals9 : W9 + (maxL + 11) + (headSpec ws rm).room.locals ≤ R.locals := hlocals
  have happ : (headSpec ws rm).appliesLoose y e.platform (U.calling g mk a) = true :=
    Spec.appliesLoose_calling (g := g) h hdg hn hkY hinitY
      (X.room_calling (g := g) (R' := (headSpec ws rm).room) hsize hmY hcY hframes (by rw [hlY]; omega) h4 h5) h1
  obtain ⟨mid, hmid⟩ := h.above
  have hfr : (U.setTop g).frames = (.java g :: mid) ++ below := by rw [State.frames_setTop' g h.top, hmid]; rfl
  obtain ⟨o, s₂, hsteps, -, hend, hq⟩ := Steps.callFree hM p X.admits X.cas X.clock (acts := []) hfr happ hPc trivial
  have hq' : vx_Q Qc XC mc ms free a (U.calling g mk a) o s₂ := hq
  rw [State.frames_setTop' g h.top] at hend
  obtain ⟨g₀, hg0⟩ := Option.isSome_iff_exists.mp h.top
  obtain ⟨r, hr⟩ := State.topJava?_eq_some.mp hg0
  have hr' : (({ U with heap := s₂.heap, slotsUsed := s₂.slotsUsed } : State).setVm s₂.vm).frames = .java g₀ :: r := hr
  rcases hq' with ⟨hqc, L, hfe, hL⟩ | ⟨q, rfl, E, ce, L, hx, hce, hcv, hcl, hW₂, hsm, hL⟩
  · obtain ⟨⟨v, rfl⟩, hW₂, e2, q2, q3, q4, q5, q6⟩ := id hfe
    have e3 : s₂ = ({ (U.calling g mk a).setFrames s₂.frames with heap := s₂.heap, slotsUsed := s₂.slotsUsed } : State).setVm s₂.vm := by
      have : s₂ = ({ s₂ with vm := (U.calling g mk a).vm } : State).setVm s₂.vm := rfl
      rw [e2] at this
      exact this
    obtain ⟨c₂, i₂, len₂, hc₂, hd₂, hf₂⟩ := hend
    have hW' : U.WarmedH s₂.vm := hW₂
    have hcc : c₂ = c := by
      have h1 : s₂.code? g.method = U.code? g.method := by
        rw [State.code?_eq, State.code?_eq, hW'.alike.method?]
      exact Option.some.inj (hc₂.symm.trans (h1.trans h.code))
    subst hcc
    have hlen : len₂ = len := by rw [hdg] at hd₂; cases hd₂; rfl
    subst hlen
    have hs₂ : s₂ = (({ U with heap := s₂.heap, slotsUsed := s₂.slotsUsed } : State).setVm s₂.vm).setTop { g with pc := g.pc + len₂, stack := v.toList ++ g.stack } := by
      refine e3.trans ?_
      rw [hf₂, State.calling_eq h.top, State.setFrames_setFrames, State.setTop_of_frames _ hr', hr]
      rfl
    have hsame : U.sameButNew ({ U with heap := s₂.heap, slotsUsed := s₂.slotsUsed } : State) L mc ms := by
      refine ⟨?_, q2, q3, q4, q5, q6⟩
      obtain ⟨t, ht, -⟩ := State.frames_cons hr
      show ({ U with heap := s₂.heap, slotsUsed := s₂.slotsUsed } : State) = { U.setFrames U.frames with heap := s₂.heap, slotsUsed := s₂.slotsUsed }
      rw [State.setFrames_self ht]
    subst hg
    refine Or.inl ⟨v, ⟨(({ U with heap := s₂.heap, slotsUsed := s₂.slotsUsed } : State).setVm s₂.vm), Ls ++ L, c0 + mc, s0 + ms⟩,
      ⟨X.admits, X.cas, X.clock, X.frames, X.room, X.hears, X.method, X.code, (X.here.setHeapUsed s₂.heap s₂.slotsUsed).setVm hW'.alike, X.tail, State.WarmedH.trans X.warmed hW', X.limits, X.bytes, X.same.trans (hsame.setVm s.vm)⟩,
      ⟨g, mk, s₂, L, rfl, rfl, hqc, rfl, hL, rfl, rfl⟩, ?_⟩
    show Steps p.tables e below _ ((({ U with heap := s₂.heap, slotsUsed := s₂.slotsUsed } : State).setVm s₂.vm).setTop { g with pc := g.pc + len₂, stack := v.toList ++ g.stack })
    rw [← hs₂]
    exact hsteps
  · obtain ⟨e2, q2, q3, q4, q5, q6⟩ := id hsm
    have e3 : s₂ = ({ (U.calling g mk a).setFrames s₂.frames with heap := s₂.heap, slotsUsed := s₂.slotsUsed } : State).setVm s₂.vm := by
      have : s₂ = ({ s₂ with vm := (U.calling g mk a).vm } : State).setVm s₂.vm := rfl
      rw [e2] at this
      exact this
    have hf₂ : s₂.frames = .throwing q :: .java g :: U.frames.tail := hend
    have hW' : U.WarmedH s₂.vm := hW₂
    have hs₂ : s₂ = ((({ U with heap := s₂.heap, slotsUsed := s₂.slotsUsed } : State).setVm s₂.vm).setTop g).pushFrame (.throwing q) := by
      refine e3.trans ?_
      rw [hf₂, State.calling_eq h.top, State.setFrames_setFrames, State.pushFrame, State.frames_setTop _ hr', State.setTop_of_frames _ hr', State.setFrames_setFrames, hr]
      rfl
    have hsame : U.sameButNew ({ U with heap := s₂.heap, slotsUsed := s₂.slotsUsed } : State) L mc ms := by
      refine ⟨?_, q2, q3, q4, q5, q6⟩
      obtain ⟨t, ht, -⟩ := State.frames_cons hr
      show ({ U with heap := s₂.heap, slotsUsed := s₂.slotsUsed } : State) = { U.setFrames U.frames with heap := s₂.heap, slotsUsed := s₂.slotsUsed }
      rw [State.setFrames_self ht]
    subst hg
    refine Or.inr ⟨q, ⟨(({ U with heap := s₂.heap, slotsUsed := s₂.slotsUsed } : State).setVm s₂.vm), Ls ++ L, c0 + mc, s0 + ms⟩,
      ⟨X.admits, X.cas, X.clock, X.frames, X.room, X.hears, X.method, X.code, (X.here.setHeapUsed s₂.heap s₂.slotsUsed).setVm hW'.alike, X.tail, State.WarmedH.trans X.warmed hW', X.limits, X.bytes, X.same.trans (hsame.setVm s.vm)⟩,
      ⟨g, mk, s₂, L, E, ce, rfl, rfl, hx, hce, hcv, hcl, rfl, hL, rfl, rfl⟩, ?_⟩
    show Steps p.tables e below _ (((({ U with heap := s₂.heap, slotsUsed := s₂.slotsUsed } : State).setVm s₂.vm).setTop g).pushFrame (.throwing q))
    rw [← hs₂]
    exact hsteps
end
variable {p : Program} {l : Launch} {e : Env} {R : Room} {s : State} {m : MethodId} {args : Array Value} {below : List Frame} {meth : Method} {c : Code} {T : State} {H : Heap} {locs : List Loc} {cells slots : Nat}
theorem vx_callVX (X : Stand p l e R s m args below meth c T locs cells slots) (hexec : p.tables.exec = Jvm.exec) {own C : String} {index : Nat} {y : MethodName} {bytes : ByteArray} {maxL : Nat} {ret : Option FieldType} {hh : List (Nat × Nat × Nat × Nat)}
    (hown : s.vm.findClass own = some m.cls) (hlink : (Cond.methodLink own index y).before args s = true) (hinst : (Cond.instanceMethod y).before args s = true) (hsel : (Cond.selects C y y).before args s = true)
    (hcode : (Cond.codeWith y bytes maxL ret hh).before args s = true) (hy : y.cls ≠ "java/lang/invoke/MethodHandle" ∧ y.cls ≠ "java/lang/invoke/VarHandle")
    {W9 : Nat} {Pre : Pt → Array Value → Prop} {Post : Pt → Array Value → Option Value → Pt → Prop} {PostX : Pt → Array Value → Addr → Pt → Prop} (hK : vx_Back l R p e below s args y 3 W9 Pre Post PostX)
    {b : Addr} {cellB : Cell} (hcell : T.heap[b]? = some cellB) (hobj : cellB.vm.isStatics = false) (hcls : s.vm.findClass C = some cellB.cls)
    {g : JFrame} (hg : g.method = m) (hsize : g.locals.size = c.maxLocals) {argsL rest : List Value} (hlen : ∀ sig, parseMethodDescriptor y.desc = some sig → argsL.length = sig.parameters.length)
    (hstack : g.stack = argsL.reverse ++ .ref b :: rest) (hW : 2 * g.monitorRoom + (rest.map fun v => v.category).sum ≤ W9) (hdg : decode c.code g.pc = .ok (.invokevirtual index, 3))
    (hpre : ∀ vm₁, s.WarmedH vm₁ → Pre ⟨T.setVm vm₁, locs, cells, slots⟩ (Value.ref b :: argsL).toArray) :
    (∃ (v : Option Value) (vm₁ : Vm) (B : Pt), s.WarmedH vm₁ ∧ Stand p l e R s m args below meth c B.U B.locs B.cells B.slots ∧ Post ⟨T.setVm vm₁, locs, cells, slots⟩ (Value.ref b :: argsL).toArray v B ∧
      ∀ target, Steps p.tables e below (B.U.setTop { g with pc := g.pc + 3, stack := v.toList ++ rest }) target → Steps p.tables e below (T.setTop g) target) ∨
    (∃ (q : Addr) (vm₁ : Vm) (B : Pt), s.WarmedH vm₁ ∧ Stand p l e R s m args below meth c B.U B.locs B.cells B.slots ∧ PostX ⟨T.setVm vm₁, locs, cells, slots⟩ (Value.ref b :: argsL).toArray q B ∧
      Steps p.tables e below (T.setTop g) ((B.U.setTop { g with stack := rest }).pushFrame (.throwing q))) := by
  obtain ⟨mk, methM, hnamed, hmethM, hstM, habM⟩ := Cond.instanceMethod_spec hinst
  obtain ⟨m8, methM', cM, hn8, hmethM', -, -, -, -, -, -, hsigM⟩ := Cond.codeWith_spec hcode
  cases Option.some.inj (hn8.symm.trans hnamed)
  cases hmethM.symm.trans hmethM'
  obtain ⟨c2, r2, m2, q1, q2, q3, q4, kP, hkP, hkPi⟩ := Cond.selects_spec hsel
  cases hcls.symm.trans q1
  cases (State.methodFound?_of_named hnamed hy).symm.trans q2
  cases hnamed.symm.trans q3
  have hselP : selectMethod e.platform s.vm cellB.cls mk = .method mk := by rw [Launch.admits_selectMethod X.admits]; exact q4
  obtain ⟨vm₁, X₁, hstep₁⟩ := X.invokevirtual hexec hown hlink hnamed hmethM hstM hkP hkPi hy (a := b) (cell := cellB) hcell
    (fun z h => by rw [h] at hobj; cases hobj) hselP hmethM habM hkP hkPi (g := g) hg (argsL := argsL) (rest := rest) (hlen _ hsigM) hstack hdg
  rcases hK m meth c ⟨T.setVm vm₁, locs, cells, slots⟩ { g with stack := rest } (.invokevirtual index) mk (Value.ref b :: argsL).toArray X₁ hg hsize hdg hW (X₁.named hnamed) (hpre vm₁ X₁.warmed) with ⟨v, B, X', hpost, hsteps⟩ | ⟨q, B, X', hpost, hsteps⟩
  · exact Or.inl ⟨v, vm₁, B, X₁.warmed, X', hpost, fun target h => hstep₁ _ fun acts => by rw [doInvoke_state]; exact hsteps.trans h⟩
  · exact Or.inr ⟨q, vm₁, B, X₁.warmed, X', hpost, hstep₁ _ fun acts => by rw [doInvoke_state]; exact hsteps⟩
theorem vx_callSX (X : Stand p l e R s m args below meth c T locs cells slots) (hexec : p.tables.exec = Jvm.exec) {own : String} {index : Nat} {y : MethodName} {bytes : ByteArray} {maxL : Nat} {ret : Option FieldType} {hh : List (Nat × Nat × Nat × Nat)}
    (hown : s.vm.findClass own = some m.cls) (hlink : (Cond.methodLink own index y).before args s = true) (hstat : (Cond.static y).before args s = true) (hinit : (Cond.initialized y.cls).before args s = true)
    (hcode : (Cond.codeWith y bytes maxL ret hh).before args s = true) (hy : y.cls ≠ "java/lang/invoke/MethodHandle" ∧ y.cls ≠ "java/lang/invoke/VarHandle")
    {W9 : Nat} {Pre : Pt → Array Value → Prop} {Post : Pt → Array Value → Option Value → Pt → Prop} {PostX : Pt → Array Value → Addr → Pt → Prop} (hK : vx_Back l R p e below s args y 3 W9 Pre Post PostX)
    {g : JFrame} (hg : g.method = m) (hsize : g.locals.size = c.maxLocals) {argsL rest : List Value} (hlen : ∀ sig, parseMethodDescriptor y.desc = some sig → argsL.length = sig.parameters.length)
    (hstack : g.stack = argsL.reverse ++ rest) (hW : 2 * g.monitorRoom + (rest.map fun v => v.category).sum ≤ W9) (hdg : decode c.code g.pc = .ok (.invokestatic index, 3))
    (hpre : ∀ vm₁, s.WarmedH vm₁ → Pre ⟨T.setVm vm₁, locs, cells, slots⟩ argsL.toArray) :
    (∃ (v : Option Value) (vm₁ : Vm) (B : Pt), s.WarmedH vm₁ ∧ Stand p l e R s m args below meth c B.U B.locs B.cells B.slots ∧ Post ⟨T.setVm vm₁, locs, cells, slots⟩ argsL.toArray v B ∧
      ∀ target, Steps p.tables e below (B.U.setTop { g with pc := g.pc + 3, stack := v.toList ++ rest }) target → Steps p.tables e below (T.setTop g) target) ∨
    (∃ (q : Addr) (vm₁ : Vm) (B : Pt), s.WarmedH vm₁ ∧ Stand p l e R s m args below meth c B.U B.locs B.cells B.slots ∧ PostX ⟨T.setVm vm₁, locs, cells, slots⟩ argsL.toArray q B ∧
      Steps p.tables e below (T.setTop g) ((B.U.setTop { g with stack := rest }).pushFrame (.throwing q))) := by
  obtain ⟨mk, methM, cM, hnamed, hmethM, -, -, -, -, -, -, hsigM⟩ := Cond.codeWith_spec hcode
  have hstatic : methM.isStatic = true := Cond.static_spec hnamed hmethM hstat
  obtain ⟨kP, hkP, -⟩ := className_of_methodNamed hnamed
  have hinitP : kP.init = .initialized := Cond.initialized_spec (findClass_of_methodNamed hnamed) hkP hinit
  obtain ⟨vm₁, X₁, hstep₁⟩ := X.invokestatic hexec hown hlink hnamed hmethM hstatic hkP hinitP hy (g := g) hg (argsL := argsL) (rest := rest) (hlen _ hsigM) hstack hdg
  rcases hK m meth c ⟨T.setVm vm₁, locs, cells, slots⟩ { g with stack := rest } (.invokestatic index) mk argsL.toArray X₁ hg hsize hdg hW (X₁.named hnamed) (hpre vm₁ X₁.warmed) with ⟨v, B, X', hpost, hsteps⟩ | ⟨q, B, X', hpost, hsteps⟩
  · exact Or.inl ⟨v, vm₁, B, X₁.warmed, X', hpost, fun target h => hstep₁ _ fun acts => by rw [doInvoke_state]; exact hsteps.trans h⟩
  · exact Or.inr ⟨q, vm₁, B, X₁.warmed, X', hpost, hstep₁ _ fun acts => by rw [doInvoke_state]; exact hsteps⟩
theorem vx_callVW (X : Stand p l e R s m args below meth c T locs cells slots) (hexec : p.tables.exec = Jvm.exec) {own C : String} {index : Nat} {y : MethodName} {bytes : ByteArray} {maxL : Nat} {ret : Option FieldType} {hh : List (Nat × Nat × Nat × Nat)}
    (hown : s.vm.findClass own = some m.cls) (hlink : (Cond.methodLink own index y).before args s = true) (hinst : (Cond.instanceMethod y).before args s = true) (hsel : (Cond.selects C y y).before args s = true)
    (hcode : (Cond.codeWith y bytes maxL ret hh).before args s = true) (hy : y.cls ≠ "java/lang/invoke/MethodHandle" ∧ y.cls ≠ "java/lang/invoke/VarHandle")
    {W9 : Nat} {Pre : Pt → Array Value → Prop} {Post : Pt → Array Value → Option Value → Pt → Prop} (hK : Back l R p e below s args y 3 W9 Pre Post)
    {b : Addr} {cellB : Cell} (hcell : T.heap[b]? = some cellB) (hobj : cellB.vm.isStatics = false) (hcls : s.vm.findClass C = some cellB.cls)
    {g : JFrame} (hg : g.method = m) (hsize : g.locals.size = c.maxLocals) {argsL rest : List Value} (hlen : ∀ sig, parseMethodDescriptor y.desc = some sig → argsL.length = sig.parameters.length)
    (hstack : g.stack = argsL.reverse ++ .ref b :: rest) (hW : 2 * g.monitorRoom + (rest.map fun v => v.category).sum ≤ W9) (hdg : decode c.code g.pc = .ok (.invokevirtual index, 3))
    (hpre : ∀ vm₁, s.WarmedH vm₁ → Pre ⟨T.setVm vm₁, locs, cells, slots⟩ (Value.ref b :: argsL).toArray) :
    ∃ (v : Option Value) (vm₁ : Vm) (B : Pt), s.WarmedH vm₁ ∧ Stand p l e R s m args below meth c B.U B.locs B.cells B.slots ∧ Post ⟨T.setVm vm₁, locs, cells, slots⟩ (Value.ref b :: argsL).toArray v B ∧
      ∀ target, Steps p.tables e below (B.U.setTop { g with pc := g.pc + 3, stack := v.toList ++ rest }) target → Steps p.tables e below (T.setTop g) target := by
  obtain ⟨mk, methM, hnamed, hmethM, hstM, habM⟩ := Cond.instanceMethod_spec hinst
  obtain ⟨m8, methM', cM, hn8, hmethM', -, -, -, -, -, -, hsigM⟩ := Cond.codeWith_spec hcode
  cases Option.some.inj (hn8.symm.trans hnamed)
  cases hmethM.symm.trans hmethM'
  obtain ⟨c2, r2, m2, q1, q2, q3, q4, kP, hkP, hkPi⟩ := Cond.selects_spec hsel
  cases hcls.symm.trans q1
  cases (State.methodFound?_of_named hnamed hy).symm.trans q2
  cases hnamed.symm.trans q3
  have hselP : selectMethod e.platform s.vm cellB.cls mk = .method mk := by rw [Launch.admits_selectMethod X.admits]; exact q4
  obtain ⟨vm₁, X₁, hstep₁⟩ := X.invokevirtual hexec hown hlink hnamed hmethM hstM hkP hkPi hy (a := b) (cell := cellB) hcell
    (fun z h => by rw [h] at hobj; cases hobj) hselP hmethM habM hkP hkPi (g := g) hg (argsL := argsL) (rest := rest) (hlen _ hsigM) hstack hdg
  obtain ⟨v, B, X', hpost, hsteps⟩ := hK m meth c ⟨T.setVm vm₁, locs, cells, slots⟩ { g with stack := rest } (.invokevirtual index) mk (Value.ref b :: argsL).toArray X₁ hg hsize hdg hW (X₁.named hnamed) (hpre vm₁ X₁.warmed)
  exact ⟨v, vm₁, B, X₁.warmed, X', hpost, fun target h => hstep₁ _ fun acts => by rw [doInvoke_state]; exact hsteps.trans h⟩
abbrev vx_CVW (R : Room) (s : State) (args : Array Value) (own C : String) (index : Nat) (y : MethodName) (bytes : ByteArray) (maxL : Nat) (ret : Option FieldType) (hh : List (Nat × Nat × Nat × Nat)) (ws : List Cond) (rm : Room) (mc ms n : Nat) : Prop :=
  (rm.cells = mc ∧ rm.slots = ms ∧ rm.frames + 1 ≤ R.frames ∧ 8 + (maxL + 11) + rm.locals ≤ R.locals ∧ (∀ w ∈ ws, ∀ (a' : Array Value) (U : State), s.WarmedH U.vm → w.before a' U = true) ∧ Cond.codeWith y bytes maxL ret hh ∈ ws) ∧
  (Cond.codeWith y bytes maxL ret hh).before args s = true ∧ (Cond.initialized y.cls).before args s = true ∧ (y.cls ≠ "java/lang/invoke/MethodHandle" ∧ y.cls ≠ "java/lang/invoke/VarHandle") ∧
  (∀ sig, parseMethodDescriptor y.desc = some sig → n = sig.parameters.length) ∧ (Cond.methodLink own index y).before args s = true ∧ (Cond.instanceMethod y).before args s = true ∧ (Cond.selects C y y).before args s = true
theorem vx_cwVW {own C : String} {index maxL mc ms : Nat} {y : MethodName} {bytes : ByteArray} {ret : Option FieldType} {hh : List (Nat × Nat × Nat × Nat)} {Ts ws ws' : List Cond} {rm : Room} (n : Nat) (ht : ∀ w ∈ Ts, w.before args s = true) (hT : GoodIn Ts (wsV own index C y ws)) (hw : ws = Cond.codeWith y bytes maxL ret hh :: ws') (hrc : rm.cells = mc) (hrs : rm.slots = ms)
    (hd : y.cls = C ∧ y.cls ≠ "java/lang/invoke/MethodHandle" ∧ y.cls ≠ "java/lang/invoke/VarHandle" ∧ (parseMethodDescriptor y.desc).map (fun d => d.parameters.length) = some n) (hR : rm.frames + 1 ≤ R.frames ∧ 8 + (maxL + 11) + rm.locals ≤ R.locals) :
    vx_CVW R s args own C index y bytes maxL ret hh ws rm mc ms n := by
  obtain ⟨hC, hd⟩ := hd
  subst hC
  have ok : ∀ w ∈ wsV own index y.cls y ws, w.before args s = true := fun w h => ht w (hT w h).1
  have hG : GoodIn Ts ws := fun w h => hT w (by unfold wsV; exact List.mem_append_right _ h)
  have hc : Cond.codeWith y bytes maxL ret hh ∈ ws := by rw [hw]; exact List.mem_cons_self
  refine ⟨⟨hrc, hrs, hR.1, hR.2, pay_in ht hG, hc⟩, ht _ (hG _ hc).1, ok _ (by simp [wsV]), ⟨hd.1, hd.2.1⟩, fun sig h => ?_, ok _ (by simp [wsV]), ok _ (by simp [wsV]), ok _ (by simp [wsV])⟩
  have h2 := hd.2.2
  rw [h] at h2
  exact (Option.some.inj h2).symm
theorem vx_runVW {y : MethodName} {bytes cc : ByteArray} {maxL nL mc ms n index : Nat} {ret : Option FieldType} {hh : List (Nat × Nat × Nat × Nat)} {ws : List Cond} {rm : Room} {Pc : Array Value → State → Prop} {Qc : Array Value → State → Outcome → State → Prop} {free : Addr → Prop} {Ts : List Cond} {own C : String} {b : Addr} {As rest : List Value} {g : JFrame}
    (S : CallFix p m c cc nL s args Ts own) (hM : Met l y ws rm Pc Qc mc ms free) (cw : vx_CVW R s args own C index y bytes maxL ret hh ws rm mc ms n) (hp : PreV s H C b Pc As)
    (hg : g.method = m) (hn : As.length = n) (hsize : g.locals.size = nL) (hstack : g.stack = As.reverse ++ .ref b :: rest) (hW : 2 * g.monitorRoom + (rest.map fun v => v.category).sum ≤ 8) (hdg : decode cc g.pc = .ok (.invokevirtual index, 3)) (hf : cells + mc ≤ R.cells ∧ slots + ms ≤ R.slots) :
    va_Run p l e R s m args below meth c H locs cells slots mc ms g rest (Qc (Value.ref b :: As).toArray) free := by
  obtain ⟨⟨hrc, hrs, hfr, hlo, hws, hcw⟩, hcode, hini, hy, hlen, hl, hin, hse⟩ := cw
  have hK : Back l R p e below s args y 3 8 (PreOf R mc ms Pc) (PostOf Qc mc ms free) := va_backW (hh := hh) (bytes := bytes) (maxL := maxL) (ret := ret) hM hp.1 hrc hrs hfr hlo hws hcw (fun a' U hW => word_at hW (Or.inl (by first | rfl | simp [Cond.onTables, Cond.keeps, Cond.steady])) hini)
  obtain ⟨hx, hb, hml, ho, -⟩ := S
  obtain ⟨-, ⟨cellB, hcB, hoB, hclB⟩, hPc⟩ := hp
  intro T hT X
  obtain ⟨v, vm₁, ⟨U', l2, c2, s2⟩, hW₁, X', ⟨g', mk, t, L, e1, e2, hq, h1, hL, h2, h3⟩, st⟩ := vx_callVW X hx (C := C) (hh := hh) (bytes := bytes) (maxL := maxL) (ret := ret) ho hl hin hse hcode hy hK (by rw [hT]; exact hcB) hoB hclB hg (hsize.trans hml.symm) (argsL := As) (rest := rest) (fun sig h => hn.trans (hlen sig h)) hstack hW (by rw [hb]; exact hdg)
    (fun vm₁ hW₁ => ⟨hf.1, hf.2, hPc (T.setVm vm₁) hT hW₁⟩)
  dsimp only [Pt.U, Pt.locs, Pt.cells, Pt.slots] at X' e1 e2 h1 h2 h3 st
  subst h1; subst h2; subst h3
  exact ⟨v, (T.setVm vm₁).calling g' mk (Value.ref b :: As).toArray, t, U', L, hT, X', hL, e1, e2, hq, st⟩
section
variable {y : MethodName} {bytes cc : ByteArray} {maxL nL mc ms n index : Nat} {ret : Option FieldType} {ws : List Cond} {rm : Room} {Pc : Array Value → State → Prop} {Qc : Array Value → State → Outcome → State → Prop} {XC : String → State → State → Prop} {free : Addr → Prop} {Ts : List Cond} {own C : String} {b : Addr} {As rest : List Value} {g : JFrame}
theorem vx_runVX {hh : List (Nat × Nat × Nat × Nat)} (S : CallFix p m c cc nL s args Ts own) (hM : vx_Met l y ws rm Pc Qc XC mc ms free) (cw : vx_CVW R s args own C index y bytes maxL ret hh ws rm mc ms n) (hp : PreV s H C b Pc As)
    (hg : g.method = m) (hn : As.length = n) (hsize : g.locals.size = nL) (hstack : g.stack = As.reverse ++ .ref b :: rest) (hW : 2 * g.monitorRoom + (rest.map fun v => v.category).sum ≤ 8) (hdg : decode cc g.pc = .ok (.invokevirtual index, 3)) (hf : cells + mc ≤ R.cells ∧ slots + ms ≤ R.slots) :
    vx_Run p l e R s m args below meth c H locs cells slots mc ms g rest (Qc (Value.ref b :: As).toArray) XC free := by
  obtain ⟨⟨hrc, hrs, hfr, hlo, hws, hcw⟩, hcode, hini, hy, hlen, hl, hin, hse⟩ := cw
  have hK : vx_Back l R p e below s args y 3 8 (PreOf R mc ms Pc) (PostOf Qc mc ms free) (vx_Post XC mc ms free) := vx_backW (hh := hh) (bytes := bytes) (maxL := maxL) (ret := ret) hM hp.1 hrc hrs hfr hlo hws hcw (fun a' U hW => word_at hW (Or.inl (by first | rfl | simp [Cond.onTables, Cond.keeps, Cond.steady])) hini)
  obtain ⟨hx, hb, hml, ho, -⟩ := S
  obtain ⟨-, ⟨cellB, hcB, hoB, hclB⟩, hPc⟩ := hp
  intro T hT X
  rcases vx_callVX X hx (C := C) (hh := hh) (bytes := bytes) (maxL := maxL) (ret := ret) ho hl hin hse hcode hy hK (by rw [hT]; exact hcB) hoB hclB hg (hsize.trans hml.symm) (argsL := As) (rest := rest) (fun sig h => hn.trans (hlen sig h)) hstack hW (by rw [hb]; exact hdg)
    (fun vm₁ hW₁ => ⟨hf.1, hf.2, hPc (T.setVm vm₁) hT hW₁⟩) with ⟨v, vm₁, ⟨U', l2, c2, s2⟩, hW₁, X', ⟨g', mk, t, L, e1, e2, hq, h1, hL, h2, h3⟩, st⟩ | ⟨q, vm₁, ⟨U', l2, c2, s2⟩, hW₁, X', ⟨g', mk, t, L, E, ce, e1, e2, hq, hce, hcv, hcl, h1, hL, h2, h3⟩, st⟩
  · dsimp only [Pt.U, Pt.locs, Pt.cells, Pt.slots] at X' e1 e2 h1 h2 h3 st
    subst h1; subst h2; subst h3
    exact Or.inl ⟨v, (T.setVm vm₁).calling g' mk (Value.ref b :: As).toArray, t, U', L, hT, X', hL, e1, e2, hq, st⟩
  · dsimp only [Pt.U, Pt.locs, Pt.cells, Pt.slots] at X' e1 e2 h1 h2 h3 st hcl
    subst h1; subst h2; subst h3
    exact Or.inr ⟨q, (T.setVm vm₁).calling g' mk (Value.ref b :: As).toArray, t, U', L, E, ce, hT, X', hL, e1, e2, hq, hce, hcv, vx_cls hW₁ hcl, st⟩
theorem vx_runSX {hh : List (Nat × Nat × Nat × Nat)} (S : CallFix p m c cc nL s args Ts own) (hM : vx_Met l y ws rm Pc Qc XC mc ms free) (cw : vx_CSW R s args own index y bytes maxL ret hh ws rm mc ms n) (hp : PreS s H Pc As)
    (hg : g.method = m) (hn : As.length = n) (hsize : g.locals.size = nL) (hstack : g.stack = As.reverse ++ rest) (hW : 2 * g.monitorRoom + (rest.map fun v => v.category).sum ≤ 8) (hdg : decode cc g.pc = .ok (.invokestatic index, 3)) (hf : cells + mc ≤ R.cells ∧ slots + ms ≤ R.slots) :
    vx_Run p l e R s m args below meth c H locs cells slots mc ms g rest (Qc As.toArray) XC free := by
  obtain ⟨⟨hrc, hrs, hfr, hlo, hws, hcw⟩, hcode, hini, hy, hlen, hl, hstt⟩ := cw
  have hK : vx_Back l R p e below s args y 3 8 (PreOf R mc ms Pc) (PostOf Qc mc ms free) (vx_Post XC mc ms free) := vx_backW (hh := hh) (bytes := bytes) (maxL := maxL) (ret := ret) hM hp.1 hrc hrs hfr hlo hws hcw (fun a' U hW => word_at hW (Or.inl (by first | rfl | simp [Cond.onTables, Cond.keeps, Cond.steady])) hini)
  obtain ⟨hx, hb, hml, ho, -⟩ := S
  intro T hT X
  rcases vx_callSX X hx (hh := hh) (bytes := bytes) (maxL := maxL) (ret := ret) ho hl hstt hini hcode hy hK hg (hsize.trans hml.symm) (argsL := As) (rest := rest) (fun sig h => hn.trans (hlen sig h)) hstack hW (by rw [hb]; exact hdg)
    (fun vm₁ hW₁ => ⟨hf.1, hf.2, hp.2 (T.setVm vm₁) hT hW₁⟩) with ⟨v, vm₁, ⟨U', l2, c2, s2⟩, hW₁, X', ⟨g', mk, t, L, e1, e2, hq, h1, hL, h2, h3⟩, st⟩ | ⟨q, vm₁, ⟨U', l2, c2, s2⟩, hW₁, X', ⟨g', mk, t, L, E, ce, e1, e2, hq, hce, hcv, hcl, h1, hL, h2, h3⟩, st⟩
  · dsimp only [Pt.U, Pt.locs, Pt.cells, Pt.slots] at X' e1 e2 h1 h2 h3 st
    subst h1; subst h2; subst h3
    exact Or.inl ⟨v, (T.setVm vm₁).calling g' mk As.toArray, t, U', L, hT, X', hL, e1, e2, hq, st⟩
  · dsimp only [Pt.U, Pt.locs, Pt.cells, Pt.slots] at X' e1 e2 h1 h2 h3 st hcl
    subst h1; subst h2; subst h3
    exact Or.inr ⟨q, (T.setVm vm₁).calling g' mk As.toArray, t, U', L, E, ce, hT, X', hL, e1, e2, hq, hce, hcv, vx_cls hW₁ hcl, st⟩
end
end VXH
theorem vx_ofWH {l : Launch} {y : MethodName} {ws ws' : List Cond} {rm : Room} {Pc : Array Value → State → Prop} {Qc : Array Value → State → Outcome → State → Prop} {XC : String → State → State → Prop} {mc ms : Nat} {free : Addr → Prop} {cc : ByteArray} {maxL : Nat} {ret : Option FieldType} {hh : List (Nat × Nat × Nat × Nat)}
    (hy : plainName y.cls = true) (hw : ws = Cond.codeWith y cc maxL ret hh :: ws')
    (body : ∀ p e s m args below meth c s₁, BodyLoose p l y (headSpec ws rm) cc maxL ret e s m args below meth c s₁ → c.maxLocals = maxL → Pc args s →
      W p l e (headSpec ws rm).room s m args below meth c s.heap [] 0 0 (vx_MQ below Qc XC args s mc ms free) (entryFrame m args maxL)) : vx_Met l y ws rm Pc Qc XC mc ms free := by
  refine MetFree.of_bodyS (code := cc) (maxLocals := maxL) (ret := ret) hy ?_ ?_
  · intro args s m h hn
    obtain ⟨m9, meth, c, hn9, h1, h2, h3, h4, -, h5, h6, -⟩ := Cond.codeWith_spec (atoms_spec (ws := ws) h _ (by rw [hw]; exact List.mem_cons_self))
    cases hn.symm.trans hn9
    exact ⟨meth, c, h1, h2, h3, h4, h5, h6⟩
  · intro p e s m args below meth c s₁ B hml hP _
    have hh0 : s₁.heap = s.heap := by rw [B.state]; rfl
    obtain ⟨t, a1, o, b1, b2, b3⟩ := body p e s m args below meth c s₁ B hml hP s₁ hh0 (Stand.of_body B)
    exact ⟨t, o, a1, b1, b2, b3⟩
/-! ===== END ===== -/
/-! ===== BEGIN what the machine throws by itself, no traces kept ===== -/
section VXM
set_option maxHeartbeats 1000000 in
/-- the machine throws cls with the message text, no traces kept: from its note over the frame g to 'throwing' over the same frame (follows the proofs of Stand.vmThrowsMessage, Shelf/KitTracedVmS.lean, and Stand.throwsMessageColdBareV, StandMessageColdV.lean, without the step out of the frame) -/
theorem vx_vmAt {p : Program} {l : Launch} {e : Env} {R : Room} {s : State} {m₀ : MethodId} {args : Array Value} {below : List Frame} {meth : Method} {c : Code} {W : State} {locs : List Loc} {cells slots : Nat}
    (X : Stand p l e R s m₀ args below meth c W locs cells slots) (hexec : p.tables.exec = Jvm.exec) (htr : e.platform.stackTraces = false) {cls : String} {names : List String} {text : String}
    (hcls : Bundle.fit cls = true) (hnames : ∀ n ∈ names, Bundle.fit n = true) (hsoe : (cls == "java/lang/StackOverflowError") = false) (hoom : (cls == "java/lang/OutOfMemoryError") = false)
    (h : ∀ a ∈ Bundle.messageArmAtoms cls names, a.before args s = true)
    (hlocs : ∀ x ∈ locs, ∀ cell, s.heap[x.base]? = some cell → cell.vm.isStatics = false)
    (htext : (text == notModelled) = false) (hlimit : ¬ (stringBytes (stringToUtf16 text)).size > e.platform.arrayLengthLimit) (hheap : ¬ (stringBytes (stringToUtf16 text)).size * componentBytes .byte > e.platform.maxHeapBytes)
    {g : JFrame} (hg : g.method = m₀) (hsize : g.locals.size = c.maxLocals)
    (hRframes : names.length + 4 < R.frames) (hRlocals : 2 * g.monitorRoom + (g.stack.map fun v => v.category).sum + 10240 ≤ R.locals) (hshort : 13 * names.length + 55 ≤ 10240)
    (hRcells : cells + 3 ≤ R.cells) (hRslots : slots + ((stringBytes (stringToUtf16 text)).size + 4 + 6) ≤ R.slots) (hlocks : meth.locks = false) :
    ∃ (S : State) (q : Addr) (ce : Cell), (∀ target, Steps p.tables e below ((S.setTop g).pushFrame (.throwing q)) target → Steps p.tables e below ((W.setTop g).pushFrame (.throwNew cls (some text) none)) target) ∧
      Stand p l e R s m₀ args below meth c S locs (cells + 3) (slots + ((stringBytes (stringToUtf16 text)).size + 4 + 6)) ∧ S.heap[q]? = some ce ∧ s.vm.findClass cls = some ce.cls ∧ ce.vm = .none := by
  have howns : e.platform.frameOwnsMonitors = true := by rw [X.admits.platform]
  have hfin : e.platform.finalization = false := by rw [X.admits.platform]
  have hpl : e.platform.magicAccessors = ({} : Platform).magicAccessors := by rw [X.admits.platform]
  have a : ∀ x, x ∈ Bundle.messageArmAtoms cls names → x.holds args s none s [] = true := fun x hx => h x hx
  obtain ⟨T, Z0, L, -, Y⟩ := ThrowableC.of_atoms (args := args) howns hfin hpl (fun x hx => h x (by simp [Bundle.messageArmAtoms, hx]))
  obtain ⟨Z, M, LZ, LM, hnZ⟩ := Init0T.ofS_atoms (args := args) hpl L Y (fun x hx => h x (by simp [Bundle.messageArmAtoms, hx]))
  obtain ⟨P1, Ps, hlen, L1, hL, hP1m, hlink1, hlink⟩ := Bundle.chainS (args := args) hpl hnZ names cls hcls hnames (fun x hx => h x (by simp [Bundle.messageArmAtoms, hx]))
  obtain ⟨Zs, LZs, hn4, hfitv, hfitc⟩ := StringT.of_atoms (args := args) (fun x hx => h x (by simp [Bundle.messageArmAtoms, hx]))
  have hfound : s.vm.findClass cls = some P1.m.cls := findClass_of_methodNamed hP1m
  obtain ⟨c1, kX, hc1, hk, hord, -, -, hn6⟩ := Cond.instantiable_spec (a (.instantiable cls 6) (by simp [Bundle.messageArmAtoms]))
  cases Option.some.inj (hc1.symm.trans hfound)
  have hinit := Cond.initialized_spec hfound hk (a (.initialized cls) (by simp [Bundle.messageArmAtoms]))
  have hctor : kX.findMethod "<init>" "(Ljava/lang/String;)V" = some P1.m.idx := findMethod_of_methodNamed hP1m hk
  have hsel0 : selectMethod e.platform s.vm P1.m.cls T.fill0 = .method T.fill0 := by
    obtain ⟨c2, r2, m2, q1, q2, q3, q4, -⟩ := Cond.selects_spec (a (.selects cls Bundle.tFill0 Bundle.tFill0) (by simp [Bundle.messageArmAtoms]))
    cases Option.some.inj (q1.symm.trans hfound)
    cases Option.some.inj (q2.symm.trans (State.methodFound?_of_named Y.fill0 (by decide)))
    cases Option.some.inj (q3.symm.trans Y.fill0)
    rw [Launch.admits_selectMethod X.admits]; exact q4
  have hselF : selectMethod e.platform s.vm P1.m.cls T.fill = .method T.fill := by
    obtain ⟨c2, r2, m2, q1, q2, q3, q4, -⟩ := Cond.selects_spec (a (.selects cls Bundle.tFill Bundle.tFill) (by simp [Bundle.messageArmAtoms]))
    cases Option.some.inj (q1.symm.trans hfound)
    cases Option.some.inj (q2.symm.trans (State.methodFound?_of_named Y.fill (by decide)))
    cases Option.some.inj (q3.symm.trans Y.fill)
    rw [Launch.admits_selectMethod X.admits]; exact q4
  obtain ⟨cellS0, hcS0, hiss⟩ := Y.statics
  obtain ⟨u0, hu0⟩ := Cond.staticRefV Y.unassigned L.unassignedStatic L.statics hcS0 hiss (a (.isRef (.static Bundle.tN "UNASSIGNED_STACK" Bundle.steD)) (by simp [Bundle.messageArmAtoms]))
  obtain ⟨sen, hsen⟩ := Cond.staticRefV Y.sentinel L.sentinelStatic L.statics hcS0 hiss (a (.isRef (.static Bundle.tN "SUPPRESSED_SENTINEL" Bundle.listD)) (by simp [Bundle.messageArmAtoms]))
  obtain ⟨ci198, i198, fB, hk198, hg198, ha198, hsB, -, hnB, htB, hffB⟩ := Cond.ownField (t := .object "java/lang/Object") Y.found L.cls (by decide +kernel) (a (.fieldLink Bundle.tN 198 Bundle.tN "backtrace" "Ljava/lang/Object;") (by simp [Bundle.messageArmAtoms])) (a (.lays Bundle.tN Bundle.tN "backtrace" "Ljava/lang/Object;") (by simp [Bundle.messageArmAtoms])) e.platform hpl
  obtain ⟨cellS, hcS', heS, -, hkeep⟩ := X.same.2.2.2.2.2 T.aS cellS0 hcS0
  have hcellS : W.heap[T.aS]? = some cellS := hcS'
  have hout' : ∀ i, (⟨T.aS, i⟩ : Loc) ∉ locs := fun i hmem => by
    have := hlocs _ hmem cellS0 hcS0
    rw [hiss] at this; cases this
  have hknownS : cellS.vm ≠ .unknown := by
    rw [heS]; intro hu
    rw [show cellS0.vm = .unknown from hu] at hiss
    cases hiss
  have hvU : cellS.slots[T.fUnassigned.slot]? = some u0.v := by rw [hkeep _ (hout' _)]; exact hu0
  have hvSen : cellS.slots[T.fSentinel.slot]? = some sen.v := by rw [hkeep _ (hout' _)]; exact hsen
  obtain ⟨iM, hffM⟩ := Y.msg
  obtain ⟨tyC, dC, hdC, hdnC⟩ := Cond.laysAt hfound hk Y.cause (a (.lays cls Bundle.tN "cause" "Ljava/lang/Throwable;") (by simp [Bundle.messageArmAtoms]))
  obtain ⟨tyS, dS, hdS, hdnS⟩ := Cond.laysAt hfound hk Y.stack (a (.lays cls Bundle.tN "stackTrace" Bundle.steD) (by simp [Bundle.messageArmAtoms]))
  obtain ⟨tyP, dP, hdP, hdnP⟩ := Cond.laysAt hfound hk Y.supp (a (.lays cls Bundle.tN "suppressedExceptions" Bundle.listD) (by simp [Bundle.messageArmAtoms]))
  obtain ⟨tyM, dM, hdM, hdnM⟩ := Cond.laysAt hfound hk hffM (a (.lays cls Bundle.tN "detailMessage" "Ljava/lang/String;") (by simp [Bundle.messageArmAtoms]))
  obtain ⟨tyB, dB, hdB, hdnB⟩ := Cond.laysAt hfound hk hffB (a (.lays cls Bundle.tN "backtrace" "Ljava/lang/Object;") (by simp [Bundle.messageArmAtoms]))
  have bC := Cond.laysApart hdB hdC hdnB hdnC (by rw [hnB, Y.causeName]; decide)
  have bS := Cond.laysApart hdB hdS hdnB hdnS (by rw [hnB, Y.stackName]; decide)
  have bP := Cond.laysApart hdB hdP hdnB hdnP (by rw [hnB, Y.suppName]; decide)
  have hbk : ((preparedCellV T.toThrowableT (freshCell P1.m.cls kX) (W.heap.size + 2) u0 sen).withEntry W.cur).slots[fB.slot]? = some .null := by
    have := fresh_default (c := P1.m.cls) tyB
    rw [htB] at this
    simpa [preparedCellV, Cell.setSlot, Cell.withEntry, Array.getElem?_setIfInBounds, bC, bS, bP, bC.symm, bS.symm, bP.symm, defaultValue] using this
  have tkC := Takes.of_laid (v := .ref (W.heap.size + 2)) hk hord tyC (by rw [Y.causeType]; rfl)
  have tkS := Takes.of_laid (v := u0.v) hk hord tyS (by rw [Y.stackType]; exact fits_refV_array _ u0)
  have tkP := Takes.of_laid (v := sen.v) hk hord tyP (by rw [Y.suppType]; exact fits_refV_object _ sen)
  have tkM := Takes.of_laid (v := .ref (W.heap.size + 1)) hk hord tyM (by rw [Y.msgType]; rfl)
  have hskip : SkipFacts T e.platform s (fun u => u) u0 ((preparedCellV T.toThrowableT (freshCell P1.m.cls kX) (W.heap.size + 2) u0 sen).withEntry W.cur) := ⟨{ ci198 := ci198, i198 := i198, fBack := fB }, ⟨hk198, hg198, ha198, hsB⟩, hbk, fun _ _ => rfl⟩
  have h0 : At W g.method c below := by rw [hg]; exact X.here
  obtain ⟨hbeyond, hfreeW⟩ := X.vmMayThrow hsize (.throwNew cls (some text) none) (fun f hf => by cases hf) rfl hRlocals
  have hfr' : W.frames.length + Ps.length + 4 < (e.platform.stackLimits W.me).1 := by have := X.framesAbove hRframes; omega
  have hwd' : (stackUse (.java g :: W.frames.tail)).2 + 13 * Ps.length + 55 ≤ (e.platform.stackLimits W.me).2 := by have := X.stackAbove hsize (K := 13 * Ps.length + 55) (by omega); omega
  have hslots : W.slotsUsed + (stringBytes (stringToUtf16 text)).size + Zs.kS.instanceTypes.size + kX.instanceTypes.size ≤ e.platform.maxSlots := by
    have := X.slotsAbove hRslots
    rw [hn4, hn6]
    omega
  obtain ⟨vm', hW', st⟩ := Steps.vmThrowsMessageColdByV p (s₀ := s) (S := W) (g := g) h0 hexec T L Z LZ M LM X.warmed (t := W.cur) rfl Zs LZs P1 L1 Ps hL hlink1 hlink hsoe hoom hfound hk hinit hord hctor
    (Launch.admits_hotImplicitExceptions X.admits) hbeyond hfreeW htext hlimit hheap (X.cellsAbove hRcells) hslots (hfitv _) (hfitc _)
    (Nn := fun u => u) heapOnly_id (fun _ _ => rfl) (fun _ => rfl) (fun u x y => setCell_twice _ _ _ _) (fun _ => Nat.le_refl _) (cN := ((preparedCellV T.toThrowableT (freshCell P1.m.cls kX) (W.heap.size + 2) u0 sen).withEntry W.cur))
    hsel0 hcellS hknownS hvU tkS (fun _ hu => hu) (fun _ hu => hu) rfl rfl rfl (by simp [preparedCellV, Cell.setSlot, Cell.withEntry]) hskip (fun _ _ hA hW _ hroom _ hrest => L.nativeOff p htr hA hW hroom hrest) hselF hvSen tkC tkP tkM Y.objLocals rfl hfr' hwd'
  rw [plainBareV_eq T.toThrowableT (W.heap.size + 2) u0 sen (.ref (W.heap.size + 1)) W.cur rfl rfl] at st
  obtain ⟨-, -, w3, w4, -, -, -⟩ := withThrown_facts e.platform W Zs text P1.m.cls kX
  have X3 := ((X.pushed (bytesOf Zs.cB (stringToUtf16 text))).pushed (stringAt Zs.cS Zs.kS Zs.fv Zs.fc (stringToUtf16 text) W.heap.size)).pushed (freshCell P1.m.cls kX)
  rw [← withString_eq] at X3
  have X4 := X3.noted hW'
  have ha : (W.heap.size + 2) < ((withThrown W Zs text P1.m.cls kX).setVm vm').heap.size := by show _ < (withThrown W Zs text P1.m.cls kX).heap.size; rw [w3]; omega
  have hcell : ((withThrown W Zs text P1.m.cls kX).setVm vm').heap[(W.heap.size + 2)]? = some (freshCell P1.m.cls kX) := w4
  have X5 := ((((X4.stored hcell T.fCause.slot (.ref (W.heap.size + 2))).storedAgain ha T.fStack.slot u0.v).storedAgain ha T.fSupp.slot sen.v).storedAgain ha T.fStack.slot u0.v).storedAgain ha T.fMsg.slot (.ref (W.heap.size + 1))
  obtain ⟨g₁, hfrM⟩ := X5.frames_eq
  have hU : ((((withThrown W Zs text P1.m.cls kX).setVm vm').setCell (W.heap.size + 2) (plainBareV T.toThrowableT (freshCell P1.m.cls kX) (W.heap.size + 2) u0 sen (.ref (W.heap.size + 1)))).setTop g).pushFrame (.throwing (W.heap.size + 2)) = (((withThrown W Zs text P1.m.cls kX).setVm vm').setCell (W.heap.size + 2) (plainBareV T.toThrowableT (freshCell P1.m.cls kX) (W.heap.size + 2) u0 sen (.ref (W.heap.size + 1)))).setFrames (.throwing (W.heap.size + 2) :: .java g :: below) := by
    rw [State.pushFrame, State.frames_setTop _ hfrM, State.setTop_of_frames _ hfrM, State.setFrames_setFrames]
  have b1 : (bytesOf Zs.cB (stringToUtf16 text)).slots.size = (stringBytes (stringToUtf16 text)).size := by
    rw [(Cell.writeAll_facts _ _).2.2]; simp [bytes0]
  have b2 : (stringAt Zs.cS Zs.kS Zs.fv Zs.fc (stringToUtf16 text) W.heap.size).slots.size = 4 := by simp [string0, Cell.setSlot, hn4]
  have b3 : (freshCell P1.m.cls kX).slots.size = 6 := by simp [hn6]
  rw [b1, b2, b3] at X5
  have e9 : slots + (stringBytes (stringToUtf16 text)).size + 4 + 6 = slots + ((stringBytes (stringToUtf16 text)).size + 4 + 6) := by omega
  rw [e9] at X5
  simp only [List.append_assoc, List.cons_append, List.nil_append] at X5
  refine ⟨((withThrown W Zs text P1.m.cls kX).setVm vm').setCell (W.heap.size + 2) (plainBareV T.toThrowableT (freshCell P1.m.cls kX) (W.heap.size + 2) u0 sen (.ref (W.heap.size + 1))), W.heap.size + 2, _, fun target ht => st _ (by rw [X.tail, ← hU]; exact ht),
    X5.forget (fun y hy => ?_), heapAt_setCell_self _ ha, hfound, rfl⟩
  simp only [List.mem_cons, List.not_mem_nil, or_false] at hy
  have hge : s.heap.size ≤ W.heap.size := X.same.2.1
  rcases hy with rfl | rfl | rfl | rfl | rfl <;> exact Nat.le_trans hge (Nat.le_add_right _ 2)
set_option maxHeartbeats 1000000 in
/-- the machine throws NullPointerException, no traces kept: from its note over the frame g to 'throwing' over the same frame (follows the proof of Stand.vmThrowsNpe, Shelf42/KT2.lean; throwsNpeColdBareVAt, Shelf42/NT91.lean, called) -/
theorem vx_npeAt {p : Program} {l : Launch} {e : Env} {R : Room} {s : State} {m₀ : MethodId} {args : Array Value} {below : List Frame} {meth : Method} {c : Code} {W : State} {locs : List Loc} {cells slots : Nat}
    (X : Stand p l e R s m₀ args below meth c W locs cells slots) (hexec : p.tables.exec = Jvm.exec) (htr : e.platform.stackTraces = false) {n : Nat}
    (h : ∀ a ∈ Bundle.npeArmAtoms n, a.before args s = true)
    (hlocs : ∀ x ∈ locs, ∀ cell, s.heap[x.base]? = some cell → cell.vm.isStatics = false)
    {g : JFrame} (hg : g.method = m₀) (hsize : g.locals.size = c.maxLocals)
    (hRframes : 7 < R.frames) (hRlocals : 2 * g.monitorRoom + (g.stack.map fun v => v.category).sum + 10240 ≤ R.locals)
    (hRcells : cells + 1 ≤ R.cells) (hRslots : slots + n ≤ R.slots) (hlocks : meth.locks = false) :
    ∃ (S : State) (q : Addr) (ce : Cell), (∀ target, Steps p.tables e below ((S.setTop g).pushFrame (.throwing q)) target → Steps p.tables e below ((W.setTop g).pushFrame (.throwNew "java/lang/NullPointerException" none none)) target) ∧
      Stand p l e R s m₀ args below meth c S locs (cells + 1) (slots + n) ∧ S.heap[q]? = some ce ∧ s.vm.findClass "java/lang/NullPointerException" = some ce.cls ∧ ce.vm = .none := by
  have howns : e.platform.frameOwnsMonitors = true := by rw [X.admits.platform]
  have hfin : e.platform.finalization = false := by rw [X.admits.platform]
  have hpl : e.platform.magicAccessors = ({} : Platform).magicAccessors := by rw [X.admits.platform]
  have hpl2 : e.platform.arrayCloneIsPublic = true := by rw [X.admits.platform]
  have a' : ∀ x, x ∈ Bundle.npeArmAtoms n → x.holds args s none s [] = true := fun x hx => h x hx
  obtain ⟨T, Z, L, LZ, Y⟩ := ThrowableC.of_atoms (args := args) howns hfin hpl (fun x hx => h x (by simp [Bundle.npeArmAtoms, hx]))
  obtain ⟨N, LN, hcN, hnNF, hordN, hffS⟩ := NpeC.of_atoms (args := args) hpl hpl2 L Y (fun x hx => h x (by simp [Bundle.npeArmAtoms, hx]))
  obtain ⟨P1, L1, hP1m, hP1s⟩ := PassC.of_atoms (args := args) (s := s) hpl (X := Bundle.nN) (Y := Bundle.rN) (by decide) (by decide) LibCode.NullPointerException.Init0.at_0 LibCode.NullPointerException.Init0.at_1 LibCode.NullPointerException.Init0.at_4 (fun x hx => h x (by simp [Bundle.npeArmAtoms, hx]))
  obtain ⟨PR, LR, hPRm, hPRs⟩ := PassC.of_atoms (args := args) (s := s) hpl (X := Bundle.rN) (Y := Bundle.eN) (by decide) (by decide) LibCode.RuntimeException.Init0.at_0 LibCode.RuntimeException.Init0.at_1 LibCode.RuntimeException.Init0.at_4 (fun x hx => h x (by simp [Bundle.npeArmAtoms, hx]))
  obtain ⟨PE, LEx, hPEm, hPEs⟩ := PassC.of_atoms (args := args) (s := s) hpl (X := Bundle.eN) (Y := Bundle.tN) (by decide) (by decide) LibCode.Exception.Init0.at_0 LibCode.Exception.Init0.at_1 LibCode.Exception.Init0.at_4 (fun x hx => h x (by simp [Bundle.npeArmAtoms, hx]))
  have hfound : s.vm.findClass Bundle.nN = some P1.m.cls := findClass_of_methodNamed hP1m
  have ecls : N.cN = P1.m.cls := Option.some.inj (hcN.symm.trans hfound)
  have hk : s.vm.classes[P1.m.cls]? = some N.kN := by rw [← ecls]; exact LN.cls
  have hinit := Cond.initialized_spec hfound hk (a' (.initialized Bundle.nN) (by simp [Bundle.npeArmAtoms]))
  have hctor : N.kN.findMethod "<init>" "()V" = some P1.m.idx := findMethod_of_methodNamed hP1m hk
  obtain ⟨c1, k1, hc1, hk1, -, -, -, hn⟩ := Cond.instantiable_spec (a' (.instantiable Bundle.nN n) (by simp [Bundle.npeArmAtoms]))
  cases Option.some.inj (hc1.symm.trans hfound)
  cases Option.some.inj (hk1.symm.trans hk)
  have hfsz : (freshCell P1.m.cls N.kN).slots.size = n := by simp [hn]
  have hlink1 : P1.sup = PR.m := Option.some.inj (hP1s.symm.trans hPRm)
  have hlinkR : PR.sup = PE.m := Option.some.inj (hPRs.symm.trans hPEm)
  have hlinkE : PE.sup = Z.m T.toThrowableT := Option.some.inj (hPEs.symm.trans Y.init0)
  have hLs : ∀ P, P ∈ [PR, PE] → P.Links0 e.platform s := fun P hP => by
    simp only [List.mem_cons, List.not_mem_nil, or_false] at hP
    rcases hP with rfl | rfl
    · exact LR
    · exact LEx
  have hsel0 : selectMethod e.platform s.vm P1.m.cls T.fill0 = .method T.fill0 := by
    obtain ⟨c2, r2, m2, q1, q2, q3, q4, -⟩ := Cond.selects_spec (a' (.selects Bundle.nN Bundle.tFill0 Bundle.tFill0) (by simp [Bundle.npeArmAtoms]))
    cases Option.some.inj (q1.symm.trans hfound)
    cases Option.some.inj (q2.symm.trans (State.methodFound?_of_named Y.fill0 (by decide)))
    cases Option.some.inj (q3.symm.trans Y.fill0)
    rw [Launch.admits_selectMethod X.admits]; exact q4
  have hselF : selectMethod e.platform s.vm P1.m.cls T.fill = .method N.fill := by
    obtain ⟨c2, r2, m2, q1, q2, q3, q4, -⟩ := Cond.selects_spec (a' (.selects Bundle.nN Bundle.tFill Bundle.nFill) (by simp [Bundle.npeArmAtoms]))
    cases Option.some.inj (q1.symm.trans hfound)
    cases Option.some.inj (q2.symm.trans (State.methodFound?_of_named Y.fill (by decide)))
    cases Option.some.inj (q3.symm.trans hnNF)
    rw [Launch.admits_selectMethod X.admits]; exact q4
  obtain ⟨cellS0, hcS0, hiss⟩ := Y.statics
  obtain ⟨u0, hu0⟩ := Cond.staticRefV Y.unassigned L.unassignedStatic L.statics hcS0 hiss (a' (.isRef (.static Bundle.tN "UNASSIGNED_STACK" Bundle.steD)) (by simp [Bundle.npeArmAtoms]))
  obtain ⟨sen, hsen⟩ := Cond.staticRefV Y.sentinel L.sentinelStatic L.statics hcS0 hiss (a' (.isRef (.static Bundle.tN "SUPPRESSED_SENTINEL" Bundle.listD)) (by simp [Bundle.npeArmAtoms]))
  obtain ⟨ci198, i198, fB, hk198, hg198, ha198, hsB, -, hnB, htB, hffB⟩ := Cond.ownField (t := .object "java/lang/Object") Y.found L.cls (by decide +kernel) (a' (.fieldLink Bundle.tN 198 Bundle.tN "backtrace" Bundle.objD) (by simp [Bundle.npeArmAtoms])) (a' (.lays Bundle.tN Bundle.tN "backtrace" Bundle.objD) (by simp [Bundle.npeArmAtoms])) e.platform hpl
  obtain ⟨cellS, hcS', heS, -, hkeep⟩ := X.same.2.2.2.2.2 T.aS cellS0 hcS0
  have hcellS : W.heap[T.aS]? = some cellS := hcS'
  have hout' : ∀ i, (⟨T.aS, i⟩ : Loc) ∉ locs := fun i hmem => by
    have := hlocs _ hmem cellS0 hcS0
    rw [hiss] at this; cases this
  have hknownS : cellS.vm ≠ .unknown := by
    rw [heS]; intro hu
    rw [show cellS0.vm = .unknown from hu] at hiss
    cases hiss
  have hvU : cellS.slots[T.fUnassigned.slot]? = some u0.v := by rw [hkeep _ (hout' _)]; exact hu0
  have hvSen : cellS.slots[T.fSentinel.slot]? = some sen.v := by rw [hkeep _ (hout' _)]; exact hsen
  obtain ⟨tyC, dC, hdC, hdnC⟩ := Cond.laysAt hfound hk Y.cause (a' (.lays Bundle.nN Bundle.tN "cause" "Ljava/lang/Throwable;") (by simp [Bundle.npeArmAtoms]))
  obtain ⟨tyS, dS, hdS, hdnS⟩ := Cond.laysAt hfound hk Y.stack (a' (.lays Bundle.nN Bundle.tN "stackTrace" Bundle.steD) (by simp [Bundle.npeArmAtoms]))
  obtain ⟨tyP, dP, hdP, hdnP⟩ := Cond.laysAt hfound hk Y.supp (a' (.lays Bundle.nN Bundle.tN "suppressedExceptions" Bundle.listD) (by simp [Bundle.npeArmAtoms]))
  obtain ⟨tyX, dX, hdX, hdnX⟩ := Cond.laysAt hfound hk hffS (a' (.lays Bundle.nN Bundle.nN "extendedMessageState" "I") (by simp [Bundle.npeArmAtoms, Bundle.npeAtoms]))
  obtain ⟨hnX, htX⟩ := State.fieldFound?_type hffS (t := .int) (by decide +kernel)
  have xC := Cond.laysApart hdC hdX hdnC hdnX (by rw [hnX, Y.causeName]; decide)
  have xS := Cond.laysApart hdS hdX hdnS hdnX (by rw [hnX, Y.stackName]; decide)
  have xP := Cond.laysApart hdP hdX hdnP hdnX (by rw [hnX, Y.suppName]; decide)
  have hv0 : (freshCell P1.m.cls N.kN).slots[N.fState.slot]? = some (.int 0) := by
    have := fresh_default (c := P1.m.cls) tyX
    rw [htX] at this; exact this
  obtain ⟨tyB, dB, hdB, hdnB⟩ := Cond.laysAt hfound hk hffB (a' (.lays Bundle.nN Bundle.tN "backtrace" Bundle.objD) (by simp [Bundle.npeArmAtoms]))
  have bC := Cond.laysApart hdB hdC hdnB hdnC (by rw [hnB, Y.causeName]; decide)
  have bS := Cond.laysApart hdB hdS hdnB hdnS (by rw [hnB, Y.stackName]; decide)
  have bP := Cond.laysApart hdB hdP hdnB hdnP (by rw [hnB, Y.suppName]; decide)
  have bX := Cond.laysApart hdB hdX hdnB hdnX (by rw [hnB, hnX]; decide)
  have hbk : ((npeCell N.toNpeT (preparedCellV T.toThrowableT (freshCell P1.m.cls N.kN) W.heap.size u0 sen) W.cur).withEntry W.cur).slots[fB.slot]? = some .null := by
    have := fresh_default (c := P1.m.cls) tyB
    rw [htB] at this
    simpa [npeCell, preparedCellV, Cell.setSlot, Cell.withEntry, Array.getElem?_setIfInBounds, bC, bS, bP, bX, bC.symm, bS.symm, bP.symm, bX.symm, defaultValue] using this
  have tkC := Takes.of_laid (v := .ref W.heap.size) hk hordN tyC (by rw [Y.causeType]; rfl)
  have tkS := Takes.of_laid (v := u0.v) hk hordN tyS (by rw [Y.stackType]; exact fits_refV_array _ u0)
  have tkP := Takes.of_laid (v := sen.v) hk hordN tyP (by rw [Y.suppType]; exact fits_refV_object _ sen)
  have tkX := Takes.of_laid (v := .int 1) hk hordN tyX (by rw [htX]; rfl)
  have hskip : SkipFacts T e.platform s (fun u => u) u0 ((npeCell N.toNpeT (preparedCellV T.toThrowableT (freshCell P1.m.cls N.kN) W.heap.size u0 sen) W.cur).withEntry W.cur) := ⟨{ ci198 := ci198, i198 := i198, fBack := fB }, ⟨hk198, hg198, ha198, hsB⟩, hbk, fun _ _ => rfl⟩
  obtain ⟨vm', X3, st, -⟩ := X.throwsNpeColdBareVAt hexec hg hsize T L Z LZ N LN P1 L1 [PR, PE] hLs hlink1 ⟨hlinkR, hlinkE, trivial⟩ hfound hk hinit hordN hctor hsel0 hselF hcellS hknownS hvU hvSen
    hv0 xC xS xP tkC tkS tkP tkX Y.objLocals hskip (fun _ _ hA hW _ hroom _ hrest => L.nativeOff p htr hA hW hroom hrest) (by simpa using hRframes) hRlocals (by simp) hRcells (by rw [hn]; exact hRslots)
  have hlt : W.heap.size < ((W.pushCell (freshCell P1.m.cls N.kN)).setVm vm').heap.size := by
    show W.heap.size < (W.pushCell (freshCell P1.m.cls N.kN)).heap.size
    rw [State.heap_size_pushCell]; omega
  rw [hfsz] at X3
  obtain ⟨g₁, hfrM⟩ := X3.frames_eq
  have hU : ((((W.pushCell (freshCell P1.m.cls N.kN)).setVm vm').setCell W.heap.size (npeBareV T.toThrowableT N.toNpeT (freshCell P1.m.cls N.kN) W.heap.size u0 sen)).setTop g).pushFrame (.throwing W.heap.size) = (((W.pushCell (freshCell P1.m.cls N.kN)).setVm vm').setCell W.heap.size (npeBareV T.toThrowableT N.toNpeT (freshCell P1.m.cls N.kN) W.heap.size u0 sen)).setFrames (.throwing W.heap.size :: .java g :: below) := by
    rw [State.pushFrame, State.frames_setTop _ hfrM, State.setTop_of_frames _ hfrM, State.setFrames_setFrames]
  refine ⟨_, W.heap.size, _, fun target ht => st.trans (by rw [← hU]; exact ht), X3.forget (fun y hy => ?_), heapAt_setCell_self _ hlt, hfound, rfl⟩
  simp only [List.mem_cons, List.not_mem_nil, or_false] at hy
  have hge : s.heap.size ≤ W.heap.size := X.same.2.1
  rcases hy with rfl | rfl | rfl | rfl | rfl <;> exact hge
/-- the words of a machine's NullPointerException, but the four that speak of the heap -/
def vx_atN (n : Nat) : List Cond := (Bundle.npeArmAtoms n).filter vx_no
/-- the words of a machine's throw with a message, but the four that speak of the heap -/
def vx_atM (X : String) (names : List String) : List Cond := (Bundle.messageArmAtoms X names).filter vx_no
section
variable {p : Program} {l : Launch} {e : Env} {R : Room} {s : State} {m : MethodId} {args : Array Value} {below : List Frame} {meth : Method} {c : Code} {H : Heap} {locs : List Loc} {cells slots : Nat}
/-- a frame seen from a rebased start, seen from the first start again -/
theorem vx_back9 {T S : State} {R' : Room} {k n : Nat} (X : Stand p l e R s m args below meth c T locs cells slots) (Y : Stand p l e R' ((T.setVm s.vm).setFrames (.invoking m args :: below)) m args below meth c T [] 0 0) (Z : Stand p l e R' ((T.setVm s.vm).setFrames (.invoking m args :: below)) m args below meth c S [] k n) :
    Stand p l e R s m args below meth c S locs (cells + k) (slots + n) := by
  have hW0 : s.WarmedH ((T.setVm s.vm).setFrames (.invoking m args :: below)).vm := State.WarmedH.refl s
  refine { admits := X.admits, cas := X.cas, clock := X.clock, frames := X.frames, room := X.room, hears := X.hears, method := X.method, code := X.code, here := Z.here, tail := Z.tail, warmed := State.WarmedH.trans hW0 Z.warmed, limits := Z.limits.trans (Y.limits.symm.trans X.limits), bytes := Z.bytes.trans (Y.bytes.symm.trans X.bytes), same := ?_ }
  obtain ⟨e1, e2⟩ := Z.same
  rw [State.setFrames_setFrames] at e1
  have h2 : (T.setVm s.vm).sameButNew (S.setVm s.vm) [] k n := ⟨e1, e2⟩
  have h3 := X.same.trans h2
  rw [List.append_nil] at h3
  exact h3
/-- from the machine's note that E is thrown here with this text -/
def vx_Note (p : Program) (l : Launch) (e : Env) (R : Room) (s : State) (m : MethodId) (args : Array Value) (below : List Frame) (meth : Method) (c : Code) (H : Heap) (locs : List Loc) (cells slots : Nat) (Q : State → Prop) (g : JFrame) (E text : String) : Prop :=
  ∀ T : State, T.heap = H → Stand p l e R s m args below meth c T locs cells slots → ∃ t, Steps p.tables e below ((T.setTop g).pushFrame (.throwNew E (some text) none)) t ∧ Q t
theorem vx_vm {pc : Nat} {ls : Array Slot} {rest : List Value} {Q : State → Prop} (hexec : p.tables.exec = Jvm.exec) (hl : l.stackTraces = false) {cls text : String} {names : List String} {nb : Nat} {A : Nat → Prop}
    (hcls : Bundle.fit cls = true) (hnames : ∀ n ∈ names, Bundle.fit n = true) (hsoe : (cls == "java/lang/StackOverflowError") = false) (hoom : (cls == "java/lang/OutOfMemoryError") = false)
    (hat : ∀ w ∈ vx_atM cls names, w.before args s = true) (hgood : ∀ w ∈ vx_atM cls names, vx_ot w = true)
    (hU : vx_Zq Bundle.tN "UNASSIGNED_STACK" Bundle.steD A s s.heap) (hN : vx_Zq Bundle.tN "SUPPRESSED_SENTINEL" Bundle.listD A s s.heap) (hS : va_S A s.heap H locs) (hsize : ls.size = c.maxLocals)
    (htext : (text == notModelled) = false) (hnb : (stringBytes (stringToUtf16 text)).size ≤ nb) (hnb1 : nb ≤ 1000)
    (hRframes : names.length + 4 < R.frames) (hRlocals : (rest.map fun v => v.category).sum + 10240 ≤ R.locals) (hshort : 13 * names.length + 55 ≤ 10240) (hRcells : cells + 3 ≤ R.cells) (hRslots : slots + (nb + 10) ≤ R.slots) (hlocks : meth.locks = false)
    (k : ∀ (H1 : Heap) (q9 : Addr) (ce : Cell), H.size ≤ H1.size → (∀ q : Nat, q < H.size → H1[q]? = H[q]?) → va_S A s.heap H1 locs → H1[q9]? = some ce → ce.vm = .none → s.vm.findClass cls = some ce.cls → vx_W p l e R s m args below meth c H1 locs (cells + 3) (slots + (nb + 10)) Q (F0 m pc ls rest) q9) :
    vx_Note p l e R s m args below meth c H locs cells slots Q (F0 m pc ls rest) cls text := by
  intro T hT X
  have htr : e.platform.stackTraces = false := (show e.platform.stackTraces = l.stackTraces by rw [X.admits.platform]).trans hl
  have Y := vx_rebase X (R' := { frames := R.frames, locals := R.locals, cells := 3, slots := nb + 10 }) (Nat.le_refl _) (Nat.le_refl _) hRcells hRslots
  have hhp : ((T.setVm s.vm).setFrames (.invoking m args :: below)).heap = H := hT
  have hW0 : s.WarmedH ((T.setVm s.vm).setFrames (.invoking m args :: below)).vm := State.WarmedH.refl s
  have hat' : ∀ w ∈ vx_atM cls names, w.before args ((T.setVm s.vm).setFrames (.invoking m args :: below)) = true := fun w hw => vx_ot_at hW0 rfl (hgood w hw) (hat w hw)
  have hU' : vx_Zq Bundle.tN "UNASSIGNED_STACK" Bundle.steD A ((T.setVm s.vm).setFrames (.invoking m args :: below)) ((T.setVm s.vm).setFrames (.invoking m args :: below)).heap := by rw [hhp]; exact vx_Zq.moved hW0.alike (hU.kept hS.2.1)
  have hN' : vx_Zq Bundle.tN "SUPPRESSED_SENTINEL" Bundle.listD A ((T.setVm s.vm).setFrames (.invoking m args :: below)) ((T.setVm s.vm).setFrames (.invoking m args :: below)).heap := by rw [hhp]; exact vx_Zq.moved hW0.alike (hN.kept hS.2.1)
  obtain ⟨S, q, ce, st, Z, hce, hcl', hv⟩ := vx_vmAt Y hexec htr (cls := cls) (names := names) (text := text) hcls hnames hsoe hoom (vx_own hat' (vx_isRefq hU'.1) (vx_isRefq hN'.1) hU'.2.word hN'.2.word) (fun x hx => nomatch hx) htext
    (by rw [Launch.admits_arrayLengthLimit X.admits]; omega) (by rw [Launch.admits_maxHeapBytes X.admits]; simp only [componentBytes]; omega)
    (g := F0 m pc ls rest) rfl hsize hRframes (by show 2 * 0 + (rest.map fun v => v.category).sum + 10240 ≤ R.locals; omega) hshort (by show 0 + 3 ≤ 3; omega) (by show 0 + (_ + 4 + 6) ≤ nb + 10; omega) hlocks
  obtain ⟨f1, f2⟩ := vx_frame Z.same
  have f1' : H.size ≤ S.heap.size := by rw [← hT]; exact f1
  have f2' : ∀ q : Nat, q < H.size → S.heap[q]? = H[q]? := fun q hq => by
    rw [← hT]
    exact f2 q (by rw [← hT] at hq; exact hq) (fun z hz => nomatch hz)
  have X5 := vx_back9 X Y Z
  have X6 : Stand p l e R s m args below meth c S locs (cells + 3) (slots + (nb + 10)) := { X5 with same := X5.same.mono (by omega) (by omega) }
  obtain ⟨t, a1, b1⟩ := k S.heap q ce f1' f2' ⟨Nat.le_trans hS.1 f1', fun q h1 h2 => (f2' q (Nat.lt_of_lt_of_le h1 hS.1)).trans (hS.2.1 q h1 h2), hS.2.2⟩ hce hv hcl' S rfl X6
  exact ⟨t, st t a1, b1⟩
/-- from the machine's note that NullPointerException is thrown here -/
def vx_NoteN (p : Program) (l : Launch) (e : Env) (R : Room) (s : State) (m : MethodId) (args : Array Value) (below : List Frame) (meth : Method) (c : Code) (H : Heap) (locs : List Loc) (cells slots : Nat) (Q : State → Prop) (g : JFrame) : Prop :=
  ∀ T : State, T.heap = H → Stand p l e R s m args below meth c T locs cells slots → ∃ t, Steps p.tables e below ((T.setTop g).pushFrame (.throwNew "java/lang/NullPointerException" none none)) t ∧ Q t
theorem vx_npe {pc : Nat} {ls : Array Slot} {rest : List Value} {Q : State → Prop} (hexec : p.tables.exec = Jvm.exec) (hl : l.stackTraces = false) {nb : Nat} {A : Nat → Prop}
    (hat : ∀ w ∈ vx_atN nb, w.before args s = true) (hgood : ∀ w ∈ vx_atN nb, vx_ot w = true)
    (hU : vx_Zq Bundle.tN "UNASSIGNED_STACK" Bundle.steD A s s.heap) (hN : vx_Zq Bundle.tN "SUPPRESSED_SENTINEL" Bundle.listD A s s.heap) (hS : va_S A s.heap H locs) (hsize : ls.size = c.maxLocals)
    (hRframes : 7 < R.frames) (hRlocals : (rest.map fun v => v.category).sum + 10240 ≤ R.locals) (hRcells : cells + 1 ≤ R.cells) (hRslots : slots + nb ≤ R.slots) (hlocks : meth.locks = false)
    (k : ∀ (H1 : Heap) (q9 : Addr) (ce : Cell), H.size ≤ H1.size → (∀ q : Nat, q < H.size → H1[q]? = H[q]?) → va_S A s.heap H1 locs → H1[q9]? = some ce → ce.vm = .none → s.vm.findClass "java/lang/NullPointerException" = some ce.cls → vx_W p l e R s m args below meth c H1 locs (cells + 1) (slots + nb) Q (F0 m pc ls rest) q9) :
    vx_NoteN p l e R s m args below meth c H locs cells slots Q (F0 m pc ls rest) := by
  intro T hT X
  have htr : e.platform.stackTraces = false := (show e.platform.stackTraces = l.stackTraces by rw [X.admits.platform]).trans hl
  have Y := vx_rebase X (R' := { frames := R.frames, locals := R.locals, cells := 1, slots := nb }) (Nat.le_refl _) (Nat.le_refl _) hRcells hRslots
  have hhp : ((T.setVm s.vm).setFrames (.invoking m args :: below)).heap = H := hT
  have hW0 : s.WarmedH ((T.setVm s.vm).setFrames (.invoking m args :: below)).vm := State.WarmedH.refl s
  have hat' : ∀ w ∈ vx_atN nb, w.before args ((T.setVm s.vm).setFrames (.invoking m args :: below)) = true := fun w hw => vx_ot_at hW0 rfl (hgood w hw) (hat w hw)
  have hU' : vx_Zq Bundle.tN "UNASSIGNED_STACK" Bundle.steD A ((T.setVm s.vm).setFrames (.invoking m args :: below)) ((T.setVm s.vm).setFrames (.invoking m args :: below)).heap := by rw [hhp]; exact vx_Zq.moved hW0.alike (hU.kept hS.2.1)
  have hN' : vx_Zq Bundle.tN "SUPPRESSED_SENTINEL" Bundle.listD A ((T.setVm s.vm).setFrames (.invoking m args :: below)) ((T.setVm s.vm).setFrames (.invoking m args :: below)).heap := by rw [hhp]; exact vx_Zq.moved hW0.alike (hN.kept hS.2.1)
  obtain ⟨S, q, ce, st, Z, hce, hcl', hv⟩ := vx_npeAt Y hexec htr (n := nb) (vx_own hat' (vx_isRefq hU'.1) (vx_isRefq hN'.1) hU'.2.word hN'.2.word) (fun x hx => nomatch hx)
    (g := F0 m pc ls rest) rfl hsize hRframes (by show 2 * 0 + (rest.map fun v => v.category).sum + 10240 ≤ R.locals; omega) (by show 0 + 1 ≤ 1; omega) (by show 0 + nb ≤ nb; omega) hlocks
  obtain ⟨f1, f2⟩ := vx_frame Z.same
  have f1' : H.size ≤ S.heap.size := by rw [← hT]; exact f1
  have f2' : ∀ q : Nat, q < H.size → S.heap[q]? = H[q]? := fun q hq => by
    rw [← hT]
    exact f2 q (by rw [← hT] at hq; exact hq) (fun z hz => nomatch hz)
  have X5 := vx_back9 X Y Z
  have X6 : Stand p l e R s m args below meth c S locs (cells + 1) (slots + nb) := { X5 with same := X5.same.mono (by omega) (by omega) }
  obtain ⟨t, a1, b1⟩ := k S.heap q ce f1' f2' ⟨Nat.le_trans hS.1 f1', fun q h1 h2 => (f2' q (Nat.lt_of_lt_of_le h1 hS.1)).trans (hS.2.1 q h1 h2), hS.2.2⟩ hce hv hcl' S rfl X6
  exact ⟨t, st t a1, b1⟩
variable {Q : State → Prop} {cc : ByteArray} {pc : Nat} {ls : Array Slot} {rest : List Value}
theorem vx_idivZ (hexec : p.tables.exec = Jvm.exec) (hb : c.code = cc) {a b : Int32} (h0 : b = 0) (d : decode cc pc = .ok (.idiv, 1)) (k : vx_Note p l e R s m args below meth c H locs cells slots Q (F0 m pc ls rest) "java/lang/ArithmeticException" "/ by zero") :
    W p l e R s m args below meth c H locs cells slots Q (F0 m pc ls (.int b :: .int a :: rest)) := by
  intro T hT X
  obtain ⟨t, st, q⟩ := k T hT X
  exact ⟨t, X.idivZero hexec (g := F0 m pc ls (.int b :: .int a :: rest)) rfl (a := a) (rest := rest) (by rw [h0]) (by rw [hb]; exact d) t st, q⟩
theorem vx_iremZ (hexec : p.tables.exec = Jvm.exec) (hb : c.code = cc) {a b : Int32} (h0 : b = 0) (d : decode cc pc = .ok (.irem, 1)) (k : vx_Note p l e R s m args below meth c H locs cells slots Q (F0 m pc ls rest) "java/lang/ArithmeticException" "/ by zero") :
    W p l e R s m args below meth c H locs cells slots Q (F0 m pc ls (.int b :: .int a :: rest)) := by
  intro T hT X
  obtain ⟨t, st, q⟩ := k T hT X
  exact ⟨t, X.iremZero hexec (g := F0 m pc ls (.int b :: .int a :: rest)) rfl (a := a) (rest := rest) (by rw [h0]) (by rw [hb]; exact d) t st, q⟩
theorem vx_ldivZ (hexec : p.tables.exec = Jvm.exec) (hb : c.code = cc) {a b : Int64} (h0 : b = 0) (d : decode cc pc = .ok (.ldiv, 1)) (k : vx_Note p l e R s m args below meth c H locs cells slots Q (F0 m pc ls rest) "java/lang/ArithmeticException" "/ by zero") :
    W p l e R s m args below meth c H locs cells slots Q (F0 m pc ls (.long b :: .long a :: rest)) := by
  intro T hT X
  obtain ⟨t, st, q⟩ := k T hT X
  exact ⟨t, X.ldivZero hexec (g := F0 m pc ls (.long b :: .long a :: rest)) rfl (a := a) (rest := rest) (by rw [h0]) (by rw [hb]; exact d) t st, q⟩
theorem vx_lremZ (hexec : p.tables.exec = Jvm.exec) (hb : c.code = cc) {a b : Int64} (h0 : b = 0) (d : decode cc pc = .ok (.lrem, 1)) (k : vx_Note p l e R s m args below meth c H locs cells slots Q (F0 m pc ls rest) "java/lang/ArithmeticException" "/ by zero") :
    W p l e R s m args below meth c H locs cells slots Q (F0 m pc ls (.long b :: .long a :: rest)) := by
  intro T hT X
  obtain ⟨t, st, q⟩ := k T hT X
  exact ⟨t, X.lremZero hexec (g := F0 m pc ls (.long b :: .long a :: rest)) rfl (a := a) (rest := rest) (by rw [h0]) (by rw [hb]; exact d) t st, q⟩
theorem vx_ialdZ {D : va_G} {cl : List vw_C} {ws : va_W} {tys : List (ClassId × FieldType)} {a : Nat} (hexec : p.tables.exec = Jvm.exec) (hb : c.code = cc) (hK : va_K D cl tys s) (hP : va_P D cl ws H) (q0 t0 : Nat) {cA : ClassId} {n : Nat} {f : Nat → Int32} (ha : ws[q0]? = some (a, .inl (cA, n, .inl f))) (ht : tys[t0]? = some (cA, .int)) {i : Int32} (hout : ¬ vp_in i n) (hdg : decode cc pc = .ok (.iaload, 1))
    (k : ∀ tx : String, tx = (toString "Index " ++ toString i ++ toString " out of bounds for length " ++ toString n : String) → vx_Note p l e R s m args below meth c H locs cells slots Q (F0 m pc ls rest) "java/lang/ArrayIndexOutOfBoundsException" tx) : W p l e R s m args below meth c H locs cells slots Q (F0 m pc ls (.int i :: .ref a :: rest)) := by
  intro T hT X
  obtain ⟨t, st, q⟩ := k _ rfl T hT X
  refine ⟨t, ?_, q⟩
  have h1 := X.ialoadOut hexec (by rw [hT]; exact hP q0 _ ha) ((hK.2 t0 _ ht).1 n (fun j => .int (f j))) (j := i) (by show (i < 0 ∨ (arrV _ _ _).slots.size ≤ _); rw [arrV_size]; exact Classical.byContradiction hout) (g := F0 m pc ls (.int i :: .ref a :: rest)) rfl (rest := rest) rfl (by rw [hb]; exact hdg) t
  simp only [arrV_size] at h1
  exact h1 st
theorem vx_iastZ {D : va_G} {cl : List vw_C} {ws : va_W} {tys : List (ClassId × FieldType)} {a : Nat} (hexec : p.tables.exec = Jvm.exec) (hb : c.code = cc) (hK : va_K D cl tys s) (hP : va_P D cl ws H) (q0 t0 : Nat) {cA : ClassId} {n : Nat} {f : Nat → Int32} (ha : ws[q0]? = some (a, .inl (cA, n, .inl f))) (ht : tys[t0]? = some (cA, .int)) {i : Int32} {x : Int32} (hout : ¬ vp_in i n) (hdg : decode cc pc = .ok (.iastore, 1))
    (k : ∀ tx : String, tx = (toString "Index " ++ toString i ++ toString " out of bounds for length " ++ toString n : String) → vx_Note p l e R s m args below meth c H locs cells slots Q (F0 m pc ls rest) "java/lang/ArrayIndexOutOfBoundsException" tx) : W p l e R s m args below meth c H locs cells slots Q (F0 m pc ls (.int x :: .int i :: .ref a :: rest)) := by
  intro T hT X
  obtain ⟨t, st, q⟩ := k _ rfl T hT X
  refine ⟨t, ?_, q⟩
  have h1 := X.iastoreOut hexec (by rw [hT]; exact hP q0 _ ha) ((hK.2 t0 _ ht).1 n (fun j => .int (f j))) (j := i) (by show (i < 0 ∨ (arrV _ _ _).slots.size ≤ _); rw [arrV_size]; exact Classical.byContradiction hout) (g := F0 m pc ls (.int x :: .int i :: .ref a :: rest)) rfl (rest := rest) rfl (by rw [hb]; exact hdg) t
  simp only [arrV_size] at h1
  exact h1 st
theorem vx_baldZ {D : va_G} {cl : List vw_C} {ws : va_W} {tys : List (ClassId × FieldType)} {a : Nat} (hexec : p.tables.exec = Jvm.exec) (hb : c.code = cc) (hK : va_K D cl tys s) (hP : va_P D cl ws H) (q0 t0 : Nat) {cA : ClassId} {n : Nat} {f : Nat → Int32} (ha : ws[q0]? = some (a, .inl (cA, n, .inl f))) (ht : tys[t0]? = some (cA, .byte)) {i : Int32} (hout : ¬ vp_in i n) (hdg : decode cc pc = .ok (.baload, 1))
    (k : ∀ tx : String, tx = (toString "Index " ++ toString i ++ toString " out of bounds for length " ++ toString n : String) → vx_Note p l e R s m args below meth c H locs cells slots Q (F0 m pc ls rest) "java/lang/ArrayIndexOutOfBoundsException" tx) : W p l e R s m args below meth c H locs cells slots Q (F0 m pc ls (.int i :: .ref a :: rest)) := by
  intro T hT X
  obtain ⟨t, st, q⟩ := k _ rfl T hT X
  refine ⟨t, ?_, q⟩
  have h1 := X.baloadOut hexec (by rw [hT]; exact hP q0 _ ha) ((hK.2 t0 _ ht).1 n (fun j => .int (f j))) (j := i) (by show (i < 0 ∨ (arrV _ _ _).slots.size ≤ _); rw [arrV_size]; exact Classical.byContradiction hout) (g := F0 m pc ls (.int i :: .ref a :: rest)) rfl (rest := rest) rfl (by rw [hb]; exact hdg) t
  simp only [arrV_size] at h1
  exact h1 st
theorem vx_bastZ {D : va_G} {cl : List vw_C} {ws : va_W} {tys : List (ClassId × FieldType)} {a : Nat} (hexec : p.tables.exec = Jvm.exec) (hb : c.code = cc) (hK : va_K D cl tys s) (hP : va_P D cl ws H) (q0 t0 : Nat) {cA : ClassId} {n : Nat} {f : Nat → Int32} (ha : ws[q0]? = some (a, .inl (cA, n, .inl f))) (ht : tys[t0]? = some (cA, .byte)) {i : Int32} {x : Int32} (hout : ¬ vp_in i n) (hdg : decode cc pc = .ok (.bastore, 1))
    (k : ∀ tx : String, tx = (toString "Index " ++ toString i ++ toString " out of bounds for length " ++ toString n : String) → vx_Note p l e R s m args below meth c H locs cells slots Q (F0 m pc ls rest) "java/lang/ArrayIndexOutOfBoundsException" tx) : W p l e R s m args below meth c H locs cells slots Q (F0 m pc ls (.int x :: .int i :: .ref a :: rest)) := by
  intro T hT X
  obtain ⟨t, st, q⟩ := k _ rfl T hT X
  refine ⟨t, ?_, q⟩
  have h1 := X.bastoreOut hexec (by rw [hT]; exact hP q0 _ ha) ((hK.2 t0 _ ht).1 n (fun j => .int (f j))) (j := i) (by show (i < 0 ∨ (arrV _ _ _).slots.size ≤ _); rw [arrV_size]; exact Classical.byContradiction hout) (g := F0 m pc ls (.int x :: .int i :: .ref a :: rest)) rfl (rest := rest) rfl (by rw [hb]; exact hdg) t
  simp only [arrV_size] at h1
  exact h1 st
theorem vx_zaldZ {D : va_G} {cl : List vw_C} {ws : va_W} {tys : List (ClassId × FieldType)} {a : Nat} (hexec : p.tables.exec = Jvm.exec) (hb : c.code = cc) (hK : va_K D cl tys s) (hP : va_P D cl ws H) (q0 t0 : Nat) {cA : ClassId} {n : Nat} {f : Nat → Int32} (ha : ws[q0]? = some (a, .inl (cA, n, .inl f))) (ht : tys[t0]? = some (cA, .boolean)) {i : Int32} (hout : ¬ vp_in i n) (hdg : decode cc pc = .ok (.baload, 1))
    (k : ∀ tx : String, tx = (toString "Index " ++ toString i ++ toString " out of bounds for length " ++ toString n : String) → vx_Note p l e R s m args below meth c H locs cells slots Q (F0 m pc ls rest) "java/lang/ArrayIndexOutOfBoundsException" tx) : W p l e R s m args below meth c H locs cells slots Q (F0 m pc ls (.int i :: .ref a :: rest)) := by
  intro T hT X
  obtain ⟨t, st, q⟩ := k _ rfl T hT X
  refine ⟨t, ?_, q⟩
  have h1 := X.baloadOut hexec (by rw [hT]; exact hP q0 _ ha) ((hK.2 t0 _ ht).1 n (fun j => .int (f j))) (j := i) (by show (i < 0 ∨ (arrV _ _ _).slots.size ≤ _); rw [arrV_size]; exact Classical.byContradiction hout) (g := F0 m pc ls (.int i :: .ref a :: rest)) rfl (rest := rest) rfl (by rw [hb]; exact hdg) t
  simp only [arrV_size] at h1
  exact h1 st
theorem vx_zastZ {D : va_G} {cl : List vw_C} {ws : va_W} {tys : List (ClassId × FieldType)} {a : Nat} (hexec : p.tables.exec = Jvm.exec) (hb : c.code = cc) (hK : va_K D cl tys s) (hP : va_P D cl ws H) (q0 t0 : Nat) {cA : ClassId} {n : Nat} {f : Nat → Int32} (ha : ws[q0]? = some (a, .inl (cA, n, .inl f))) (ht : tys[t0]? = some (cA, .boolean)) {i : Int32} {x : Int32} (hout : ¬ vp_in i n) (hdg : decode cc pc = .ok (.bastore, 1))
    (k : ∀ tx : String, tx = (toString "Index " ++ toString i ++ toString " out of bounds for length " ++ toString n : String) → vx_Note p l e R s m args below meth c H locs cells slots Q (F0 m pc ls rest) "java/lang/ArrayIndexOutOfBoundsException" tx) : W p l e R s m args below meth c H locs cells slots Q (F0 m pc ls (.int x :: .int i :: .ref a :: rest)) := by
  intro T hT X
  obtain ⟨t, st, q⟩ := k _ rfl T hT X
  refine ⟨t, ?_, q⟩
  have h1 := X.bastoreOut hexec (by rw [hT]; exact hP q0 _ ha) ((hK.2 t0 _ ht).1 n (fun j => .int (f j))) (j := i) (by show (i < 0 ∨ (arrV _ _ _).slots.size ≤ _); rw [arrV_size]; exact Classical.byContradiction hout) (g := F0 m pc ls (.int x :: .int i :: .ref a :: rest)) rfl (rest := rest) rfl (by rw [hb]; exact hdg) t
  simp only [arrV_size] at h1
  exact h1 st
theorem vx_caldZ {D : va_G} {cl : List vw_C} {ws : va_W} {tys : List (ClassId × FieldType)} {a : Nat} (hexec : p.tables.exec = Jvm.exec) (hb : c.code = cc) (hK : va_K D cl tys s) (hP : va_P D cl ws H) (q0 t0 : Nat) {cA : ClassId} {n : Nat} {f : Nat → Int32} (ha : ws[q0]? = some (a, .inl (cA, n, .inl f))) (ht : tys[t0]? = some (cA, .char)) {i : Int32} (hout : ¬ vp_in i n) (hdg : decode cc pc = .ok (.caload, 1))
    (k : ∀ tx : String, tx = (toString "Index " ++ toString i ++ toString " out of bounds for length " ++ toString n : String) → vx_Note p l e R s m args below meth c H locs cells slots Q (F0 m pc ls rest) "java/lang/ArrayIndexOutOfBoundsException" tx) : W p l e R s m args below meth c H locs cells slots Q (F0 m pc ls (.int i :: .ref a :: rest)) := by
  intro T hT X
  obtain ⟨t, st, q⟩ := k _ rfl T hT X
  refine ⟨t, ?_, q⟩
  have h1 := X.caloadOut hexec (by rw [hT]; exact hP q0 _ ha) ((hK.2 t0 _ ht).1 n (fun j => .int (f j))) (j := i) (by show (i < 0 ∨ (arrV _ _ _).slots.size ≤ _); rw [arrV_size]; exact Classical.byContradiction hout) (g := F0 m pc ls (.int i :: .ref a :: rest)) rfl (rest := rest) rfl (by rw [hb]; exact hdg) t
  simp only [arrV_size] at h1
  exact h1 st
theorem vx_castZ {D : va_G} {cl : List vw_C} {ws : va_W} {tys : List (ClassId × FieldType)} {a : Nat} (hexec : p.tables.exec = Jvm.exec) (hb : c.code = cc) (hK : va_K D cl tys s) (hP : va_P D cl ws H) (q0 t0 : Nat) {cA : ClassId} {n : Nat} {f : Nat → Int32} (ha : ws[q0]? = some (a, .inl (cA, n, .inl f))) (ht : tys[t0]? = some (cA, .char)) {i : Int32} {x : Int32} (hout : ¬ vp_in i n) (hdg : decode cc pc = .ok (.castore, 1))
    (k : ∀ tx : String, tx = (toString "Index " ++ toString i ++ toString " out of bounds for length " ++ toString n : String) → vx_Note p l e R s m args below meth c H locs cells slots Q (F0 m pc ls rest) "java/lang/ArrayIndexOutOfBoundsException" tx) : W p l e R s m args below meth c H locs cells slots Q (F0 m pc ls (.int x :: .int i :: .ref a :: rest)) := by
  intro T hT X
  obtain ⟨t, st, q⟩ := k _ rfl T hT X
  refine ⟨t, ?_, q⟩
  have h1 := X.castoreOut hexec (by rw [hT]; exact hP q0 _ ha) ((hK.2 t0 _ ht).1 n (fun j => .int (f j))) (j := i) (by show (i < 0 ∨ (arrV _ _ _).slots.size ≤ _); rw [arrV_size]; exact Classical.byContradiction hout) (g := F0 m pc ls (.int x :: .int i :: .ref a :: rest)) rfl (rest := rest) rfl (by rw [hb]; exact hdg) t
  simp only [arrV_size] at h1
  exact h1 st
theorem vx_saldZ {D : va_G} {cl : List vw_C} {ws : va_W} {tys : List (ClassId × FieldType)} {a : Nat} (hexec : p.tables.exec = Jvm.exec) (hb : c.code = cc) (hK : va_K D cl tys s) (hP : va_P D cl ws H) (q0 t0 : Nat) {cA : ClassId} {n : Nat} {f : Nat → Int32} (ha : ws[q0]? = some (a, .inl (cA, n, .inl f))) (ht : tys[t0]? = some (cA, .short)) {i : Int32} (hout : ¬ vp_in i n) (hdg : decode cc pc = .ok (.saload, 1))
    (k : ∀ tx : String, tx = (toString "Index " ++ toString i ++ toString " out of bounds for length " ++ toString n : String) → vx_Note p l e R s m args below meth c H locs cells slots Q (F0 m pc ls rest) "java/lang/ArrayIndexOutOfBoundsException" tx) : W p l e R s m args below meth c H locs cells slots Q (F0 m pc ls (.int i :: .ref a :: rest)) := by
  intro T hT X
  obtain ⟨t, st, q⟩ := k _ rfl T hT X
  refine ⟨t, ?_, q⟩
  have h1 := X.saloadOut hexec (by rw [hT]; exact hP q0 _ ha) ((hK.2 t0 _ ht).1 n (fun j => .int (f j))) (j := i) (by show (i < 0 ∨ (arrV _ _ _).slots.size ≤ _); rw [arrV_size]; exact Classical.byContradiction hout) (g := F0 m pc ls (.int i :: .ref a :: rest)) rfl (rest := rest) rfl (by rw [hb]; exact hdg) t
  simp only [arrV_size] at h1
  exact h1 st
theorem vx_sastZ {D : va_G} {cl : List vw_C} {ws : va_W} {tys : List (ClassId × FieldType)} {a : Nat} (hexec : p.tables.exec = Jvm.exec) (hb : c.code = cc) (hK : va_K D cl tys s) (hP : va_P D cl ws H) (q0 t0 : Nat) {cA : ClassId} {n : Nat} {f : Nat → Int32} (ha : ws[q0]? = some (a, .inl (cA, n, .inl f))) (ht : tys[t0]? = some (cA, .short)) {i : Int32} {x : Int32} (hout : ¬ vp_in i n) (hdg : decode cc pc = .ok (.sastore, 1))
    (k : ∀ tx : String, tx = (toString "Index " ++ toString i ++ toString " out of bounds for length " ++ toString n : String) → vx_Note p l e R s m args below meth c H locs cells slots Q (F0 m pc ls rest) "java/lang/ArrayIndexOutOfBoundsException" tx) : W p l e R s m args below meth c H locs cells slots Q (F0 m pc ls (.int x :: .int i :: .ref a :: rest)) := by
  intro T hT X
  obtain ⟨t, st, q⟩ := k _ rfl T hT X
  refine ⟨t, ?_, q⟩
  have h1 := X.sastoreOut hexec (by rw [hT]; exact hP q0 _ ha) ((hK.2 t0 _ ht).1 n (fun j => .int (f j))) (j := i) (by show (i < 0 ∨ (arrV _ _ _).slots.size ≤ _); rw [arrV_size]; exact Classical.byContradiction hout) (g := F0 m pc ls (.int x :: .int i :: .ref a :: rest)) rfl (rest := rest) rfl (by rw [hb]; exact hdg) t
  simp only [arrV_size] at h1
  exact h1 st
theorem vx_laldZ {D : va_G} {cl : List vw_C} {ws : va_W} {tys : List (ClassId × FieldType)} {a : Nat} (hexec : p.tables.exec = Jvm.exec) (hb : c.code = cc) (hK : va_K D cl tys s) (hP : va_P D cl ws H) (q0 t0 : Nat) {cA : ClassId} {n : Nat} {f : Nat → Int64} (ha : ws[q0]? = some (a, .inl (cA, n, .inr (.inl f)))) (ht : tys[t0]? = some (cA, .long)) {i : Int32} (hout : ¬ vp_in i n) (hdg : decode cc pc = .ok (.laload, 1))
    (k : ∀ tx : String, tx = (toString "Index " ++ toString i ++ toString " out of bounds for length " ++ toString n : String) → vx_Note p l e R s m args below meth c H locs cells slots Q (F0 m pc ls rest) "java/lang/ArrayIndexOutOfBoundsException" tx) : W p l e R s m args below meth c H locs cells slots Q (F0 m pc ls (.int i :: .ref a :: rest)) := by
  intro T hT X
  obtain ⟨t, st, q⟩ := k _ rfl T hT X
  refine ⟨t, ?_, q⟩
  have h1 := X.laloadOut hexec (by rw [hT]; exact hP q0 _ ha) ((hK.2 t0 _ ht).1 n (fun j => .long (f j))) (j := i) (by show (i < 0 ∨ (arrV _ _ _).slots.size ≤ _); rw [arrV_size]; exact Classical.byContradiction hout) (g := F0 m pc ls (.int i :: .ref a :: rest)) rfl (rest := rest) rfl (by rw [hb]; exact hdg) t
  simp only [arrV_size] at h1
  exact h1 st
theorem vx_lastZ {D : va_G} {cl : List vw_C} {ws : va_W} {tys : List (ClassId × FieldType)} {a : Nat} (hexec : p.tables.exec = Jvm.exec) (hb : c.code = cc) (hK : va_K D cl tys s) (hP : va_P D cl ws H) (q0 t0 : Nat) {cA : ClassId} {n : Nat} {f : Nat → Int64} (ha : ws[q0]? = some (a, .inl (cA, n, .inr (.inl f)))) (ht : tys[t0]? = some (cA, .long)) {i : Int32} {x : Int64} (hout : ¬ vp_in i n) (hdg : decode cc pc = .ok (.lastore, 1))
    (k : ∀ tx : String, tx = (toString "Index " ++ toString i ++ toString " out of bounds for length " ++ toString n : String) → vx_Note p l e R s m args below meth c H locs cells slots Q (F0 m pc ls rest) "java/lang/ArrayIndexOutOfBoundsException" tx) : W p l e R s m args below meth c H locs cells slots Q (F0 m pc ls (.long x :: .int i :: .ref a :: rest)) := by
  intro T hT X
  obtain ⟨t, st, q⟩ := k _ rfl T hT X
  refine ⟨t, ?_, q⟩
  have h1 := X.lastoreOut hexec (by rw [hT]; exact hP q0 _ ha) ((hK.2 t0 _ ht).1 n (fun j => .long (f j))) (j := i) (by show (i < 0 ∨ (arrV _ _ _).slots.size ≤ _); rw [arrV_size]; exact Classical.byContradiction hout) (g := F0 m pc ls (.long x :: .int i :: .ref a :: rest)) rfl (rest := rest) rfl (by rw [hb]; exact hdg) t
  simp only [arrV_size] at h1
  exact h1 st
theorem vx_faldZ {D : va_G} {cl : List vw_C} {ws : va_W} {tys : List (ClassId × FieldType)} {a : Nat} (hexec : p.tables.exec = Jvm.exec) (hb : c.code = cc) (hK : va_K D cl tys s) (hP : va_P D cl ws H) (q0 t0 : Nat) {cA : ClassId} {n : Nat} {f : Nat → UInt32} (ha : ws[q0]? = some (a, .inl (cA, n, .inr (.inr (.inl f))))) (ht : tys[t0]? = some (cA, .float)) {i : Int32} (hout : ¬ vp_in i n) (hdg : decode cc pc = .ok (.faload, 1))
    (k : ∀ tx : String, tx = (toString "Index " ++ toString i ++ toString " out of bounds for length " ++ toString n : String) → vx_Note p l e R s m args below meth c H locs cells slots Q (F0 m pc ls rest) "java/lang/ArrayIndexOutOfBoundsException" tx) : W p l e R s m args below meth c H locs cells slots Q (F0 m pc ls (.int i :: .ref a :: rest)) := by
  intro T hT X
  obtain ⟨t, st, q⟩ := k _ rfl T hT X
  refine ⟨t, ?_, q⟩
  have h1 := X.faloadOut hexec (by rw [hT]; exact hP q0 _ ha) ((hK.2 t0 _ ht).1 n (fun j => .float (f j))) (j := i) (by show (i < 0 ∨ (arrV _ _ _).slots.size ≤ _); rw [arrV_size]; exact Classical.byContradiction hout) (g := F0 m pc ls (.int i :: .ref a :: rest)) rfl (rest := rest) rfl (by rw [hb]; exact hdg) t
  simp only [arrV_size] at h1
  exact h1 st
theorem vx_fastZ {D : va_G} {cl : List vw_C} {ws : va_W} {tys : List (ClassId × FieldType)} {a : Nat} (hexec : p.tables.exec = Jvm.exec) (hb : c.code = cc) (hK : va_K D cl tys s) (hP : va_P D cl ws H) (q0 t0 : Nat) {cA : ClassId} {n : Nat} {f : Nat → UInt32} (ha : ws[q0]? = some (a, .inl (cA, n, .inr (.inr (.inl f))))) (ht : tys[t0]? = some (cA, .float)) {i : Int32} {x : UInt32} (hout : ¬ vp_in i n) (hdg : decode cc pc = .ok (.fastore, 1))
    (k : ∀ tx : String, tx = (toString "Index " ++ toString i ++ toString " out of bounds for length " ++ toString n : String) → vx_Note p l e R s m args below meth c H locs cells slots Q (F0 m pc ls rest) "java/lang/ArrayIndexOutOfBoundsException" tx) : W p l e R s m args below meth c H locs cells slots Q (F0 m pc ls (.float x :: .int i :: .ref a :: rest)) := by
  intro T hT X
  obtain ⟨t, st, q⟩ := k _ rfl T hT X
  refine ⟨t, ?_, q⟩
  have h1 := X.fastoreOut hexec (by rw [hT]; exact hP q0 _ ha) ((hK.2 t0 _ ht).1 n (fun j => .float (f j))) (j := i) (by show (i < 0 ∨ (arrV _ _ _).slots.size ≤ _); rw [arrV_size]; exact Classical.byContradiction hout) (g := F0 m pc ls (.float x :: .int i :: .ref a :: rest)) rfl (rest := rest) rfl (by rw [hb]; exact hdg) t
  simp only [arrV_size] at h1
  exact h1 st
theorem vx_daldZ {D : va_G} {cl : List vw_C} {ws : va_W} {tys : List (ClassId × FieldType)} {a : Nat} (hexec : p.tables.exec = Jvm.exec) (hb : c.code = cc) (hK : va_K D cl tys s) (hP : va_P D cl ws H) (q0 t0 : Nat) {cA : ClassId} {n : Nat} {f : Nat → UInt64} (ha : ws[q0]? = some (a, .inl (cA, n, .inr (.inr (.inr (.inl f)))))) (ht : tys[t0]? = some (cA, .double)) {i : Int32} (hout : ¬ vp_in i n) (hdg : decode cc pc = .ok (.daload, 1))
    (k : ∀ tx : String, tx = (toString "Index " ++ toString i ++ toString " out of bounds for length " ++ toString n : String) → vx_Note p l e R s m args below meth c H locs cells slots Q (F0 m pc ls rest) "java/lang/ArrayIndexOutOfBoundsException" tx) : W p l e R s m args below meth c H locs cells slots Q (F0 m pc ls (.int i :: .ref a :: rest)) := by
  intro T hT X
  obtain ⟨t, st, q⟩ := k _ rfl T hT X
  refine ⟨t, ?_, q⟩
  have h1 := X.daloadOut hexec (by rw [hT]; exact hP q0 _ ha) ((hK.2 t0 _ ht).1 n (fun j => .double (f j))) (j := i) (by show (i < 0 ∨ (arrV _ _ _).slots.size ≤ _); rw [arrV_size]; exact Classical.byContradiction hout) (g := F0 m pc ls (.int i :: .ref a :: rest)) rfl (rest := rest) rfl (by rw [hb]; exact hdg) t
  simp only [arrV_size] at h1
  exact h1 st
theorem vx_dastZ {D : va_G} {cl : List vw_C} {ws : va_W} {tys : List (ClassId × FieldType)} {a : Nat} (hexec : p.tables.exec = Jvm.exec) (hb : c.code = cc) (hK : va_K D cl tys s) (hP : va_P D cl ws H) (q0 t0 : Nat) {cA : ClassId} {n : Nat} {f : Nat → UInt64} (ha : ws[q0]? = some (a, .inl (cA, n, .inr (.inr (.inr (.inl f)))))) (ht : tys[t0]? = some (cA, .double)) {i : Int32} {x : UInt64} (hout : ¬ vp_in i n) (hdg : decode cc pc = .ok (.dastore, 1))
    (k : ∀ tx : String, tx = (toString "Index " ++ toString i ++ toString " out of bounds for length " ++ toString n : String) → vx_Note p l e R s m args below meth c H locs cells slots Q (F0 m pc ls rest) "java/lang/ArrayIndexOutOfBoundsException" tx) : W p l e R s m args below meth c H locs cells slots Q (F0 m pc ls (.double x :: .int i :: .ref a :: rest)) := by
  intro T hT X
  obtain ⟨t, st, q⟩ := k _ rfl T hT X
  refine ⟨t, ?_, q⟩
  have h1 := X.dastoreOut hexec (by rw [hT]; exact hP q0 _ ha) ((hK.2 t0 _ ht).1 n (fun j => .double (f j))) (j := i) (by show (i < 0 ∨ (arrV _ _ _).slots.size ≤ _); rw [arrV_size]; exact Classical.byContradiction hout) (g := F0 m pc ls (.double x :: .int i :: .ref a :: rest)) rfl (rest := rest) rfl (by rw [hb]; exact hdg) t
  simp only [arrV_size] at h1
  exact h1 st
theorem vx_arraylengthN (hexec : p.tables.exec = Jvm.exec) (hb : c.code = cc) (hdg : decode cc pc = .ok (.arraylength, 1)) (k : vx_NoteN p l e R s m args below meth c H locs cells slots Q (F0 m pc ls rest)) : W p l e R s m args below meth c H locs cells slots Q (F0 m pc ls (.null :: rest)) := by
  intro T hT X
  obtain ⟨t, st, q⟩ := k T hT X
  exact ⟨t, X.arraylengthNull hexec (g := F0 m pc ls (.null :: rest)) rfl (rest := rest) rfl (by rw [hb]; exact hdg) t st, q⟩
theorem vx_ialoadN (hexec : p.tables.exec = Jvm.exec) (hb : c.code = cc) {i : Int32} (hdg : decode cc pc = .ok (.iaload, 1)) (k : vx_NoteN p l e R s m args below meth c H locs cells slots Q (F0 m pc ls rest)) : W p l e R s m args below meth c H locs cells slots Q (F0 m pc ls (.int i :: .null :: rest)) := by
  intro T hT X
  obtain ⟨t, st, q⟩ := k T hT X
  exact ⟨t, X.ialoadNull hexec (g := F0 m pc ls (.int i :: .null :: rest)) rfl (rest := rest) rfl (by rw [hb]; exact hdg) t st, q⟩
theorem vx_laloadN (hexec : p.tables.exec = Jvm.exec) (hb : c.code = cc) {i : Int32} (hdg : decode cc pc = .ok (.laload, 1)) (k : vx_NoteN p l e R s m args below meth c H locs cells slots Q (F0 m pc ls rest)) : W p l e R s m args below meth c H locs cells slots Q (F0 m pc ls (.int i :: .null :: rest)) := by
  intro T hT X
  obtain ⟨t, st, q⟩ := k T hT X
  exact ⟨t, X.laloadNull hexec (g := F0 m pc ls (.int i :: .null :: rest)) rfl (rest := rest) rfl (by rw [hb]; exact hdg) t st, q⟩
theorem vx_faloadN (hexec : p.tables.exec = Jvm.exec) (hb : c.code = cc) {i : Int32} (hdg : decode cc pc = .ok (.faload, 1)) (k : vx_NoteN p l e R s m args below meth c H locs cells slots Q (F0 m pc ls rest)) : W p l e R s m args below meth c H locs cells slots Q (F0 m pc ls (.int i :: .null :: rest)) := by
  intro T hT X
  obtain ⟨t, st, q⟩ := k T hT X
  exact ⟨t, X.faloadNull hexec (g := F0 m pc ls (.int i :: .null :: rest)) rfl (rest := rest) rfl (by rw [hb]; exact hdg) t st, q⟩
theorem vx_daloadN (hexec : p.tables.exec = Jvm.exec) (hb : c.code = cc) {i : Int32} (hdg : decode cc pc = .ok (.daload, 1)) (k : vx_NoteN p l e R s m args below meth c H locs cells slots Q (F0 m pc ls rest)) : W p l e R s m args below meth c H locs cells slots Q (F0 m pc ls (.int i :: .null :: rest)) := by
  intro T hT X
  obtain ⟨t, st, q⟩ := k T hT X
  exact ⟨t, X.daloadNull hexec (g := F0 m pc ls (.int i :: .null :: rest)) rfl (rest := rest) rfl (by rw [hb]; exact hdg) t st, q⟩
theorem vx_aaloadN (hexec : p.tables.exec = Jvm.exec) (hb : c.code = cc) {i : Int32} (hdg : decode cc pc = .ok (.aaload, 1)) (k : vx_NoteN p l e R s m args below meth c H locs cells slots Q (F0 m pc ls rest)) : W p l e R s m args below meth c H locs cells slots Q (F0 m pc ls (.int i :: .null :: rest)) := by
  intro T hT X
  obtain ⟨t, st, q⟩ := k T hT X
  exact ⟨t, X.aaloadNull hexec (g := F0 m pc ls (.int i :: .null :: rest)) rfl (rest := rest) rfl (by rw [hb]; exact hdg) t st, q⟩
theorem vx_baloadN (hexec : p.tables.exec = Jvm.exec) (hb : c.code = cc) {i : Int32} (hdg : decode cc pc = .ok (.baload, 1)) (k : vx_NoteN p l e R s m args below meth c H locs cells slots Q (F0 m pc ls rest)) : W p l e R s m args below meth c H locs cells slots Q (F0 m pc ls (.int i :: .null :: rest)) := by
  intro T hT X
  obtain ⟨t, st, q⟩ := k T hT X
  exact ⟨t, X.baloadNull hexec (g := F0 m pc ls (.int i :: .null :: rest)) rfl (rest := rest) rfl (by rw [hb]; exact hdg) t st, q⟩
theorem vx_caloadN (hexec : p.tables.exec = Jvm.exec) (hb : c.code = cc) {i : Int32} (hdg : decode cc pc = .ok (.caload, 1)) (k : vx_NoteN p l e R s m args below meth c H locs cells slots Q (F0 m pc ls rest)) : W p l e R s m args below meth c H locs cells slots Q (F0 m pc ls (.int i :: .null :: rest)) := by
  intro T hT X
  obtain ⟨t, st, q⟩ := k T hT X
  exact ⟨t, X.caloadNull hexec (g := F0 m pc ls (.int i :: .null :: rest)) rfl (rest := rest) rfl (by rw [hb]; exact hdg) t st, q⟩
theorem vx_saloadN (hexec : p.tables.exec = Jvm.exec) (hb : c.code = cc) {i : Int32} (hdg : decode cc pc = .ok (.saload, 1)) (k : vx_NoteN p l e R s m args below meth c H locs cells slots Q (F0 m pc ls rest)) : W p l e R s m args below meth c H locs cells slots Q (F0 m pc ls (.int i :: .null :: rest)) := by
  intro T hT X
  obtain ⟨t, st, q⟩ := k T hT X
  exact ⟨t, X.saloadNull hexec (g := F0 m pc ls (.int i :: .null :: rest)) rfl (rest := rest) rfl (by rw [hb]; exact hdg) t st, q⟩
theorem vx_iastoreN (hexec : p.tables.exec = Jvm.exec) (hb : c.code = cc) {x : Int32} {i : Int32} (hdg : decode cc pc = .ok (.iastore, 1)) (k : vx_NoteN p l e R s m args below meth c H locs cells slots Q (F0 m pc ls rest)) : W p l e R s m args below meth c H locs cells slots Q (F0 m pc ls (.int x :: .int i :: .null :: rest)) := by
  intro T hT X
  obtain ⟨t, st, q⟩ := k T hT X
  exact ⟨t, X.iastoreNull hexec (g := F0 m pc ls (.int x :: .int i :: .null :: rest)) rfl (rest := rest) rfl (by rw [hb]; exact hdg) t st, q⟩
theorem vx_lastoreN (hexec : p.tables.exec = Jvm.exec) (hb : c.code = cc) {x : Int64} {i : Int32} (hdg : decode cc pc = .ok (.lastore, 1)) (k : vx_NoteN p l e R s m args below meth c H locs cells slots Q (F0 m pc ls rest)) : W p l e R s m args below meth c H locs cells slots Q (F0 m pc ls (.long x :: .int i :: .null :: rest)) := by
  intro T hT X
  obtain ⟨t, st, q⟩ := k T hT X
  exact ⟨t, X.lastoreNull hexec (g := F0 m pc ls (.long x :: .int i :: .null :: rest)) rfl (rest := rest) rfl (by rw [hb]; exact hdg) t st, q⟩
theorem vx_fastoreN (hexec : p.tables.exec = Jvm.exec) (hb : c.code = cc) {x : UInt32} {i : Int32} (hdg : decode cc pc = .ok (.fastore, 1)) (k : vx_NoteN p l e R s m args below meth c H locs cells slots Q (F0 m pc ls rest)) : W p l e R s m args below meth c H locs cells slots Q (F0 m pc ls (.float x :: .int i :: .null :: rest)) := by
  intro T hT X
  obtain ⟨t, st, q⟩ := k T hT X
  exact ⟨t, X.fastoreNull hexec (g := F0 m pc ls (.float x :: .int i :: .null :: rest)) rfl (rest := rest) rfl (by rw [hb]; exact hdg) t st, q⟩
theorem vx_dastoreN (hexec : p.tables.exec = Jvm.exec) (hb : c.code = cc) {x : UInt64} {i : Int32} (hdg : decode cc pc = .ok (.dastore, 1)) (k : vx_NoteN p l e R s m args below meth c H locs cells slots Q (F0 m pc ls rest)) : W p l e R s m args below meth c H locs cells slots Q (F0 m pc ls (.double x :: .int i :: .null :: rest)) := by
  intro T hT X
  obtain ⟨t, st, q⟩ := k T hT X
  exact ⟨t, X.dastoreNull hexec (g := F0 m pc ls (.double x :: .int i :: .null :: rest)) rfl (rest := rest) rfl (by rw [hb]; exact hdg) t st, q⟩
theorem vx_bastoreN (hexec : p.tables.exec = Jvm.exec) (hb : c.code = cc) {x : Int32} {i : Int32} (hdg : decode cc pc = .ok (.bastore, 1)) (k : vx_NoteN p l e R s m args below meth c H locs cells slots Q (F0 m pc ls rest)) : W p l e R s m args below meth c H locs cells slots Q (F0 m pc ls (.int x :: .int i :: .null :: rest)) := by
  intro T hT X
  obtain ⟨t, st, q⟩ := k T hT X
  exact ⟨t, X.bastoreNull hexec (g := F0 m pc ls (.int x :: .int i :: .null :: rest)) rfl (rest := rest) rfl (by rw [hb]; exact hdg) t st, q⟩
theorem vx_castoreN (hexec : p.tables.exec = Jvm.exec) (hb : c.code = cc) {x : Int32} {i : Int32} (hdg : decode cc pc = .ok (.castore, 1)) (k : vx_NoteN p l e R s m args below meth c H locs cells slots Q (F0 m pc ls rest)) : W p l e R s m args below meth c H locs cells slots Q (F0 m pc ls (.int x :: .int i :: .null :: rest)) := by
  intro T hT X
  obtain ⟨t, st, q⟩ := k T hT X
  exact ⟨t, X.castoreNull hexec (g := F0 m pc ls (.int x :: .int i :: .null :: rest)) rfl (rest := rest) rfl (by rw [hb]; exact hdg) t st, q⟩
theorem vx_sastoreN (hexec : p.tables.exec = Jvm.exec) (hb : c.code = cc) {x : Int32} {i : Int32} (hdg : decode cc pc = .ok (.sastore, 1)) (k : vx_NoteN p l e R s m args below meth c H locs cells slots Q (F0 m pc ls rest)) : W p l e R s m args below meth c H locs cells slots Q (F0 m pc ls (.int x :: .int i :: .null :: rest)) := by
  intro T hT X
  obtain ⟨t, st, q⟩ := k T hT X
  exact ⟨t, X.sastoreNull hexec (g := F0 m pc ls (.int x :: .int i :: .null :: rest)) rfl (rest := rest) rfl (by rw [hb]; exact hdg) t st, q⟩
theorem vx_invokeN {own C : String} {index maxL : Nat} {y : MethodName} {bytes : ByteArray} {ret : Option FieldType} (hexec : p.tables.exec = Jvm.exec) (hb : c.code = cc) (hown : s.vm.findClass own = some m.cls) (hlink : (Cond.methodLink own index y).before args s = true) (hinst : (Cond.instanceMethod y).before args s = true) (hcode : (Cond.code y bytes maxL ret).before args s = true) (hsel : (Cond.selects C y y).before args s = true)
    (hx : y.cls ≠ "java/lang/invoke/MethodHandle" ∧ y.cls ≠ "java/lang/invoke/VarHandle") {As : List Value} (hlen : (parseMethodDescriptor y.desc).map (fun d => d.parameters.length) = some As.length) (hdg : decode cc pc = .ok (.invokevirtual index, 3))
    (k : vx_NoteN p l e R s m args below meth c H locs cells slots Q (F0 m pc ls rest)) {st0 : List Value} (hst : st0 = As.reverse ++ .null :: rest) : W p l e R s m args below meth c H locs cells slots Q (F0 m pc ls st0) := by
  intro T hT X
  obtain ⟨r0, r, hn, hrm, hstR, hsigR⟩ := va_Decl.of hinst hcode
  obtain ⟨c2, r2, m2, q1, q2, q3, q4, kP, hkP, hkPi⟩ := Cond.selects_spec hsel
  cases hn.symm.trans q3
  have hl9 : As.length = r.sig.parameters.length := by
    rw [hsigR] at hlen
    exact (Option.some.inj hlen).symm
  obtain ⟨vm', X1, st1⟩ := X.invokevirtualNull hexec hown hlink hn hrm hstR hkP hkPi hx (g := F0 m pc ls st0) rfl (argsL := As) (rest := rest) hl9 hst (by rw [hb]; exact hdg)
  obtain ⟨t, st, q⟩ := k (T.setVm vm') hT X1
  exact ⟨t, st1 t st, q⟩
theorem vx_newarrayZ {atype : ArrayType} (hexec : p.tables.exec = Jvm.exec) (hb : c.code = cc) {n : Int32} (h0 : n < 0) (hdg : decode cc pc = .ok (.newarray atype, 2)) (k : ∀ tx : String, tx = toString n → vx_Note p l e R s m args below meth c H locs cells slots Q (F0 m pc ls rest) "java/lang/NegativeArraySizeException" tx) : W p l e R s m args below meth c H locs cells slots Q (F0 m pc ls (.int n :: rest)) := by
  intro T hT X
  obtain ⟨t, st, q⟩ := k _ rfl T hT X
  exact ⟨t, X.newarrayNegative hexec (g := F0 m pc ls (.int n :: rest)) rfl h0 (rest := rest) rfl (by rw [hb]; exact hdg) t st, q⟩
end
end VXM
/-! ===== END ===== -/
/-! ===== BEGIN an exception as an object: made, kept, thrown later (no traces kept) ===== -/
section VXK
variable {p : Program} {l : Launch} {e : Env} {R : Room} {s : State} {m₀ : MethodId} {args : Array Value} {below : List Frame} {meth : Method} {c : Code} {W : State} {locs : List Loc} {cells slots : Nat}
set_option maxHeartbeats 1000000 in
theorem vx_ctorMadeS (X : Stand p l e R s m₀ args below meth c W locs cells slots) (hexec : p.tables.exec = Jvm.exec) (htr : e.platform.stackTraces = false) {own cls : String} {names : List String} {ic : Nat}
    (hown : s.vm.findClass own = some m₀.cls) (hcls : Bundle.fit cls = true) (hnames : ∀ n ∈ names, Bundle.fit n = true)
    (h : ∀ a ∈ Bundle.ownAtoms own ic cls names, a.before args s = true)
    (hlocs : ∀ x ∈ locs, ∀ cell, s.heap[x.base]? = some cell → cell.vm.isStatics = false)
    {a : Addr} {cX : ClassId} {kX : Class} (hfoundX : s.vm.findClass cls = some cX) (hkX : s.vm.classes[cX]? = some kX) (hcell : W.heap[a]? = some (freshCell cX kX)) (hnew : s.heap.size ≤ a)
    {msg : Value} (hmsg : msg.isRef = true)
    {g : JFrame} (hg : g.method = m₀) (hsize : g.locals.size = c.maxLocals) {rest : List Value} (hstack : g.stack = msg :: .ref a :: .ref a :: rest)
    (hd6 : decode c.code g.pc = .ok (.invokespecial ic, 3))
    (hRframes : names.length + 3 < R.frames) (hRlocals : 2 * g.monitorRoom + ((Value.ref a :: rest).map fun v => v.category).sum + (13 * (names.length + 1) + 42) ≤ R.locals) :
    ∃ (V : State) (ce : Cell) (L : List Loc), Stand p l e R s m₀ args below meth c (V.setCell a ce) (locs ++ L) cells slots ∧ (∀ y ∈ L, y.base = a) ∧ a < V.heap.size ∧ ce.cls = cX ∧ ce.vm = .none ∧
      ∀ target, Steps p.tables e below ((V.setCell a ce).setTop { g with stack := .ref a :: rest, pc := g.pc + 3 }) target → Steps p.tables e below (W.setTop g) target := by
  have howns : e.platform.frameOwnsMonitors = true := by rw [X.admits.platform]
  have hfin : e.platform.finalization = false := by rw [X.admits.platform]
  have hpl : e.platform.magicAccessors = ({} : Platform).magicAccessors := by rw [X.admits.platform]
  have a' : ∀ x, x ∈ Bundle.ownAtoms own ic cls names → x.holds args s none s [] = true := fun x hx => h x hx
  obtain ⟨T, Z0, L, -, Y⟩ := ThrowableC.of_atoms (args := args) howns hfin hpl (fun x hx => h x (by simp [Bundle.ownAtoms, hx]))
  obtain ⟨Z, M, LZ, LM, hnZ⟩ := Init0T.ofS_atoms (args := args) hpl L Y (fun x hx => h x (by simp [Bundle.ownAtoms, hx]))
  obtain ⟨P1, Ps, hlen, L1, hL, hP1m, hlink1, hlink⟩ := Bundle.chainS (args := args) hpl hnZ names cls hcls hnames (fun x hx => h x (by simp [Bundle.ownAtoms, hx]))
  have hfound : s.vm.findClass cls = some P1.m.cls := findClass_of_methodNamed hP1m
  cases Option.some.inj (hfoundX.symm.trans hfound)
  obtain ⟨c1, kX', hc1, hk, hord, -, -, hn6⟩ := Cond.instantiable_spec (a' (.instantiable cls 6) (by simp [Bundle.ownAtoms]))
  cases Option.some.inj (hc1.symm.trans hfound)
  cases Option.some.inj (hkX.symm.trans hk)
  have hsel0 : selectMethod e.platform s.vm P1.m.cls T.fill0 = .method T.fill0 := by
    obtain ⟨c2, r2, m2, q1, q2, q3, q4, -⟩ := Cond.selects_spec (a' (.selects cls Bundle.tFill0 Bundle.tFill0) (by simp [Bundle.ownAtoms]))
    cases Option.some.inj (q1.symm.trans hfound)
    cases Option.some.inj (q2.symm.trans (State.methodFound?_of_named Y.fill0 (by decide)))
    cases Option.some.inj (q3.symm.trans Y.fill0)
    rw [Launch.admits_selectMethod X.admits]; exact q4
  have hselF : selectMethod e.platform s.vm P1.m.cls T.fill = .method T.fill := by
    obtain ⟨c2, r2, m2, q1, q2, q3, q4, -⟩ := Cond.selects_spec (a' (.selects cls Bundle.tFill Bundle.tFill) (by simp [Bundle.ownAtoms]))
    cases Option.some.inj (q1.symm.trans hfound)
    cases Option.some.inj (q2.symm.trans (State.methodFound?_of_named Y.fill (by decide)))
    cases Option.some.inj (q3.symm.trans Y.fill)
    rw [Launch.admits_selectMethod X.admits]; exact q4
  obtain ⟨cellS0, hcS0, hiss⟩ := Y.statics
  obtain ⟨u0, hu0⟩ := Cond.staticRefV Y.unassigned L.unassignedStatic L.statics hcS0 hiss (a' (.isRef (.static Bundle.tN "UNASSIGNED_STACK" Bundle.steD)) (by simp [Bundle.ownAtoms]))
  obtain ⟨sen, hsen⟩ := Cond.staticRefV Y.sentinel L.sentinelStatic L.statics hcS0 hiss (a' (.isRef (.static Bundle.tN "SUPPRESSED_SENTINEL" Bundle.listD)) (by simp [Bundle.ownAtoms]))
  obtain ⟨ci198, i198, fB, hk198, hg198, ha198, hsB, -, hnB, htB, hffB⟩ := Cond.ownField (t := .object "java/lang/Object") Y.found L.cls (by decide +kernel) (a' (.fieldLink Bundle.tN 198 Bundle.tN "backtrace" "Ljava/lang/Object;") (by simp [Bundle.ownAtoms])) (a' (.lays Bundle.tN Bundle.tN "backtrace" "Ljava/lang/Object;") (by simp [Bundle.ownAtoms])) e.platform hpl
  obtain ⟨cellS, hcS', heS, -, hkeep⟩ := X.same.2.2.2.2.2 T.aS cellS0 hcS0
  have hcellS : W.heap[T.aS]? = some cellS := hcS'
  have hout' : ∀ i, (⟨T.aS, i⟩ : Loc) ∉ locs := fun i hmem => by
    have := hlocs _ hmem cellS0 hcS0
    rw [hiss] at this; cases this
  have hknownS : cellS.vm ≠ .unknown := by
    rw [heS]; intro hu
    rw [show cellS0.vm = .unknown from hu] at hiss
    cases hiss
  have hneS : T.aS ≠ a := Nat.ne_of_lt (Nat.lt_of_lt_of_le (Array.getElem?_eq_some_iff.mp hcS0).1 hnew)
  obtain ⟨iM, hffM⟩ := Y.msg
  obtain ⟨tyC, dC, hdC, hdnC⟩ := Cond.laysAt hfound hk Y.cause (a' (.lays cls Bundle.tN "cause" "Ljava/lang/Throwable;") (by simp [Bundle.ownAtoms]))
  obtain ⟨tyS, dS, hdS, hdnS⟩ := Cond.laysAt hfound hk Y.stack (a' (.lays cls Bundle.tN "stackTrace" Bundle.steD) (by simp [Bundle.ownAtoms]))
  obtain ⟨tyP, dP, hdP, hdnP⟩ := Cond.laysAt hfound hk Y.supp (a' (.lays cls Bundle.tN "suppressedExceptions" Bundle.listD) (by simp [Bundle.ownAtoms]))
  obtain ⟨tyM, dM, hdM, hdnM⟩ := Cond.laysAt hfound hk hffM (a' (.lays cls Bundle.tN "detailMessage" "Ljava/lang/String;") (by simp [Bundle.ownAtoms]))
  obtain ⟨tyB, dB, hdB, hdnB⟩ := Cond.laysAt hfound hk hffB (a' (.lays cls Bundle.tN "backtrace" "Ljava/lang/Object;") (by simp [Bundle.ownAtoms]))
  have bC := Cond.laysApart hdB hdC hdnB hdnC (by rw [hnB, Y.causeName]; decide)
  have bS := Cond.laysApart hdB hdS hdnB hdnS (by rw [hnB, Y.stackName]; decide)
  have bP := Cond.laysApart hdB hdP hdnB hdnP (by rw [hnB, Y.suppName]; decide)
  have hskip : SkipFacts T e.platform s (fun u => u) u0 ((preparedCellV T.toThrowableT (freshCell P1.m.cls kX) a u0 sen).withEntry W.cur) :=
    ⟨{ ci198 := ci198, i198 := i198, fBack := fB }, ⟨hk198, hg198, ha198, hsB⟩, by
      have := fresh_default (c := P1.m.cls) tyB
      rw [htB] at this
      simpa [preparedCellV, Cell.setSlot, Cell.withEntry, Array.getElem?_setIfInBounds, bC, bS, bP, bC.symm, bS.symm, bP.symm, defaultValue] using this, fun _ _ => rfl⟩
  obtain ⟨tm, methC, cdC, kC, vm₁, hnC, -, -, -, -, -, -, -, hW₁, st1⟩ := Steps.initColdS (tb := p.tables) (e := e) (below := below) (s := s) (U := W) X.here hexec X.warmed hpl hown (t := Bundle.initS cls) rfl rfl (Bundle.fit_spec hcls).2
    (a' (.methodLink own ic (Bundle.initS cls)) (by simp [Bundle.ownAtoms])) (h (.instanceMethod (Bundle.initS cls)) (by cases names <;> simp [Bundle.ownAtoms, Bundle.chainSAtoms, Bundle.passSAtoms])) (bytes := Bundle.six) (maxL := 2) (h (.code (Bundle.initS cls) Bundle.six 2 none) (by cases names <;> simp [Bundle.ownAtoms, Bundle.chainSAtoms, Bundle.passSAtoms]))
    (f := g) hg (a := a) (msg := msg) (rest := .ref a :: rest) hstack hd6
  cases Option.some.inj (hnC.symm.trans hP1m)
  have X₁ := X.noted hW₁
  obtain ⟨vm₂, X₂, st2⟩ := X₁.ctorMessageOffV hexec (g := { g with stack := .ref a :: rest }) hg hsize T L Z LZ M LM (P1 :: Ps)
    (fun P hP => by rcases List.mem_cons.mp hP with rfl | hP; exact L1; exact hL P hP) ⟨hlink1, hlink⟩ (u0 := u0) (sen := sen) (self := a) hmsg (cell := freshCell P1.m.cls kX) (cellS := cellS)
    hcell (fun _ => by simp) (by simp) rfl rfl hsel0 hselF hcellS hneS hknownS (by rw [hkeep _ (hout' _)]; exact hu0) (by rw [hkeep _ (hout' _)]; exact hsen)
    (Takes.of_laid hk hord tyC (by rw [Y.causeType]; rfl)) (Takes.of_laid hk hord tyS (by rw [Y.stackType]; exact fits_refV_array _ u0)) (Takes.of_laid hk hord tyP (by rw [Y.suppType]; exact fits_refV_object _ sen))
    (Takes.of_laid hk hord tyM (by rw [Y.msgType]; exact fits_refV_object _ ⟨msg, hmsg⟩)) Y.objLocals hskip htr [] hd6
    (by simp only [List.length_cons, hlen]; omega) (by simp only [List.length_cons, hlen]; exact hRlocals)
  have hlt : a < ((W.setVm vm₁).setVm vm₂).heap.size := (Array.getElem?_eq_some_iff.mp hcell).1
  refine ⟨(W.setVm vm₁).setVm vm₂, _, _, X₂, fun y hy => ?_, hlt, rfl, rfl, fun target hwalk => st1 _ (fun acts => ?_)⟩
  · simp only [List.mem_cons, List.not_mem_nil, or_false] at hy
    rcases hy with rfl | rfl | rfl | rfl | rfl <;> rfl
  · rw [doInvoke_state]
    exact st2 _ hwalk
set_option maxHeartbeats 1000000 in
theorem vx_ctorMade0 (X : Stand p l e R s m₀ args below meth c W locs cells slots) (hexec : p.tables.exec = Jvm.exec) (htr : e.platform.stackTraces = false) {own cls : String} {names : List String} {ic : Nat}
    (hown : s.vm.findClass own = some m₀.cls) (hcls : Bundle.fit cls = true) (hnames : ∀ n ∈ names, Bundle.fit n = true)
    (h : ∀ a ∈ Bundle.ownAtoms0 own ic cls names, a.before args s = true)
    (hlocs : ∀ x ∈ locs, ∀ cell, s.heap[x.base]? = some cell → cell.vm.isStatics = false)
    {a : Addr} {cX : ClassId} {kX : Class} (hfoundX : s.vm.findClass cls = some cX) (hkX : s.vm.classes[cX]? = some kX) (hcell : W.heap[a]? = some (freshCell cX kX)) (hnew : s.heap.size ≤ a)
    {g : JFrame} (hg : g.method = m₀) (hsize : g.locals.size = c.maxLocals) {rest : List Value} (hstack : g.stack = .ref a :: .ref a :: rest)
    (hd6 : decode c.code g.pc = .ok (.invokespecial ic, 3))
    (hRframes : names.length + 3 < R.frames) (hRlocals : 2 * g.monitorRoom + ((Value.ref a :: rest).map fun v => v.category).sum + (13 * (names.length + 1) + 41) ≤ R.locals) :
    ∃ (V : State) (ce : Cell) (L : List Loc), Stand p l e R s m₀ args below meth c (V.setCell a ce) (locs ++ L) cells slots ∧ (∀ y ∈ L, y.base = a) ∧ a < V.heap.size ∧ ce.cls = cX ∧ ce.vm = .none ∧
      ∀ target, Steps p.tables e below ((V.setCell a ce).setTop { g with stack := .ref a :: rest, pc := g.pc + 3 }) target → Steps p.tables e below (W.setTop g) target := by
  have howns : e.platform.frameOwnsMonitors = true := by rw [X.admits.platform]
  have hfin : e.platform.finalization = false := by rw [X.admits.platform]
  have hpl : e.platform.magicAccessors = ({} : Platform).magicAccessors := by rw [X.admits.platform]
  have a' : ∀ x, x ∈ Bundle.ownAtoms0 own ic cls names → x.holds args s none s [] = true := fun x hx => h x hx
  obtain ⟨T, Z, L, LZ, Y⟩ := ThrowableC.of_atoms (args := args) howns hfin hpl (fun x hx => h x (by simp [Bundle.ownAtoms0, hx]))
  obtain ⟨P1, Ps, hlen, L1, hL, hP1m, hlink1, hlink⟩ := Bundle.chain0 (args := args) hpl Y.init0 names cls hcls hnames (fun x hx => h x (by simp [Bundle.ownAtoms0, hx]))
  have hfound : s.vm.findClass cls = some P1.m.cls := findClass_of_methodNamed hP1m
  cases Option.some.inj (hfoundX.symm.trans hfound)
  obtain ⟨c1, kX', hc1, hk, hord, -, -, hn6⟩ := Cond.instantiable_spec (a' (.instantiable cls 6) (by simp [Bundle.ownAtoms0]))
  cases Option.some.inj (hc1.symm.trans hfound)
  cases Option.some.inj (hkX.symm.trans hk)
  have hsel0 : selectMethod e.platform s.vm P1.m.cls T.fill0 = .method T.fill0 := by
    obtain ⟨c2, r2, m2, q1, q2, q3, q4, -⟩ := Cond.selects_spec (a' (.selects cls Bundle.tFill0 Bundle.tFill0) (by simp [Bundle.ownAtoms0]))
    cases Option.some.inj (q1.symm.trans hfound)
    cases Option.some.inj (q2.symm.trans (State.methodFound?_of_named Y.fill0 (by decide)))
    cases Option.some.inj (q3.symm.trans Y.fill0)
    rw [Launch.admits_selectMethod X.admits]; exact q4
  have hselF : selectMethod e.platform s.vm P1.m.cls T.fill = .method T.fill := by
    obtain ⟨c2, r2, m2, q1, q2, q3, q4, -⟩ := Cond.selects_spec (a' (.selects cls Bundle.tFill Bundle.tFill) (by simp [Bundle.ownAtoms0]))
    cases Option.some.inj (q1.symm.trans hfound)
    cases Option.some.inj (q2.symm.trans (State.methodFound?_of_named Y.fill (by decide)))
    cases Option.some.inj (q3.symm.trans Y.fill)
    rw [Launch.admits_selectMethod X.admits]; exact q4
  obtain ⟨cellS0, hcS0, hiss⟩ := Y.statics
  obtain ⟨u0, hu0⟩ := Cond.staticRefV Y.unassigned L.unassignedStatic L.statics hcS0 hiss (a' (.isRef (.static Bundle.tN "UNASSIGNED_STACK" Bundle.steD)) (by simp [Bundle.ownAtoms0]))
  obtain ⟨sen, hsen⟩ := Cond.staticRefV Y.sentinel L.sentinelStatic L.statics hcS0 hiss (a' (.isRef (.static Bundle.tN "SUPPRESSED_SENTINEL" Bundle.listD)) (by simp [Bundle.ownAtoms0]))
  obtain ⟨ci198, i198, fB, hk198, hg198, ha198, hsB, -, hnB, htB, hffB⟩ := Cond.ownField (t := .object "java/lang/Object") Y.found L.cls (by decide +kernel) (a' (.fieldLink Bundle.tN 198 Bundle.tN "backtrace" "Ljava/lang/Object;") (by simp [Bundle.ownAtoms0])) (a' (.lays Bundle.tN Bundle.tN "backtrace" "Ljava/lang/Object;") (by simp [Bundle.ownAtoms0])) e.platform hpl
  obtain ⟨cellS, hcS', heS, -, hkeep⟩ := X.same.2.2.2.2.2 T.aS cellS0 hcS0
  have hcellS : W.heap[T.aS]? = some cellS := hcS'
  have hout' : ∀ i, (⟨T.aS, i⟩ : Loc) ∉ locs := fun i hmem => by
    have := hlocs _ hmem cellS0 hcS0
    rw [hiss] at this; cases this
  have hknownS : cellS.vm ≠ .unknown := by
    rw [heS]; intro hu
    rw [show cellS0.vm = .unknown from hu] at hiss
    cases hiss
  have hneS : T.aS ≠ a := Nat.ne_of_lt (Nat.lt_of_lt_of_le (Array.getElem?_eq_some_iff.mp hcS0).1 hnew)
  obtain ⟨iM, hffM⟩ := Y.msg
  obtain ⟨tyC, dC, hdC, hdnC⟩ := Cond.laysAt hfound hk Y.cause (a' (.lays cls Bundle.tN "cause" "Ljava/lang/Throwable;") (by simp [Bundle.ownAtoms0]))
  obtain ⟨tyS, dS, hdS, hdnS⟩ := Cond.laysAt hfound hk Y.stack (a' (.lays cls Bundle.tN "stackTrace" Bundle.steD) (by simp [Bundle.ownAtoms0]))
  obtain ⟨tyP, dP, hdP, hdnP⟩ := Cond.laysAt hfound hk Y.supp (a' (.lays cls Bundle.tN "suppressedExceptions" Bundle.listD) (by simp [Bundle.ownAtoms0]))
  obtain ⟨tyM, dM, hdM, hdnM⟩ := Cond.laysAt hfound hk hffM (a' (.lays cls Bundle.tN "detailMessage" "Ljava/lang/String;") (by simp [Bundle.ownAtoms0]))
  obtain ⟨tyB, dB, hdB, hdnB⟩ := Cond.laysAt hfound hk hffB (a' (.lays cls Bundle.tN "backtrace" "Ljava/lang/Object;") (by simp [Bundle.ownAtoms0]))
  have bC := Cond.laysApart hdB hdC hdnB hdnC (by rw [hnB, Y.causeName]; decide)
  have bS := Cond.laysApart hdB hdS hdnB hdnS (by rw [hnB, Y.stackName]; decide)
  have bP := Cond.laysApart hdB hdP hdnB hdnP (by rw [hnB, Y.suppName]; decide)
  have hskip : SkipFacts T e.platform s (fun u => u) u0 ((preparedCellV T.toThrowableT (freshCell P1.m.cls kX) a u0 sen).withEntry W.cur) :=
    ⟨{ ci198 := ci198, i198 := i198, fBack := fB }, ⟨hk198, hg198, ha198, hsB⟩, by
      have := fresh_default (c := P1.m.cls) tyB
      rw [htB] at this
      simpa [preparedCellV, Cell.setSlot, Cell.withEntry, Array.getElem?_setIfInBounds, bC, bS, bP, bC.symm, bS.symm, bP.symm, defaultValue] using this, fun _ _ => rfl⟩
  obtain ⟨tm, methC, cdC, kC, vm₁, hnC, -, -, -, -, -, -, -, hW₁, st1⟩ := Steps.initCold (tb := p.tables) (e := e) (below := below) (s := s) (U := W) X.here hexec X.warmed hpl hown (t := Bundle.init0 cls) rfl rfl (Bundle.fit_spec hcls).2
    (a' (.methodLink own ic (Bundle.init0 cls)) (by simp [Bundle.ownAtoms0])) (h (.instanceMethod (Bundle.init0 cls)) (by cases names <;> simp [Bundle.ownAtoms0, Bundle.chain0Atoms, Bundle.passAtoms])) (bytes := Bundle.five) (maxL := 1) (h (.code (Bundle.init0 cls) Bundle.five 1 none) (by cases names <;> simp [Bundle.ownAtoms0, Bundle.chain0Atoms, Bundle.passAtoms]))
    (f := g) hg (a := a) (rest := .ref a :: rest) hstack hd6
  cases Option.some.inj (hnC.symm.trans hP1m)
  have X₁ := X.noted hW₁
  obtain ⟨vm₂, X₂, st2⟩ := X₁.ctorPlainOffV hexec (g := { g with stack := .ref a :: rest }) hg hsize T L Z LZ (P1 :: Ps)
    (fun P hP => by rcases List.mem_cons.mp hP with rfl | hP; exact L1; exact hL P hP) ⟨hlink1, hlink⟩ (u0 := u0) (sen := sen) (self := a) (cell := freshCell P1.m.cls kX) (cellS := cellS)
    hcell (fun _ => by simp) (by simp) rfl rfl hsel0 hselF hcellS hneS hknownS (by rw [hkeep _ (hout' _)]; exact hu0) (by rw [hkeep _ (hout' _)]; exact hsen)
    (Takes.of_laid hk hord tyC (by rw [Y.causeType]; rfl)) (Takes.of_laid hk hord tyS (by rw [Y.stackType]; exact fits_refV_array _ u0)) (Takes.of_laid hk hord tyP (by rw [Y.suppType]; exact fits_refV_object _ sen)) Y.objLocals hskip htr [] hd6
    (by simp only [List.length_cons, hlen]; omega) (by simp only [List.length_cons, hlen]; exact hRlocals)
  have hlt : a < ((W.setVm vm₁).setVm vm₂).heap.size := (Array.getElem?_eq_some_iff.mp hcell).1
  refine ⟨(W.setVm vm₁).setVm vm₂, _, _, X₂, fun y hy => ?_, hlt, rfl, rfl, fun target hwalk => st1 _ (fun acts => ?_)⟩
  · simp only [List.mem_cons, List.not_mem_nil, or_false] at hy
    rcases hy with rfl | rfl | rfl | rfl <;> rfl
  · rw [doInvoke_state]
    exact st2 _ hwalk
end VXK
section VXK2
variable {p : Program} {l : Launch} {e : Env} {R : Room} {s : State} {m : MethodId} {args : Array Value} {below : List Frame} {meth : Method} {c : Code} {H : Heap} {locs : List Loc} {cells slots : Nat} {Q : State → Prop}
variable {ls : Array Slot} {rest : List Value} {D : va_G} {cl : List vw_C} {tys : List (ClassId × FieldType)} {ws : va_W}
/-- 'new E("text")' that isn't thrown at once: the object goes on the stack -/
theorem vx_makeS {cc : ByteArray} {pc : Nat} (hexec : p.tables.exec = Jvm.exec) (hb : c.code = cc) (hl : l.stackTraces = false) {own cls text : String} {names : List String} {ik is ic sa ci : Nat} {A : Nat → Prop} {T0 : u_T}
    (hown : s.vm.findClass own = some m.cls) (hcls : Bundle.fit cls = true) (hnames : ∀ n ∈ names, Bundle.fit n = true)
    (hk : (Cond.classLink own ik cls).before args s = true) (hini : (Cond.initialized cls).before args s = true) (hstr : vk_R own is text sa s) (hat : ∀ w ∈ vx_atS own ic cls names, w.before args s = true)
    (hgood : ∀ w ∈ Cond.classLink own ik cls :: Cond.initialized cls :: vx_atS own ic cls names, vx_ot w = true)
    (hU : vx_Zq Bundle.tN "UNASSIGNED_STACK" Bundle.steD A s s.heap) (hN : vx_Zq Bundle.tN "SUPPRESSED_SENTINEL" Bundle.listD A s s.heap) (hS : va_S A s.heap H locs) (hsize : ls.size = c.maxLocals)
    (d0 : decode cc pc = .ok (.new ik, 3)) (d3 : decode cc (pc + 3) = .ok (.dup, 1)) (d4 : decode cc (pc + 4) = .ok (.ldc is, 2)) (d6 : decode cc (pc + 6) = .ok (.invokespecial ic, 3))
    (hK : va_K D cl tys s) (hP : va_P D cl ws H) (hD : va_D A ws) (hA : ∀ q, s.heap.size ≤ q → A q) (hc : cl[ci]? = some (cls, T0, 0))
    (hRframes : names.length + 3 < R.frames) (hRlocals : (rest.map fun v => v.category).sum + (13 * (names.length + 1) + 43) ≤ R.locals) (hRcells : cells + 1 ≤ R.cells) (hRslots : slots + 6 ≤ R.slots)
    (kk : ∀ (q : Nat) (H1 : Heap), va_P D cl (ws ++ [(q, .inr (ci, []))]) H1 → va_D A (ws ++ [(q, .inr (ci, []))]) → va_S A s.heap H1 locs → W p l e R s m args below meth c H1 locs (cells + 1) (slots + 6) Q (F0 m (pc + 9) ls (.ref q :: rest))) :
    W p l e R s m args below meth c H locs cells slots Q (F0 m pc ls rest) := by
  intro T hT X
  subst hT
  have htr : e.platform.stackTraces = false := (show e.platform.stackTraces = l.stackTraces by rw [X.admits.platform]).trans hl
  have Y := vx_rebase X (R' := { frames := R.frames, locals := R.locals, cells := 1, slots := 6 }) (Nat.le_refl _) (Nat.le_refl _) hRcells hRslots
  obtain ⟨s', hA'⟩ : ∃ z, z = (T.setVm s.vm).setFrames (.invoking m args :: below) := ⟨_, rfl⟩
  rw [← hA'] at Y
  have hvm : s'.vm = s.vm := by rw [hA']; rfl
  have hhp : s'.heap = T.heap := by rw [hA']; rfl
  have hW0 : s.WarmedH s'.vm := by rw [hvm]; exact State.WarmedH.refl s
  have hat' : ∀ w ∈ vx_atS own ic cls names, w.before args s' = true := fun w hw => vx_ot_at hW0 hvm.symm (hgood w (List.mem_cons_of_mem _ (List.mem_cons_of_mem _ hw))) (hat w hw)
  have hk' : (Cond.classLink own ik cls).before args s' = true := vx_ot_at hW0 hvm.symm (hgood _ List.mem_cons_self) hk
  have hini' : (Cond.initialized cls).before args s' = true := vx_ot_at hW0 hvm.symm (hgood _ (List.mem_cons_of_mem _ List.mem_cons_self)) hini
  have hU' : vx_Zq Bundle.tN "UNASSIGNED_STACK" Bundle.steD A s' s'.heap := by rw [hhp]; exact vx_Zq.moved hW0.alike (hU.kept hS.2.1)
  have hN' : vx_Zq Bundle.tN "SUPPRESSED_SENTINEL" Bundle.listD A s' s'.heap := by rw [hhp]; exact vx_Zq.moved hW0.alike (hN.kept hS.2.1)
  have h : ∀ w ∈ Bundle.ownAtoms own ic cls names, w.before args s' = true := vx_own hat' (vx_isRefq hU'.1) (vx_isRefq hN'.1) hU'.2.word hN'.2.word
  have hown' : s'.vm.findClass own = some m.cls := by rw [hvm]; exact hown
  have hins : (Cond.instantiable cls 6).before args s' = true := h _ (by simp [Bundle.ownAtoms])
  obtain ⟨vm₁, cX, kX, hfX, hkX, -, -, X₁, st1⟩ := Y.newCold hexec (own := own) (C := cls) (index := ik) (n := 6) hown' hk' hins hini'
    (g := F0 m pc ls rest) rfl (by rw [hb]; exact d0) (Nat.le_refl _) (Nat.le_refl _)
  generalize hT1 : (T.setVm vm₁).pushCell { cls := cX, slots := kX.instanceTypes.map defaultValue, vm := .none } = T1 at X₁ st1
  have hcat : (Value.ref T.heap.size).category = 1 := rfl
  have hcellA : T1.heap[T.heap.size]? = some (freshCell cX kX) := by rw [← hT1]; exact State.heap_pushCell_size _ _
  have d3' : decode c.code (pc + 3) = .ok (.dup, 1) := by rw [hb]; exact d3
  have d4' : decode c.code (pc + 4) = .ok (.ldc is, 2) := by rw [hb]; exact d4
  have hstr' : vk_R own is text sa s' := vk_R.warm hW0 hstr
  obtain ⟨V, ce, L, Z, hL, hlt, hcl9, hvm9, st⟩ := vx_ctorMadeS X₁ hexec htr (own := own) (cls := cls) (names := names) (ic := ic) hown' hcls hnames h (fun x hx => nomatch hx) hfX hkX hcellA (by rw [hhp]; exact Nat.le_refl _) (msg := .ref sa) rfl
    (g := { method := m, pc := pc + 6, locals := ls, stack := .ref sa :: .ref T.heap.size :: .ref T.heap.size :: rest, locked := none }) rfl hsize (rest := rest) rfl
    (by rw [hb]; exact d6) hRframes (by simp only [List.map_cons, List.sum_cons, hcat]; omega)
  have Z0 := Stand.forget (locs := []) Z (fun y hy => by rw [hL y hy, hhp]; exact Nat.le_refl _)
  obtain ⟨f1, f2⟩ := vx_frame Z0.same
  rw [hhp] at f1 f2
  have hcid : ce.cls = D.1 ci := by
    rw [hcl9]
    have h1 := (hK.1 ci _ hc).2.1
    rw [hvm] at hfX
    exact Option.some.inj (hfX.symm.trans h1)
  have hh : (V.setCell T.heap.size ce).heap[T.heap.size]? = some ce := heapAt_setCell_self (s := V) ce hlt
  subst hA'
  have X5 := vx_back9 X Y Z0
  have X6 : Stand p l e R s m args below meth c (V.setCell T.heap.size ce) locs (cells + 1) (slots + 6) := { X5 with same := X5.same.mono (by omega) (by omega) }
  have hk9 : ∀ (k : Nat) (x : Nat × va_E), ws[k]? = some x → (V.setCell T.heap.size ce).heap[x.1]? = T.heap[x.1]? := fun k x hx => f2 x.1 ((hP k x hx).lt) (fun z hz => nomatch hz)
  obtain ⟨t, a1, b1⟩ := kk T.heap.size (V.setCell T.heap.size ce).heap ((hP.kept hk9).app (fun k x hx => by
      have hz : k < 1 := (List.getElem?_eq_some_iff.mp hx).1
      rw [show k = 0 by omega] at hx
      cases hx
      exact ⟨_, hc, ce, hh, hcid, hvm9, fun k hk => absurd hk (Nat.not_lt_zero k)⟩)) (hD.push hP rfl (hA _ hS.1)) ⟨Nat.le_trans hS.1 f1, fun q h1 h2 => (f2 q (Nat.lt_of_lt_of_le h1 hS.1) (fun z hz => nomatch hz)).trans (hS.2.1 q h1 h2), hS.2.2⟩ _ rfl X6
  refine ⟨t, st1 _ ?_, b1⟩
  show Steps p.tables e below (T1.setTop { method := m, pc := pc + 3, locals := ls, stack := .ref T.heap.size :: rest, locked := none }) _
  jvm_step X₁.here [X₁.here.top, hexec, d3', Value.category]
  exact X₁.ldcString hexec (own := own) (text := text) (index := is) (a := sa) hown' hstr'.1 hstr'.2
    (g := { method := m, pc := pc + 4, locals := ls, stack := .ref T.heap.size :: .ref T.heap.size :: rest, locked := none }) rfl d4' _ (st _ a1)
/-- 'new E()' that isn't thrown at once: the object goes on the stack -/
theorem vx_make0 {cc : ByteArray} {pc : Nat} (hexec : p.tables.exec = Jvm.exec) (hb : c.code = cc) (hl : l.stackTraces = false) {own cls : String} {names : List String} {ik ic ci : Nat} {A : Nat → Prop} {T0 : u_T}
    (hown : s.vm.findClass own = some m.cls) (hcls : Bundle.fit cls = true) (hnames : ∀ n ∈ names, Bundle.fit n = true)
    (hk : (Cond.classLink own ik cls).before args s = true) (hini : (Cond.initialized cls).before args s = true) (hat : ∀ w ∈ vx_at0 own ic cls names, w.before args s = true)
    (hgood : ∀ w ∈ Cond.classLink own ik cls :: Cond.initialized cls :: vx_at0 own ic cls names, vx_ot w = true)
    (hU : vx_Zq Bundle.tN "UNASSIGNED_STACK" Bundle.steD A s s.heap) (hN : vx_Zq Bundle.tN "SUPPRESSED_SENTINEL" Bundle.listD A s s.heap) (hS : va_S A s.heap H locs) (hsize : ls.size = c.maxLocals)
    (d0 : decode cc pc = .ok (.new ik, 3)) (d3 : decode cc (pc + 3) = .ok (.dup, 1)) (d4 : decode cc (pc + 4) = .ok (.invokespecial ic, 3))
    (hK : va_K D cl tys s) (hP : va_P D cl ws H) (hD : va_D A ws) (hA : ∀ q, s.heap.size ≤ q → A q) (hc : cl[ci]? = some (cls, T0, 0))
    (hRframes : names.length + 3 < R.frames) (hRlocals : (rest.map fun v => v.category).sum + (13 * (names.length + 1) + 42) ≤ R.locals) (hRcells : cells + 1 ≤ R.cells) (hRslots : slots + 6 ≤ R.slots)
    (kk : ∀ (q : Nat) (H1 : Heap), va_P D cl (ws ++ [(q, .inr (ci, []))]) H1 → va_D A (ws ++ [(q, .inr (ci, []))]) → va_S A s.heap H1 locs → W p l e R s m args below meth c H1 locs (cells + 1) (slots + 6) Q (F0 m (pc + 7) ls (.ref q :: rest))) :
    W p l e R s m args below meth c H locs cells slots Q (F0 m pc ls rest) := by
  intro T hT X
  subst hT
  have htr : e.platform.stackTraces = false := (show e.platform.stackTraces = l.stackTraces by rw [X.admits.platform]).trans hl
  have Y := vx_rebase X (R' := { frames := R.frames, locals := R.locals, cells := 1, slots := 6 }) (Nat.le_refl _) (Nat.le_refl _) hRcells hRslots
  obtain ⟨s', hA'⟩ : ∃ z, z = (T.setVm s.vm).setFrames (.invoking m args :: below) := ⟨_, rfl⟩
  rw [← hA'] at Y
  have hvm : s'.vm = s.vm := by rw [hA']; rfl
  have hhp : s'.heap = T.heap := by rw [hA']; rfl
  have hW0 : s.WarmedH s'.vm := by rw [hvm]; exact State.WarmedH.refl s
  have hat' : ∀ w ∈ vx_at0 own ic cls names, w.before args s' = true := fun w hw => vx_ot_at hW0 hvm.symm (hgood w (List.mem_cons_of_mem _ (List.mem_cons_of_mem _ hw))) (hat w hw)
  have hk' : (Cond.classLink own ik cls).before args s' = true := vx_ot_at hW0 hvm.symm (hgood _ List.mem_cons_self) hk
  have hini' : (Cond.initialized cls).before args s' = true := vx_ot_at hW0 hvm.symm (hgood _ (List.mem_cons_of_mem _ List.mem_cons_self)) hini
  have hU' : vx_Zq Bundle.tN "UNASSIGNED_STACK" Bundle.steD A s' s'.heap := by rw [hhp]; exact vx_Zq.moved hW0.alike (hU.kept hS.2.1)
  have hN' : vx_Zq Bundle.tN "SUPPRESSED_SENTINEL" Bundle.listD A s' s'.heap := by rw [hhp]; exact vx_Zq.moved hW0.alike (hN.kept hS.2.1)
  have h : ∀ w ∈ Bundle.ownAtoms0 own ic cls names, w.before args s' = true := vx_own hat' (vx_isRefq hU'.1) (vx_isRefq hN'.1) hU'.2.word hN'.2.word
  have hown' : s'.vm.findClass own = some m.cls := by rw [hvm]; exact hown
  have hins : (Cond.instantiable cls 6).before args s' = true := h _ (by simp [Bundle.ownAtoms0])
  obtain ⟨vm₁, cX, kX, hfX, hkX, -, -, X₁, st1⟩ := Y.newCold hexec (own := own) (C := cls) (index := ik) (n := 6) hown' hk' hins hini'
    (g := F0 m pc ls rest) rfl (by rw [hb]; exact d0) (Nat.le_refl _) (Nat.le_refl _)
  generalize hT1 : (T.setVm vm₁).pushCell { cls := cX, slots := kX.instanceTypes.map defaultValue, vm := .none } = T1 at X₁ st1
  have hcat : (Value.ref T.heap.size).category = 1 := rfl
  have hcellA : T1.heap[T.heap.size]? = some (freshCell cX kX) := by rw [← hT1]; exact State.heap_pushCell_size _ _
  have d3' : decode c.code (pc + 3) = .ok (.dup, 1) := by rw [hb]; exact d3
  obtain ⟨V, ce, L, Z, hL, hlt, hcl9, hvm9, st⟩ := vx_ctorMade0 X₁ hexec htr (own := own) (cls := cls) (names := names) (ic := ic) hown' hcls hnames h (fun x hx => nomatch hx) hfX hkX hcellA (by rw [hhp]; exact Nat.le_refl _)
    (g := { method := m, pc := pc + 4, locals := ls, stack := .ref T.heap.size :: .ref T.heap.size :: rest, locked := none }) rfl hsize (rest := rest) rfl
    (by rw [hb]; exact d4) hRframes (by simp only [List.map_cons, List.sum_cons, hcat]; omega)
  have Z0 := Stand.forget (locs := []) Z (fun y hy => by rw [hL y hy, hhp]; exact Nat.le_refl _)
  obtain ⟨f1, f2⟩ := vx_frame Z0.same
  rw [hhp] at f1 f2
  have hcid : ce.cls = D.1 ci := by
    rw [hcl9]
    have h1 := (hK.1 ci _ hc).2.1
    rw [hvm] at hfX
    exact Option.some.inj (hfX.symm.trans h1)
  have hh : (V.setCell T.heap.size ce).heap[T.heap.size]? = some ce := heapAt_setCell_self (s := V) ce hlt
  subst hA'
  have X5 := vx_back9 X Y Z0
  have X6 : Stand p l e R s m args below meth c (V.setCell T.heap.size ce) locs (cells + 1) (slots + 6) := { X5 with same := X5.same.mono (by omega) (by omega) }
  have hk9 : ∀ (k : Nat) (x : Nat × va_E), ws[k]? = some x → (V.setCell T.heap.size ce).heap[x.1]? = T.heap[x.1]? := fun k x hx => f2 x.1 ((hP k x hx).lt) (fun z hz => nomatch hz)
  obtain ⟨t, a1, b1⟩ := kk T.heap.size (V.setCell T.heap.size ce).heap ((hP.kept hk9).app (fun k x hx => by
      have hz : k < 1 := (List.getElem?_eq_some_iff.mp hx).1
      rw [show k = 0 by omega] at hx
      cases hx
      exact ⟨_, hc, ce, hh, hcid, hvm9, fun k hk => absurd hk (Nat.not_lt_zero k)⟩)) (hD.push hP rfl (hA _ hS.1)) ⟨Nat.le_trans hS.1 f1, fun q h1 h2 => (f2 q (Nat.lt_of_lt_of_le h1 hS.1) (fun z hz => nomatch hz)).trans (hS.2.1 q h1 h2), hS.2.2⟩ _ rfl X6
  refine ⟨t, st1 _ ?_, b1⟩
  show Steps p.tables e below (T1.setTop { method := m, pc := pc + 3, locals := ls, stack := .ref T.heap.size :: rest, locked := none }) _
  jvm_step X₁.here [X₁.here.top, hexec, d3', Value.category]
  exact st _ a1
/-- 'throw x' of an object that was made before -/
theorem vx_athrow {cc : ByteArray} {pc : Nat} (hexec : p.tables.exec = Jvm.exec) (hb : c.code = cc) {q : Addr} (hdg : decode cc pc = .ok (.athrow, 1)) (k : vx_W p l e R s m args below meth c H locs cells slots Q (F0 m pc ls rest) q) : W p l e R s m args below meth c H locs cells slots Q (F0 m pc ls (.ref q :: rest)) := by
  intro T hT X
  obtain ⟨t, st, hq⟩ := k T hT X
  refine ⟨t, ?_, hq⟩
  have hdg' : decode c.code pc = .ok (.athrow, 1) := by rw [hb]; exact hdg
  jvm_step X.here [X.here.top, hexec, hdg', athrow.wp_sem]
  exact st
end VXK2
/-! ===== END ===== -/
/-! ===== BEGIN a constructor that throws (launches without stack traces) ===== -/
section VXIA
variable {p : Program} {l : Launch} {e : Env} {R : Room} {s : State} {m : MethodId} {args : Array Value} {below : List Frame} {meth : Method} {c : Code} {T : State} {locs : List Loc} {cells slots : Nat}
theorem vx_callI (X : Stand p l e R s m args below meth c T locs cells slots) (hexec : p.tables.exec = Jvm.exec) {own : String} {index : Nat} {y : MethodName} {bytes : ByteArray} {maxL : Nat}
    (hown : s.vm.findClass own = some m.cls) (hy1 : y.name = "<init>") (hlink : (Cond.methodLink own index y).before args s = true) (hinst : (Cond.instanceMethod y).before args s = true)
    (hcode : (Cond.code y bytes maxL none).before args s = true) (hy : y.cls ≠ "java/lang/invoke/MethodHandle" ∧ y.cls ≠ "java/lang/invoke/VarHandle")
    {W9 : Nat} {Pre : Pt → Array Value → Prop} {Post : Pt → Array Value → Option Value → Pt → Prop} {PostX : Pt → Array Value → Addr → Pt → Prop} (hK : vx_Back l R p e below s args y 3 W9 Pre Post PostX)
    {g : JFrame} (hg : g.method = m) (hsize : g.locals.size = c.maxLocals) {a : Addr} {argsL rest : List Value} (hlen : ∀ sig, parseMethodDescriptor y.desc = some sig → argsL.length = sig.parameters.length)
    (hstack : g.stack = argsL.reverse ++ .ref a :: rest) (hW : 2 * g.monitorRoom + (rest.map fun v => v.category).sum ≤ W9) (hdg : decode c.code g.pc = .ok (.invokespecial index, 3))
    (hpre : ∀ vm₁, s.WarmedH vm₁ → Pre ⟨T.setVm vm₁, locs, cells, slots⟩ (Value.ref a :: argsL).toArray) :
    (∃ (v : Option Value) (vm₁ : Vm) (B : Pt), s.WarmedH vm₁ ∧ Stand p l e R s m args below meth c B.U B.locs B.cells B.slots ∧ Post ⟨T.setVm vm₁, locs, cells, slots⟩ (Value.ref a :: argsL).toArray v B ∧
      ∀ target, Steps p.tables e below (B.U.setTop { g with pc := g.pc + 3, stack := v.toList ++ rest }) target → Steps p.tables e below (T.setTop g) target) ∨
    (∃ (q : Addr) (vm₁ : Vm) (B : Pt), s.WarmedH vm₁ ∧ Stand p l e R s m args below meth c B.U B.locs B.cells B.slots ∧ PostX ⟨T.setVm vm₁, locs, cells, slots⟩ (Value.ref a :: argsL).toArray q B ∧
      Steps p.tables e below (T.setTop g) ((B.U.setTop { g with stack := rest }).pushFrame (.throwing q))) := by
  subst hg
  have hpl : e.platform.magicAccessors = ({} : Platform).magicAccessors := by rw [X.admits.platform]
  obtain ⟨mk, methM, cM, kP, vm₁, hnamed, hmethM, hcodeM, -, hlocalsM, -, hkP, -, hW₁, hstep₁⟩ := Steps.initColdArgs (e := e) X.here hexec X.warmed hpl hown hy1 hy hlink hinst hcode (f := g) rfl hlen hstack hdg
  have X₁ := X.noted hW₁
  rcases hK g.method meth c ⟨T.setVm vm₁, locs, cells, slots⟩ { g with stack := rest } (.invokespecial index) mk (Value.ref a :: argsL).toArray X₁ rfl hsize hdg hW (X₁.named hnamed) (hpre vm₁ X₁.warmed) with ⟨v, B, X', hpost, hsteps⟩ | ⟨q, B, X', hpost, hsteps⟩
  · exact Or.inl ⟨v, vm₁, B, X₁.warmed, X', hpost, fun target h => hstep₁ _ fun acts => by rw [doInvoke_state]; exact hsteps.trans h⟩
  · exact Or.inr ⟨q, vm₁, B, X₁.warmed, X', hpost, hstep₁ _ fun acts => by rw [doInvoke_state]; exact hsteps⟩
end VXIA
section VXIB
variable {p : Program} {l : Launch} {e : Env} {R : Room} {s : State} {m : MethodId} {args : Array Value} {below : List Frame} {meth : Method} {c : Code} {H : Heap} {locs : List Loc} {cells slots : Nat}
variable {y : MethodName} {bytes cc : ByteArray} {maxL nL mc ms n index : Nat} {ret : Option FieldType} {ws : List Cond} {rm : Room} {Pc : Array Value → State → Prop} {Qc : Array Value → State → Outcome → State → Prop} {XC : String → State → State → Prop} {free : Addr → Prop} {Ts : List Cond} {own C : String} {b : Addr} {As rest : List Value} {g : JFrame}
theorem vx_runI (S : CallFix p m c cc nL s args Ts own) (hM : vx_Met l y ws rm Pc Qc XC mc ms free) (cw : CallB R s args own index y bytes maxL none ws rm mc ms n ∧ y.name = "<init>" ∧ (Cond.instanceMethod y).before args s = true) (hp : PreS s H Pc (.ref b :: As))
    (hg : g.method = m) (hn : As.length = n) (hsize : g.locals.size = nL) (hstack : g.stack = As.reverse ++ .ref b :: rest) (hW : 2 * g.monitorRoom + (rest.map fun v => v.category).sum ≤ 8) (hdg : decode cc g.pc = .ok (.invokespecial index, 3)) (hf : cells + mc ≤ R.cells ∧ slots + ms ≤ R.slots) :
    vx_Run p l e R s m args below meth c H locs cells slots mc ms g rest (Qc (Value.ref b :: As).toArray) XC free := by
  have hK : vx_Back l R p e below s args y 3 8 (PreOf R mc ms Pc) (PostOf Qc mc ms free) (vx_Post XC mc ms free) := vx_callBack cw.1 hM hp.1
  obtain ⟨⟨-, -, -, -, -, -, hcode, -, hy, hlen, hl⟩, hy1, hin⟩ := cw
  obtain ⟨hx, hb, hml, ho, -⟩ := S
  have hPc := hp.2
  intro T hT X
  rcases vx_callI X hx (bytes := bytes) (maxL := maxL) ho hy1 hl hin hcode hy hK hg (hsize.trans hml.symm) (a := b) (argsL := As) (rest := rest) (fun sig h => hn.trans (hlen sig h)) hstack hW (by rw [hb]; exact hdg)
    (fun vm₁ hW₁ => ⟨hf.1, hf.2, hPc (T.setVm vm₁) hT hW₁⟩) with ⟨v, vm₁, ⟨U', l2, c2, s2⟩, hW₁, X', ⟨g', mk, t, L, e1, e2, hq, h1, hL, h2, h3⟩, st⟩ | ⟨q, vm₁, ⟨U', l2, c2, s2⟩, hW₁, X', ⟨g', mk, t, L, E, ce, e1, e2, hq, hce, hcv, hcl, h1, hL, h2, h3⟩, st⟩
  · dsimp only [Pt.U, Pt.locs, Pt.cells, Pt.slots] at X' e1 e2 h1 h2 h3 st
    subst h1; subst h2; subst h3
    exact Or.inl ⟨v, (T.setVm vm₁).calling g' mk (Value.ref b :: As).toArray, t, U', L, hT, X', hL, e1, e2, hq, st⟩
  · dsimp only [Pt.U, Pt.locs, Pt.cells, Pt.slots] at X' e1 e2 h1 h2 h3 st hcl
    subst h1; subst h2; subst h3
    exact Or.inr ⟨q, (T.setVm vm₁).calling g' mk (Value.ref b :: As).toArray, t, U', L, E, ce, hT, X', hL, e1, e2, hq, hce, hcv, vx_cls hW₁ hcl, st⟩
end VXIB
/-! ===== END ===== -/
/-! ===== BEGIN a private constructor of a nest mate that throws ===== -/
section VXIC
variable {p : Program} {l : Launch} {e : Env} {R : Room} {s : State} {m : MethodId} {args : Array Value} {below : List Frame} {meth : Method} {c : Code} {T : State} {locs : List Loc} {cells slots : Nat}
theorem vx_callIN (X : Stand p l e R s m args below meth c T locs cells slots) (hexec : p.tables.exec = Jvm.exec) {own : String} {index : Nat} {host : String} {y : MethodName} {bytes : ByteArray} {maxL : Nat}
    (hown : s.vm.findClass own = some m.cls) (hy1 : y.name = "<init>") (hlink : (Cond.methodLinkNest own index y host).before args s = true) (hinst : (Cond.instanceMethod y).before args s = true)
    (hcode : (Cond.code y bytes maxL none).before args s = true) (hy : y.cls ≠ "java/lang/invoke/MethodHandle" ∧ y.cls ≠ "java/lang/invoke/VarHandle")
    {W9 : Nat} {Pre : Pt → Array Value → Prop} {Post : Pt → Array Value → Option Value → Pt → Prop} {PostX : Pt → Array Value → Addr → Pt → Prop} (hK : vx_Back l R p e below s args y 3 W9 Pre Post PostX)
    {g : JFrame} (hg : g.method = m) (hsize : g.locals.size = c.maxLocals) {a : Addr} {argsL rest : List Value} (hlen : ∀ sig, parseMethodDescriptor y.desc = some sig → argsL.length = sig.parameters.length)
    (hstack : g.stack = argsL.reverse ++ .ref a :: rest) (hW : 2 * g.monitorRoom + (rest.map fun v => v.category).sum ≤ W9) (hdg : decode c.code g.pc = .ok (.invokespecial index, 3))
    (hpre : ∀ vm₁, s.WarmedH vm₁ → Pre ⟨T.setVm vm₁, locs, cells, slots⟩ (Value.ref a :: argsL).toArray) :
    (∃ (v : Option Value) (vm₁ : Vm) (B : Pt), s.WarmedH vm₁ ∧ Stand p l e R s m args below meth c B.U B.locs B.cells B.slots ∧ Post ⟨T.setVm vm₁, locs, cells, slots⟩ (Value.ref a :: argsL).toArray v B ∧
      ∀ target, Steps p.tables e below (B.U.setTop { g with pc := g.pc + 3, stack := v.toList ++ rest }) target → Steps p.tables e below (T.setTop g) target) ∨
    (∃ (q : Addr) (vm₁ : Vm) (B : Pt), s.WarmedH vm₁ ∧ Stand p l e R s m args below meth c B.U B.locs B.cells B.slots ∧ PostX ⟨T.setVm vm₁, locs, cells, slots⟩ (Value.ref a :: argsL).toArray q B ∧
      Steps p.tables e below (T.setTop g) ((B.U.setTop { g with stack := rest }).pushFrame (.throwing q))) := by
  subst hg
  have hpl : e.platform.magicAccessors = ({} : Platform).magicAccessors := by rw [X.admits.platform]
  obtain ⟨mk, methM, cM, kP, vm₁, hnamed, hmethM, hcodeM, -, hlocalsM, -, hkP, -, hW₁, hstep₁⟩ := Steps.initColdArgsNest (e := e) X.here hexec X.warmed hpl hown hy1 hy hlink hinst hcode (f := g) rfl hlen hstack hdg
  have X₁ := X.noted hW₁
  rcases hK g.method meth c ⟨T.setVm vm₁, locs, cells, slots⟩ { g with stack := rest } (.invokespecial index) mk (Value.ref a :: argsL).toArray X₁ rfl hsize hdg hW (X₁.named hnamed) (hpre vm₁ X₁.warmed) with ⟨v, B, X', hpost, hsteps⟩ | ⟨q, B, X', hpost, hsteps⟩
  · exact Or.inl ⟨v, vm₁, B, X₁.warmed, X', hpost, fun target h => hstep₁ _ fun acts => by rw [doInvoke_state]; exact hsteps.trans h⟩
  · exact Or.inr ⟨q, vm₁, B, X₁.warmed, X', hpost, hstep₁ _ fun acts => by rw [doInvoke_state]; exact hsteps⟩
end VXIC
section VXID
variable {p : Program} {l : Launch} {e : Env} {R : Room} {s : State} {m : MethodId} {args : Array Value} {below : List Frame} {meth : Method} {c : Code} {H : Heap} {locs : List Loc} {cells slots : Nat}
theorem vx_runIN {y : MethodName} {bytes cc : ByteArray} {maxL nL mc ms n index : Nat} {ws : List Cond} {rm : Room} {Pc : Array Value → State → Prop} {Qc : Array Value → State → Outcome → State → Prop} {XC : String → State → State → Prop} {free : Addr → Prop} {Ts : List Cond} {own host : String} {b : Addr} {As rest : List Value} {g : JFrame}
    (S : CallFix p m c cc nL s args Ts own) (hM : vx_Met l y ws rm Pc Qc XC mc ms free) (cw : va_CN R s args own index y host bytes maxL none ws rm mc ms n ∧ y.name = "<init>" ∧ (Cond.instanceMethod y).before args s = true) (hp : PreS s H Pc (.ref b :: As))
    (hg : g.method = m) (hn : As.length = n) (hsize : g.locals.size = nL) (hstack : g.stack = As.reverse ++ .ref b :: rest) (hW : 2 * g.monitorRoom + (rest.map fun v => v.category).sum ≤ 8) (hdg : decode cc g.pc = .ok (.invokespecial index, 3)) (hf : cells + mc ≤ R.cells ∧ slots + ms ≤ R.slots) :
    vx_Run p l e R s m args below meth c H locs cells slots mc ms g rest (Qc (Value.ref b :: As).toArray) XC free := by
  obtain ⟨⟨⟨hrc, hrs, hfr, hlo, hws, hcw⟩, hcode, hini, hy, hlen, hl⟩, hx1, hx2⟩ := cw
  have hK : vx_Back l R p e below s args y 3 8 (PreOf R mc ms Pc) (PostOf Qc mc ms free) (vx_Post XC mc ms free) := vx_back (bytes := bytes) (maxL := maxL) (ret := none) hM hp.1 hrc hrs hfr hlo hws hcw (fun a' U hW => word_at hW (Or.inl (by first | rfl | simp [Cond.onTables, Cond.keeps, Cond.steady])) hini)
  obtain ⟨hx, hb, hml, ho, -⟩ := S
  have hPc := hp.2
  intro T hT X
  rcases vx_callIN X hx (bytes := bytes) (maxL := maxL) ho hx1 hl hx2 hcode hy hK hg (hsize.trans hml.symm) (a := b) (argsL := As) (rest := rest) (fun sig h => hn.trans (hlen sig h)) hstack hW (by rw [hb]; exact hdg)
    (fun vm₁ hW₁ => ⟨hf.1, hf.2, hPc (T.setVm vm₁) hT hW₁⟩) with ⟨v, vm₁, ⟨U', l2, c2, s2⟩, hW₁, X', ⟨g', mk, t, L, e1, e2, hq, h1, hL, h2, h3⟩, st⟩ | ⟨q, vm₁, ⟨U', l2, c2, s2⟩, hW₁, X', ⟨g', mk, t, L, E, ce, e1, e2, hq, hce, hcv, hcl, h1, hL, h2, h3⟩, st⟩
  · dsimp only [Pt.U, Pt.locs, Pt.cells, Pt.slots] at X' e1 e2 h1 h2 h3 st
    subst h1; subst h2; subst h3
    exact Or.inl ⟨v, (T.setVm vm₁).calling g' mk (Value.ref b :: As).toArray, t, U', L, hT, X', hL, e1, e2, hq, st⟩
  · dsimp only [Pt.U, Pt.locs, Pt.cells, Pt.slots] at X' e1 e2 h1 h2 h3 st hcl
    subst h1; subst h2; subst h3
    exact Or.inr ⟨q, (T.setVm vm₁).calling g' mk (Value.ref b :: As).toArray, t, U', L, E, ce, hT, X', hL, e1, e2, hq, hce, hcv, vx_cls hW₁ hcl, st⟩
end VXID
/-! ===== END ===== -/
/-! ===== BEGIN a method of a class above, found by the receiver, that may throw (follows va_callVU, va_runU of this kit) ===== -/
section
variable {p : Program} {l : Launch} {e : Env} {R : Room} {s : State} {m : MethodId} {args : Array Value} {below : List Frame} {meth : Method} {c : Code} {H : Heap} {locs : List Loc} {cells slots : Nat}
theorem vx_callVU {T : State} {locs : List Loc} {cells slots : Nat} (X : Stand p l e R s m args below meth c T locs cells slots) (hexec : p.tables.exec = Jvm.exec) {own C owner : String} {index : Nat} {x y : MethodName} {bytes : ByteArray} {maxL : Nat} {ret : Option FieldType}
    (hown : s.vm.findClass own = some m.cls) (hlink : (Cond.methodLink own index x).before args s = true) (hsame : (Cond.sameMethod x.cls owner x.name x.desc).before args s = true)
    (hd0 : va_Decl s ⟨owner, x.name, x.desc⟩) (howner : owner ≠ "java/lang/invoke/MethodHandle" ∧ owner ≠ "java/lang/invoke/VarHandle")
    (hsel : (Cond.selects C x y).before args s = true) (hinst : (Cond.instanceMethod y).before args s = true) (hcode : (Cond.code y bytes maxL ret).before args s = true)
    {W : Nat} {Pre : Pt → Array Value → Prop} {Post : Pt → Array Value → Option Value → Pt → Prop} {PostX : Pt → Array Value → Addr → Pt → Prop} (hK : vx_Back l R p e below s args y 3 W Pre Post PostX)
    {b : Addr} {cellB : Cell} (hcell : T.heap[b]? = some cellB) (hobj : cellB.vm.isStatics = false) (hcls : s.vm.findClass C = some cellB.cls)
    {g : JFrame} (hg : g.method = m) (hsize : g.locals.size = c.maxLocals) {argsL rest : List Value} (hlen : ∀ sig, parseMethodDescriptor x.desc = some sig → argsL.length = sig.parameters.length)
    (hstack : g.stack = argsL.reverse ++ .ref b :: rest) (hW : 2 * g.monitorRoom + (rest.map fun v => v.category).sum ≤ W) (hdg : decode c.code g.pc = .ok (.invokevirtual index, 3))
    (hpre : ∀ vm₁, s.WarmedH vm₁ → Pre ⟨T.setVm vm₁, locs, cells, slots⟩ (Value.ref b :: argsL).toArray) :
    (∃ (v : Option Value) (vm₁ : Vm) (B : Pt), s.WarmedH vm₁ ∧ Stand p l e R s m args below meth c B.U B.locs B.cells B.slots ∧ Post ⟨T.setVm vm₁, locs, cells, slots⟩ (Value.ref b :: argsL).toArray v B ∧
      ∀ target, Steps p.tables e below (B.U.setTop { g with pc := g.pc + 3, stack := v.toList ++ rest }) target → Steps p.tables e below (T.setTop g) target) ∨
    (∃ (q : Addr) (vm₁ : Vm) (B : Pt), s.WarmedH vm₁ ∧ Stand p l e R s m args below meth c B.U B.locs B.cells B.slots ∧ PostX ⟨T.setVm vm₁, locs, cells, slots⟩ (Value.ref b :: argsL).toArray q B ∧
      Steps p.tables e below (T.setTop g) ((B.U.setTop { g with stack := rest }).pushFrame (.throwing q))) := by
  obtain ⟨r0, r, hn, hrm, hstR, hsigR⟩ := hd0
  obtain ⟨cn, ck, r1, hcn, hck, hni, hf, hn1⟩ := Cond.sameMethod_found hsame
  cases hn.symm.trans hn1
  obtain ⟨mk, methM, hnamed, hmethM, -, habM⟩ := Cond.instanceMethod_spec hinst
  obtain ⟨c2, r2, m2, q1, q2, q3, q4, kP, hkP, hkPi⟩ := Cond.selects_spec hsel
  cases hcls.symm.trans q1
  cases hf.symm.trans q2
  cases hnamed.symm.trans q3
  have hselP : selectMethod e.platform s.vm cellB.cls r0 = .method mk := by rw [Launch.admits_selectMethod X.admits]; exact q4
  obtain ⟨vm₁, X₁, hstep₁⟩ := X.invokevirtualUp hexec hown hlink hsame howner hn hrm hstR (a := b) (cell := cellB) hcell
    (fun z h => by rw [h] at hobj; cases hobj) hselP hmethM habM hkP hkPi (g := g) hg (argsL := argsL) (rest := rest) (hlen _ hsigR) hstack hdg
  rcases hK m meth c ⟨T.setVm vm₁, locs, cells, slots⟩ { g with stack := rest } (.invokevirtual index) mk (Value.ref b :: argsL).toArray X₁ hg hsize hdg hW (X₁.named hnamed) (hpre vm₁ X₁.warmed) with ⟨v, B, X', hpost, hsteps⟩ | ⟨q, B, X', hpost, hsteps⟩
  · exact Or.inl ⟨v, vm₁, B, X₁.warmed, X', hpost, fun target h => hstep₁ _ fun acts => by rw [doInvoke_state]; exact hsteps.trans h⟩
  · exact Or.inr ⟨q, vm₁, B, X₁.warmed, X', hpost, hstep₁ _ fun acts => by rw [doInvoke_state]; exact hsteps⟩
theorem vx_runU {x y : MethodName} {bytes cc : ByteArray} {maxL nL mc ms n index : Nat} {ret : Option FieldType} {ws : List Cond} {rm : Room} {Pc : Array Value → State → Prop} {Qc : Array Value → State → Outcome → State → Prop} {XC : String → State → State → Prop} {free : Addr → Prop} {Ts : List Cond} {own C owner : String} {b : Addr} {As rest : List Value} {g : JFrame}
    (S : CallFix p m c cc nL s args Ts own) (hM : vx_Met l y ws rm Pc Qc XC mc ms free) (cw : va_CU R s args own C owner index x y bytes maxL ret ws rm mc ms n) (hp : PreV s H C b Pc As)
    (hg : g.method = m) (hn : As.length = n) (hsize : g.locals.size = nL) (hstack : g.stack = As.reverse ++ .ref b :: rest) (hW : 2 * g.monitorRoom + (rest.map fun v => v.category).sum ≤ 8) (hdg : decode cc g.pc = .ok (.invokevirtual index, 3)) (hf : cells + mc ≤ R.cells ∧ slots + ms ≤ R.slots) :
    vx_Run p l e R s m args below meth c H locs cells slots mc ms g rest (Qc (Value.ref b :: As).toArray) XC free := by
  obtain ⟨hrc, hrs, hfr, hlo, hws, hcw⟩ := cw.back
  have hini := cw.init
  have hK : vx_Back l R p e below s args y 3 8 (PreOf R mc ms Pc) (PostOf Qc mc ms free) (vx_Post XC mc ms free) := vx_back (bytes := bytes) (maxL := maxL) (ret := ret) hM hp.1 hrc hrs hfr hlo hws hcw (fun a' U hW => word_at hW (Or.inl (by first | rfl | simp [Cond.onTables, Cond.keeps, Cond.steady])) hini)
  obtain ⟨hx, hb, hml, ho, -⟩ := S
  obtain ⟨-, ⟨cellB, hcB, hoB, hclB⟩, hPc⟩ := hp
  intro T hT X
  rcases vx_callVU X hx (C := C) (owner := owner) (bytes := bytes) (maxL := maxL) (ret := ret) ho cw.link cw.same cw.decl cw.notMH cw.sel cw.inst cw.code hK (by rw [hT]; exact hcB) hoB hclB hg (hsize.trans hml.symm) (argsL := As) (rest := rest) (fun sig h => hn.trans (cw.len sig h)) hstack hW (by rw [hb]; exact hdg)
    (fun vm₁ hW₁ => ⟨hf.1, hf.2, hPc (T.setVm vm₁) hT hW₁⟩) with ⟨v, vm₁, ⟨U', l2, c2, s2⟩, hW₁, X', ⟨g', mk, t, L, e1, e2, hq, h1, hL, h2, h3⟩, st⟩ | ⟨q, vm₁, ⟨U', l2, c2, s2⟩, hW₁, X', ⟨g', mk, t, L, E, ce, e1, e2, hq, hce, hcv, hcl, h1, hL, h2, h3⟩, st⟩
  · dsimp only [Pt.U, Pt.locs, Pt.cells, Pt.slots] at X' e1 e2 h1 h2 h3 st
    subst h1; subst h2; subst h3
    exact Or.inl ⟨v, (T.setVm vm₁).calling g' mk (Value.ref b :: As).toArray, t, U', L, hT, X', hL, e1, e2, hq, st⟩
  · dsimp only [Pt.U, Pt.locs, Pt.cells, Pt.slots] at X' e1 e2 h1 h2 h3 st hcl
    subst h1; subst h2; subst h3
    exact Or.inr ⟨q, (T.setVm vm₁).calling g' mk (Value.ref b :: As).toArray, t, U', L, E, ce, hT, X', hL, e1, e2, hq, hce, hcv, vx_cls hW₁ hcl, st⟩
end
/-! ===== END ===== -/
/-! ===== BEGIN super.m(..) that may throw (follows va_callSU, va_runSU) ===== -/
section
variable {p : Program} {l : Launch} {e : Env} {R : Room} {s : State} {m : MethodId} {args : Array Value} {below : List Frame} {meth : Method} {c : Code} {H : Heap} {locs : List Loc} {cells slots : Nat}
theorem vx_callSU {T : State} {locs : List Loc} {cells slots : Nat} (X : Stand p l e R s m args below meth c T locs cells slots) (hexec : p.tables.exec = Jvm.exec) {own : String} {index : Nat} {y : MethodName} {bytes : ByteArray} {maxL : Nat} {ret : Option FieldType}
    (hown : s.vm.findClass own = some m.cls) (hlink : (Cond.methodLink own index y).before args s = true) (hsame : (Cond.sameMethod y.cls y.cls y.name y.desc).before args s = true) (hsup : (Cond.superclass own y.cls).before args s = true)
    (hinst : (Cond.instanceMethod y).before args s = true) (hcode : (Cond.code y bytes maxL ret).before args s = true) (hno : y.name ≠ "<init>")
    {W : Nat} {Pre : Pt → Array Value → Prop} {Post : Pt → Array Value → Option Value → Pt → Prop} {PostX : Pt → Array Value → Addr → Pt → Prop} (hK : vx_Back l R p e below s args y 3 W Pre Post PostX)
    {b : Addr} {cellB : Cell} {kB : Class} (hcell : T.heap[b]? = some cellB) (hobj : cellB.vm.isStatics = false) (hkB : s.vm.classes[cellB.cls]? = some kB)
    {g : JFrame} (hg : g.method = m) (hsize : g.locals.size = c.maxLocals) {argsL rest : List Value} (hlen : ∀ sig, parseMethodDescriptor y.desc = some sig → argsL.length = sig.parameters.length)
    (hstack : g.stack = argsL.reverse ++ .ref b :: rest) (hW : 2 * g.monitorRoom + (rest.map fun v => v.category).sum ≤ W) (hdg : decode c.code g.pc = .ok (.invokespecial index, 3))
    (hpre : ∀ vm₁, s.WarmedH vm₁ → Pre ⟨T.setVm vm₁, locs, cells, slots⟩ (Value.ref b :: argsL).toArray) :
    (∃ (v : Option Value) (vm₁ : Vm) (B : Pt), s.WarmedH vm₁ ∧ Stand p l e R s m args below meth c B.U B.locs B.cells B.slots ∧ Post ⟨T.setVm vm₁, locs, cells, slots⟩ (Value.ref b :: argsL).toArray v B ∧
      ∀ target, Steps p.tables e below (B.U.setTop { g with pc := g.pc + 3, stack := v.toList ++ rest }) target → Steps p.tables e below (T.setTop g) target) ∨
    (∃ (q : Addr) (vm₁ : Vm) (B : Pt), s.WarmedH vm₁ ∧ Stand p l e R s m args below meth c B.U B.locs B.cells B.slots ∧ PostX ⟨T.setVm vm₁, locs, cells, slots⟩ (Value.ref b :: argsL).toArray q B ∧
      Steps p.tables e below (T.setTop g) ((B.U.setTop { g with stack := rest }).pushFrame (.throwing q))) := by
  obtain ⟨mk, methM, hnamed, hmethM, hstM, habM⟩ := Cond.instanceMethod_spec hinst
  obtain ⟨methM', cM, hmethM', -, -, -, -, -, -, hsigM⟩ := Cond.code_spec hnamed hcode
  cases hmethM.symm.trans hmethM'
  obtain ⟨ps, dk, kp, hps, hdk, hkp, hsuper, -, -, hnid⟩ := Cond.superclass_spec hown hsup
  have hn : s.methodNamed? ⟨y.cls, y.name, y.desc⟩ = some mk := hnamed
  have hpm : ps = mk.cls := Option.some.inj (hps.symm.trans (findClass_of_methodNamed hnamed))
  have hsub : s.vm.isSubclass ps mk.cls = true := by rw [hpm]; simp [Vm.isSubclass, Vm.isSubclassAux]
  obtain ⟨vm₁, X₁, hstep₁⟩ := X.invokespecialUp hexec hown hlink hsame hn hmethM hstM habM hno hdk hnid hps hsuper hsub (a := b) (cell := cellB) hcell
    (fun z h => by rw [h] at hobj; cases hobj) hkB (g := g) hg (argsL := argsL) (rest := rest) (hlen _ hsigM) hstack hdg
  rcases hK m meth c ⟨T.setVm vm₁, locs, cells, slots⟩ { g with stack := rest } (.invokespecial index) mk (Value.ref b :: argsL).toArray X₁ hg hsize hdg hW (X₁.named hnamed) (hpre vm₁ X₁.warmed) with ⟨v, B, X', hpost, hsteps⟩ | ⟨q, B, X', hpost, hsteps⟩
  · exact Or.inl ⟨v, vm₁, B, X₁.warmed, X', hpost, fun target h => hstep₁ _ (by rw [doInvoke_state]; exact hsteps.trans h)⟩
  · exact Or.inr ⟨q, vm₁, B, X₁.warmed, X', hpost, hstep₁ _ (by rw [doInvoke_state]; exact hsteps)⟩
theorem vx_runSU {y : MethodName} {bytes cc : ByteArray} {maxL nL mc ms n index : Nat} {ret : Option FieldType} {ws : List Cond} {rm : Room} {Pc : Array Value → State → Prop} {Qc : Array Value → State → Outcome → State → Prop} {XC : String → State → State → Prop} {free : Addr → Prop} {Ts : List Cond} {own C : String} {cC : ClassId} {b : Addr} {As rest : List Value} {g : JFrame}
    (hat : ClassAt s C cC) (S : CallFix p m c cc nL s args Ts own) (hM : vx_Met l y ws rm Pc Qc XC mc ms free) (cw : va_CS R s args own index y bytes maxL ret ws rm mc ms n) (hp : PreV s H C b Pc As)
    (hg : g.method = m) (hn : As.length = n) (hsize : g.locals.size = nL) (hstack : g.stack = As.reverse ++ .ref b :: rest) (hW : 2 * g.monitorRoom + (rest.map fun v => v.category).sum ≤ 8) (hdg : decode cc g.pc = .ok (.invokespecial index, 3)) (hf : cells + mc ≤ R.cells ∧ slots + ms ≤ R.slots) :
    vx_Run p l e R s m args below meth c H locs cells slots mc ms g rest (Qc (Value.ref b :: As).toArray) XC free := by
  obtain ⟨⟨hrc, hrs, hfr, hlo, hws, hcw⟩, hl1, hl2, hl3, hl4, hini, hcode, hno, hlen⟩ := cw
  have hK : vx_Back l R p e below s args y 3 8 (PreOf R mc ms Pc) (PostOf Qc mc ms free) (vx_Post XC mc ms free) := vx_back (bytes := bytes) (maxL := maxL) (ret := ret) hM hp.1 hrc hrs hfr hlo hws hcw (fun a' U hW => word_at hW (Or.inl (by first | rfl | simp [Cond.onTables, Cond.keeps, Cond.steady])) hini)
  obtain ⟨hx, hb, hml, ho, -⟩ := S
  obtain ⟨-, ⟨cellB, hcB, hoB, hclB⟩, hPc⟩ := hp
  obtain ⟨hfc, kB, hkB, -⟩ := hat
  cases hfc.symm.trans hclB
  intro T hT X
  rcases vx_callSU X hx (bytes := bytes) (maxL := maxL) (ret := ret) ho hl1 hl2 hl3 hl4 hcode hno hK (by rw [hT]; exact hcB) hoB hkB hg (hsize.trans hml.symm) (argsL := As) (rest := rest) (fun sig h => hn.trans (hlen sig h)) hstack hW (by rw [hb]; exact hdg)
    (fun vm₁ hW₁ => ⟨hf.1, hf.2, hPc (T.setVm vm₁) hT hW₁⟩) with ⟨v, vm₁, ⟨U', l2, c2, s2⟩, hW₁, X', ⟨g', mk, t, L, e1, e2, hq, h1, hL, h2, h3⟩, st⟩ | ⟨q, vm₁, ⟨U', l2, c2, s2⟩, hW₁, X', ⟨g', mk, t, L, E, ce, e1, e2, hq, hce, hcv, hcl, h1, hL, h2, h3⟩, st⟩
  · dsimp only [Pt.U, Pt.locs, Pt.cells, Pt.slots] at X' e1 e2 h1 h2 h3 st
    subst h1; subst h2; subst h3
    exact Or.inl ⟨v, (T.setVm vm₁).calling g' mk (Value.ref b :: As).toArray, t, U', L, hT, X', hL, e1, e2, hq, st⟩
  · dsimp only [Pt.U, Pt.locs, Pt.cells, Pt.slots] at X' e1 e2 h1 h2 h3 st hcl
    subst h1; subst h2; subst h3
    exact Or.inr ⟨q, (T.setVm vm₁).calling g' mk (Value.ref b :: As).toArray, t, U', L, E, ce, hT, X', hL, e1, e2, hq, hce, hcv, vx_cls hW₁ hcl, st⟩
end
/-! ===== END ===== -/
/-! ===== BEGIN a private method of a nest mate that may throw (follows va_callVN, va_callSN, va_runVN, va_runSN) ===== -/
section
variable {p : Program} {l : Launch} {e : Env} {R : Room} {s : State} {m : MethodId} {args : Array Value} {below : List Frame} {meth : Method} {c : Code} {H : Heap} {locs : List Loc} {cells slots : Nat}
variable {T : State}
theorem vx_callVN (X : Stand p l e R s m args below meth c T locs cells slots) (hexec : p.tables.exec = Jvm.exec) {own C : String} {index : Nat} {host : String} {y : MethodName} {bytes : ByteArray} {maxL : Nat} {ret : Option FieldType}
    (hown : s.vm.findClass own = some m.cls) (hlink : (Cond.methodLinkNest own index y host).before args s = true) (hinst : (Cond.instanceMethod y).before args s = true) (hsel : (Cond.selects C y y).before args s = true)
    (hcode : (Cond.code y bytes maxL ret).before args s = true) (hy : y.cls ≠ "java/lang/invoke/MethodHandle" ∧ y.cls ≠ "java/lang/invoke/VarHandle")
    {W : Nat} {Pre : Pt → Array Value → Prop} {Post : Pt → Array Value → Option Value → Pt → Prop} {PostX : Pt → Array Value → Addr → Pt → Prop} (hK : vx_Back l R p e below s args y 3 W Pre Post PostX)
    {b : Addr} {cellB : Cell} (hcell : T.heap[b]? = some cellB) (hobj : cellB.vm.isStatics = false) (hcls : s.vm.findClass C = some cellB.cls)
    {g : JFrame} (hg : g.method = m) (hsize : g.locals.size = c.maxLocals) {argsL rest : List Value} (hlen : ∀ sig, parseMethodDescriptor y.desc = some sig → argsL.length = sig.parameters.length)
    (hstack : g.stack = argsL.reverse ++ .ref b :: rest) (hW : 2 * g.monitorRoom + (rest.map fun v => v.category).sum ≤ W) (hdg : decode c.code g.pc = .ok (.invokevirtual index, 3))
    (hpre : ∀ vm₁, s.WarmedH vm₁ → Pre ⟨T.setVm vm₁, locs, cells, slots⟩ (Value.ref b :: argsL).toArray) :
    (∃ (v : Option Value) (vm₁ : Vm) (B : Pt), s.WarmedH vm₁ ∧ Stand p l e R s m args below meth c B.U B.locs B.cells B.slots ∧ Post ⟨T.setVm vm₁, locs, cells, slots⟩ (Value.ref b :: argsL).toArray v B ∧
      ∀ target, Steps p.tables e below (B.U.setTop { g with pc := g.pc + 3, stack := v.toList ++ rest }) target → Steps p.tables e below (T.setTop g) target) ∨
    (∃ (q : Addr) (vm₁ : Vm) (B : Pt), s.WarmedH vm₁ ∧ Stand p l e R s m args below meth c B.U B.locs B.cells B.slots ∧ PostX ⟨T.setVm vm₁, locs, cells, slots⟩ (Value.ref b :: argsL).toArray q B ∧
      Steps p.tables e below (T.setTop g) ((B.U.setTop { g with stack := rest }).pushFrame (.throwing q))) := by
  obtain ⟨mk, methM, hnamed, hmethM, hstM, habM⟩ := Cond.instanceMethod_spec hinst
  obtain ⟨methM', cM, hmethM', -, -, -, -, -, -, hsigM⟩ := Cond.code_spec hnamed hcode
  cases hmethM.symm.trans hmethM'
  obtain ⟨c2, r2, m2, q1, q2, q3, q4, kP, hkP, hkPi⟩ := Cond.selects_spec hsel
  cases hcls.symm.trans q1
  cases (State.methodFound?_of_named hnamed hy).symm.trans q2
  cases hnamed.symm.trans q3
  have hselP : selectMethod e.platform s.vm cellB.cls mk = .method mk := by rw [Launch.admits_selectMethod X.admits]; exact q4
  obtain ⟨vm₁, X₁, hstep₁⟩ := X.invokevirtualNest hexec hown hlink hnamed hmethM hstM hkP hkPi hy (a := b) (cell := cellB) hcell
    (fun z h => by rw [h] at hobj; cases hobj) hselP hmethM habM hkP hkPi (g := g) hg (argsL := argsL) (rest := rest) (hlen _ hsigM) hstack hdg
  rcases hK m meth c ⟨T.setVm vm₁, locs, cells, slots⟩ { g with stack := rest } (.invokevirtual index) mk (Value.ref b :: argsL).toArray X₁ hg hsize hdg hW (X₁.named hnamed) (hpre vm₁ X₁.warmed) with ⟨v, B, X', hpost, hsteps⟩ | ⟨q, B, X', hpost, hsteps⟩
  · exact Or.inl ⟨v, vm₁, B, X₁.warmed, X', hpost, fun target h => hstep₁ _ fun acts => by rw [doInvoke_state]; exact hsteps.trans h⟩
  · exact Or.inr ⟨q, vm₁, B, X₁.warmed, X', hpost, hstep₁ _ fun acts => by rw [doInvoke_state]; exact hsteps⟩
theorem vx_callSN (X : Stand p l e R s m args below meth c T locs cells slots) (hexec : p.tables.exec = Jvm.exec) {own : String} {index : Nat} {host : String} {y : MethodName} {bytes : ByteArray} {maxL : Nat} {ret : Option FieldType}
    (hown : s.vm.findClass own = some m.cls) (hlink : (Cond.methodLinkNest own index y host).before args s = true) (hstat : (Cond.static y).before args s = true) (hinit : (Cond.initialized y.cls).before args s = true)
    (hcode : (Cond.code y bytes maxL ret).before args s = true) (hy : y.cls ≠ "java/lang/invoke/MethodHandle" ∧ y.cls ≠ "java/lang/invoke/VarHandle")
    {W : Nat} {Pre : Pt → Array Value → Prop} {Post : Pt → Array Value → Option Value → Pt → Prop} {PostX : Pt → Array Value → Addr → Pt → Prop} (hK : vx_Back l R p e below s args y 3 W Pre Post PostX)
    {g : JFrame} (hg : g.method = m) (hsize : g.locals.size = c.maxLocals) {argsL rest : List Value} (hlen : ∀ sig, parseMethodDescriptor y.desc = some sig → argsL.length = sig.parameters.length)
    (hstack : g.stack = argsL.reverse ++ rest) (hW : 2 * g.monitorRoom + (rest.map fun v => v.category).sum ≤ W) (hdg : decode c.code g.pc = .ok (.invokestatic index, 3))
    (hpre : ∀ vm₁, s.WarmedH vm₁ → Pre ⟨T.setVm vm₁, locs, cells, slots⟩ argsL.toArray) :
    (∃ (v : Option Value) (vm₁ : Vm) (B : Pt), s.WarmedH vm₁ ∧ Stand p l e R s m args below meth c B.U B.locs B.cells B.slots ∧ Post ⟨T.setVm vm₁, locs, cells, slots⟩ argsL.toArray v B ∧
      ∀ target, Steps p.tables e below (B.U.setTop { g with pc := g.pc + 3, stack := v.toList ++ rest }) target → Steps p.tables e below (T.setTop g) target) ∨
    (∃ (q : Addr) (vm₁ : Vm) (B : Pt), s.WarmedH vm₁ ∧ Stand p l e R s m args below meth c B.U B.locs B.cells B.slots ∧ PostX ⟨T.setVm vm₁, locs, cells, slots⟩ argsL.toArray q B ∧
      Steps p.tables e below (T.setTop g) ((B.U.setTop { g with stack := rest }).pushFrame (.throwing q))) := by
  obtain ⟨mk, hnamed⟩ := Cond.code_named hcode
  obtain ⟨methM, cM, hmethM, -, -, -, -, -, -, hsigM⟩ := Cond.code_spec hnamed hcode
  have hstatic : methM.isStatic = true := Cond.static_spec hnamed hmethM hstat
  obtain ⟨kP, hkP, -⟩ := className_of_methodNamed hnamed
  have hinitP : kP.init = .initialized := Cond.initialized_spec (findClass_of_methodNamed hnamed) hkP hinit
  obtain ⟨vm₁, X₁, hstep₁⟩ := X.invokestaticNest hexec hown hlink hnamed hmethM hstatic hkP hinitP hy (g := g) hg (argsL := argsL) (rest := rest) (hlen _ hsigM) hstack hdg
  rcases hK m meth c ⟨T.setVm vm₁, locs, cells, slots⟩ { g with stack := rest } (.invokestatic index) mk argsL.toArray X₁ hg hsize hdg hW (X₁.named hnamed) (hpre vm₁ X₁.warmed) with ⟨v, B, X', hpost, hsteps⟩ | ⟨q, B, X', hpost, hsteps⟩
  · exact Or.inl ⟨v, vm₁, B, X₁.warmed, X', hpost, fun target h => hstep₁ _ fun acts => by rw [doInvoke_state]; exact hsteps.trans h⟩
  · exact Or.inr ⟨q, vm₁, B, X₁.warmed, X', hpost, hstep₁ _ fun acts => by rw [doInvoke_state]; exact hsteps⟩
theorem vx_runVN {y : MethodName} {bytes cc : ByteArray} {maxL nL mc ms n index : Nat} {ret : Option FieldType} {ws : List Cond} {rm : Room} {Pc : Array Value → State → Prop} {Qc : Array Value → State → Outcome → State → Prop} {XC : String → State → State → Prop} {free : Addr → Prop} {Ts : List Cond} {own C host : String} {b : Addr} {As rest : List Value} {g : JFrame}
    (S : CallFix p m c cc nL s args Ts own) (hM : vx_Met l y ws rm Pc Qc XC mc ms free) (cw : va_CN R s args own index y host bytes maxL ret ws rm mc ms n ∧ (Cond.instanceMethod y).before args s = true ∧ (Cond.selects C y y).before args s = true) (hp : PreV s H C b Pc As)
    (hg : g.method = m) (hn : As.length = n) (hsize : g.locals.size = nL) (hstack : g.stack = As.reverse ++ .ref b :: rest) (hW : 2 * g.monitorRoom + (rest.map fun v => v.category).sum ≤ 8) (hdg : decode cc g.pc = .ok (.invokevirtual index, 3)) (hf : cells + mc ≤ R.cells ∧ slots + ms ≤ R.slots) :
    vx_Run p l e R s m args below meth c H locs cells slots mc ms g rest (Qc (Value.ref b :: As).toArray) XC free := by
  obtain ⟨⟨⟨hrc, hrs, hfr, hlo, hws, hcw⟩, hcode, hini, hy, hlen, hl⟩, hx1, hx2⟩ := cw
  have hK : vx_Back l R p e below s args y 3 8 (PreOf R mc ms Pc) (PostOf Qc mc ms free) (vx_Post XC mc ms free) := vx_back (bytes := bytes) (maxL := maxL) (ret := ret) hM hp.1 hrc hrs hfr hlo hws hcw (fun a' U hW => word_at hW (Or.inl (by first | rfl | simp [Cond.onTables, Cond.keeps, Cond.steady])) hini)
  obtain ⟨hx, hb, hml, ho, -⟩ := S
  obtain ⟨-, ⟨cellB, hcB, hoB, hclB⟩, hPc⟩ := hp
  intro T hT X
  rcases vx_callVN X hx (C := C) (bytes := bytes) (maxL := maxL) (ret := ret) ho hl hx1 hx2 hcode hy hK (by rw [hT]; exact hcB) hoB hclB hg (hsize.trans hml.symm) (argsL := As) (rest := rest) (fun sig h => hn.trans (hlen sig h)) hstack hW (by rw [hb]; exact hdg)
    (fun vm₁ hW₁ => ⟨hf.1, hf.2, hPc (T.setVm vm₁) hT hW₁⟩) with ⟨v, vm₁, ⟨U', l2, c2, s2⟩, hW₁, X', ⟨g', mk, t, L, e1, e2, hq, h1, hL, h2, h3⟩, st⟩ | ⟨q, vm₁, ⟨U', l2, c2, s2⟩, hW₁, X', ⟨g', mk, t, L, E, ce, e1, e2, hq, hce, hcv, hcl, h1, hL, h2, h3⟩, st⟩
  · dsimp only [Pt.U, Pt.locs, Pt.cells, Pt.slots] at X' e1 e2 h1 h2 h3 st
    subst h1; subst h2; subst h3
    exact Or.inl ⟨v, (T.setVm vm₁).calling g' mk (Value.ref b :: As).toArray, t, U', L, hT, X', hL, e1, e2, hq, st⟩
  · dsimp only [Pt.U, Pt.locs, Pt.cells, Pt.slots] at X' e1 e2 h1 h2 h3 st hcl
    subst h1; subst h2; subst h3
    exact Or.inr ⟨q, (T.setVm vm₁).calling g' mk (Value.ref b :: As).toArray, t, U', L, E, ce, hT, X', hL, e1, e2, hq, hce, hcv, vx_cls hW₁ hcl, st⟩
theorem vx_runSN {y : MethodName} {bytes cc : ByteArray} {maxL nL mc ms n index : Nat} {ret : Option FieldType} {ws : List Cond} {rm : Room} {Pc : Array Value → State → Prop} {Qc : Array Value → State → Outcome → State → Prop} {XC : String → State → State → Prop} {free : Addr → Prop} {Ts : List Cond} {own host : String} {As rest : List Value} {g : JFrame}
    (S : CallFix p m c cc nL s args Ts own) (hM : vx_Met l y ws rm Pc Qc XC mc ms free) (cw : va_CN R s args own index y host bytes maxL ret ws rm mc ms n ∧ (Cond.static y).before args s = true ∧ True) (hp : PreS s H Pc As)
    (hg : g.method = m) (hn : As.length = n) (hsize : g.locals.size = nL) (hstack : g.stack = As.reverse ++ rest) (hW : 2 * g.monitorRoom + (rest.map fun v => v.category).sum ≤ 8) (hdg : decode cc g.pc = .ok (.invokestatic index, 3)) (hf : cells + mc ≤ R.cells ∧ slots + ms ≤ R.slots) :
    vx_Run p l e R s m args below meth c H locs cells slots mc ms g rest (Qc As.toArray) XC free := by
  obtain ⟨⟨⟨hrc, hrs, hfr, hlo, hws, hcw⟩, hcode, hini, hy, hlen, hl⟩, hx1, hx2⟩ := cw
  have hK : vx_Back l R p e below s args y 3 8 (PreOf R mc ms Pc) (PostOf Qc mc ms free) (vx_Post XC mc ms free) := vx_back (bytes := bytes) (maxL := maxL) (ret := ret) hM hp.1 hrc hrs hfr hlo hws hcw (fun a' U hW => word_at hW (Or.inl (by first | rfl | simp [Cond.onTables, Cond.keeps, Cond.steady])) hini)
  obtain ⟨hx, hb, hml, ho, -⟩ := S
  have hPc := hp.2
  intro T hT X
  rcases vx_callSN X hx (bytes := bytes) (maxL := maxL) (ret := ret) ho hl hx1 hini hcode hy hK hg (hsize.trans hml.symm) (argsL := As) (rest := rest) (fun sig h => hn.trans (hlen sig h)) hstack hW (by rw [hb]; exact hdg)
    (fun vm₁ hW₁ => ⟨hf.1, hf.2, hPc (T.setVm vm₁) hT hW₁⟩) with ⟨v, vm₁, ⟨U', l2, c2, s2⟩, hW₁, X', ⟨g', mk, t, L, e1, e2, hq, h1, hL, h2, h3⟩, st⟩ | ⟨q, vm₁, ⟨U', l2, c2, s2⟩, hW₁, X', ⟨g', mk, t, L, E, ce, e1, e2, hq, hce, hcv, hcl, h1, hL, h2, h3⟩, st⟩
  · dsimp only [Pt.U, Pt.locs, Pt.cells, Pt.slots] at X' e1 e2 h1 h2 h3 st
    subst h1; subst h2; subst h3
    exact Or.inl ⟨v, (T.setVm vm₁).calling g' mk As.toArray, t, U', L, hT, X', hL, e1, e2, hq, st⟩
  · dsimp only [Pt.U, Pt.locs, Pt.cells, Pt.slots] at X' e1 e2 h1 h2 h3 st hcl
    subst h1; subst h2; subst h3
    exact Or.inr ⟨q, (T.setVm vm₁).calling g' mk As.toArray, t, U', L, E, ce, hT, X', hL, e1, e2, hq, hce, hcv, vx_cls hW₁ hcl, st⟩
end
/-! ===== END ===== -/
/-! ===== BEGIN calls by an interface of methods that may throw (vx_callIF, vx_runF follow va_callIF, va_runF of this kit) ===== -/
section
variable {p : Program} {l : Launch} {e : Env} {R : Room} {s : State} {m : MethodId} {args : Array Value} {below : List Frame} {meth : Method} {c : Code} {H : Heap} {locs : List Loc} {cells slots : Nat} {Q : State → Prop}
variable {mc ms : Nat} {free : Addr → Prop} {A0 A1 : Nat → Prop} {H0 : Heap} {a : Array Value} {pc : Nat} {ls : Array Slot} {st0 rest : List Value}
def vx_Run5 (p : Program) (l : Launch) (e : Env) (R : Room) (s : State) (m : MethodId) (args : Array Value) (below : List Frame) (meth : Method) (c : Code) (H : Heap) (locs : List Loc) (cells slots mc ms : Nat) (g : JFrame) (rest : List Value) (Qa : State → Outcome → State → Prop) (XC : String → State → State → Prop) (free : Addr → Prop) : Prop :=
  ∀ T : State, T.heap = H → Stand p l e R s m args below meth c T locs cells slots →
    (∃ (v : Option Value) (st₀ t T' : State) (L : List Loc), st₀.heap = H ∧ Stand p l e R s m args below meth c T' (locs ++ L) (cells + mc) (slots + ms) ∧ (∀ q ∈ L, free q.base) ∧ T'.heap = t.heap ∧ T'.vm = t.vm ∧ Qa st₀ (.returned v) t ∧
      Goes p e below T g T' { g with pc := g.pc + 5, stack := v.toList ++ rest }) ∨
    (∃ (q : Addr) (st₀ t T' : State) (L : List Loc) (E : String) (ce : Cell), st₀.heap = H ∧ Stand p l e R s m args below meth c T' (locs ++ L) (cells + mc) (slots + ms) ∧ (∀ z ∈ L, free z.base) ∧ T'.heap = t.heap ∧ T'.vm = t.vm ∧ XC E st₀ t ∧ t.heap[q]? = some ce ∧ ce.vm = .none ∧ s.vm.findClass E = some ce.cls ∧
      Steps p.tables e below (T.setTop g) ((T'.setTop { g with stack := rest }).pushFrame (.throwing q)))
theorem vx_callIF {T : State} (X : Stand p l e R s m args below meth c T locs cells slots) (hexec : p.tables.exec = Jvm.exec) {own C : String} {index count : Nat} {x y : MethodName} {bytes : ByteArray} {maxL : Nat} {ret : Option FieldType}
    (hown : s.vm.findClass own = some m.cls) (hlink : (Cond.methodLink own index x).before args s = true) (hdecl : (Cond.declares x).before args s = true) (hface : (Cond.interfaceMethod x.cls x.cls x.name x.desc).before args s = true)
    (hsel : (Cond.selects C x y).before args s = true) (hinst : (Cond.instanceMethod y).before args s = true) (hpub : (Cond.publicMethod y).before args s = true) (hunh : (Cond.unhidden C x.name x.desc).before args s = true)
    (hcast : (Cond.castable C x.cls).before args s = true) (hcode : (Cond.code y bytes maxL ret).before args s = true) (hx : x.cls ≠ "java/lang/invoke/MethodHandle" ∧ x.cls ≠ "java/lang/invoke/VarHandle")
    {W9 : Nat} {Pre : Pt → Array Value → Prop} {Post : Pt → Array Value → Option Value → Pt → Prop} {PostX : Pt → Array Value → Addr → Pt → Prop} (hK : vx_Back l R p e below s args y 5 W9 Pre Post PostX)
    {b : Addr} {cellB : Cell} {kB : Class} (hcell : T.heap[b]? = some cellB) (hobj : cellB.vm.isStatics = false) (hcls : s.vm.findClass C = some cellB.cls) (hkB : s.vm.classes[cellB.cls]? = some kB)
    {g : JFrame} (hg : g.method = m) (hsize : g.locals.size = c.maxLocals) {argsL rest : List Value} (hlen : ∀ sig, parseMethodDescriptor x.desc = some sig → argsL.length = sig.parameters.length)
    (hstack : g.stack = argsL.reverse ++ .ref b :: rest) (hW : 2 * g.monitorRoom + (rest.map fun v => v.category).sum ≤ W9) (hdg : decode c.code g.pc = .ok (.invokeinterface index count, 5))
    (hpre : ∀ vm₁, s.WarmedH vm₁ → Pre ⟨T.setVm vm₁, locs, cells, slots⟩ (Value.ref b :: argsL).toArray) :
    (∃ (v : Option Value) (vm₁ : Vm) (B : Pt), s.WarmedH vm₁ ∧ Stand p l e R s m args below meth c B.U B.locs B.cells B.slots ∧ Post ⟨T.setVm vm₁, locs, cells, slots⟩ (Value.ref b :: argsL).toArray v B ∧
      ∀ target, Steps p.tables e below (B.U.setTop { g with pc := g.pc + 5, stack := v.toList ++ rest }) target → Steps p.tables e below (T.setTop g) target) ∨
    (∃ (q : Addr) (vm₁ : Vm) (B : Pt), s.WarmedH vm₁ ∧ Stand p l e R s m args below meth c B.U B.locs B.cells B.slots ∧ PostX ⟨T.setVm vm₁, locs, cells, slots⟩ (Value.ref b :: argsL).toArray q B ∧
      Steps p.tables e below (T.setTop g) ((B.U.setTop { g with stack := rest }).pushFrame (.throwing q))) := by
  obtain ⟨r0, r, hn, hrm, hstR, hsigR⟩ := Cond.declares_spec hdecl
  obtain ⟨cL, kL, r1, hcL, hkL, hiL, hfoundL, hn1⟩ := Cond.interfaceMethod_spec hface
  cases hn.symm.trans hn1
  have hr0cls : r0.cls = cL := Option.some.inj ((findClass_of_methodNamed hn).symm.trans hcL)
  obtain ⟨hnameR, hdescR⟩ := name_of_methodNamed hn hrm
  obtain ⟨mk, methM, hnamed, hmethM, -, habM⟩ := Cond.instanceMethod_spec hinst
  obtain ⟨c2, r2, m2, q1, q2, q3, q4, -⟩ := Cond.selects_spec hsel
  cases hcls.symm.trans q1
  cases hfoundL.symm.trans q2
  cases hnamed.symm.trans q3
  have hselP : selectMethod e.platform s.vm cellB.cls r0 = .method mk := by rw [Launch.admits_selectMethod X.admits]; exact q4
  have hpubM : hasFlag methM.accessFlags Acc.public_ = true := Cond.publicMethod_spec hnamed hmethM hpub
  have hway : ((cellB.cls :: s.vm.superclasses cellB.cls).any fun k => (declaredIn s.vm r.name r.desc k).any fun (_, z) => z.isPrivate || z.isStatic) = false := by
    rw [hnameR, hdescR]; exact Cond.unhidden_spec hcls hunh
  obtain ⟨c3, t3, w1, w2, w3⟩ := Cond.castable_spec hcast
  cases hcls.symm.trans w1
  cases hcL.symm.trans w2
  obtain ⟨vm₁, X₁, hstep₁⟩ := X.invokeinterface hexec hown hlink hn hrm hstR (by rw [hr0cls]; exact hkL) hiL hx (a := b) (cell := cellB) (kcell := kB) hcell
    (fun z h => by rw [h] at hobj; cases hobj) hkB (by rw [hr0cls]; exact w3) hselP hmethM hway hpubM habM (g := g) hg (argsL := argsL) (rest := rest) (hlen _ hsigR) hstack hdg
  rcases hK m meth c ⟨T.setVm vm₁, locs, cells, slots⟩ { g with stack := rest } (.invokeinterface index count) mk (Value.ref b :: argsL).toArray X₁ hg hsize hdg hW (X₁.named hnamed) (hpre vm₁ X₁.warmed) with ⟨v, B, X', hpost, hsteps⟩ | ⟨q, B, X', hpost, hsteps⟩
  · exact Or.inl ⟨v, vm₁, B, X₁.warmed, X', hpost, fun target h => hstep₁ _ fun acts => by rw [doInvoke_state]; exact hsteps.trans h⟩
  · exact Or.inr ⟨q, vm₁, B, X₁.warmed, X', hpost, hstep₁ _ fun acts => by rw [doInvoke_state]; exact hsteps⟩
theorem vx_runF {x y : MethodName} {bytes cc : ByteArray} {maxL nL mc ms n index count : Nat} {ret : Option FieldType} {ws : List Cond} {rm : Room} {Pc : Array Value → State → Prop} {Qc : Array Value → State → Outcome → State → Prop} {XC : String → State → State → Prop} {free : Addr → Prop} {Ts : List Cond} {own C : String} {cC : ClassId} {b : Addr} {As rest : List Value} {g : JFrame}
    (hat : ClassAt s C cC) (S : CallFix p m c cc nL s args Ts own) (hM : vx_Met l y ws rm Pc Qc XC mc ms free) (cw : va_CI R s args own C index x y bytes maxL ret ws rm mc ms n) (hp : PreV s H C b Pc As)
    (hg : g.method = m) (hn : As.length = n) (hsize : g.locals.size = nL) (hstack : g.stack = As.reverse ++ .ref b :: rest) (hW : 2 * g.monitorRoom + (rest.map fun v => v.category).sum ≤ 8) (hdg : decode cc g.pc = .ok (.invokeinterface index count, 5)) (hf : cells + mc ≤ R.cells ∧ slots + ms ≤ R.slots) :
    vx_Run5 p l e R s m args below meth c H locs cells slots mc ms g rest (Qc (Value.ref b :: As).toArray) XC free := by
  obtain ⟨hrc, hrs, hfr, hlo, hws, hcw⟩ := cw.back
  have hini := cw.init
  have hK : vx_Back l R p e below s args y 5 8 (PreOf R mc ms Pc) (PostOf Qc mc ms free) (vx_Post XC mc ms free) := vx_back (bytes := bytes) (maxL := maxL) (ret := ret) hM hp.1 hrc hrs hfr hlo hws hcw (fun a' U hW => word_at hW (Or.inl (by first | rfl | simp [Cond.onTables, Cond.keeps, Cond.steady])) hini)
  obtain ⟨hx, hb, hml, ho, -⟩ := S
  obtain ⟨-, ⟨cellB, hcB, hoB, hclB⟩, hPc⟩ := hp
  obtain ⟨hfc, kB, hkB, -⟩ := hat
  cases hfc.symm.trans hclB
  intro T hT X
  rcases vx_callIF X hx (C := C) (bytes := bytes) (maxL := maxL) (ret := ret) ho cw.link cw.decl cw.face cw.sel cw.inst cw.pub cw.unh cw.cast cw.code cw.notMH hK (by rw [hT]; exact hcB) hoB hclB hkB hg (hsize.trans hml.symm) (argsL := As) (rest := rest) (fun sig h => hn.trans (cw.len sig h)) hstack hW (by rw [hb]; exact hdg)
    (fun vm₁ hW₁ => ⟨hf.1, hf.2, hPc (T.setVm vm₁) hT hW₁⟩) with ⟨v, vm₁, ⟨U', l2, c2, s2⟩, hW₁, X', ⟨g', mk, t, L, e1, e2, hq, h1, hL, h2, h3⟩, st⟩ | ⟨q, vm₁, ⟨U', l2, c2, s2⟩, hW₁, X', ⟨g', mk, t, L, E, ce, e1, e2, hq, hce, hcv, hcl, h1, hL, h2, h3⟩, st⟩
  · dsimp only [Pt.U, Pt.locs, Pt.cells, Pt.slots] at X' e1 e2 h1 h2 h3 st
    subst h1; subst h2; subst h3
    exact Or.inl ⟨v, (T.setVm vm₁).calling g' mk (Value.ref b :: As).toArray, t, U', L, hT, X', hL, e1, e2, hq, st⟩
  · dsimp only [Pt.U, Pt.locs, Pt.cells, Pt.slots] at X' e1 e2 h1 h2 h3 st hcl
    subst h1; subst h2; subst h3
    exact Or.inr ⟨q, (T.setVm vm₁).calling g' mk (Value.ref b :: As).toArray, t, U', L, E, ce, hT, X', hL, e1, e2, hq, hce, hcv, vx_cls hW₁ hcl, st⟩
theorem vx_callFv {S SX : Type} {post : S → Prop} {px : SX → Prop} {B : S → State → Prop} {BX : String → SX → State → Prop} {AX : Nat → Prop} (hr : vx_Run5 p l e R s m args below meth c H locs cells slots mc ms (F0 m pc ls st0) rest (va_Qv post B A1 a) (vx_X px BX AX) free) (hS : va_S A0 H0 H locs) (hA : ∀ q, q < H.size → A1 q → A0 q) (hf : ∀ q, free q → A0 q) (hAX : ∀ q, q < H.size → AX q → A0 q)
    (kx : ∀ (E : String) (ce : Cell) (q9 : Addr) (u : SX) (t : State) (H1 : Heap) (locs1 : List Loc), t.heap = H1 → s.vm.Alike t.vm → px u → BX E u t → H.size ≤ H1.size → (∀ q : Nat, q < H.size → ¬ AX q → H1[q]? = H[q]?) → va_S A0 H0 H1 locs1 → H1[q9]? = some ce → ce.vm = .none → s.vm.findClass E = some ce.cls → vx_W p l e R s m args below meth c H1 locs1 (cells + mc) (slots + ms) Q (F0 m pc ls rest) q9)
    (kk : ∀ (u : S) (t : State) (H1 : Heap) (locs1 : List Loc), t.heap = H1 → s.vm.Alike t.vm → post u → B u t → H.size ≤ H1.size → (∀ q : Nat, q < H.size → ¬ A1 q → H1[q]? = H[q]?) → va_S A0 H0 H1 locs1 → W p l e R s m args below meth c H1 locs1 (cells + mc) (slots + ms) Q (F0 m (pc + 5) ls (rest))) : W p l e R s m args below meth c H locs cells slots Q (F0 m pc ls st0) := by
  intro T hT X
  rcases hr T hT X with ⟨v, st₀, t, T', L, h0, X', hL, e1, e2, ⟨⟨u, hv, hp, hb⟩, hF⟩, st⟩ | ⟨q, st₀, t, T', L, E, ce, h0, X', hL, e1, e2, ⟨u, hp, hb, hF⟩, hce, hcv, hcl, st⟩
  · cases hv
    obtain ⟨k1, k2, k3⟩ := vx_keep h0 e1 hS hA hf hL hF
    obtain ⟨t2, a1, b1⟩ := kk u t T'.heap (locs ++ L) e1.symm (by rw [← e2]; exact X'.warmed.alike) hp hb k1 k2 k3 T' rfl X'
    exact ⟨t2, st t2 a1, b1⟩
  · obtain ⟨k1, k2, k3⟩ := vx_keep h0 e1 hS hAX hf hL hF
    obtain ⟨t2, a1, b1⟩ := kx E ce q u t T'.heap (locs ++ L) e1.symm (by rw [← e2]; exact X'.warmed.alike) hp hb k1 k2 k3 (by rw [e1]; exact hce) hcv hcl T' rfl X'
    exact ⟨t2, st.trans a1, b1⟩
theorem vx_callFi {S SX : Type} {post : Int32 → S → Prop} {px : SX → Prop} {B : S → State → Prop} {BX : String → SX → State → Prop} {AX : Nat → Prop} (hr : vx_Run5 p l e R s m args below meth c H locs cells slots mc ms (F0 m pc ls st0) rest (va_Qi post B A1 a) (vx_X px BX AX) free) (hS : va_S A0 H0 H locs) (hA : ∀ q, q < H.size → A1 q → A0 q) (hf : ∀ q, free q → A0 q) (hAX : ∀ q, q < H.size → AX q → A0 q)
    (kx : ∀ (E : String) (ce : Cell) (q9 : Addr) (u : SX) (t : State) (H1 : Heap) (locs1 : List Loc), t.heap = H1 → s.vm.Alike t.vm → px u → BX E u t → H.size ≤ H1.size → (∀ q : Nat, q < H.size → ¬ AX q → H1[q]? = H[q]?) → va_S A0 H0 H1 locs1 → H1[q9]? = some ce → ce.vm = .none → s.vm.findClass E = some ce.cls → vx_W p l e R s m args below meth c H1 locs1 (cells + mc) (slots + ms) Q (F0 m pc ls rest) q9)
    (kk : ∀ (r : Int32) (u : S) (t : State) (H1 : Heap) (locs1 : List Loc), t.heap = H1 → s.vm.Alike t.vm → post r u → B u t → H.size ≤ H1.size → (∀ q : Nat, q < H.size → ¬ A1 q → H1[q]? = H[q]?) → va_S A0 H0 H1 locs1 → W p l e R s m args below meth c H1 locs1 (cells + mc) (slots + ms) Q (F0 m (pc + 5) ls (.int r :: rest))) : W p l e R s m args below meth c H locs cells slots Q (F0 m pc ls st0) := by
  intro T hT X
  rcases hr T hT X with ⟨v, st₀, t, T', L, h0, X', hL, e1, e2, ⟨⟨r, u, hv, hp, hb⟩, hF⟩, st⟩ | ⟨q, st₀, t, T', L, E, ce, h0, X', hL, e1, e2, ⟨u, hp, hb, hF⟩, hce, hcv, hcl, st⟩
  · cases hv
    obtain ⟨k1, k2, k3⟩ := vx_keep h0 e1 hS hA hf hL hF
    obtain ⟨t2, a1, b1⟩ := kk r u t T'.heap (locs ++ L) e1.symm (by rw [← e2]; exact X'.warmed.alike) hp hb k1 k2 k3 T' rfl X'
    exact ⟨t2, st t2 a1, b1⟩
  · obtain ⟨k1, k2, k3⟩ := vx_keep h0 e1 hS hAX hf hL hF
    obtain ⟨t2, a1, b1⟩ := kx E ce q u t T'.heap (locs ++ L) e1.symm (by rw [← e2]; exact X'.warmed.alike) hp hb k1 k2 k3 (by rw [e1]; exact hce) hcv hcl T' rfl X'
    exact ⟨t2, st.trans a1, b1⟩
theorem vx_callFl {S SX : Type} {post : Int64 → S → Prop} {px : SX → Prop} {B : S → State → Prop} {BX : String → SX → State → Prop} {AX : Nat → Prop} (hr : vx_Run5 p l e R s m args below meth c H locs cells slots mc ms (F0 m pc ls st0) rest (va_Ql post B A1 a) (vx_X px BX AX) free) (hS : va_S A0 H0 H locs) (hA : ∀ q, q < H.size → A1 q → A0 q) (hf : ∀ q, free q → A0 q) (hAX : ∀ q, q < H.size → AX q → A0 q)
    (kx : ∀ (E : String) (ce : Cell) (q9 : Addr) (u : SX) (t : State) (H1 : Heap) (locs1 : List Loc), t.heap = H1 → s.vm.Alike t.vm → px u → BX E u t → H.size ≤ H1.size → (∀ q : Nat, q < H.size → ¬ AX q → H1[q]? = H[q]?) → va_S A0 H0 H1 locs1 → H1[q9]? = some ce → ce.vm = .none → s.vm.findClass E = some ce.cls → vx_W p l e R s m args below meth c H1 locs1 (cells + mc) (slots + ms) Q (F0 m pc ls rest) q9)
    (kk : ∀ (r : Int64) (u : S) (t : State) (H1 : Heap) (locs1 : List Loc), t.heap = H1 → s.vm.Alike t.vm → post r u → B u t → H.size ≤ H1.size → (∀ q : Nat, q < H.size → ¬ A1 q → H1[q]? = H[q]?) → va_S A0 H0 H1 locs1 → W p l e R s m args below meth c H1 locs1 (cells + mc) (slots + ms) Q (F0 m (pc + 5) ls (.long r :: rest))) : W p l e R s m args below meth c H locs cells slots Q (F0 m pc ls st0) := by
  intro T hT X
  rcases hr T hT X with ⟨v, st₀, t, T', L, h0, X', hL, e1, e2, ⟨⟨r, u, hv, hp, hb⟩, hF⟩, st⟩ | ⟨q, st₀, t, T', L, E, ce, h0, X', hL, e1, e2, ⟨u, hp, hb, hF⟩, hce, hcv, hcl, st⟩
  · cases hv
    obtain ⟨k1, k2, k3⟩ := vx_keep h0 e1 hS hA hf hL hF
    obtain ⟨t2, a1, b1⟩ := kk r u t T'.heap (locs ++ L) e1.symm (by rw [← e2]; exact X'.warmed.alike) hp hb k1 k2 k3 T' rfl X'
    exact ⟨t2, st t2 a1, b1⟩
  · obtain ⟨k1, k2, k3⟩ := vx_keep h0 e1 hS hAX hf hL hF
    obtain ⟨t2, a1, b1⟩ := kx E ce q u t T'.heap (locs ++ L) e1.symm (by rw [← e2]; exact X'.warmed.alike) hp hb k1 k2 k3 (by rw [e1]; exact hce) hcv hcl T' rfl X'
    exact ⟨t2, st.trans a1, b1⟩
theorem vx_callFf {S SX : Type} {post : UInt32 → S → Prop} {px : SX → Prop} {B : S → State → Prop} {BX : String → SX → State → Prop} {AX : Nat → Prop} (hr : vx_Run5 p l e R s m args below meth c H locs cells slots mc ms (F0 m pc ls st0) rest (va_Qf post B A1 a) (vx_X px BX AX) free) (hS : va_S A0 H0 H locs) (hA : ∀ q, q < H.size → A1 q → A0 q) (hf : ∀ q, free q → A0 q) (hAX : ∀ q, q < H.size → AX q → A0 q)
    (kx : ∀ (E : String) (ce : Cell) (q9 : Addr) (u : SX) (t : State) (H1 : Heap) (locs1 : List Loc), t.heap = H1 → s.vm.Alike t.vm → px u → BX E u t → H.size ≤ H1.size → (∀ q : Nat, q < H.size → ¬ AX q → H1[q]? = H[q]?) → va_S A0 H0 H1 locs1 → H1[q9]? = some ce → ce.vm = .none → s.vm.findClass E = some ce.cls → vx_W p l e R s m args below meth c H1 locs1 (cells + mc) (slots + ms) Q (F0 m pc ls rest) q9)
    (kk : ∀ (r : UInt32) (u : S) (t : State) (H1 : Heap) (locs1 : List Loc), t.heap = H1 → s.vm.Alike t.vm → post r u → B u t → H.size ≤ H1.size → (∀ q : Nat, q < H.size → ¬ A1 q → H1[q]? = H[q]?) → va_S A0 H0 H1 locs1 → W p l e R s m args below meth c H1 locs1 (cells + mc) (slots + ms) Q (F0 m (pc + 5) ls (.float r :: rest))) : W p l e R s m args below meth c H locs cells slots Q (F0 m pc ls st0) := by
  intro T hT X
  rcases hr T hT X with ⟨v, st₀, t, T', L, h0, X', hL, e1, e2, ⟨⟨r, u, hv, hp, hb⟩, hF⟩, st⟩ | ⟨q, st₀, t, T', L, E, ce, h0, X', hL, e1, e2, ⟨u, hp, hb, hF⟩, hce, hcv, hcl, st⟩
  · cases hv
    obtain ⟨k1, k2, k3⟩ := vx_keep h0 e1 hS hA hf hL hF
    obtain ⟨t2, a1, b1⟩ := kk r u t T'.heap (locs ++ L) e1.symm (by rw [← e2]; exact X'.warmed.alike) hp hb k1 k2 k3 T' rfl X'
    exact ⟨t2, st t2 a1, b1⟩
  · obtain ⟨k1, k2, k3⟩ := vx_keep h0 e1 hS hAX hf hL hF
    obtain ⟨t2, a1, b1⟩ := kx E ce q u t T'.heap (locs ++ L) e1.symm (by rw [← e2]; exact X'.warmed.alike) hp hb k1 k2 k3 (by rw [e1]; exact hce) hcv hcl T' rfl X'
    exact ⟨t2, st.trans a1, b1⟩
theorem vx_callFd {S SX : Type} {post : UInt64 → S → Prop} {px : SX → Prop} {B : S → State → Prop} {BX : String → SX → State → Prop} {AX : Nat → Prop} (hr : vx_Run5 p l e R s m args below meth c H locs cells slots mc ms (F0 m pc ls st0) rest (va_Qd post B A1 a) (vx_X px BX AX) free) (hS : va_S A0 H0 H locs) (hA : ∀ q, q < H.size → A1 q → A0 q) (hf : ∀ q, free q → A0 q) (hAX : ∀ q, q < H.size → AX q → A0 q)
    (kx : ∀ (E : String) (ce : Cell) (q9 : Addr) (u : SX) (t : State) (H1 : Heap) (locs1 : List Loc), t.heap = H1 → s.vm.Alike t.vm → px u → BX E u t → H.size ≤ H1.size → (∀ q : Nat, q < H.size → ¬ AX q → H1[q]? = H[q]?) → va_S A0 H0 H1 locs1 → H1[q9]? = some ce → ce.vm = .none → s.vm.findClass E = some ce.cls → vx_W p l e R s m args below meth c H1 locs1 (cells + mc) (slots + ms) Q (F0 m pc ls rest) q9)
    (kk : ∀ (r : UInt64) (u : S) (t : State) (H1 : Heap) (locs1 : List Loc), t.heap = H1 → s.vm.Alike t.vm → post r u → B u t → H.size ≤ H1.size → (∀ q : Nat, q < H.size → ¬ A1 q → H1[q]? = H[q]?) → va_S A0 H0 H1 locs1 → W p l e R s m args below meth c H1 locs1 (cells + mc) (slots + ms) Q (F0 m (pc + 5) ls (.double r :: rest))) : W p l e R s m args below meth c H locs cells slots Q (F0 m pc ls st0) := by
  intro T hT X
  rcases hr T hT X with ⟨v, st₀, t, T', L, h0, X', hL, e1, e2, ⟨⟨r, u, hv, hp, hb⟩, hF⟩, st⟩ | ⟨q, st₀, t, T', L, E, ce, h0, X', hL, e1, e2, ⟨u, hp, hb, hF⟩, hce, hcv, hcl, st⟩
  · cases hv
    obtain ⟨k1, k2, k3⟩ := vx_keep h0 e1 hS hA hf hL hF
    obtain ⟨t2, a1, b1⟩ := kk r u t T'.heap (locs ++ L) e1.symm (by rw [← e2]; exact X'.warmed.alike) hp hb k1 k2 k3 T' rfl X'
    exact ⟨t2, st t2 a1, b1⟩
  · obtain ⟨k1, k2, k3⟩ := vx_keep h0 e1 hS hAX hf hL hF
    obtain ⟨t2, a1, b1⟩ := kx E ce q u t T'.heap (locs ++ L) e1.symm (by rw [← e2]; exact X'.warmed.alike) hp hb k1 k2 k3 (by rw [e1]; exact hce) hcv hcl T' rfl X'
    exact ⟨t2, st.trans a1, b1⟩
end
/-! ===== END ===== -/
/-! ===== BEGIN by an interface, a method with a table of its own that may throw (follows va_callIFW, va_runFW) ===== -/
section
variable {p : Program} {l : Launch} {e : Env} {R : Room} {s : State} {m : MethodId} {args : Array Value} {below : List Frame} {meth : Method} {c : Code} {H : Heap} {locs : List Loc} {cells slots : Nat}
theorem vx_callIFW {T : State} (X : Stand p l e R s m args below meth c T locs cells slots) (hexec : p.tables.exec = Jvm.exec) {own C : String} {index count : Nat} {x y : MethodName} {bytes : ByteArray} {maxL : Nat} {ret : Option FieldType} {hh : List (Nat × Nat × Nat × Nat)}
    (hown : s.vm.findClass own = some m.cls) (hlink : (Cond.methodLink own index x).before args s = true) (hdecl : (Cond.declares x).before args s = true) (hface : (Cond.interfaceMethod x.cls x.cls x.name x.desc).before args s = true)
    (hsel : (Cond.selects C x y).before args s = true) (hinst : (Cond.instanceMethod y).before args s = true) (hpub : (Cond.publicMethod y).before args s = true) (hunh : (Cond.unhidden C x.name x.desc).before args s = true)
    (hcast : (Cond.castable C x.cls).before args s = true) (hcode : (Cond.codeWith y bytes maxL ret hh).before args s = true) (hx : x.cls ≠ "java/lang/invoke/MethodHandle" ∧ x.cls ≠ "java/lang/invoke/VarHandle")
    {W : Nat} {Pre : Pt → Array Value → Prop} {Post : Pt → Array Value → Option Value → Pt → Prop} {PostX : Pt → Array Value → Addr → Pt → Prop} (hK : vx_Back l R p e below s args y 5 W Pre Post PostX)
    {b : Addr} {cellB : Cell} {kB : Class} (hcell : T.heap[b]? = some cellB) (hobj : cellB.vm.isStatics = false) (hcls : s.vm.findClass C = some cellB.cls) (hkB : s.vm.classes[cellB.cls]? = some kB)
    {g : JFrame} (hg : g.method = m) (hsize : g.locals.size = c.maxLocals) {argsL rest : List Value} (hlen : ∀ sig, parseMethodDescriptor x.desc = some sig → argsL.length = sig.parameters.length)
    (hstack : g.stack = argsL.reverse ++ .ref b :: rest) (hW : 2 * g.monitorRoom + (rest.map fun v => v.category).sum ≤ W) (hdg : decode c.code g.pc = .ok (.invokeinterface index count, 5))
    (hpre : ∀ vm₁, s.WarmedH vm₁ → Pre ⟨T.setVm vm₁, locs, cells, slots⟩ (Value.ref b :: argsL).toArray) :
    (∃ (v : Option Value) (vm₁ : Vm) (B : Pt), s.WarmedH vm₁ ∧ Stand p l e R s m args below meth c B.U B.locs B.cells B.slots ∧ Post ⟨T.setVm vm₁, locs, cells, slots⟩ (Value.ref b :: argsL).toArray v B ∧
      ∀ target, Steps p.tables e below (B.U.setTop { g with pc := g.pc + 5, stack := v.toList ++ rest }) target → Steps p.tables e below (T.setTop g) target) ∨
    (∃ (q : Addr) (vm₁ : Vm) (B : Pt), s.WarmedH vm₁ ∧ Stand p l e R s m args below meth c B.U B.locs B.cells B.slots ∧ PostX ⟨T.setVm vm₁, locs, cells, slots⟩ (Value.ref b :: argsL).toArray q B ∧
      Steps p.tables e below (T.setTop g) ((B.U.setTop { g with stack := rest }).pushFrame (.throwing q))) := by
  obtain ⟨r0, r, hn, hrm, hstR, hsigR⟩ := Cond.declares_spec hdecl
  obtain ⟨cL, kL, r1, hcL, hkL, hiL, hfoundL, hn1⟩ := Cond.interfaceMethod_spec hface
  cases hn.symm.trans hn1
  have hr0cls : r0.cls = cL := Option.some.inj ((findClass_of_methodNamed hn).symm.trans hcL)
  obtain ⟨hnameR, hdescR⟩ := name_of_methodNamed hn hrm
  obtain ⟨mk, methM, hnamed, hmethM, -, habM⟩ := Cond.instanceMethod_spec hinst
  obtain ⟨c2, r2, m2, q1, q2, q3, q4, -⟩ := Cond.selects_spec hsel
  cases hcls.symm.trans q1
  cases hfoundL.symm.trans q2
  cases hnamed.symm.trans q3
  have hselP : selectMethod e.platform s.vm cellB.cls r0 = .method mk := by rw [Launch.admits_selectMethod X.admits]; exact q4
  have hpubM : hasFlag methM.accessFlags Acc.public_ = true := Cond.publicMethod_spec hnamed hmethM hpub
  have hway : ((cellB.cls :: s.vm.superclasses cellB.cls).any fun k => (declaredIn s.vm r.name r.desc k).any fun (_, z) => z.isPrivate || z.isStatic) = false := by
    rw [hnameR, hdescR]; exact Cond.unhidden_spec hcls hunh
  obtain ⟨c3, t3, w1, w2, w3⟩ := Cond.castable_spec hcast
  cases hcls.symm.trans w1
  cases hcL.symm.trans w2
  obtain ⟨vm₁, X₁, hstep₁⟩ := X.invokeinterface hexec hown hlink hn hrm hstR (by rw [hr0cls]; exact hkL) hiL hx (a := b) (cell := cellB) (kcell := kB) hcell
    (fun z h => by rw [h] at hobj; cases hobj) hkB (by rw [hr0cls]; exact w3) hselP hmethM hway hpubM habM (g := g) hg (argsL := argsL) (rest := rest) (hlen _ hsigR) hstack hdg
  rcases hK m meth c ⟨T.setVm vm₁, locs, cells, slots⟩ { g with stack := rest } (.invokeinterface index count) mk (Value.ref b :: argsL).toArray X₁ hg hsize hdg hW (X₁.named hnamed) (hpre vm₁ X₁.warmed) with ⟨v, B, X', hpost, hsteps⟩ | ⟨q, B, X', hpost, hsteps⟩
  · exact Or.inl ⟨v, vm₁, B, X₁.warmed, X', hpost, fun target h => hstep₁ _ fun acts => by rw [doInvoke_state]; exact hsteps.trans h⟩
  · exact Or.inr ⟨q, vm₁, B, X₁.warmed, X', hpost, hstep₁ _ fun acts => by rw [doInvoke_state]; exact hsteps⟩
theorem vx_runFW {x y : MethodName} {bytes cc : ByteArray} {maxL nL mc ms n index count : Nat} {ret : Option FieldType} {hh : List (Nat × Nat × Nat × Nat)} {ws : List Cond} {rm : Room} {Pc : Array Value → State → Prop} {Qc : Array Value → State → Outcome → State → Prop} {XC : String → State → State → Prop} {free : Addr → Prop} {Ts : List Cond} {own C : String} {cC : ClassId} {b : Addr} {As rest : List Value} {g : JFrame}
    (hat : ClassAt s C cC) (S : CallFix p m c cc nL s args Ts own) (hM : vx_Met l y ws rm Pc Qc XC mc ms free) (cw : va_CIW R s args own C index x y bytes maxL ret hh ws rm mc ms n) (hp : PreV s H C b Pc As)
    (hg : g.method = m) (hn : As.length = n) (hsize : g.locals.size = nL) (hstack : g.stack = As.reverse ++ .ref b :: rest) (hW : 2 * g.monitorRoom + (rest.map fun v => v.category).sum ≤ 8) (hdg : decode cc g.pc = .ok (.invokeinterface index count, 5)) (hf : cells + mc ≤ R.cells ∧ slots + ms ≤ R.slots) :
    vx_Run5 p l e R s m args below meth c H locs cells slots mc ms g rest (Qc (Value.ref b :: As).toArray) XC free := by
  obtain ⟨hrc, hrs, hfr, hlo, hws, hcw⟩ := cw.back
  have hini := cw.init
  have hK : vx_Back l R p e below s args y 5 8 (PreOf R mc ms Pc) (PostOf Qc mc ms free) (vx_Post XC mc ms free) := vx_backW (hh := hh) (bytes := bytes) (maxL := maxL) (ret := ret) hM hp.1 hrc hrs hfr hlo hws hcw (fun a' U hW => word_at hW (Or.inl (by first | rfl | simp [Cond.onTables, Cond.keeps, Cond.steady])) hini)
  obtain ⟨hx, hb, hml, ho, -⟩ := S
  obtain ⟨-, ⟨cellB, hcB, hoB, hclB⟩, hPc⟩ := hp
  obtain ⟨hfc, kB, hkB, -⟩ := hat
  cases hfc.symm.trans hclB
  intro T hT X
  rcases vx_callIFW X hx (C := C) (hh := hh) (bytes := bytes) (maxL := maxL) (ret := ret) ho cw.link cw.decl cw.face cw.sel cw.inst cw.pub cw.unh cw.cast cw.code cw.notMH hK (by rw [hT]; exact hcB) hoB hclB hkB hg (hsize.trans hml.symm) (argsL := As) (rest := rest) (fun sig h => hn.trans (cw.len sig h)) hstack hW (by rw [hb]; exact hdg)
    (fun vm₁ hW₁ => ⟨hf.1, hf.2, hPc (T.setVm vm₁) hT hW₁⟩) with ⟨v, vm₁, ⟨U', l2, c2, s2⟩, hW₁, X', ⟨g', mk, t, L, e1, e2, hq, h1, hL, h2, h3⟩, st⟩ | ⟨q, vm₁, ⟨U', l2, c2, s2⟩, hW₁, X', ⟨g', mk, t, L, E, ce, e1, e2, hq, hce, hcv, hcl, h1, hL, h2, h3⟩, st⟩
  · dsimp only [Pt.U, Pt.locs, Pt.cells, Pt.slots] at X' e1 e2 h1 h2 h3 st
    subst h1; subst h2; subst h3
    exact Or.inl ⟨v, (T.setVm vm₁).calling g' mk (Value.ref b :: As).toArray, t, U', L, hT, X', hL, e1, e2, hq, st⟩
  · dsimp only [Pt.U, Pt.locs, Pt.cells, Pt.slots] at X' e1 e2 h1 h2 h3 st hcl
    subst h1; subst h2; subst h3
    exact Or.inr ⟨q, (T.setVm vm₁).calling g' mk (Value.ref b :: As).toArray, t, U', L, E, ce, hT, X', hL, e1, e2, hq, hce, hcv, vx_cls hW₁ hcl, st⟩
end
/-! ===== END ===== -/
/-! ===== BEGIN .. of methods that hand back an object of the pool ===== -/
section
variable {p : Program} {l : Launch} {e : Env} {R : Room} {s : State} {m : MethodId} {args : Array Value} {below : List Frame} {meth : Method} {c : Code} {H : Heap} {locs : List Loc} {cells slots : Nat} {Q : State → Prop}
variable {mc ms : Nat} {free : Addr → Prop} {A0 A1 : Nat → Prop} {H0 : Heap} {a : Array Value} {pc : Nat} {ls : Array Slot} {st0 rest : List Value}
theorem vx_callq {S SX : Type} {post : Option Nat → S → Prop} {px : SX → Prop} {B : S → State → Prop} {BX : String → SX → State → Prop} {AX : Nat → Prop} (hr : vx_Run p l e R s m args below meth c H locs cells slots mc ms (F0 m pc ls st0) rest (va_Qq post B A1 a) (vx_X px BX AX) free) (hS : va_S A0 H0 H locs) (hA : ∀ q, q < H.size → A1 q → A0 q) (hf : ∀ q, free q → A0 q) (hAX : ∀ q, q < H.size → AX q → A0 q)
    (kx : ∀ (E : String) (ce : Cell) (q9 : Addr) (u : SX) (t : State) (H1 : Heap) (locs1 : List Loc), t.heap = H1 → s.vm.Alike t.vm → px u → BX E u t → H.size ≤ H1.size → (∀ q : Nat, q < H.size → ¬ AX q → H1[q]? = H[q]?) → va_S A0 H0 H1 locs1 → H1[q9]? = some ce → ce.vm = .none → s.vm.findClass E = some ce.cls → vx_W p l e R s m args below meth c H1 locs1 (cells + mc) (slots + ms) Q (F0 m pc ls rest) q9)
    (kk : ∀ (r : Option Nat) (u : S) (t : State) (H1 : Heap) (locs1 : List Loc), t.heap = H1 → s.vm.Alike t.vm → post r u → B u t → H.size ≤ H1.size → (∀ q : Nat, q < H.size → ¬ A1 q → H1[q]? = H[q]?) → va_S A0 H0 H1 locs1 → W p l e R s m args below meth c H1 locs1 (cells + mc) (slots + ms) Q (F0 m (pc + 3) ls (va_rf r :: rest))) : W p l e R s m args below meth c H locs cells slots Q (F0 m pc ls st0) := by
  intro T hT X
  rcases hr T hT X with ⟨v, st₀, t, T', L, h0, X', hL, e1, e2, ⟨⟨r, u, hv, hp, hb⟩, hF⟩, st⟩ | ⟨q, st₀, t, T', L, E, ce, h0, X', hL, e1, e2, ⟨u, hp, hb, hF⟩, hce, hcv, hcl, st⟩
  · cases hv
    obtain ⟨k1, k2, k3⟩ := vx_keep h0 e1 hS hA hf hL hF
    obtain ⟨t2, a1, b1⟩ := kk r u t T'.heap (locs ++ L) e1.symm (by rw [← e2]; exact X'.warmed.alike) hp hb k1 k2 k3 T' rfl X'
    exact ⟨t2, st t2 a1, b1⟩
  · obtain ⟨k1, k2, k3⟩ := vx_keep h0 e1 hS hAX hf hL hF
    obtain ⟨t2, a1, b1⟩ := kx E ce q u t T'.heap (locs ++ L) e1.symm (by rw [← e2]; exact X'.warmed.alike) hp hb k1 k2 k3 (by rw [e1]; exact hce) hcv hcl T' rfl X'
    exact ⟨t2, st.trans a1, b1⟩
end
/-! ===== END ===== -/
/-! ===== BEGIN .. a constant ===== -/
section
variable {p : Program} {l : Launch} {e : Env} {R : Room} {s : State} {m : MethodId} {args : Array Value} {below : List Frame} {meth : Method} {c : Code} {H : Heap} {locs : List Loc} {cells slots : Nat} {Q : State → Prop}
variable {mc ms : Nat} {free : Addr → Prop} {A0 A1 : Nat → Prop} {H0 : Heap} {a : Array Value} {pc : Nat} {ls : Array Slot} {st0 rest : List Value}
theorem vx_calle {ad : Nat → Nat} {S SX : Type} {post : Option Nat → S → Prop} {px : SX → Prop} {B : S → State → Prop} {BX : String → SX → State → Prop} {AX : Nat → Prop} (hr : vx_Run p l e R s m args below meth c H locs cells slots mc ms (F0 m pc ls st0) rest (va_Qe ad post B A1 a) (vx_X px BX AX) free) (hS : va_S A0 H0 H locs) (hA : ∀ q, q < H.size → A1 q → A0 q) (hf : ∀ q, free q → A0 q) (hAX : ∀ q, q < H.size → AX q → A0 q)
    (kx : ∀ (E : String) (ce : Cell) (q9 : Addr) (u : SX) (t : State) (H1 : Heap) (locs1 : List Loc), t.heap = H1 → s.vm.Alike t.vm → px u → BX E u t → H.size ≤ H1.size → (∀ q : Nat, q < H.size → ¬ AX q → H1[q]? = H[q]?) → va_S A0 H0 H1 locs1 → H1[q9]? = some ce → ce.vm = .none → s.vm.findClass E = some ce.cls → vx_W p l e R s m args below meth c H1 locs1 (cells + mc) (slots + ms) Q (F0 m pc ls rest) q9)
    (kk : ∀ (r : Option Nat) (u : S) (t : State) (H1 : Heap) (locs1 : List Loc), t.heap = H1 → s.vm.Alike t.vm → post r u → B u t → H.size ≤ H1.size → (∀ q : Nat, q < H.size → ¬ A1 q → H1[q]? = H[q]?) → va_S A0 H0 H1 locs1 → W p l e R s m args below meth c H1 locs1 (cells + mc) (slots + ms) Q (F0 m (pc + 3) ls (va_re ad r :: rest))) : W p l e R s m args below meth c H locs cells slots Q (F0 m pc ls st0) := by
  intro T hT X
  rcases hr T hT X with ⟨v, st₀, t, T', L, h0, X', hL, e1, e2, ⟨⟨r, u, hv, hp, hb⟩, hF⟩, st⟩ | ⟨q, st₀, t, T', L, E, ce, h0, X', hL, e1, e2, ⟨u, hp, hb, hF⟩, hce, hcv, hcl, st⟩
  · cases hv
    obtain ⟨k1, k2, k3⟩ := vx_keep h0 e1 hS hA hf hL hF
    obtain ⟨t2, a1, b1⟩ := kk r u t T'.heap (locs ++ L) e1.symm (by rw [← e2]; exact X'.warmed.alike) hp hb k1 k2 k3 T' rfl X'
    exact ⟨t2, st t2 a1, b1⟩
  · obtain ⟨k1, k2, k3⟩ := vx_keep h0 e1 hS hAX hf hL hF
    obtain ⟨t2, a1, b1⟩ := kx E ce q u t T'.heap (locs ++ L) e1.symm (by rw [← e2]; exact X'.warmed.alike) hp hb k1 k2 k3 (by rw [e1]; exact hce) hcv hcl T' rfl X'
    exact ⟨t2, st.trans a1, b1⟩
end
/-! ===== END ===== -/
/-! ===== BEGIN .. by an interface, an object ===== -/
section
variable {p : Program} {l : Launch} {e : Env} {R : Room} {s : State} {m : MethodId} {args : Array Value} {below : List Frame} {meth : Method} {c : Code} {H : Heap} {locs : List Loc} {cells slots : Nat} {Q : State → Prop}
variable {mc ms : Nat} {free : Addr → Prop} {A0 A1 : Nat → Prop} {H0 : Heap} {a : Array Value} {pc : Nat} {ls : Array Slot} {st0 rest : List Value}
theorem vx_callFq {S SX : Type} {post : Option Nat → S → Prop} {px : SX → Prop} {B : S → State → Prop} {BX : String → SX → State → Prop} {AX : Nat → Prop} (hr : vx_Run5 p l e R s m args below meth c H locs cells slots mc ms (F0 m pc ls st0) rest (va_Qq post B A1 a) (vx_X px BX AX) free) (hS : va_S A0 H0 H locs) (hA : ∀ q, q < H.size → A1 q → A0 q) (hf : ∀ q, free q → A0 q) (hAX : ∀ q, q < H.size → AX q → A0 q)
    (kx : ∀ (E : String) (ce : Cell) (q9 : Addr) (u : SX) (t : State) (H1 : Heap) (locs1 : List Loc), t.heap = H1 → s.vm.Alike t.vm → px u → BX E u t → H.size ≤ H1.size → (∀ q : Nat, q < H.size → ¬ AX q → H1[q]? = H[q]?) → va_S A0 H0 H1 locs1 → H1[q9]? = some ce → ce.vm = .none → s.vm.findClass E = some ce.cls → vx_W p l e R s m args below meth c H1 locs1 (cells + mc) (slots + ms) Q (F0 m pc ls rest) q9)
    (kk : ∀ (r : Option Nat) (u : S) (t : State) (H1 : Heap) (locs1 : List Loc), t.heap = H1 → s.vm.Alike t.vm → post r u → B u t → H.size ≤ H1.size → (∀ q : Nat, q < H.size → ¬ A1 q → H1[q]? = H[q]?) → va_S A0 H0 H1 locs1 → W p l e R s m args below meth c H1 locs1 (cells + mc) (slots + ms) Q (F0 m (pc + 5) ls (va_rf r :: rest))) : W p l e R s m args below meth c H locs cells slots Q (F0 m pc ls st0) := by
  intro T hT X
  rcases hr T hT X with ⟨v, st₀, t, T', L, h0, X', hL, e1, e2, ⟨⟨r, u, hv, hp, hb⟩, hF⟩, st⟩ | ⟨q, st₀, t, T', L, E, ce, h0, X', hL, e1, e2, ⟨u, hp, hb, hF⟩, hce, hcv, hcl, st⟩
  · cases hv
    obtain ⟨k1, k2, k3⟩ := vx_keep h0 e1 hS hA hf hL hF
    obtain ⟨t2, a1, b1⟩ := kk r u t T'.heap (locs ++ L) e1.symm (by rw [← e2]; exact X'.warmed.alike) hp hb k1 k2 k3 T' rfl X'
    exact ⟨t2, st t2 a1, b1⟩
  · obtain ⟨k1, k2, k3⟩ := vx_keep h0 e1 hS hAX hf hL hF
    obtain ⟨t2, a1, b1⟩ := kx E ce q u t T'.heap (locs ++ L) e1.symm (by rw [← e2]; exact X'.warmed.alike) hp hb k1 k2 k3 (by rw [e1]; exact hce) hcv hcl T' rfl X'
    exact ⟨t2, st.trans a1, b1⟩
end
/-! ===== END ===== -/
/-! ===== BEGIN .. by an interface, a constant ===== -/
section
variable {p : Program} {l : Launch} {e : Env} {R : Room} {s : State} {m : MethodId} {args : Array Value} {below : List Frame} {meth : Method} {c : Code} {H : Heap} {locs : List Loc} {cells slots : Nat} {Q : State → Prop}
variable {mc ms : Nat} {free : Addr → Prop} {A0 A1 : Nat → Prop} {H0 : Heap} {a : Array Value} {pc : Nat} {ls : Array Slot} {st0 rest : List Value}
theorem vx_callFe {ad : Nat → Nat} {S SX : Type} {post : Option Nat → S → Prop} {px : SX → Prop} {B : S → State → Prop} {BX : String → SX → State → Prop} {AX : Nat → Prop} (hr : vx_Run5 p l e R s m args below meth c H locs cells slots mc ms (F0 m pc ls st0) rest (va_Qe ad post B A1 a) (vx_X px BX AX) free) (hS : va_S A0 H0 H locs) (hA : ∀ q, q < H.size → A1 q → A0 q) (hf : ∀ q, free q → A0 q) (hAX : ∀ q, q < H.size → AX q → A0 q)
    (kx : ∀ (E : String) (ce : Cell) (q9 : Addr) (u : SX) (t : State) (H1 : Heap) (locs1 : List Loc), t.heap = H1 → s.vm.Alike t.vm → px u → BX E u t → H.size ≤ H1.size → (∀ q : Nat, q < H.size → ¬ AX q → H1[q]? = H[q]?) → va_S A0 H0 H1 locs1 → H1[q9]? = some ce → ce.vm = .none → s.vm.findClass E = some ce.cls → vx_W p l e R s m args below meth c H1 locs1 (cells + mc) (slots + ms) Q (F0 m pc ls rest) q9)
    (kk : ∀ (r : Option Nat) (u : S) (t : State) (H1 : Heap) (locs1 : List Loc), t.heap = H1 → s.vm.Alike t.vm → post r u → B u t → H.size ≤ H1.size → (∀ q : Nat, q < H.size → ¬ A1 q → H1[q]? = H[q]?) → va_S A0 H0 H1 locs1 → W p l e R s m args below meth c H1 locs1 (cells + mc) (slots + ms) Q (F0 m (pc + 5) ls (va_re ad r :: rest))) : W p l e R s m args below meth c H locs cells slots Q (F0 m pc ls st0) := by
  intro T hT X
  rcases hr T hT X with ⟨v, st₀, t, T', L, h0, X', hL, e1, e2, ⟨⟨r, u, hv, hp, hb⟩, hF⟩, st⟩ | ⟨q, st₀, t, T', L, E, ce, h0, X', hL, e1, e2, ⟨u, hp, hb, hF⟩, hce, hcv, hcl, st⟩
  · cases hv
    obtain ⟨k1, k2, k3⟩ := vx_keep h0 e1 hS hA hf hL hF
    obtain ⟨t2, a1, b1⟩ := kk r u t T'.heap (locs ++ L) e1.symm (by rw [← e2]; exact X'.warmed.alike) hp hb k1 k2 k3 T' rfl X'
    exact ⟨t2, st t2 a1, b1⟩
  · obtain ⟨k1, k2, k3⟩ := vx_keep h0 e1 hS hAX hf hL hF
    obtain ⟨t2, a1, b1⟩ := kx E ce q u t T'.heap (locs ++ L) e1.symm (by rw [← e2]; exact X'.warmed.alike) hp hb k1 k2 k3 (by rw [e1]; exact hce) hcv hcl T' rfl X'
    exact ⟨t2, st.trans a1, b1⟩
end
/-! ===== END ===== -/
/-! ===== BEGIN what the machine throws by itself: null at a field, at athrow ===== -/
section VXM2
variable {p : Program} {l : Launch} {e : Env} {R : Room} {s : State} {m : MethodId} {args : Array Value} {below : List Frame} {meth : Method} {c : Code} {H : Heap} {locs : List Loc} {cells slots : Nat}
variable {Q : State → Prop} {cc : ByteArray} {pc : Nat} {ls : Array Slot} {rest : List Value}
theorem vx_getfN {D cl tys} {own ref C : String} {T : u_T} {N ci index : Nat} {Ts : List Cond} (hexec : p.tables.exec = Jvm.exec) (hb : c.code = cc) (hts : ∀ w ∈ Ts, w.before args s = true) (hin : ∀ w ∈ u_ws C T N, w ∈ Ts) (hown : s.vm.findClass own = some m.cls) (hK : va_K D cl tys s) (hc : cl[ci]? = some (C, T, N)) (k : Nat) (hk : k < N) (hlink : (Cond.fieldLink own index ref (T k).2.1 (T k).2.2.1).before args s = true) (hsame : ∀ x, s.fieldFound? (T k).1 (T k).2.1 (T k).2.2.1 = some x → s.fieldFound? ref (T k).2.1 (T k).2.2.1 = some x) (hdg : decode cc pc = .ok (.getfield index, 3)) (kk : vx_NoteN p l e R s m args below meth c H locs cells slots Q (F0 m pc ls rest)) : W p l e R s m args below meth c H locs cells slots Q (F0 m pc ls (.null :: rest)) := by
  obtain ⟨hS, hfc, kC, hkC, -⟩ := hK.1 ci _ hc
  obtain ⟨cf, kf, fi, f, hi, -⟩ := hS k hk
  intro U hU X
  obtain ⟨vm', X1, st1⟩ := X.getfieldNull hexec hown hlink (hsame _ hi) (u_facts hfc hkC (u_lays hts hin hk) hi).1 (g := F0 m pc ls (.null :: rest)) rfl (rest := rest) rfl (by rw [hb]; exact hdg)
  obtain ⟨t, st, q⟩ := kk (U.setVm vm') hU X1
  exact ⟨t, st1 t st, q⟩
theorem vx_getfNN {D cl tys} {own ref C host : String} {T : u_T} {N ci index : Nat} {Ts : List Cond} (hexec : p.tables.exec = Jvm.exec) (hb : c.code = cc) (hts : ∀ w ∈ Ts, w.before args s = true) (hin : ∀ w ∈ u_ws C T N, w ∈ Ts) (hown : s.vm.findClass own = some m.cls) (hK : va_K D cl tys s) (hc : cl[ci]? = some (C, T, N)) (k : Nat) (hk : k < N) (hlink : (Cond.fieldLinkNest own index ref (T k).2.1 (T k).2.2.1 host).before args s = true) (hsame : ∀ x, s.fieldFound? (T k).1 (T k).2.1 (T k).2.2.1 = some x → s.fieldFound? ref (T k).2.1 (T k).2.2.1 = some x) (hdg : decode cc pc = .ok (.getfield index, 3)) (kk : vx_NoteN p l e R s m args below meth c H locs cells slots Q (F0 m pc ls rest)) : W p l e R s m args below meth c H locs cells slots Q (F0 m pc ls (.null :: rest)) := by
  obtain ⟨hS, hfc, kC, hkC, -⟩ := hK.1 ci _ hc
  obtain ⟨cf, kf, fi, f, hi, -⟩ := hS k hk
  intro U hU X
  obtain ⟨vm', X1, st1⟩ := X.getfieldNullNest hexec hown hlink (hsame _ hi) (u_facts hfc hkC (u_lays hts hin hk) hi).1 (g := F0 m pc ls (.null :: rest)) rfl (rest := rest) rfl (by rw [hb]; exact hdg)
  obtain ⟨t, st, q⟩ := kk (U.setVm vm') hU X1
  exact ⟨t, st1 t st, q⟩
theorem vx_putfN {D cl tys} {own ref C : String} {T : u_T} {N ci index : Nat} {Ts : List Cond} (hexec : p.tables.exec = Jvm.exec) (hb : c.code = cc) (hts : ∀ w ∈ Ts, w.before args s = true) (hin : ∀ w ∈ u_ws C T N, w ∈ Ts) (hown : s.vm.findClass own = some m.cls) (hK : va_K D cl tys s) (hc : cl[ci]? = some (C, T, N)) (k : Nat) (hk : k < N) (hlink : (Cond.fieldLink own index ref (T k).2.1 (T k).2.2.1).before args s = true) (hsame : ∀ x, s.fieldFound? (T k).1 (T k).2.1 (T k).2.2.1 = some x → s.fieldFound? ref (T k).2.1 (T k).2.2.1 = some x) (hfin : (T k).2.2.2 = false) {v : Value} (hdg : decode cc pc = .ok (.putfield index, 3)) (kk : vx_NoteN p l e R s m args below meth c H locs cells slots Q (F0 m pc ls rest)) : W p l e R s m args below meth c H locs cells slots Q (F0 m pc ls (v :: .null :: rest)) := by
  obtain ⟨hS, hfc, kC, hkC, -⟩ := hK.1 ci _ hc
  obtain ⟨cf, kf, fi, f, hi, -⟩ := hS k hk
  have hlay := hts _ (hin _ (u_in_lay hk))
  unfold u_lay at hlay
  rw [if_neg (by rw [hfin]; decide)] at hlay
  obtain ⟨c9, k9, cf9, kf9, fi9, f9, -, -, hi9, hst9, hnf9, -⟩ := Cond.lays_spec hlay
  cases hi.symm.trans hi9
  intro U hU X
  obtain ⟨vm', X1, st1⟩ := X.putfieldNull hexec hown hlink (hsame _ hi) hst9 hnf9 (g := F0 m pc ls (v :: .null :: rest)) rfl (v := v) (rest := rest) rfl (by rw [hb]; exact hdg)
  obtain ⟨t, st, q⟩ := kk (U.setVm vm') hU X1
  exact ⟨t, st1 t st, q⟩
theorem vx_putfNN {D cl tys} {own ref C host : String} {T : u_T} {N ci index : Nat} {Ts : List Cond} (hexec : p.tables.exec = Jvm.exec) (hb : c.code = cc) (hts : ∀ w ∈ Ts, w.before args s = true) (hin : ∀ w ∈ u_ws C T N, w ∈ Ts) (hown : s.vm.findClass own = some m.cls) (hK : va_K D cl tys s) (hc : cl[ci]? = some (C, T, N)) (k : Nat) (hk : k < N) (hlink : (Cond.fieldLinkNest own index ref (T k).2.1 (T k).2.2.1 host).before args s = true) (hsame : ∀ x, s.fieldFound? (T k).1 (T k).2.1 (T k).2.2.1 = some x → s.fieldFound? ref (T k).2.1 (T k).2.2.1 = some x) (hfin : (T k).2.2.2 = false) {v : Value} (hdg : decode cc pc = .ok (.putfield index, 3)) (kk : vx_NoteN p l e R s m args below meth c H locs cells slots Q (F0 m pc ls rest)) : W p l e R s m args below meth c H locs cells slots Q (F0 m pc ls (v :: .null :: rest)) := by
  obtain ⟨hS, hfc, kC, hkC, -⟩ := hK.1 ci _ hc
  obtain ⟨cf, kf, fi, f, hi, -⟩ := hS k hk
  have hlay := hts _ (hin _ (u_in_lay hk))
  unfold u_lay at hlay
  rw [if_neg (by rw [hfin]; decide)] at hlay
  obtain ⟨c9, k9, cf9, kf9, fi9, f9, -, -, hi9, hst9, hnf9, -⟩ := Cond.lays_spec hlay
  cases hi.symm.trans hi9
  intro U hU X
  obtain ⟨vm', X1, st1⟩ := X.putfieldNullNest hexec hown hlink (hsame _ hi) hst9 hnf9 (g := F0 m pc ls (v :: .null :: rest)) rfl (v := v) (rest := rest) rfl (by rw [hb]; exact hdg)
  obtain ⟨t, st, q⟩ := kk (U.setVm vm') hU X1
  exact ⟨t, st1 t st, q⟩
theorem vx_athrowN (hexec : p.tables.exec = Jvm.exec) (hb : c.code = cc) (hdg : decode cc pc = .ok (.athrow, 1)) (k : vx_NoteN p l e R s m args below meth c H locs cells slots Q (F0 m pc ls rest)) : W p l e R s m args below meth c H locs cells slots Q (F0 m pc ls (.null :: rest)) := by
  intro T hT X
  obtain ⟨t, st, q⟩ := k T hT X
  exact ⟨t, X.athrowNull hexec (g := F0 m pc ls (.null :: rest)) rfl (rest := rest) rfl (by rw [hb]; exact hdg) t st, q⟩
end VXM2
/-! ===== END ===== -/
end
section
-- ===== PART A: goes FIRST, ahead of the names: the tables' words, and 'selects' of the private methods out of them =====
/-- a private method of a class that the tables say can be made, by its rows of tables_1 -/
def lw_okq (q : MethodName × Nat) : Prop := (q.1.cls ≠ "java/lang/invoke/MethodHandle" ∧ q.1.cls ≠ "java/lang/invoke/VarHandle") ∧ Cond.instantiable q.1.cls q.2 ∈ tables_1 ∧ Cond.privateMethod q.1 ∈ tables_1 ∧ Cond.instanceMethod q.1 ∈ tables_1
theorem lw_p0 : lw_okq (⟨"java/lang/Throwable", "fillInStackTrace", "(I)Ljava/lang/Throwable;"⟩, 6) := ⟨⟨by decide +kernel, by decide +kernel⟩, List.mem_of_getElem? (i := 211) (by decide +kernel), List.mem_of_getElem? (i := 209) (by decide +kernel), List.mem_of_getElem? (i := 210) (by decide +kernel)⟩
theorem lw_p1 : lw_okq (⟨"TesseraHall", "boardAt", "(I)LTesseraHall$Board;"⟩, 5) := ⟨⟨by decide +kernel, by decide +kernel⟩, List.mem_of_getElem? (i := 34) (by decide +kernel), List.mem_of_getElem? (i := 241) (by decide +kernel), List.mem_of_getElem? (i := 242) (by decide +kernel)⟩
theorem lw_p2 : lw_okq (⟨"TesseraHall", "withBoard", "(JI)J"⟩, 5) := ⟨⟨by decide +kernel, by decide +kernel⟩, List.mem_of_getElem? (i := 34) (by decide +kernel), List.mem_of_getElem? (i := 273) (by decide +kernel), List.mem_of_getElem? (i := 274) (by decide +kernel)⟩
theorem lw_p3 : lw_okq (⟨"TesseraHall$Album", "isChangedBy", "(LTesseraHall$Grid;I)Z"⟩, 11) := ⟨⟨by decide +kernel, by decide +kernel⟩, List.mem_of_getElem? (i := 97) (by decide +kernel), List.mem_of_getElem? (i := 299) (by decide +kernel), List.mem_of_getElem? (i := 300) (by decide +kernel)⟩
theorem lw_p4 : lw_okq (⟨"TesseraHall$Grid", "followingIn", "(III)I"⟩, 5) := ⟨⟨by decide +kernel, by decide +kernel⟩, List.mem_of_getElem? (i := 44) (by decide +kernel), List.mem_of_getElem? (i := 316) (by decide +kernel), List.mem_of_getElem? (i := 317) (by decide +kernel)⟩
theorem lw_p5 : lw_okq (⟨"TesseraHall$Grid", "putFollowing", "(IIIII)V"⟩, 5) := ⟨⟨by decide +kernel, by decide +kernel⟩, List.mem_of_getElem? (i := 44) (by decide +kernel), List.mem_of_getElem? (i := 320) (by decide +kernel), List.mem_of_getElem? (i := 321) (by decide +kernel)⟩
theorem lw_p6 : lw_okq (⟨"TesseraHall$Album", "canGoOn", "(I)Z"⟩, 11) := ⟨⟨by decide +kernel, by decide +kernel⟩, List.mem_of_getElem? (i := 97) (by decide +kernel), List.mem_of_getElem? (i := 333) (by decide +kernel), List.mem_of_getElem? (i := 334) (by decide +kernel)⟩
theorem lw_p7 : lw_okq (⟨"TesseraHall$Album", "agreeingWays", "(II)I"⟩, 11) := ⟨⟨by decide +kernel, by decide +kernel⟩, List.mem_of_getElem? (i := 97) (by decide +kernel), List.mem_of_getElem? (i := 337) (by decide +kernel), List.mem_of_getElem? (i := 338) (by decide +kernel)⟩
theorem lw_p8 : lw_okq (⟨"TesseraHall$Album", "add", "(I)V"⟩, 11) := ⟨⟨by decide +kernel, by decide +kernel⟩, List.mem_of_getElem? (i := 97) (by decide +kernel), List.mem_of_getElem? (i := 345) (by decide +kernel), List.mem_of_getElem? (i := 346) (by decide +kernel)⟩
theorem lw_p9 : lw_okq (⟨"TesseraHall$Album", "narrowColumns", "(II)V"⟩, 11) := ⟨⟨by decide +kernel, by decide +kernel⟩, List.mem_of_getElem? (i := 97) (by decide +kernel), List.mem_of_getElem? (i := 350) (by decide +kernel), List.mem_of_getElem? (i := 351) (by decide +kernel)⟩
theorem lw_p10 : lw_okq (⟨"TesseraHall$Grid", "unknownIn", "(I)I"⟩, 5) := ⟨⟨by decide +kernel, by decide +kernel⟩, List.mem_of_getElem? (i := 44) (by decide +kernel), List.mem_of_getElem? (i := 427) (by decide +kernel), List.mem_of_getElem? (i := 428) (by decide +kernel)⟩
theorem lw_p11 : lw_okq (⟨"TesseraHall$Album", "darkIn", "(I)I"⟩, 11) := ⟨⟨by decide +kernel, by decide +kernel⟩, List.mem_of_getElem? (i := 97) (by decide +kernel), List.mem_of_getElem? (i := 437) (by decide +kernel), List.mem_of_getElem? (i := 438) (by decide +kernel)⟩
theorem lw_p12 : lw_okq (⟨"TesseraHall$Album", "countDarks", "()V"⟩, 11) := ⟨⟨by decide +kernel, by decide +kernel⟩, List.mem_of_getElem? (i := 97) (by decide +kernel), List.mem_of_getElem? (i := 441) (by decide +kernel), List.mem_of_getElem? (i := 442) (by decide +kernel)⟩
theorem lw_p13 : lw_okq (⟨"TesseraHall$Album", "tellsFirst", "(I)Z"⟩, 11) := ⟨⟨by decide +kernel, by decide +kernel⟩, List.mem_of_getElem? (i := 97) (by decide +kernel), List.mem_of_getElem? (i := 467) (by decide +kernel), List.mem_of_getElem? (i := 468) (by decide +kernel)⟩
theorem lw_p14 : lw_okq (⟨"TesseraHall$Grid", "runsOtherWay", "(II)Z"⟩, 5) := ⟨⟨by decide +kernel, by decide +kernel⟩, List.mem_of_getElem? (i := 44) (by decide +kernel), List.mem_of_getElem? (i := 479) (by decide +kernel), List.mem_of_getElem? (i := 480) (by decide +kernel)⟩
theorem lw_p15 : lw_okq (⟨"TesseraHall$Grid", "turnedLine", "(II)I"⟩, 5) := ⟨⟨by decide +kernel, by decide +kernel⟩, List.mem_of_getElem? (i := 44) (by decide +kernel), List.mem_of_getElem? (i := 483) (by decide +kernel), List.mem_of_getElem? (i := 484) (by decide +kernel)⟩
def lw_privs_1 : List (MethodName × Nat) := [(⟨"java/lang/Throwable", "fillInStackTrace", "(I)Ljava/lang/Throwable;"⟩, 6), (⟨"TesseraHall", "boardAt", "(I)LTesseraHall$Board;"⟩, 5), (⟨"TesseraHall", "withBoard", "(JI)J"⟩, 5), (⟨"TesseraHall$Album", "isChangedBy", "(LTesseraHall$Grid;I)Z"⟩, 11), (⟨"TesseraHall$Grid", "followingIn", "(III)I"⟩, 5), (⟨"TesseraHall$Grid", "putFollowing", "(IIIII)V"⟩, 5), (⟨"TesseraHall$Album", "canGoOn", "(I)Z"⟩, 11), (⟨"TesseraHall$Album", "agreeingWays", "(II)I"⟩, 11), (⟨"TesseraHall$Album", "add", "(I)V"⟩, 11), (⟨"TesseraHall$Album", "narrowColumns", "(II)V"⟩, 11), (⟨"TesseraHall$Grid", "unknownIn", "(I)I"⟩, 5), (⟨"TesseraHall$Album", "darkIn", "(I)I"⟩, 11), (⟨"TesseraHall$Album", "countDarks", "()V"⟩, 11), (⟨"TesseraHall$Album", "tellsFirst", "(I)Z"⟩, 11), (⟨"TesseraHall$Grid", "runsOtherWay", "(II)Z"⟩, 5), (⟨"TesseraHall$Grid", "turnedLine", "(II)I"⟩, 5)]
theorem lw_r1 : ∀ q ∈ lw_privs_1, lw_okq q := List.forall_mem_cons.mpr ⟨lw_p0, List.forall_mem_cons.mpr ⟨lw_p1, List.forall_mem_cons.mpr ⟨lw_p2, List.forall_mem_cons.mpr ⟨lw_p3, List.forall_mem_cons.mpr ⟨lw_p4, List.forall_mem_cons.mpr ⟨lw_p5, List.forall_mem_cons.mpr ⟨lw_p6, List.forall_mem_cons.mpr ⟨lw_p7, List.forall_mem_cons.mpr ⟨lw_p8, List.forall_mem_cons.mpr ⟨lw_p9, List.forall_mem_cons.mpr ⟨lw_p10, List.forall_mem_cons.mpr ⟨lw_p11, List.forall_mem_cons.mpr ⟨lw_p12, List.forall_mem_cons.mpr ⟨lw_p13, List.forall_mem_cons.mpr ⟨lw_p14, List.forall_mem_cons.mpr ⟨lw_p15, fun _ h => absurd h List.not_mem_nil⟩⟩⟩⟩⟩⟩⟩⟩⟩⟩⟩⟩⟩⟩⟩⟩
theorem lw_p16 : lw_okq (⟨"TesseraHall", "tryOut", "(LTesseraHall$Grid;IZ)V"⟩, 5) := ⟨⟨by decide +kernel, by decide +kernel⟩, List.mem_of_getElem? (i := 34) (by decide +kernel), List.mem_of_getElem? (i := 597) (by decide +kernel), List.mem_of_getElem? (i := 598) (by decide +kernel)⟩
theorem lw_p17 : lw_okq (⟨"TesseraHall$Grid", "takeTurnedCell", "(LTesseraHall$Grid;III)V"⟩, 5) := ⟨⟨by decide +kernel, by decide +kernel⟩, List.mem_of_getElem? (i := 44) (by decide +kernel), List.mem_of_getElem? (i := 659) (by decide +kernel), List.mem_of_getElem? (i := 660) (by decide +kernel)⟩
theorem lw_p18 : lw_okq (⟨"TesseraHall$Grid", "darkPlaces", "(I)I"⟩, 5) := ⟨⟨by decide +kernel, by decide +kernel⟩, List.mem_of_getElem? (i := 44) (by decide +kernel), List.mem_of_getElem? (i := 689) (by decide +kernel), List.mem_of_getElem? (i := 690) (by decide +kernel)⟩
theorem lw_p19 : lw_okq (⟨"TesseraHallModel", "no", "(I)I"⟩, 3) := ⟨⟨by decide +kernel, by decide +kernel⟩, List.mem_of_getElem? (i := 1036) (by decide +kernel), List.mem_of_getElem? (i := 1085) (by decide +kernel), List.mem_of_getElem? (i := 1086) (by decide +kernel)⟩
theorem lw_p20 : lw_okq (⟨"java/util/ArrayList", "add", "(Ljava/lang/Object;[Ljava/lang/Object;I)V"⟩, 3) := ⟨⟨by decide +kernel, by decide +kernel⟩, List.mem_of_getElem? (i := 1042) (by decide +kernel), List.mem_of_getElem? (i := 1153) (by decide +kernel), List.mem_of_getElem? (i := 1154) (by decide +kernel)⟩
theorem lw_p21 : lw_okq (⟨"java/util/ArrayList", "grow", "()[Ljava/lang/Object;"⟩, 3) := ⟨⟨by decide +kernel, by decide +kernel⟩, List.mem_of_getElem? (i := 1042) (by decide +kernel), List.mem_of_getElem? (i := 1157) (by decide +kernel), List.mem_of_getElem? (i := 1158) (by decide +kernel)⟩
theorem lw_p22 : lw_okq (⟨"java/util/ArrayList", "grow", "(I)[Ljava/lang/Object;"⟩, 3) := ⟨⟨by decide +kernel, by decide +kernel⟩, List.mem_of_getElem? (i := 1042) (by decide +kernel), List.mem_of_getElem? (i := 1161) (by decide +kernel), List.mem_of_getElem? (i := 1162) (by decide +kernel)⟩
theorem lw_p23 : lw_okq (⟨"TesseraHallModel", "isLine", "(II)Z"⟩, 3) := ⟨⟨by decide +kernel, by decide +kernel⟩, List.mem_of_getElem? (i := 1036) (by decide +kernel), List.mem_of_getElem? (i := 1199) (by decide +kernel), List.mem_of_getElem? (i := 1200) (by decide +kernel)⟩
theorem lw_p24 : lw_okq (⟨"TesseraHallModel", "isBoard", "(I)Z"⟩, 3) := ⟨⟨by decide +kernel, by decide +kernel⟩, List.mem_of_getElem? (i := 1036) (by decide +kernel), List.mem_of_getElem? (i := 1203) (by decide +kernel), List.mem_of_getElem? (i := 1204) (by decide +kernel)⟩
theorem lw_p25 : lw_okq (⟨"TesseraHallModel", "isCell", "(II)Z"⟩, 3) := ⟨⟨by decide +kernel, by decide +kernel⟩, List.mem_of_getElem? (i := 1036) (by decide +kernel), List.mem_of_getElem? (i := 1270) (by decide +kernel), List.mem_of_getElem? (i := 1271) (by decide +kernel)⟩
theorem lw_p26 : lw_okq (⟨"TesseraHallModel$Board", "isLet", "([[III)Z"⟩, 7) := ⟨⟨by decide +kernel, by decide +kernel⟩, List.mem_of_getElem? (i := 1099) (by decide +kernel), List.mem_of_getElem? (i := 1298) (by decide +kernel), List.mem_of_getElem? (i := 1299) (by decide +kernel)⟩
theorem lw_p27 : lw_okq (⟨"TesseraHallModel$Board", "look", "([I[[I[[[I[[III)V"⟩, 7) := ⟨⟨by decide +kernel, by decide +kernel⟩, List.mem_of_getElem? (i := 1099) (by decide +kernel), List.mem_of_getElem? (i := 1302) (by decide +kernel), List.mem_of_getElem? (i := 1303) (by decide +kernel)⟩
theorem lw_p28 : lw_okq (⟨"java/util/ArrayList", "fastRemove", "([Ljava/lang/Object;I)V"⟩, 3) := ⟨⟨by decide +kernel, by decide +kernel⟩, List.mem_of_getElem? (i := 1042) (by decide +kernel), List.mem_of_getElem? (i := 1363) (by decide +kernel), List.mem_of_getElem? (i := 1364) (by decide +kernel)⟩
theorem lw_p29 : lw_okq (⟨"TesseraHallModel", "manyNow", "(I)I"⟩, 3) := ⟨⟨by decide +kernel, by decide +kernel⟩, List.mem_of_getElem? (i := 1036) (by decide +kernel), List.mem_of_getElem? (i := 1492) (by decide +kernel), List.mem_of_getElem? (i := 1493) (by decide +kernel)⟩
theorem lw_p30 : lw_okq (⟨"TesseraHallModel", "alikeNow", "(II)I"⟩, 3) := ⟨⟨by decide +kernel, by decide +kernel⟩, List.mem_of_getElem? (i := 1036) (by decide +kernel), List.mem_of_getElem? (i := 1542) (by decide +kernel), List.mem_of_getElem? (i := 1543) (by decide +kernel)⟩
def lw_privs_2 : List (MethodName × Nat) := [(⟨"TesseraHall", "tryOut", "(LTesseraHall$Grid;IZ)V"⟩, 5), (⟨"TesseraHall$Grid", "takeTurnedCell", "(LTesseraHall$Grid;III)V"⟩, 5), (⟨"TesseraHall$Grid", "darkPlaces", "(I)I"⟩, 5), (⟨"TesseraHallModel", "no", "(I)I"⟩, 3), (⟨"java/util/ArrayList", "add", "(Ljava/lang/Object;[Ljava/lang/Object;I)V"⟩, 3), (⟨"java/util/ArrayList", "grow", "()[Ljava/lang/Object;"⟩, 3), (⟨"java/util/ArrayList", "grow", "(I)[Ljava/lang/Object;"⟩, 3), (⟨"TesseraHallModel", "isLine", "(II)Z"⟩, 3), (⟨"TesseraHallModel", "isBoard", "(I)Z"⟩, 3), (⟨"TesseraHallModel", "isCell", "(II)Z"⟩, 3), (⟨"TesseraHallModel$Board", "isLet", "([[III)Z"⟩, 7), (⟨"TesseraHallModel$Board", "look", "([I[[I[[[I[[III)V"⟩, 7), (⟨"java/util/ArrayList", "fastRemove", "([Ljava/lang/Object;I)V"⟩, 3), (⟨"TesseraHallModel", "manyNow", "(I)I"⟩, 3), (⟨"TesseraHallModel", "alikeNow", "(II)I"⟩, 3)]
theorem lw_r2 : ∀ q ∈ lw_privs_2, lw_okq q := List.forall_mem_cons.mpr ⟨lw_p16, List.forall_mem_cons.mpr ⟨lw_p17, List.forall_mem_cons.mpr ⟨lw_p18, List.forall_mem_cons.mpr ⟨lw_p19, List.forall_mem_cons.mpr ⟨lw_p20, List.forall_mem_cons.mpr ⟨lw_p21, List.forall_mem_cons.mpr ⟨lw_p22, List.forall_mem_cons.mpr ⟨lw_p23, List.forall_mem_cons.mpr ⟨lw_p24, List.forall_mem_cons.mpr ⟨lw_p25, List.forall_mem_cons.mpr ⟨lw_p26, List.forall_mem_cons.mpr ⟨lw_p27, List.forall_mem_cons.mpr ⟨lw_p28, List.forall_mem_cons.mpr ⟨lw_p29, List.forall_mem_cons.mpr ⟨lw_p30, fun _ h => absurd h List.not_mem_nil⟩⟩⟩⟩⟩⟩⟩⟩⟩⟩⟩⟩⟩⟩⟩
def lw_privs : List (MethodName × Nat) := lw_privs_1 ++ (lw_privs_2)
def lw_tbl : List Cond := k2_sels lw_privs ++ tables_1
theorem lw_privs_ok : ∀ q ∈ lw_privs, lw_okq q := by
  show ∀ q ∈ lw_privs_1 ++ (lw_privs_2), lw_okq q
  exact List.forall_mem_append.mpr ⟨lw_r1, lw_r2⟩
/-- the streams that the claim lets the run draw from -/
abbrev lw_cs : List Choice := [Jvm.Choice.named "NaN.bits", Jvm.Choice.named "NaN.copy"]
theorem lw_bits : nanBits ∈ lw_cs := by first | decide | exact List.mem_cons_self | simp [lw_cs, nanBits]
-- ===== end of PART A; then your names; then what follows =====
/-! THE CLAIM OUT OF ONE WALK OF THE LAW'S BODY. Your part is whole_start (and what it stands on); all else here is the same for every law, but numbers. -/
def R_law : String := "TesseraHallLaw"
def lw_P (b : Addr) (xs : List Int32) (args : Array Value) (s : State) : Prop := args = #[.ref b] ∧ s.IntsAt b xs ∧ xs.length ≤ 2560 ∧ (Jvm.Cond.and given_1 narrow_1).before args s = true
/-- what a walk over the start with the record d0 says of its end, said of the start itself -/
theorem lw_closed {s t : State} {o : Outcome} {d0 : Drawn} {L : List Loc} {k n : Nat} (hd0 : s.drawn.sameBut d0 lw_cs) (hv : ∃ v, o = .returned v) (hW : (s.setDrawn d0).WarmedH t.vm) (hs : (s.setDrawn d0).sameButNew ({ t with vm := s.vm } : State) L k n) : State.butDraws s t lw_cs (fun t1 => Framed s o t1 L k n) := by
  have h2 : t.drawn = d0 := congrArg State.drawn hs.1
  refine ⟨⟨hv, hW, State.sameButNew.setDrawn hs s.drawn⟩, ?_, by decide⟩
  rw [h2]
  exact hd0
def lw_Q (_ : Array Value) (s : State) (o : Outcome) (t : State) : Prop := o = .returned (some (.int 1)) ∧ State.butDraws s t lw_cs (fun t1 => Framed s o t1 [] 601024 7293034)
def lw_Z (below : List Frame) (a : Array Value) (s : State) : State → Prop := fun t => ∃ o, t.status = .running ∧ Ended t below o ∧ lw_Q a s o t
/-- the law's own end, with 1 on the stack, nothing written that was there before, its room as the claim has it; d0: the record of draws at this point (at the entry s.drawn: begin with 'refine W.base ?_' and 'have hd0 := Drawn.sameBut.refl s.drawn lw_cs') -/
theorem lw_ret {p : Program} {l : Launch} {e : Env} {s : State} {m : MethodId} {below : List Frame} {meth : Method} {c : Code} {b : Nat} {d0 : Drawn} (hd0 : s.drawn.sameBut d0 lw_cs) (hx : p.tables.exec = Jvm.exec) (hb : c.code = code) (hr : meth.sig.returnType = ret) (hlocks : meth.locks = false) {pc : Nat} {H : Heap} {ls : Array Slot} (hdg : decode code pc = .ok (.ireturn, 1)) : W p l e room_1 (s.setDrawn d0) m #[Value.ref b] below meth c H [] 601024 7293034 (lw_Z below #[Value.ref b] s) (F0 m pc ls [.int 1]) := by
  intro T hT X
  obtain ⟨fs, hret, hrun, hended, hW, hframe⟩ := X.leave (v := some (.int 1)) (hlocks := hlocks) (fun h => by rw [hr] at h; cases h)
  have hmeth' : T.vm.method? m = some meth := X.method'
  refine ⟨T.setFrames fs, ?_, .returned (some (.int 1)), hrun, hended, rfl, lw_closed hd0 ⟨_, rfl⟩ hW hframe⟩
  jvm_step X.here [X.here.top, hx, hb, hdg, hmeth', hr, ret, narrow_b1]
  (try refine ⟨rfl, ?_⟩); (try refine ⟨rfl, ?_⟩)
  first | (intro acts; rw [hret _ acts rfl rfl rfl]) | rw [hret _ _ rfl rfl rfl]
  exact Steps.refl _
/-- what holds at the law's entry: the machine, the code, the tables' words (any of lw_tbl by 'hts w (by decide +kernel)'), the script of L ints xs at the cell b, what the Statement gives of the start (any of its parts by flat_of_before) -/
def lw_At (p : Program) (s : State) (m : MethodId) (meth : Method) (c : Code) (b L : Nat) (xs : Nat → Int32) : Prop :=
  p.tables.exec = Jvm.exec ∧ c.code = code ∧ meth.sig.returnType = ret ∧ c.maxLocals = 8 ∧ s.vm.findClass R_law = some m.cls ∧ (∀ w ∈ lw_tbl, w.before #[Value.ref b] s = true) ∧ va_X b L xs s s.heap ∧ b < s.heap.size ∧ meth.locks = false ∧ (Jvm.Cond.and given_1 narrow_1).before #[Value.ref b] s = true
end
section
/-! ===== the words of the tables, in one list; those that go into every callee (zWS), those that are carried apart (zXW) ===== -/
def zxs : List Jvm.Cond := [(Jvm.Cond.selects "java/lang/StringBuilder" ⟨"java/lang/AbstractStringBuilder", "ensureCapacityInternal", "(I)V"⟩ ⟨"java/lang/AbstractStringBuilder", "ensureCapacityInternal", "(I)V"⟩), (Jvm.Cond.selects "java/lang/StringBuilder" ⟨"java/lang/AbstractStringBuilder", "newCapacity", "(I)I"⟩ ⟨"java/lang/AbstractStringBuilder", "newCapacity", "(I)I"⟩), (Jvm.Cond.selects "java/lang/StringBuilder" ⟨"java/lang/AbstractStringBuilder", "inflate", "()V"⟩ ⟨"java/lang/AbstractStringBuilder", "inflate", "()V"⟩), (Jvm.Cond.selects "java/lang/StringBuilder" ⟨"java/lang/AbstractStringBuilder", "appendNull", "()Ljava/lang/AbstractStringBuilder;"⟩ ⟨"java/lang/AbstractStringBuilder", "appendNull", "()Ljava/lang/AbstractStringBuilder;"⟩), (Jvm.Cond.selects "java/lang/StringBuilder" ⟨"java/lang/AbstractStringBuilder", "putStringAt", "(ILjava/lang/String;)V"⟩ ⟨"java/lang/AbstractStringBuilder", "putStringAt", "(ILjava/lang/String;)V"⟩), (Jvm.Cond.selects "java/lang/StringBuilder" ⟨"java/lang/AbstractStringBuilder", "inflateIfNeededFor", "(Ljava/lang/String;)V"⟩ ⟨"java/lang/AbstractStringBuilder", "inflateIfNeededFor", "(Ljava/lang/String;)V"⟩)]
def zAll : List Jvm.Cond := zxs ++ lw_tbl
theorem zinx {w : Jvm.Cond} (h : w ∈ zxs) : w ∈ zAll := List.mem_append_left _ h
theorem zinp {w : Jvm.Cond} (h : w ∈ k2_sels lw_privs) : w ∈ zAll := List.mem_append_right _ (List.mem_append_left _ h)
theorem zin1 {w : Jvm.Cond} (h : w ∈ tables_1_1) : w ∈ zAll := List.mem_append_right _ (List.mem_append_right _ (List.mem_append_left _ h))
theorem zin2 {w : Jvm.Cond} (h : w ∈ tables_1_2) : w ∈ zAll := List.mem_append_right _ (List.mem_append_right _ (List.mem_append_right _ (List.mem_append_left _ h)))
theorem zin3 {w : Jvm.Cond} (h : w ∈ tables_1_3) : w ∈ zAll := List.mem_append_right _ (List.mem_append_right _ (List.mem_append_right _ (List.mem_append_right _ (List.mem_append_left _ h))))
theorem zin4 {w : Jvm.Cond} (h : w ∈ tables_1_4) : w ∈ zAll := List.mem_append_right _ (List.mem_append_right _ (List.mem_append_right _ (List.mem_append_right _ (List.mem_append_right _ (List.mem_append_left _ h)))))
theorem zin5 {w : Jvm.Cond} (h : w ∈ tables_1_5) : w ∈ zAll := List.mem_append_right _ (List.mem_append_right _ (List.mem_append_right _ (List.mem_append_right _ (List.mem_append_right _ (List.mem_append_right _ (List.mem_append_left _ h))))))
theorem zin6 {w : Jvm.Cond} (h : w ∈ tables_1_6) : w ∈ zAll := List.mem_append_right _ (List.mem_append_right _ (List.mem_append_right _ (List.mem_append_right _ (List.mem_append_right _ (List.mem_append_right _ (List.mem_append_right _ (List.mem_append_left _ h)))))))
theorem zin7 {w : Jvm.Cond} (h : w ∈ tables_1_7) : w ∈ zAll := List.mem_append_right _ (List.mem_append_right _ (List.mem_append_right _ (List.mem_append_right _ (List.mem_append_right _ (List.mem_append_right _ (List.mem_append_right _ (List.mem_append_right _ (h))))))))
def zxgood : Jvm.Cond → Bool
  | .methodLinkNest .. => true
  | .fieldLinkNest .. => true
  | .castable .. => true
  | .declares _ => true
  | .publicMethod _ => true
  | .privateMethod _ => true
  | .unhidden .. => true
  | .interfaceMethod r q _ _ => r == q && r != "java/lang/invoke/MethodHandle" && r != "java/lang/invoke/VarHandle"
  | .arrayOver _ => true
  | _ => false
def zWS : List Jvm.Cond := zAll.filter goodWord
def zXW : List Jvm.Cond := zAll.filter zxgood
theorem zw {w : Jvm.Cond} (h : w ∈ zAll) (g : goodWord w = true) : w ∈ zWS := List.mem_filter.mpr ⟨h, g⟩
theorem zx {w : Jvm.Cond} (h : w ∈ zAll) (g : zxgood w = true) : w ∈ zXW := List.mem_filter.mpr ⟨h, g⟩
/-! ===== classes whose objects are made, by their tags ===== -/
def zT0 : u_T := fun k => match k with
  | 0 => ("TesseraHall", "boards", "[LTesseraHall$Board;", true)
  | 1 => ("TesseraHall", "trial", "LTesseraHall$Grid;", true)
  | 2 => ("TesseraHall", "trialAlbum", "LTesseraHall$Album;", true)
  | 3 => ("TesseraHall", "boardCount", "I", false)
  | _ => ("TesseraHall", "refused", "I", false)
def zU0 : Nat → FieldType := fun k => match k with
  | 0 => (.array (.object "TesseraHall$Board"))
  | 1 => (.object "TesseraHall$Grid")
  | 2 => (.object "TesseraHall$Album")
  | 3 => .int
  | _ => .int
def zT1 : u_T := fun k => match k with
  | 0 => ("TesseraHall$Grid", "cells", "[I", true)
  | 1 => ("TesseraHall$Grid", "clues", "[I", true)
  | 2 => ("TesseraHall$Grid", "fits", "[I", true)
  | 3 => ("TesseraHall$Grid", "wide", "I", false)
  | _ => ("TesseraHall$Grid", "high", "I", false)
def zU1 : Nat → FieldType := fun k => match k with
  | 0 => (.array .int)
  | 1 => (.array .int)
  | 2 => (.array .int)
  | 3 => .int
  | _ => .int
def zT2 : u_T := fun k => match k with
  | 0 => ("TesseraHall$Album", "pictures", "[I", true)
  | 1 => ("TesseraHall$Album", "lineWays", "[I", true)
  | 2 => ("TesseraHall$Album", "swept", "LTesseraHall$Grid;", true)
  | 3 => ("TesseraHall$Album", "rowWays", "[I", true)
  | 4 => ("TesseraHall$Album", "columnWays", "[I", true)
  | 5 => ("TesseraHall$Album", "darkCounts", "[I", true)
  | 6 => ("TesseraHall$Album", "isCounted", "Z", false)
  | 7 => ("TesseraHall$Album", "wide", "I", false)
  | 8 => ("TesseraHall$Album", "high", "I", false)
  | 9 => ("TesseraHall$Album", "most", "I", false)
  | _ => ("TesseraHall$Album", "count", "I", false)
def zU2 : Nat → FieldType := fun k => match k with
  | 0 => (.array .int)
  | 1 => (.array .int)
  | 2 => (.object "TesseraHall$Grid")
  | 3 => (.array .int)
  | 4 => (.array .int)
  | 5 => (.array .int)
  | 6 => .boolean
  | 7 => .int
  | 8 => .int
  | 9 => .int
  | _ => .int
def zT3 : u_T := fun k => match k with
  | 0 => ("TesseraHallLaw$Out", "n", "J", false)
  | 1 => ("TesseraHallLaw$Out", "d", "D", false)
  | _ => ("TesseraHallLaw$Out", "s", "Ljava/lang/String;", false)
def zU3 : Nat → FieldType := fun k => match k with
  | 0 => .long
  | 1 => .double
  | _ => (.object "java/lang/String")
def zT4 : u_T := fun k => match k with
  | 0 => ("TesseraHall$Board", "grid", "LTesseraHall$Grid;", true)
  | 1 => ("TesseraHall$Board", "album", "LTesseraHall$Album;", true)
  | 2 => ("TesseraHall$Board", "kept", "[I", true)
  | 3 => ("TesseraHall$Board", "guessed", "[I", true)
  | 4 => ("TesseraHall$Board", "guesses", "I", false)
  | 5 => ("TesseraHall$Board", "mistakes", "I", false)
  | _ => ("TesseraHall$Board", "sweeps", "I", false)
def zU4 : Nat → FieldType := fun k => match k with
  | 0 => (.object "TesseraHall$Grid")
  | 1 => (.object "TesseraHall$Album")
  | 2 => (.array .int)
  | 3 => (.array .int)
  | 4 => .int
  | 5 => .int
  | _ => .int
def zT5 : u_T := fun k => match k with
  | 0 => ("java/lang/AbstractStringBuilder", "value", "[B", false)
  | 1 => ("java/lang/AbstractStringBuilder", "coder", "B", false)
  | 2 => ("java/lang/AbstractStringBuilder", "maybeLatin1", "Z", false)
  | _ => ("java/lang/AbstractStringBuilder", "count", "I", false)
def zU5 : Nat → FieldType := fun k => match k with
  | 0 => (.array .byte)
  | 1 => .byte
  | 2 => .boolean
  | _ => .int
def zT6 : u_T := fun k => match k with
  | 0 => ("java/lang/String", "value", "[B", true)
  | 1 => ("java/lang/String", "coder", "B", true)
  | 2 => ("java/lang/String", "hash", "I", false)
  | _ => ("java/lang/String", "hashIsZero", "Z", false)
def zU6 : Nat → FieldType := fun k => match k with
  | 0 => (.array .byte)
  | 1 => .byte
  | 2 => .int
  | _ => .boolean
def zT7 : u_T := fun k => match k with
  | 0 => ("TesseraHallModel", "thrown", "I", false)
  | 1 => ("TesseraHallModel", "boards", "Ljava/util/List;", true)
  | _ => ("TesseraHallModel", "refused", "I", false)
def zU7 : Nat → FieldType := fun k => match k with
  | 0 => .int
  | 1 => (.object "java/util/List")
  | _ => .int
def zT8 : u_T := fun k => match k with
  | 0 => ("java/util/ArrayList", "elementData", "[Ljava/lang/Object;", false)
  | 1 => ("java/util/ArrayList", "size", "I", false)
  | _ => ("java/util/AbstractList", "modCount", "I", false)
def zU8 : Nat → FieldType := fun k => match k with
  | 0 => (.array (.object "java/lang/Object"))
  | 1 => .int
  | _ => .int
def zT9 : u_T := fun k => match k with
  | 0 => ("TesseraHallModel$Board", "wide", "I", false)
  | 1 => ("TesseraHallModel$Board", "high", "I", false)
  | 2 => ("TesseraHallModel$Board", "rows", "[[I", false)
  | 3 => ("TesseraHallModel$Board", "clues", "[I", false)
  | 4 => ("TesseraHallModel$Board", "guesses", "Ljava/util/List;", false)
  | 5 => ("TesseraHallModel$Board", "mistakes", "I", false)
  | _ => ("TesseraHallModel$Board", "sweeps", "I", false)
def zU9 : Nat → FieldType := fun k => match k with
  | 0 => .int
  | 1 => .int
  | 2 => (.array (.array .int))
  | 3 => (.array .int)
  | 4 => (.object "java/util/List")
  | 5 => .int
  | _ => .int
def zT10 : u_T := fun k => match k with
  | 0 => ("TesseraHallModel$Kept", "rows", "[[I", true)
  | 1 => ("TesseraHallModel$Kept", "cell", "I", true)
  | _ => ("TesseraHallModel$Kept", "isDark", "Z", true)
def zU10 : Nat → FieldType := fun k => match k with
  | 0 => (.array (.array .int))
  | 1 => .int
  | _ => .boolean
def zcl : List vw_C := [("TesseraHall", zT0, 5), ("TesseraHall$Grid", zT1, 5), ("TesseraHall$Album", zT2, 11), ("TesseraHallLaw$Out", zT3, 3), ("TesseraHall$Board", zT4, 7), ("java/lang/StringBuilder", zT5, 4), ("java/lang/String", zT6, 4), ("TesseraHallModel", zT7, 3), ("java/util/ArrayList", zT8, 3), ("TesseraHallModel$Board", zT9, 7), ("TesseraHallModel$Kept", zT10, 3)]
/-- how many slots an object has; what a new one holds -/
def zns : List Nat := [5, 5, 11, 3, 7, 4, 4, 3, 3, 7, 3]
def zdf : List (List Value) := [[.null, .null, .null, .int 0, .int 0], [.null, .null, .null, .int 0, .int 0], [.null, .null, .null, .null, .null, .null, .int 0, .int 0, .int 0, .int 0, .int 0], [.long 0, .double 0, .null], [.null, .null, .null, .null, .int 0, .int 0, .int 0], [.null, .int 0, .int 0, .int 0], [.null, .int 0, .int 0, .int 0], [.int 0, .null, .int 0], [.null, .int 0, .int 0], [.int 0, .int 0, .null, .null, .null, .int 0, .int 0], [.null, .int 0, .int 0]]
/-- the arrays' component types: tag 64 + place; 96 + place: one that nobody writes -/
def zar : List FieldType := [.int, .byte, (.array .int), (.array (.array .int)), (.object "TesseraHall$Board"), (.object "java/lang/Object")]
def zCok (t : Nat) (r : vw_C) : Prop := ∃ (ty : Nat → FieldType) (n : Nat) (d : List Value), zns[t]? = some n ∧ zdf[t]? = some d ∧ d.length = r.2.2 ∧ (∀ k, k < r.2.2 → defaultValue (ty k) = d.getD k .null) ∧ (∀ w ∈ u_ws r.1 r.2.1 r.2.2, w ∈ zWS) ∧ (∀ k, k < r.2.2 → parseFieldDescriptor (r.2.1 k).2.2.1 = some (ty k)) ∧ (∀ a, a < r.2.2 → ∀ b, b < r.2.2 → a ≠ b → (r.2.1 a).2.1 ≠ (r.2.1 b).2.1) ∧ Jvm.Cond.instantiable r.1 n ∈ zWS ∧ Jvm.Cond.initialized r.1 ∈ zWS
set_option maxRecDepth 20000 in
theorem zu0 : ∀ w ∈ u_ws "TesseraHall" zT0 5, w ∈ zWS := by
  rw [show u_ws "TesseraHall" zT0 5 = [(Jvm.Cond.laysFinal "TesseraHall" "TesseraHall" "boards" "[LTesseraHall$Board;"), (Jvm.Cond.laysFinal "TesseraHall" "TesseraHall" "trial" "LTesseraHall$Grid;"), (Jvm.Cond.laysFinal "TesseraHall" "TesseraHall" "trialAlbum" "LTesseraHall$Album;"), (Jvm.Cond.lays "TesseraHall" "TesseraHall" "boardCount" "I"), (Jvm.Cond.lays "TesseraHall" "TesseraHall" "refused" "I")] from rfl]
  exact List.forall_mem_cons.mpr ⟨(zw (zin1 (List.mem_of_getElem? (i := 144) rfl)) rfl), List.forall_mem_cons.mpr ⟨(zw (zin1 (List.mem_of_getElem? (i := 146) rfl)) rfl), List.forall_mem_cons.mpr ⟨(zw (zin1 (List.mem_of_getElem? (i := 148) rfl)) rfl), List.forall_mem_cons.mpr ⟨(zw (zin1 (List.mem_of_getElem? (i := 150) rfl)) rfl), List.forall_mem_cons.mpr ⟨(zw (zin1 (List.mem_of_getElem? (i := 152) rfl)) rfl), fun _ h => absurd h List.not_mem_nil⟩⟩⟩⟩⟩
set_option maxRecDepth 20000 in
theorem zC0 : zCok 0 ("TesseraHall", zT0, 5) := ⟨zU0, _, _, rfl, rfl, rfl, by decide +kernel, zu0, by decide +kernel, by decide +kernel, (zw (zin1 (List.mem_of_getElem? (i := 34) rfl)) rfl), (zw (zin1 (List.mem_of_getElem? (i := 1) rfl)) rfl)⟩
set_option maxRecDepth 20000 in
theorem zu1 : ∀ w ∈ u_ws "TesseraHall$Grid" zT1 5, w ∈ zWS := by
  rw [show u_ws "TesseraHall$Grid" zT1 5 = [(Jvm.Cond.laysFinal "TesseraHall$Grid" "TesseraHall$Grid" "cells" "[I"), (Jvm.Cond.laysFinal "TesseraHall$Grid" "TesseraHall$Grid" "clues" "[I"), (Jvm.Cond.laysFinal "TesseraHall$Grid" "TesseraHall$Grid" "fits" "[I"), (Jvm.Cond.lays "TesseraHall$Grid" "TesseraHall$Grid" "wide" "I"), (Jvm.Cond.lays "TesseraHall$Grid" "TesseraHall$Grid" "high" "I")] from rfl]
  exact List.forall_mem_cons.mpr ⟨(zw (zin1 (List.mem_of_getElem? (i := 84) rfl)) rfl), List.forall_mem_cons.mpr ⟨(zw (zin1 (List.mem_of_getElem? (i := 86) rfl)) rfl), List.forall_mem_cons.mpr ⟨(zw (zin1 (List.mem_of_getElem? (i := 88) rfl)) rfl), List.forall_mem_cons.mpr ⟨(zw (zin1 (List.mem_of_getElem? (i := 90) rfl)) rfl), List.forall_mem_cons.mpr ⟨(zw (zin1 (List.mem_of_getElem? (i := 92) rfl)) rfl), fun _ h => absurd h List.not_mem_nil⟩⟩⟩⟩⟩
set_option maxRecDepth 20000 in
theorem zC1 : zCok 1 ("TesseraHall$Grid", zT1, 5) := ⟨zU1, _, _, rfl, rfl, rfl, by decide +kernel, zu1, by decide +kernel, by decide +kernel, (zw (zin1 (List.mem_of_getElem? (i := 44) rfl)) rfl), (zw (zin1 (List.mem_of_getElem? (i := 2) rfl)) rfl)⟩
set_option maxRecDepth 20000 in
theorem zu2 : ∀ w ∈ u_ws "TesseraHall$Album" zT2 11, w ∈ zWS := by
  rw [show u_ws "TesseraHall$Album" zT2 11 = [(Jvm.Cond.laysFinal "TesseraHall$Album" "TesseraHall$Album" "pictures" "[I"), (Jvm.Cond.laysFinal "TesseraHall$Album" "TesseraHall$Album" "lineWays" "[I"), (Jvm.Cond.laysFinal "TesseraHall$Album" "TesseraHall$Album" "swept" "LTesseraHall$Grid;"), (Jvm.Cond.laysFinal "TesseraHall$Album" "TesseraHall$Album" "rowWays" "[I"), (Jvm.Cond.laysFinal "TesseraHall$Album" "TesseraHall$Album" "columnWays" "[I"), (Jvm.Cond.laysFinal "TesseraHall$Album" "TesseraHall$Album" "darkCounts" "[I"), (Jvm.Cond.lays "TesseraHall$Album" "TesseraHall$Album" "isCounted" "Z"), (Jvm.Cond.lays "TesseraHall$Album" "TesseraHall$Album" "wide" "I"), (Jvm.Cond.lays "TesseraHall$Album" "TesseraHall$Album" "high" "I"), (Jvm.Cond.lays "TesseraHall$Album" "TesseraHall$Album" "most" "I"), (Jvm.Cond.lays "TesseraHall$Album" "TesseraHall$Album" "count" "I")] from rfl]
  exact List.forall_mem_cons.mpr ⟨(zw (zin1 (List.mem_of_getElem? (i := 116) rfl)) rfl), List.forall_mem_cons.mpr ⟨(zw (zin1 (List.mem_of_getElem? (i := 118) rfl)) rfl), List.forall_mem_cons.mpr ⟨(zw (zin1 (List.mem_of_getElem? (i := 120) rfl)) rfl), List.forall_mem_cons.mpr ⟨(zw (zin1 (List.mem_of_getElem? (i := 122) rfl)) rfl), List.forall_mem_cons.mpr ⟨(zw (zin1 (List.mem_of_getElem? (i := 124) rfl)) rfl), List.forall_mem_cons.mpr ⟨(zw (zin1 (List.mem_of_getElem? (i := 126) rfl)) rfl), List.forall_mem_cons.mpr ⟨(zw (zin1 (List.mem_of_getElem? (i := 128) rfl)) rfl), List.forall_mem_cons.mpr ⟨(zw (zin1 (List.mem_of_getElem? (i := 130) rfl)) rfl), List.forall_mem_cons.mpr ⟨(zw (zin1 (List.mem_of_getElem? (i := 132) rfl)) rfl), List.forall_mem_cons.mpr ⟨(zw (zin1 (List.mem_of_getElem? (i := 134) rfl)) rfl), List.forall_mem_cons.mpr ⟨(zw (zin1 (List.mem_of_getElem? (i := 136) rfl)) rfl), fun _ h => absurd h List.not_mem_nil⟩⟩⟩⟩⟩⟩⟩⟩⟩⟩⟩
set_option maxRecDepth 20000 in
theorem zC2 : zCok 2 ("TesseraHall$Album", zT2, 11) := ⟨zU2, _, _, rfl, rfl, rfl, by decide +kernel, zu2, by decide +kernel, by decide +kernel, (zw (zin1 (List.mem_of_getElem? (i := 97) rfl)) rfl), (zw (zin1 (List.mem_of_getElem? (i := 3) rfl)) rfl)⟩
set_option maxRecDepth 20000 in
theorem zu3 : ∀ w ∈ u_ws "TesseraHallLaw$Out" zT3 3, w ∈ zWS := by
  rw [show u_ws "TesseraHallLaw$Out" zT3 3 = [(Jvm.Cond.lays "TesseraHallLaw$Out" "TesseraHallLaw$Out" "n" "J"), (Jvm.Cond.lays "TesseraHallLaw$Out" "TesseraHallLaw$Out" "d" "D"), (Jvm.Cond.lays "TesseraHallLaw$Out" "TesseraHallLaw$Out" "s" "Ljava/lang/String;")] from rfl]
  exact List.forall_mem_cons.mpr ⟨(zw (zin3 (List.mem_of_getElem? (i := 18) rfl)) rfl), List.forall_mem_cons.mpr ⟨(zw (zin3 (List.mem_of_getElem? (i := 20) rfl)) rfl), List.forall_mem_cons.mpr ⟨(zw (zin3 (List.mem_of_getElem? (i := 22) rfl)) rfl), fun _ h => absurd h List.not_mem_nil⟩⟩⟩
set_option maxRecDepth 20000 in
theorem zC3 : zCok 3 ("TesseraHallLaw$Out", zT3, 3) := ⟨zU3, _, _, rfl, rfl, rfl, by decide +kernel, zu3, by decide +kernel, by decide +kernel, (zw (zin3 (List.mem_of_getElem? (i := 10) rfl)) rfl), (zw (zin1 (List.mem_of_getElem? (i := 8) rfl)) rfl)⟩
set_option maxRecDepth 20000 in
theorem zu4 : ∀ w ∈ u_ws "TesseraHall$Board" zT4 7, w ∈ zWS := by
  rw [show u_ws "TesseraHall$Board" zT4 7 = [(Jvm.Cond.laysFinal "TesseraHall$Board" "TesseraHall$Board" "grid" "LTesseraHall$Grid;"), (Jvm.Cond.laysFinal "TesseraHall$Board" "TesseraHall$Board" "album" "LTesseraHall$Album;"), (Jvm.Cond.laysFinal "TesseraHall$Board" "TesseraHall$Board" "kept" "[I"), (Jvm.Cond.laysFinal "TesseraHall$Board" "TesseraHall$Board" "guessed" "[I"), (Jvm.Cond.lays "TesseraHall$Board" "TesseraHall$Board" "guesses" "I"), (Jvm.Cond.lays "TesseraHall$Board" "TesseraHall$Board" "mistakes" "I"), (Jvm.Cond.lays "TesseraHall$Board" "TesseraHall$Board" "sweeps" "I")] from rfl]
  exact List.forall_mem_cons.mpr ⟨(zw (zin3 (List.mem_of_getElem? (i := 70) rfl)) rfl), List.forall_mem_cons.mpr ⟨(zw (zin3 (List.mem_of_getElem? (i := 72) rfl)) rfl), List.forall_mem_cons.mpr ⟨(zw (zin3 (List.mem_of_getElem? (i := 74) rfl)) rfl), List.forall_mem_cons.mpr ⟨(zw (zin3 (List.mem_of_getElem? (i := 76) rfl)) rfl), List.forall_mem_cons.mpr ⟨(zw (zin3 (List.mem_of_getElem? (i := 78) rfl)) rfl), List.forall_mem_cons.mpr ⟨(zw (zin3 (List.mem_of_getElem? (i := 80) rfl)) rfl), List.forall_mem_cons.mpr ⟨(zw (zin3 (List.mem_of_getElem? (i := 82) rfl)) rfl), fun _ h => absurd h List.not_mem_nil⟩⟩⟩⟩⟩⟩⟩
set_option maxRecDepth 20000 in
theorem zC4 : zCok 4 ("TesseraHall$Board", zT4, 7) := ⟨zU4, _, _, rfl, rfl, rfl, by decide +kernel, zu4, by decide +kernel, by decide +kernel, (zw (zin3 (List.mem_of_getElem? (i := 51) rfl)) rfl), (zw (zin1 (List.mem_of_getElem? (i := 14) rfl)) rfl)⟩
set_option maxRecDepth 20000 in
theorem zu5 : ∀ w ∈ u_ws "java/lang/StringBuilder" zT5 4, w ∈ zWS := by
  rw [show u_ws "java/lang/StringBuilder" zT5 4 = [(Jvm.Cond.lays "java/lang/StringBuilder" "java/lang/AbstractStringBuilder" "value" "[B"), (Jvm.Cond.lays "java/lang/StringBuilder" "java/lang/AbstractStringBuilder" "coder" "B"), (Jvm.Cond.lays "java/lang/StringBuilder" "java/lang/AbstractStringBuilder" "maybeLatin1" "Z"), (Jvm.Cond.lays "java/lang/StringBuilder" "java/lang/AbstractStringBuilder" "count" "I")] from rfl]
  exact List.forall_mem_cons.mpr ⟨(zw (zin4 (List.mem_of_getElem? (i := 29) rfl)) rfl), List.forall_mem_cons.mpr ⟨(zw (zin4 (List.mem_of_getElem? (i := 31) rfl)) rfl), List.forall_mem_cons.mpr ⟨(zw (zin4 (List.mem_of_getElem? (i := 33) rfl)) rfl), List.forall_mem_cons.mpr ⟨(zw (zin4 (List.mem_of_getElem? (i := 35) rfl)) rfl), fun _ h => absurd h List.not_mem_nil⟩⟩⟩⟩
set_option maxRecDepth 20000 in
theorem zC5 : zCok 5 ("java/lang/StringBuilder", zT5, 4) := ⟨zU5, _, _, rfl, rfl, rfl, by decide +kernel, zu5, by decide +kernel, by decide +kernel, (zw (zin4 (List.mem_of_getElem? (i := 8) rfl)) rfl), (zw (zin1 (List.mem_of_getElem? (i := 27) rfl)) rfl)⟩
set_option maxRecDepth 20000 in
theorem zu6 : ∀ w ∈ u_ws "java/lang/String" zT6 4, w ∈ zWS := by
  rw [show u_ws "java/lang/String" zT6 4 = [(Jvm.Cond.laysFinal "java/lang/String" "java/lang/String" "value" "[B"), (Jvm.Cond.laysFinal "java/lang/String" "java/lang/String" "coder" "B"), (Jvm.Cond.lays "java/lang/String" "java/lang/String" "hash" "I"), (Jvm.Cond.lays "java/lang/String" "java/lang/String" "hashIsZero" "Z")] from rfl]
  exact List.forall_mem_cons.mpr ⟨(zw (zin5 (List.mem_of_getElem? (i := 24) rfl)) rfl), List.forall_mem_cons.mpr ⟨(zw (zin5 (List.mem_of_getElem? (i := 26) rfl)) rfl), List.forall_mem_cons.mpr ⟨(zw (zin5 (List.mem_of_getElem? (i := 28) rfl)) rfl), List.forall_mem_cons.mpr ⟨(zw (zin5 (List.mem_of_getElem? (i := 30) rfl)) rfl), fun _ h => absurd h List.not_mem_nil⟩⟩⟩⟩
set_option maxRecDepth 20000 in
theorem zC6 : zCok 6 ("java/lang/String", zT6, 4) := ⟨zU6, _, _, rfl, rfl, rfl, by decide +kernel, zu6, by decide +kernel, by decide +kernel, (zw (zin4 (List.mem_of_getElem? (i := 140) rfl)) rfl), (zw (zin1 (List.mem_of_getElem? (i := 28) rfl)) rfl)⟩
set_option maxRecDepth 20000 in
theorem zu7 : ∀ w ∈ u_ws "TesseraHallModel" zT7 3, w ∈ zWS := by
  rw [show u_ws "TesseraHallModel" zT7 3 = [(Jvm.Cond.lays "TesseraHallModel" "TesseraHallModel" "thrown" "I"), (Jvm.Cond.laysFinal "TesseraHallModel" "TesseraHallModel" "boards" "Ljava/util/List;"), (Jvm.Cond.lays "TesseraHallModel" "TesseraHallModel" "refused" "I")] from rfl]
  exact List.forall_mem_cons.mpr ⟨(zw (zin5 (List.mem_of_getElem? (i := 110) rfl)) rfl), List.forall_mem_cons.mpr ⟨(zw (zin5 (List.mem_of_getElem? (i := 112) rfl)) rfl), List.forall_mem_cons.mpr ⟨(zw (zin5 (List.mem_of_getElem? (i := 114) rfl)) rfl), fun _ h => absurd h List.not_mem_nil⟩⟩⟩
set_option maxRecDepth 20000 in
theorem zC7 : zCok 7 ("TesseraHallModel", zT7, 3) := ⟨zU7, _, _, rfl, rfl, rfl, by decide +kernel, zu7, by decide +kernel, by decide +kernel, (zw (zin5 (List.mem_of_getElem? (i := 76) rfl)) rfl), (zw (zin1 (List.mem_of_getElem? (i := 4) rfl)) rfl)⟩
set_option maxRecDepth 20000 in
theorem zu8 : ∀ w ∈ u_ws "java/util/ArrayList" zT8 3, w ∈ zWS := by
  rw [show u_ws "java/util/ArrayList" zT8 3 = [(Jvm.Cond.lays "java/util/ArrayList" "java/util/ArrayList" "elementData" "[Ljava/lang/Object;"), (Jvm.Cond.lays "java/util/ArrayList" "java/util/ArrayList" "size" "I"), (Jvm.Cond.lays "java/util/ArrayList" "java/util/AbstractList" "modCount" "I")] from rfl]
  exact List.forall_mem_cons.mpr ⟨(zw (zin5 (List.mem_of_getElem? (i := 100) rfl)) rfl), List.forall_mem_cons.mpr ⟨(zw (zin5 (List.mem_of_getElem? (i := 102) rfl)) rfl), List.forall_mem_cons.mpr ⟨(zw (zin5 (List.mem_of_getElem? (i := 104) rfl)) rfl), fun _ h => absurd h List.not_mem_nil⟩⟩⟩
set_option maxRecDepth 20000 in
theorem zC8 : zCok 8 ("java/util/ArrayList", zT8, 3) := ⟨zU8, _, _, rfl, rfl, rfl, by decide +kernel, zu8, by decide +kernel, by decide +kernel, (zw (zin5 (List.mem_of_getElem? (i := 82) rfl)) rfl), (zw (zin1 (List.mem_of_getElem? (i := 7) rfl)) rfl)⟩
set_option maxRecDepth 20000 in
theorem zu9 : ∀ w ∈ u_ws "TesseraHallModel$Board" zT9 7, w ∈ zWS := by
  rw [show u_ws "TesseraHallModel$Board" zT9 7 = [(Jvm.Cond.lays "TesseraHallModel$Board" "TesseraHallModel$Board" "wide" "I"), (Jvm.Cond.lays "TesseraHallModel$Board" "TesseraHallModel$Board" "high" "I"), (Jvm.Cond.lays "TesseraHallModel$Board" "TesseraHallModel$Board" "rows" "[[I"), (Jvm.Cond.lays "TesseraHallModel$Board" "TesseraHallModel$Board" "clues" "[I"), (Jvm.Cond.lays "TesseraHallModel$Board" "TesseraHallModel$Board" "guesses" "Ljava/util/List;"), (Jvm.Cond.lays "TesseraHallModel$Board" "TesseraHallModel$Board" "mistakes" "I"), (Jvm.Cond.lays "TesseraHallModel$Board" "TesseraHallModel$Board" "sweeps" "I")] from rfl]
  exact List.forall_mem_cons.mpr ⟨(zw (zin5 (List.mem_of_getElem? (i := 168) rfl)) rfl), List.forall_mem_cons.mpr ⟨(zw (zin5 (List.mem_of_getElem? (i := 170) rfl)) rfl), List.forall_mem_cons.mpr ⟨(zw (zin5 (List.mem_of_getElem? (i := 172) rfl)) rfl), List.forall_mem_cons.mpr ⟨(zw (zin5 (List.mem_of_getElem? (i := 174) rfl)) rfl), List.forall_mem_cons.mpr ⟨(zw (zin5 (List.mem_of_getElem? (i := 176) rfl)) rfl), List.forall_mem_cons.mpr ⟨(zw (zin5 (List.mem_of_getElem? (i := 178) rfl)) rfl), List.forall_mem_cons.mpr ⟨(zw (zin5 (List.mem_of_getElem? (i := 180) rfl)) rfl), fun _ h => absurd h List.not_mem_nil⟩⟩⟩⟩⟩⟩⟩
set_option maxRecDepth 20000 in
theorem zC9 : zCok 9 ("TesseraHallModel$Board", zT9, 7) := ⟨zU9, _, _, rfl, rfl, rfl, by decide +kernel, zu9, by decide +kernel, by decide +kernel, (zw (zin5 (List.mem_of_getElem? (i := 139) rfl)) rfl), (zw (zin1 (List.mem_of_getElem? (i := 15) rfl)) rfl)⟩
set_option maxRecDepth 20000 in
theorem zu10 : ∀ w ∈ u_ws "TesseraHallModel$Kept" zT10 3, w ∈ zWS := by
  rw [show u_ws "TesseraHallModel$Kept" zT10 3 = [(Jvm.Cond.laysFinal "TesseraHallModel$Kept" "TesseraHallModel$Kept" "rows" "[[I"), (Jvm.Cond.laysFinal "TesseraHallModel$Kept" "TesseraHallModel$Kept" "cell" "I"), (Jvm.Cond.laysFinal "TesseraHallModel$Kept" "TesseraHallModel$Kept" "isDark" "Z")] from rfl]
  exact List.forall_mem_cons.mpr ⟨(zw (zin6 (List.mem_of_getElem? (i := 142) rfl)) rfl), List.forall_mem_cons.mpr ⟨(zw (zin6 (List.mem_of_getElem? (i := 144) rfl)) rfl), List.forall_mem_cons.mpr ⟨(zw (zin6 (List.mem_of_getElem? (i := 146) rfl)) rfl), fun _ h => absurd h List.not_mem_nil⟩⟩⟩
set_option maxRecDepth 20000 in
theorem zC10 : zCok 10 ("TesseraHallModel$Kept", zT10, 3) := ⟨zU10, _, _, rfl, rfl, rfl, by decide +kernel, zu10, by decide +kernel, by decide +kernel, (zw (zin6 (List.mem_of_getElem? (i := 128) rfl)) rfl), (zw (zin1 (List.mem_of_getElem? (i := 25) rfl)) rfl)⟩
theorem zC_ok : ∀ (t : Nat) (r : vw_C), zcl[t]? = some r → zCok t r := by
  intro t r h
  match t, h with
  | 0, h => exact (Option.some.inj h) ▸ zC0
  | 1, h => exact (Option.some.inj h) ▸ zC1
  | 2, h => exact (Option.some.inj h) ▸ zC2
  | 3, h => exact (Option.some.inj h) ▸ zC3
  | 4, h => exact (Option.some.inj h) ▸ zC4
  | 5, h => exact (Option.some.inj h) ▸ zC5
  | 6, h => exact (Option.some.inj h) ▸ zC6
  | 7, h => exact (Option.some.inj h) ▸ zC7
  | 8, h => exact (Option.some.inj h) ▸ zC8
  | 9, h => exact (Option.some.inj h) ▸ zC9
  | 10, h => exact (Option.some.inj h) ▸ zC10
  | k + 11, h => simp [zcl] at h
/-! ===== methods ===== -/
def zon : List String := ["TesseraHall", "TesseraHall$Grid", "TesseraHall$Album", "java/lang/Integer", "TesseraHallLaw$Out", "TesseraHallLaw", "TesseraHall$Board", "java/lang/StringBuilder", "java/lang/AbstractStringBuilder", "jdk/internal/util/ArraysSupport", "java/lang/Math", "java/util/Arrays", "java/lang/StringLatin1", "jdk/internal/util/Preconditions", "java/lang/String", "TesseraHallModel", "java/util/ArrayList", "java/util/AbstractList", "java/util/AbstractCollection", "TesseraHallModel$Board", "java/util/Objects", "TesseraHallModel$Kept"]
/-- name, bytes, locals, answer, owner (a place in zon), static, handlers -/
abbrev zMd : Type := MethodName × ByteArray × Nat × Option FieldType × Nat × Bool × List (Nat × Nat × Nat × Nat)
def zmd_0 : List zMd := [(⟨"TesseraHall", "<init>", "()V"⟩, prog_1_method_1_code, 1, none, 0, false, []),
  (⟨"TesseraHall$Grid", "<init>", "(II)V"⟩, prog_4_method_1_code, 4, none, 1, false, []),
  (⟨"TesseraHall$Grid", "clearCells", "()V"⟩, prog_4_method_10_code, 2, none, 1, false, []),
  (⟨"TesseraHall$Grid", "put", "(IIIII)V"⟩, prog_4_method_9_code, 7, none, 1, false, []),
  (⟨"TesseraHall$Grid", "lineCount", "()I"⟩, prog_4_method_3_code, 1, (some .int), 1, false, []),
  (⟨"TesseraHall$Grid", "tell", "(II)V"⟩, prog_4_method_11_code, 3, none, 1, false, []),
  (⟨"TesseraHall$Grid", "lengthOf", "(I)I"⟩, prog_4_method_4_code, 2, (some .int), 1, false, []),
  (⟨"TesseraHall", "fitting", "(II)I"⟩, prog_1_method_44_code, 4, (some .int), 0, true, []),
  (⟨"TesseraHall$Album", "<init>", "()V"⟩, prog_2_method_1_code, 1, none, 2, false, []),
  (⟨"TesseraHall", "knock", "()I"⟩, prog_1_method_13_code, 1, (some .int), 0, false, []),
  (⟨"TesseraHall", "digest", "()J"⟩, prog_1_method_28_code, 4, (some .long), 0, false, []),
  (⟨"TesseraHall", "many", "(I)I"⟩, prog_1_method_22_code, 5, (some .int), 0, false, []),
  (⟨"TesseraHall", "checkWhat", "(II)V"⟩, prog_1_method_34_code, 2, none, 0, true, []),
  (⟨"TesseraHall", "boardAt", "(I)LTesseraHall$Board;"⟩, prog_1_method_30_code, 3, (some (.object "TesseraHall$Board")), 0, false, []),
  (⟨"TesseraHall$Grid", "countOf", "(I)I"⟩, prog_4_method_20_code, 4, (some .int), 1, false, []),
  (⟨"TesseraHall$Grid", "cellCount", "()I"⟩, prog_4_method_2_code, 1, (some .int), 1, false, []),
  (⟨"TesseraHall$Grid", "stateAt", "(I)I"⟩, prog_4_method_7_code, 2, (some .int), 1, false, []),
  (⟨"TesseraHall", "withBoard", "(JI)J"⟩, prog_1_method_29_code, 9, (some .long), 0, false, []),
  (⟨"TesseraHall", "ofBoard", "(II)I"⟩, prog_1_method_17_code, 4, (some .int), 0, false, []),
  (⟨"TesseraHall$Grid", "brokenLines", "()I"⟩, prog_4_method_22_code, 3, (some .int), 1, false, []),
  (⟨"TesseraHall$Grid", "waysOf", "(I)I"⟩, prog_4_method_15_code, 6, (some .int), 1, false, []),
  (⟨"TesseraHall$Grid", "cellAt", "(II)I"⟩, prog_4_method_5_code, 3, (some .int), 1, false, []),
  (⟨"TesseraHall$Album", "lookAt", "(LTesseraHall$Grid;I)LTesseraHall$Album;"⟩, prog_2_method_2_code, 4, (some (.object "TesseraHall$Album")), 2, false, []),
  (⟨"TesseraHall$Album", "isChangedBy", "(LTesseraHall$Grid;I)Z"⟩, prog_2_method_3_code, 6, (some .boolean), 2, false, []),
  (⟨"TesseraHall$Grid", "takeAll", "(LTesseraHall$Grid;)V"⟩, prog_4_method_26_code, 2, none, 1, false, []),
  (⟨"TesseraHall$Grid", "followAll", "(I)I"⟩, prog_4_method_18_code, 9, (some .int), 1, false, []),
  (⟨"TesseraHall$Grid", "followingIn", "(III)I"⟩, prog_4_method_17_code, 7, (some .int), 1, false, []),
  (⟨"TesseraHall$Grid", "putFollowing", "(IIIII)V"⟩, prog_4_method_19_code, 7, none, 1, false, []),
  (⟨"TesseraHall", "isIn", "(II)Z"⟩, prog_1_method_39_code, 2, (some .boolean), 0, true, []),
  (⟨"java/lang/Integer", "bitCount", "(I)I"⟩, prog_22_method_49_code, 1, (some .int), 3, true, [])]
def zmd_1 : List zMd := [(⟨"TesseraHall$Album", "canGoOn", "(I)Z"⟩, prog_2_method_7_code, 3, (some .boolean), 2, false, []),
  (⟨"TesseraHall$Album", "agreeingWays", "(II)I"⟩, prog_2_method_8_code, 6, (some .int), 2, false, []),
  (⟨"TesseraHall$Album", "layRow", "(LTesseraHall$Album;II)V"⟩, prog_2_method_4_code, 5, none, 2, true, []),
  (⟨"TesseraHall$Album", "add", "(I)V"⟩, prog_2_method_5_code, 2, none, 2, false, []),
  (⟨"TesseraHall$Album", "narrowColumns", "(II)V"⟩, prog_2_method_6_code, 5, none, 2, false, []),
  (⟨"TesseraHall$Grid", "openLines", "()I"⟩, prog_4_method_23_code, 3, (some .int), 1, false, []),
  (⟨"TesseraHall$Grid", "clueOf", "(I)I"⟩, prog_4_method_6_code, 2, (some .int), 1, false, []),
  (⟨"TesseraHall$Album", "alwaysSame", "()I"⟩, prog_2_method_10_code, 4, (some .int), 2, false, []),
  (⟨"TesseraHall$Grid", "unknownSet", "()I"⟩, prog_4_method_21_code, 3, (some .int), 1, false, []),
  (⟨"TesseraHall", "ofCell", "(III)I"⟩, prog_1_method_14_code, 5, (some .int), 0, false, []),
  (⟨"TesseraHall", "checkCell", "(LTesseraHall$Grid;I)V"⟩, prog_1_method_32_code, 2, none, 0, true, []),
  (⟨"TesseraHall$Grid", "aspectOf", "(II)I"⟩, prog_4_method_8_code, 3, (some .int), 1, false, []),
  (⟨"TesseraHall", "ofLine", "(III)I"⟩, prog_1_method_15_code, 5, (some .int), 0, false, []),
  (⟨"TesseraHall", "checkLine", "(LTesseraHall$Grid;I)V"⟩, prog_1_method_33_code, 2, none, 0, true, []),
  (⟨"TesseraHall", "runsIn", "(I)I"⟩, prog_1_method_41_code, 3, (some .int), 0, true, []),
  (⟨"TesseraHall$Grid", "following", "(II)I"⟩, prog_4_method_16_code, 3, (some .int), 1, false, []),
  (⟨"TesseraHall", "way", "(III)I"⟩, prog_1_method_16_code, 8, (some .int), 0, false, []),
  (⟨"TesseraHall", "picture", "(II)I"⟩, prog_1_method_19_code, 4, (some .int), 0, false, []),
  (⟨"TesseraHall$Album", "pictureAt", "(I)I"⟩, prog_2_method_9_code, 2, (some .int), 2, false, []),
  (⟨"TesseraHall", "blur", "(II)D"⟩, prog_1_method_21_code, 4, (some .double), 0, false, []),
  (⟨"TesseraHall$Grid", "looseness", "()D"⟩, prog_4_method_24_code, 4, (some .double), 1, false, []),
  (⟨"TesseraHall$Grid", "unknownIn", "(I)I"⟩, prog_4_method_25_code, 4, (some .int), 1, false, []),
  (⟨"TesseraHall$Album", "fogOver", "(LTesseraHall$Grid;)F"⟩, prog_2_method_14_code, 6, (some .float), 2, false, []),
  (⟨"TesseraHall$Album", "darkIn", "(I)I"⟩, prog_2_method_11_code, 2, (some .int), 2, false, []),
  (⟨"TesseraHall$Album", "countDarks", "()V"⟩, prog_2_method_12_code, 4, none, 2, false, []),
  (⟨"TesseraHall", "hint", "(I)I"⟩, prog_1_method_23_code, 7, (some .int), 0, false, []),
  (⟨"TesseraHall", "toss", "(I)I"⟩, prog_1_method_24_code, 12, (some .int), 0, false, []),
  (⟨"TesseraHall$Album", "chanceOf", "(I)D"⟩, prog_2_method_13_code, 2, (some .double), 2, false, []),
  (⟨"TesseraHall", "needs", "(I)I"⟩, prog_1_method_26_code, 3, (some .int), 0, false, []),
  (⟨"TesseraHall$Album", "fewestToTellFirst", "()I"⟩, prog_2_method_15_code, 2, (some .int), 2, false, [])]
def zmd_2 : List zMd := [(⟨"TesseraHall$Album", "tellsFirst", "(I)Z"⟩, prog_2_method_16_code, 5, (some .boolean), 2, false, []),
  (⟨"TesseraHall", "alike", "(II)I"⟩, prog_1_method_27_code, 6, (some .int), 0, false, []),
  (⟨"TesseraHall$Grid", "isTurnedInto", "(LTesseraHall$Grid;I)Z"⟩, prog_4_method_31_code, 7, (some .boolean), 1, false, []),
  (⟨"TesseraHall$Grid", "runsOtherWay", "(II)Z"⟩, prog_4_method_30_code, 3, (some .boolean), 1, false, []),
  (⟨"TesseraHall$Grid", "turnedLine", "(II)I"⟩, prog_4_method_29_code, 3, (some .int), 1, false, []),
  (⟨"TesseraHall", "reversed", "(I)I"⟩, prog_1_method_42_code, 3, (some .int), 0, true, []),
  (⟨"TesseraHallLaw$Out", "<init>", "()V"⟩, prog_6_method_1_code, 1, none, 4, false, []),
  (⟨"TesseraHallLaw", "board", "(LTesseraHall;IILTesseraHallLaw$Out;)I"⟩, method_2_code, 5, (some .int), 5, true, [(0, 11, 14, 19), (0, 11, 18, 21)]),
  (⟨"TesseraHall", "board", "(II)I"⟩, prog_1_method_2_code, 3, (some .int), 0, false, []),
  (⟨"TesseraHall$Board", "<init>", "(II)V"⟩, prog_3_method_1_code, 3, none, 6, false, []),
  (⟨"TesseraHallLaw", "clue", "(LTesseraHall;IIILTesseraHallLaw$Out;)I"⟩, method_3_code, 6, (some .int), 5, true, [(0, 13, 16, 27), (0, 13, 20, 19)]),
  (⟨"TesseraHall", "clue", "(III)I"⟩, prog_1_method_3_code, 5, (some .int), 0, false, []),
  (⟨"TesseraHall", "isClue", "(II)Z"⟩, prog_1_method_40_code, 4, (some .boolean), 0, true, []),
  (⟨"TesseraHallLaw", "open", "(LTesseraHall;IILTesseraHallLaw$Out;)I"⟩, method_4_code, 5, (some .int), 5, true, [(0, 11, 14, 27)]),
  (⟨"TesseraHall", "open", "(II)I"⟩, prog_1_method_4_code, 5, (some .int), 0, false, []),
  (⟨"TesseraHallLaw", "mark", "(LTesseraHall;IIZLTesseraHallLaw$Out;)I"⟩, method_5_code, 6, (some .int), 5, true, [(0, 20, 23, 27), (0, 20, 27, 21)]),
  (⟨"TesseraHall", "mark", "(IIZ)Z"⟩, prog_1_method_5_code, 5, (some .boolean), 0, false, []),
  (⟨"TesseraHall", "checkUnknown", "(LTesseraHall$Grid;I)V"⟩, prog_1_method_35_code, 2, none, 0, true, []),
  (⟨"TesseraHall", "tryOut", "(LTesseraHall$Grid;IZ)V"⟩, prog_1_method_31_code, 4, none, 0, false, []),
  (⟨"TesseraHall", "stateOf", "(Z)I"⟩, prog_1_method_37_code, 1, (some .int), 0, true, []),
  (⟨"TesseraHallLaw", "sweep", "(LTesseraHall;ILTesseraHallLaw$Out;)I"⟩, method_6_code, 4, (some .int), 5, true, [(0, 10, 13, 27)]),
  (⟨"TesseraHall", "sweep", "(I)I"⟩, prog_1_method_6_code, 3, (some .int), 0, false, []),
  (⟨"TesseraHallLaw", "guess", "(LTesseraHall;IIZLTesseraHallLaw$Out;)I"⟩, method_7_code, 6, (some .int), 5, true, [(0, 13, 16, 27), (0, 13, 20, 21)]),
  (⟨"TesseraHall", "guess", "(IIZ)I"⟩, prog_1_method_7_code, 5, (some .int), 0, false, []),
  (⟨"TesseraHall$Board", "keep", "(I)V"⟩, prog_3_method_2_code, 2, none, 6, false, []),
  (⟨"TesseraHallLaw", "back", "(LTesseraHall;IZLTesseraHallLaw$Out;)I"⟩, method_8_code, 5, (some .int), 5, true, [(0, 11, 14, 27), (0, 11, 18, 21)]),
  (⟨"TesseraHall", "back", "(IZ)I"⟩, prog_1_method_8_code, 6, (some .int), 0, false, []),
  (⟨"TesseraHall$Board", "lastGuessed", "()I"⟩, prog_3_method_3_code, 1, (some .int), 6, false, []),
  (⟨"TesseraHall$Board", "restore", "()V"⟩, prog_3_method_4_code, 1, none, 6, false, []),
  (⟨"TesseraHallLaw", "turn", "(LTesseraHall;IILTesseraHallLaw$Out;)I"⟩, method_9_code, 5, (some .int), 5, true, [(0, 11, 14, 27), (0, 11, 18, 19), (0, 11, 22, 21)])]
def zmd_3 : List zMd := [(⟨"TesseraHall", "turn", "(II)I"⟩, prog_1_method_9_code, 4, (some .int), 0, false, []),
  (⟨"TesseraHall", "checkNoGuess", "(LTesseraHall$Board;)V"⟩, prog_1_method_36_code, 1, none, 0, true, []),
  (⟨"TesseraHall$Grid", "takeTurned", "(LTesseraHall$Grid;I)V"⟩, prog_4_method_27_code, 5, none, 1, false, []),
  (⟨"TesseraHall$Grid", "takeTurnedCell", "(LTesseraHall$Grid;III)V"⟩, prog_4_method_28_code, 10, none, 1, false, []),
  (⟨"TesseraHallLaw", "paint", "(LTesseraHall;IIILTesseraHallLaw$Out;)I"⟩, method_10_code, 6, (some .int), 5, true, [(0, 13, 16, 27), (0, 13, 20, 19), (0, 13, 24, 21)]),
  (⟨"TesseraHall", "paint", "(III)I"⟩, prog_1_method_10_code, 5, (some .int), 0, false, []),
  (⟨"TesseraHall$Grid", "paintRow", "(II)V"⟩, prog_4_method_12_code, 4, none, 1, false, []),
  (⟨"TesseraHallLaw", "read", "(LTesseraHall;ILTesseraHallLaw$Out;)I"⟩, method_11_code, 4, (some .int), 5, true, [(0, 10, 13, 27), (0, 10, 16, 21)]),
  (⟨"TesseraHall", "read", "(I)I"⟩, prog_1_method_11_code, 4, (some .int), 0, false, []),
  (⟨"TesseraHall$Grid", "tellAsShown", "()I"⟩, prog_4_method_13_code, 4, (some .int), 1, false, []),
  (⟨"TesseraHall$Grid", "darkPlaces", "(I)I"⟩, prog_4_method_14_code, 4, (some .int), 1, false, []),
  (⟨"TesseraHall", "shownBy", "(I)I"⟩, prog_1_method_43_code, 1, (some .int), 0, true, []),
  (⟨"TesseraHallLaw", "wipe", "(LTesseraHall;ILTesseraHallLaw$Out;)I"⟩, method_12_code, 4, (some .int), 5, true, [(0, 10, 13, 27)]),
  (⟨"TesseraHall", "wipe", "(I)I"⟩, prog_1_method_12_code, 4, (some .int), 0, false, []),
  (⟨"TesseraHallLaw", "ofCell", "(LTesseraHall;IIILTesseraHallLaw$Out;)I"⟩, method_13_code, 6, (some .int), 5, true, [(0, 13, 16, 27), (0, 13, 20, 19)]),
  (⟨"TesseraHallLaw", "ofLine", "(LTesseraHall;IIILTesseraHallLaw$Out;)I"⟩, method_14_code, 6, (some .int), 5, true, [(0, 13, 16, 27), (0, 13, 20, 19)]),
  (⟨"TesseraHallLaw", "way", "(LTesseraHall;IIILTesseraHallLaw$Out;)I"⟩, method_15_code, 6, (some .int), 5, true, [(0, 13, 16, 27), (0, 13, 20, 19)]),
  (⟨"TesseraHallLaw", "ofBoard", "(LTesseraHall;IILTesseraHallLaw$Out;)I"⟩, method_16_code, 5, (some .int), 5, true, [(0, 11, 14, 27), (0, 11, 18, 19)]),
  (⟨"TesseraHallLaw", "text", "(LTesseraHall;ILTesseraHallLaw$Out;)I"⟩, method_17_code, 4, (some .int), 5, true, [(0, 9, 12, 27)]),
  (⟨"TesseraHall", "text", "(I)Ljava/lang/String;"⟩, prog_1_method_18_code, 6, (some (.object "java/lang/String")), 0, false, []),
  (⟨"java/lang/StringBuilder", "<init>", "()V"⟩, prog_28_method_1_code, 1, none, 7, false, []),
  (⟨"java/lang/AbstractStringBuilder", "<init>", "(I)V"⟩, prog_11_method_2_code, 2, none, 8, false, []),
  (⟨"java/lang/StringBuilder", "append", "(C)Ljava/lang/StringBuilder;"⟩, prog_28_method_14_code, 2, (some (.object "java/lang/StringBuilder")), 7, false, []),
  (⟨"java/lang/AbstractStringBuilder", "append", "(C)Ljava/lang/AbstractStringBuilder;"⟩, prog_11_method_31_code, 2, (some (.object "java/lang/AbstractStringBuilder")), 8, false, []),
  (⟨"java/lang/AbstractStringBuilder", "ensureCapacityInternal", "(I)V"⟩, prog_11_method_9_code, 3, none, 8, false, []),
  (⟨"java/lang/AbstractStringBuilder", "newCapacity", "(I)I"⟩, prog_11_method_10_code, 6, (some .int), 8, false, []),
  (⟨"jdk/internal/util/ArraysSupport", "newLength", "(III)I"⟩, prog_44_method_27_code, 4, (some .int), 9, true, []),
  (⟨"java/lang/Math", "max", "(II)I"⟩, prog_24_method_65_code, 2, (some .int), 10, true, []),
  (⟨"java/util/Arrays", "copyOf", "([BI)[B"⟩, prog_38_method_121_code, 3, (some (.array .byte)), 11, true, []),
  (⟨"java/lang/Math", "min", "(II)I"⟩, prog_24_method_69_code, 2, (some .int), 10, true, [])]
def zmd_4 : List zMd := [(⟨"java/lang/AbstractStringBuilder", "isLatin1", "()Z"⟩, prog_11_method_68_code, 1, (some .boolean), 8, false, []),
  (⟨"java/lang/StringLatin1", "canEncode", "(C)Z"⟩, prog_29_method_3_code, 1, (some .boolean), 12, true, []),
  (⟨"jdk/internal/util/Preconditions", "checkIndex", "(IILjava/util/function/BiFunction;)I"⟩, prog_45_method_11_code, 3, (some .int), 13, true, []),
  (⟨"TesseraHall", "signOf", "(I)C"⟩, prog_1_method_38_code, 1, (some .char), 0, true, []),
  (⟨"java/lang/StringBuilder", "toString", "()Ljava/lang/String;"⟩, prog_28_method_42_code, 1, (some (.object "java/lang/String")), 7, false, []),
  (⟨"java/lang/String", "<init>", "(Ljava/lang/StringBuilder;)V"⟩, prog_27_method_53_code, 2, none, 14, false, []),
  (⟨"java/lang/String", "<init>", "(Ljava/lang/AbstractStringBuilder;Ljava/lang/Void;)V"⟩, prog_27_method_150_code, 5, none, 14, false, []),
  (⟨"java/lang/AbstractStringBuilder", "getValue", "()[B"⟩, prog_11_method_64_code, 1, (some (.array .byte)), 8, false, []),
  (⟨"java/lang/StringBuilder", "length", "()I"⟩, prog_28_method_93_code, 1, (some .int), 7, false, []),
  (⟨"java/lang/AbstractStringBuilder", "length", "()I"⟩, prog_11_method_6_code, 1, (some .int), 8, false, []),
  (⟨"java/util/Arrays", "copyOfRange", "([BII)[B"⟩, prog_38_method_132_code, 3, (some (.array .byte)), 11, true, []),
  (⟨"java/util/Arrays", "copyOfRangeByte", "([BII)[B"⟩, prog_38_method_133_code, 5, (some (.array .byte)), 11, true, []),
  (⟨"java/util/Arrays", "checkLength", "(II)V"⟩, prog_38_method_131_code, 2, none, 11, true, []),
  (⟨"java/lang/String", "length", "()I"⟩, prog_27_method_54_code, 1, (some .int), 14, false, []),
  (⟨"java/lang/String", "coder", "()B"⟩, prog_27_method_152_code, 1, (some .byte), 14, false, []),
  (⟨"TesseraHallLaw", "picture", "(LTesseraHall;IILTesseraHallLaw$Out;)I"⟩, method_18_code, 5, (some .int), 5, true, [(0, 11, 14, 27), (0, 11, 18, 19)]),
  (⟨"TesseraHallLaw", "chance", "(LTesseraHall;IILTesseraHallLaw$Out;)I"⟩, method_19_code, 5, (some .int), 5, true, [(0, 10, 13, 27)]),
  (⟨"TesseraHall", "chance", "(II)D"⟩, prog_1_method_20_code, 4, (some .double), 0, false, []),
  (⟨"TesseraHallLaw", "blur", "(LTesseraHall;IILTesseraHallLaw$Out;)I"⟩, method_20_code, 5, (some .int), 5, true, [(0, 10, 13, 27), (0, 10, 17, 19)]),
  (⟨"TesseraHallLaw", "many", "(LTesseraHall;ILTesseraHallLaw$Out;)I"⟩, method_21_code, 4, (some .int), 5, true, [(0, 10, 13, 19)]),
  (⟨"TesseraHallLaw", "hint", "(LTesseraHall;ILTesseraHallLaw$Out;)I"⟩, method_22_code, 4, (some .int), 5, true, [(0, 10, 13, 27)]),
  (⟨"TesseraHallLaw", "toss", "(LTesseraHall;ILTesseraHallLaw$Out;)I"⟩, method_23_code, 4, (some .int), 5, true, [(0, 10, 13, 27)]),
  (⟨"TesseraHallLaw", "would", "(LTesseraHall;IIZILTesseraHallLaw$Out;)I"⟩, method_24_code, 7, (some .int), 5, true, [(0, 15, 18, 27), (0, 15, 22, 19), (0, 15, 26, 21)]),
  (⟨"TesseraHall", "would", "(IIZI)I"⟩, prog_1_method_25_code, 7, (some .int), 0, false, []),
  (⟨"TesseraHallLaw", "needs", "(LTesseraHall;ILTesseraHallLaw$Out;)I"⟩, method_25_code, 4, (some .int), 5, true, [(0, 10, 13, 27)]),
  (⟨"TesseraHallLaw", "alike", "(LTesseraHall;IILTesseraHallLaw$Out;)I"⟩, method_26_code, 5, (some .int), 5, true, [(0, 11, 14, 27)]),
  (⟨"TesseraHallModel", "<init>", "()V"⟩, prog_7_method_1_code, 1, none, 15, false, []),
  (⟨"java/util/ArrayList", "<init>", "()V"⟩, prog_37_method_2_code, 1, none, 16, false, []),
  (⟨"java/util/AbstractList", "<init>", "()V"⟩, prog_36_method_1_code, 1, none, 17, false, []),
  (⟨"java/util/AbstractCollection", "<init>", "()V"⟩, prog_35_method_1_code, 1, none, 18, false, [])]
def zmd_5 : List zMd := [(⟨"TesseraHallModel", "board", "(II)I"⟩, prog_7_method_13_code, 3, (some .int), 15, false, []),
  (⟨"TesseraHallModel", "in", "(III)Z"⟩, prog_7_method_4_code, 3, (some .boolean), 15, true, []),
  (⟨"TesseraHallModel", "no", "(I)I"⟩, prog_7_method_3_code, 2, (some .int), 15, false, []),
  (⟨"java/util/ArrayList", "size", "()I"⟩, prog_37_method_8_code, 1, (some .int), 16, false, []),
  (⟨"TesseraHallModel$Board", "<init>", "(II)V"⟩, prog_8_method_1_code, 4, none, 19, false, []),
  (⟨"TesseraHallModel$Board", "clear", "()V"⟩, prog_8_method_2_code, 2, none, 19, false, []),
  (⟨"TesseraHallModel$Board", "cells", "()I"⟩, prog_8_method_5_code, 1, (some .int), 19, false, []),
  (⟨"java/util/ArrayList", "add", "(Ljava/lang/Object;)Z"⟩, prog_37_method_25_code, 2, (some .boolean), 16, false, []),
  (⟨"java/util/ArrayList", "add", "(Ljava/lang/Object;[Ljava/lang/Object;I)V"⟩, prog_37_method_24_code, 4, none, 16, false, []),
  (⟨"java/util/ArrayList", "grow", "()[Ljava/lang/Object;"⟩, prog_37_method_7_code, 1, (some (.array (.object "java/lang/Object"))), 16, false, []),
  (⟨"java/util/ArrayList", "grow", "(I)[Ljava/lang/Object;"⟩, prog_37_method_6_code, 4, (some (.array (.object "java/lang/Object"))), 16, false, []),
  (⟨"TesseraHallModel", "clue", "(III)I"⟩, prog_7_method_15_code, 5, (some .int), 15, false, []),
  (⟨"TesseraHallModel", "isLine", "(II)Z"⟩, prog_7_method_12_code, 3, (some .boolean), 15, false, []),
  (⟨"TesseraHallModel", "isBoard", "(I)Z"⟩, prog_7_method_10_code, 2, (some .boolean), 15, false, []),
  (⟨"java/util/ArrayList", "get", "(I)Ljava/lang/Object;"⟩, prog_37_method_20_code, 2, (some (.object "java/lang/Object")), 16, false, []),
  (⟨"java/util/Objects", "checkIndex", "(II)I"⟩, prog_41_method_17_code, 2, (some .int), 20, true, []),
  (⟨"java/util/ArrayList", "elementData", "(I)Ljava/lang/Object;"⟩, prog_37_method_18_code, 2, (some (.object "java/lang/Object")), 16, false, []),
  (⟨"TesseraHallModel$Board", "lines", "()I"⟩, prog_8_method_6_code, 1, (some .int), 19, false, []),
  (⟨"TesseraHallModel$Board", "length", "(I)I"⟩, prog_8_method_7_code, 2, (some .int), 19, false, []),
  (⟨"TesseraHallModel", "canBe", "(II)Z"⟩, prog_7_method_14_code, 4, (some .boolean), 15, true, []),
  (⟨"TesseraHallModel", "runs", "(I)I"⟩, prog_7_method_9_code, 3, (some .int), 15, true, []),
  (⟨"TesseraHallModel$Board", "ways", "(I)I"⟩, prog_8_method_11_code, 4, (some .int), 19, false, []),
  (⟨"TesseraHallModel$Board", "isWay", "(II)Z"⟩, prog_8_method_10_code, 5, (some .boolean), 19, false, []),
  (⟨"TesseraHallModel$Board", "cellOf", "(II)I"⟩, prog_8_method_8_code, 3, (some .int), 19, false, []),
  (⟨"TesseraHallModel$Board", "is", "(I)I"⟩, prog_8_method_9_code, 2, (some .int), 19, false, []),
  (⟨"TesseraHallModel", "has", "(II)Z"⟩, prog_7_method_5_code, 2, (some .boolean), 15, true, []),
  (⟨"TesseraHallModel", "shown", "(II)I"⟩, prog_7_method_7_code, 5, (some .int), 15, true, []),
  (⟨"TesseraHallModel", "open", "(II)I"⟩, prog_7_method_16_code, 4, (some .int), 15, false, []),
  (⟨"TesseraHallModel", "mark", "(IIZ)Z"⟩, prog_7_method_17_code, 5, (some .boolean), 15, false, []),
  (⟨"TesseraHallModel", "isCell", "(II)Z"⟩, prog_7_method_11_code, 3, (some .boolean), 15, false, [])]
def zmd_6 : List zMd := [(⟨"TesseraHallModel$Board", "become", "(IIII)V"⟩, prog_8_method_14_code, 5, none, 19, false, []),
  (⟨"TesseraHallModel$Board", "count", "()I"⟩, prog_8_method_20_code, 1, (some .int), 19, false, []),
  (⟨"TesseraHallModel$Board", "pictures", "()[I"⟩, prog_8_method_17_code, 9, (some (.array .int)), 19, false, []),
  (⟨"TesseraHallModel$Board", "waysOf", "(I)[I"⟩, prog_8_method_16_code, 5, (some (.array .int)), 19, false, []),
  (⟨"TesseraHallModel$Board", "isLet", "([[III)Z"⟩, prog_8_method_18_code, 10, (some .boolean), 19, false, []),
  (⟨"TesseraHallModel$Board", "look", "([I[[I[[[I[[III)V"⟩, prog_8_method_19_code, 13, none, 19, false, []),
  (⟨"TesseraHallModel", "sweep", "(I)I"⟩, prog_7_method_18_code, 2, (some .int), 15, false, []),
  (⟨"TesseraHallModel$Board", "sweep", "()I"⟩, prog_8_method_15_code, 8, (some .int), 19, false, []),
  (⟨"TesseraHallModel$Board", "follows", "(IZ)I"⟩, prog_8_method_13_code, 7, (some .int), 19, false, []),
  (⟨"TesseraHallModel", "size", "(I)I"⟩, prog_7_method_6_code, 3, (some .int), 15, true, []),
  (⟨"TesseraHallModel", "guess", "(IIZ)I"⟩, prog_7_method_19_code, 5, (some .int), 15, false, []),
  (⟨"TesseraHallModel$Board", "copy", "([[I)[[I"⟩, prog_8_method_3_code, 3, (some (.array (.array .int))), 19, true, []),
  (⟨"TesseraHallModel$Kept", "<init>", "([[IIZ)V"⟩, prog_9_method_1_code, 4, none, 21, false, []),
  (⟨"TesseraHallModel", "back", "(IZ)I"⟩, prog_7_method_20_code, 5, (some .int), 15, false, []),
  (⟨"java/util/ArrayList", "remove", "(I)Ljava/lang/Object;"⟩, prog_37_method_29_code, 4, (some (.object "java/lang/Object")), 16, false, []),
  (⟨"java/util/ArrayList", "fastRemove", "([Ljava/lang/Object;I)V"⟩, prog_37_method_39_code, 4, none, 16, false, []),
  (⟨"TesseraHallModel", "turn", "(II)I"⟩, prog_7_method_21_code, 4, (some .int), 15, false, []),
  (⟨"TesseraHallModel$Board", "turn", "(I)V"⟩, prog_8_method_23_code, 8, none, 19, false, []),
  (⟨"TesseraHallModel$Board", "copy", "()LTesseraHallModel$Board;"⟩, prog_8_method_4_code, 2, (some (.object "TesseraHallModel$Board")), 19, false, []),
  (⟨"TesseraHallModel$Board", "lineTo", "(LTesseraHallModel$Board;II)I"⟩, prog_8_method_24_code, 5, (some .int), 19, true, []),
  (⟨"TesseraHallModel", "reversed", "(I)I"⟩, prog_7_method_8_code, 3, (some .int), 15, true, []),
  (⟨"TesseraHallModel", "paint", "(III)I"⟩, prog_7_method_22_code, 6, (some .int), 15, false, []),
  (⟨"TesseraHallModel$Board", "cells", "(I)I"⟩, prog_8_method_21_code, 7, (some .int), 19, false, []),
  (⟨"TesseraHallModel", "read", "(I)I"⟩, prog_7_method_23_code, 7, (some .int), 15, false, []),
  (⟨"TesseraHallModel", "wipe", "(I)I"⟩, prog_7_method_24_code, 4, (some .int), 15, false, []),
  (⟨"TesseraHallModel", "knock", "()I"⟩, prog_7_method_25_code, 1, (some .int), 15, false, []),
  (⟨"TesseraHallModel", "ofCell", "(III)I"⟩, prog_7_method_26_code, 4, (some .int), 15, false, []),
  (⟨"TesseraHallModel", "ofLine", "(III)I"⟩, prog_7_method_28_code, 4, (some .int), 15, false, []),
  (⟨"TesseraHallModel", "lineNow", "(LTesseraHallModel$Board;II)I"⟩, prog_7_method_27_code, 3, (some .int), 15, true, []),
  (⟨"TesseraHallModel", "way", "(III)I"⟩, prog_7_method_29_code, 4, (some .int), 15, false, [])]
def zmd_7 : List zMd := [(⟨"TesseraHallModel$Board", "way", "(II)I"⟩, prog_8_method_12_code, 5, (some .int), 19, false, []),
  (⟨"TesseraHallModel", "ofBoard", "(II)I"⟩, prog_7_method_32_code, 3, (some .int), 15, false, []),
  (⟨"TesseraHallModel", "boardNow", "(LTesseraHallModel$Board;[II)I"⟩, prog_7_method_31_code, 8, (some .int), 15, true, []),
  (⟨"TesseraHallModel$Board", "broken", "()I"⟩, prog_8_method_22_code, 3, (some .int), 19, false, []),
  (⟨"TesseraHallModel", "settled", "(LTesseraHallModel$Board;[I)I"⟩, prog_7_method_30_code, 8, (some .int), 15, true, []),
  (⟨"TesseraHallModel", "text", "(I)Ljava/lang/String;"⟩, prog_7_method_33_code, 5, (some (.object "java/lang/String")), 15, false, []),
  (⟨"TesseraHallModel", "picture", "(II)I"⟩, prog_7_method_34_code, 4, (some .int), 15, false, []),
  (⟨"TesseraHallModel", "chance", "(II)D"⟩, prog_7_method_37_code, 3, (some .double), 15, false, []),
  (⟨"TesseraHallModel", "chance", "([II)D"⟩, prog_7_method_36_code, 2, (some .double), 15, true, []),
  (⟨"TesseraHallModel", "dark", "([II)I"⟩, prog_7_method_35_code, 7, (some .int), 15, true, []),
  (⟨"TesseraHallModel", "blur", "(II)D"⟩, prog_7_method_40_code, 4, (some .double), 15, false, []),
  (⟨"TesseraHallModel", "loose", "(LTesseraHallModel$Board;)D"⟩, prog_7_method_38_code, 6, (some .double), 15, true, []),
  (⟨"TesseraHallModel", "fog", "(LTesseraHallModel$Board;[I)F"⟩, prog_7_method_39_code, 5, (some .float), 15, true, []),
  (⟨"TesseraHallModel", "many", "(I)I"⟩, prog_7_method_42_code, 2, (some .int), 15, false, []),
  (⟨"TesseraHallModel", "manyNow", "(I)I"⟩, prog_7_method_41_code, 7, (some .int), 15, false, []),
  (⟨"TesseraHallModel", "hint", "(I)I"⟩, prog_7_method_44_code, 2, (some .int), 15, false, []),
  (⟨"TesseraHallModel", "hintNow", "(LTesseraHallModel$Board;)I"⟩, prog_7_method_43_code, 5, (some .int), 15, true, []),
  (⟨"TesseraHallModel", "toss", "(I)I"⟩, prog_7_method_46_code, 2, (some .int), 15, false, []),
  (⟨"TesseraHallModel", "tossNow", "(LTesseraHallModel$Board;[I)I"⟩, prog_7_method_45_code, 8, (some .int), 15, true, []),
  (⟨"TesseraHallModel", "would", "(IIZI)I"⟩, prog_7_method_47_code, 7, (some .int), 15, false, []),
  (⟨"TesseraHallModel", "needs", "(I)I"⟩, prog_7_method_50_code, 2, (some .int), 15, false, []),
  (⟨"TesseraHallModel", "needsNow", "(LTesseraHallModel$Board;[I)I"⟩, prog_7_method_49_code, 5, (some .int), 15, true, []),
  (⟨"TesseraHallModel", "isOne", "([III)Z"⟩, prog_7_method_48_code, 5, (some .boolean), 15, true, []),
  (⟨"TesseraHallModel", "alike", "(II)I"⟩, prog_7_method_53_code, 3, (some .int), 15, false, []),
  (⟨"TesseraHallModel", "alikeNow", "(II)I"⟩, prog_7_method_52_code, 5, (some .int), 15, false, []),
  (⟨"TesseraHallModel", "areAlike", "(LTesseraHallModel$Board;LTesseraHallModel$Board;)Z"⟩, prog_7_method_51_code, 3, (some .boolean), 15, true, []),
  (⟨"TesseraHallModel", "digest", "()J"⟩, prog_7_method_54_code, 8, (some .long), 15, false, []),
  (⟨"TesseraHallLaw", "law", "([I)Z"⟩, code, 8, (some .boolean), 5, true, [])]
def zmds : List (List zMd) := [zmd_0, zmd_1, zmd_2, zmd_3, zmd_4, zmd_5, zmd_6, zmd_7]
def zmd (j : Nat) : Option zMd := match zmds[j / 30]? with | some l => l[j % 30]? | none => none
def zMok (j : Nat) (r : zMd) : Prop := plainFor r.1 = true ∧ r.1.cls ≠ "java/lang/invoke/MethodHandle" ∧ r.1.cls ≠ "java/lang/invoke/VarHandle" ∧ zon[r.2.2.2.2.1]? = some r.1.cls ∧ r.2.2.1 ≤ 45 ∧ Jvm.Cond.initialized r.1.cls ∈ zWS ∧ (if r.2.2.2.2.2.2.isEmpty then Jvm.Cond.code r.1 r.2.1 r.2.2.1 r.2.2.2.1 ∈ zWS else Jvm.Cond.codeWith r.1 r.2.1 r.2.2.1 r.2.2.2.1 r.2.2.2.2.2.2 ∈ zWS)
theorem zM0 : ∀ r, zmd_0[0]? = some r → zMok 0 r := fun r h => (Option.some.inj h) ▸ ⟨by decide +kernel, by decide +kernel, by decide +kernel, rfl, by decide, (zw (zin1 (List.mem_of_getElem? (i := 1) rfl)) rfl), (zw (zin1 (List.mem_of_getElem? (i := 37) rfl)) rfl)⟩
theorem zM1 : ∀ r, zmd_0[1]? = some r → zMok 1 r := fun r h => (Option.some.inj h) ▸ ⟨by decide +kernel, by decide +kernel, by decide +kernel, rfl, by decide, (zw (zin1 (List.mem_of_getElem? (i := 2) rfl)) rfl), (zw (zin1 (List.mem_of_getElem? (i := 47) rfl)) rfl)⟩
theorem zM2 : ∀ r, zmd_0[2]? = some r → zMok 2 r := fun r h => (Option.some.inj h) ▸ ⟨by decide +kernel, by decide +kernel, by decide +kernel, rfl, by decide, (zw (zin1 (List.mem_of_getElem? (i := 2) rfl)) rfl), (zw (zin1 (List.mem_of_getElem? (i := 52) rfl)) rfl)⟩
theorem zM3 : ∀ r, zmd_0[3]? = some r → zMok 3 r := fun r h => (Option.some.inj h) ▸ ⟨by decide +kernel, by decide +kernel, by decide +kernel, rfl, by decide, (zw (zin1 (List.mem_of_getElem? (i := 2) rfl)) rfl), (zw (zin1 (List.mem_of_getElem? (i := 56) rfl)) rfl)⟩
theorem zM4 : ∀ r, zmd_0[4]? = some r → zMok 4 r := fun r h => (Option.some.inj h) ▸ ⟨by decide +kernel, by decide +kernel, by decide +kernel, rfl, by decide, (zw (zin1 (List.mem_of_getElem? (i := 2) rfl)) rfl), (zw (zin1 (List.mem_of_getElem? (i := 60) rfl)) rfl)⟩
theorem zM5 : ∀ r, zmd_0[5]? = some r → zMok 5 r := fun r h => (Option.some.inj h) ▸ ⟨by decide +kernel, by decide +kernel, by decide +kernel, rfl, by decide, (zw (zin1 (List.mem_of_getElem? (i := 2) rfl)) rfl), (zw (zin1 (List.mem_of_getElem? (i := 64) rfl)) rfl)⟩
theorem zM6 : ∀ r, zmd_0[6]? = some r → zMok 6 r := fun r h => (Option.some.inj h) ▸ ⟨by decide +kernel, by decide +kernel, by decide +kernel, rfl, by decide, (zw (zin1 (List.mem_of_getElem? (i := 2) rfl)) rfl), (zw (zin1 (List.mem_of_getElem? (i := 68) rfl)) rfl)⟩
theorem zM7 : ∀ r, zmd_0[7]? = some r → zMok 7 r := fun r h => (Option.some.inj h) ▸ ⟨by decide +kernel, by decide +kernel, by decide +kernel, rfl, by decide, (zw (zin1 (List.mem_of_getElem? (i := 1) rfl)) rfl), (zw (zin1 (List.mem_of_getElem? (i := 71) rfl)) rfl)⟩
theorem zM8 : ∀ r, zmd_0[8]? = some r → zMok 8 r := fun r h => (Option.some.inj h) ▸ ⟨by decide +kernel, by decide +kernel, by decide +kernel, rfl, by decide, (zw (zin1 (List.mem_of_getElem? (i := 3) rfl)) rfl), (zw (zin1 (List.mem_of_getElem? (i := 100) rfl)) rfl)⟩
theorem zM9 : ∀ r, zmd_0[9]? = some r → zMok 9 r := fun r h => (Option.some.inj h) ▸ ⟨by decide +kernel, by decide +kernel, by decide +kernel, rfl, by decide, (zw (zin1 (List.mem_of_getElem? (i := 1) rfl)) rfl), (zw (zin1 (List.mem_of_getElem? (i := 158) rfl)) rfl)⟩
theorem zM10 : ∀ r, zmd_0[10]? = some r → zMok 10 r := fun r h => (Option.some.inj h) ▸ ⟨by decide +kernel, by decide +kernel, by decide +kernel, rfl, by decide, (zw (zin1 (List.mem_of_getElem? (i := 1) rfl)) rfl), (zw (zin1 (List.mem_of_getElem? (i := 162) rfl)) rfl)⟩
theorem zM11 : ∀ r, zmd_0[11]? = some r → zMok 11 r := fun r h => (Option.some.inj h) ▸ ⟨by decide +kernel, by decide +kernel, by decide +kernel, rfl, by decide, (zw (zin1 (List.mem_of_getElem? (i := 1) rfl)) rfl), (zw (zin1 (List.mem_of_getElem? (i := 168) rfl)) rfl)⟩
theorem zM12 : ∀ r, zmd_0[12]? = some r → zMok 12 r := fun r h => (Option.some.inj h) ▸ ⟨by decide +kernel, by decide +kernel, by decide +kernel, rfl, by decide, (zw (zin1 (List.mem_of_getElem? (i := 1) rfl)) rfl), (zw (zin1 (List.mem_of_getElem? (i := 171) rfl)) rfl)⟩
theorem zM13 : ∀ r, zmd_0[13]? = some r → zMok 13 r := fun r h => (Option.some.inj h) ▸ ⟨by decide +kernel, by decide +kernel, by decide +kernel, rfl, by decide, (zw (zin1 (List.mem_of_getElem? (i := 1) rfl)) rfl), (zw (zin2 (List.mem_of_getElem? (i := 3) rfl)) rfl)⟩
theorem zM14 : ∀ r, zmd_0[14]? = some r → zMok 14 r := fun r h => (Option.some.inj h) ▸ ⟨by decide +kernel, by decide +kernel, by decide +kernel, rfl, by decide, (zw (zin1 (List.mem_of_getElem? (i := 2) rfl)) rfl), (zw (zin2 (List.mem_of_getElem? (i := 23) rfl)) rfl)⟩
theorem zM15 : ∀ r, zmd_0[15]? = some r → zMok 15 r := fun r h => (Option.some.inj h) ▸ ⟨by decide +kernel, by decide +kernel, by decide +kernel, rfl, by decide, (zw (zin1 (List.mem_of_getElem? (i := 2) rfl)) rfl), (zw (zin2 (List.mem_of_getElem? (i := 27) rfl)) rfl)⟩
theorem zM16 : ∀ r, zmd_0[16]? = some r → zMok 16 r := fun r h => (Option.some.inj h) ▸ ⟨by decide +kernel, by decide +kernel, by decide +kernel, rfl, by decide, (zw (zin1 (List.mem_of_getElem? (i := 2) rfl)) rfl), (zw (zin2 (List.mem_of_getElem? (i := 31) rfl)) rfl)⟩
theorem zM17 : ∀ r, zmd_0[17]? = some r → zMok 17 r := fun r h => (Option.some.inj h) ▸ ⟨by decide +kernel, by decide +kernel, by decide +kernel, rfl, by decide, (zw (zin1 (List.mem_of_getElem? (i := 1) rfl)) rfl), (zw (zin2 (List.mem_of_getElem? (i := 35) rfl)) rfl)⟩
theorem zM18 : ∀ r, zmd_0[18]? = some r → zMok 18 r := fun r h => (Option.some.inj h) ▸ ⟨by decide +kernel, by decide +kernel, by decide +kernel, rfl, by decide, (zw (zin1 (List.mem_of_getElem? (i := 1) rfl)) rfl), (zw (zin2 (List.mem_of_getElem? (i := 39) rfl)) rfl)⟩
theorem zM19 : ∀ r, zmd_0[19]? = some r → zMok 19 r := fun r h => (Option.some.inj h) ▸ ⟨by decide +kernel, by decide +kernel, by decide +kernel, rfl, by decide, (zw (zin1 (List.mem_of_getElem? (i := 2) rfl)) rfl), (zw (zin2 (List.mem_of_getElem? (i := 43) rfl)) rfl)⟩
theorem zM20 : ∀ r, zmd_0[20]? = some r → zMok 20 r := fun r h => (Option.some.inj h) ▸ ⟨by decide +kernel, by decide +kernel, by decide +kernel, rfl, by decide, (zw (zin1 (List.mem_of_getElem? (i := 2) rfl)) rfl), (zw (zin2 (List.mem_of_getElem? (i := 47) rfl)) rfl)⟩
theorem zM21 : ∀ r, zmd_0[21]? = some r → zMok 21 r := fun r h => (Option.some.inj h) ▸ ⟨by decide +kernel, by decide +kernel, by decide +kernel, rfl, by decide, (zw (zin1 (List.mem_of_getElem? (i := 2) rfl)) rfl), (zw (zin2 (List.mem_of_getElem? (i := 53) rfl)) rfl)⟩
theorem zM22 : ∀ r, zmd_0[22]? = some r → zMok 22 r := fun r h => (Option.some.inj h) ▸ ⟨by decide +kernel, by decide +kernel, by decide +kernel, rfl, by decide, (zw (zin1 (List.mem_of_getElem? (i := 3) rfl)) rfl), (zw (zin2 (List.mem_of_getElem? (i := 57) rfl)) rfl)⟩
theorem zM23 : ∀ r, zmd_0[23]? = some r → zMok 23 r := fun r h => (Option.some.inj h) ▸ ⟨by decide +kernel, by decide +kernel, by decide +kernel, rfl, by decide, (zw (zin1 (List.mem_of_getElem? (i := 3) rfl)) rfl), (zw (zin2 (List.mem_of_getElem? (i := 61) rfl)) rfl)⟩
theorem zM24 : ∀ r, zmd_0[24]? = some r → zMok 24 r := fun r h => (Option.some.inj h) ▸ ⟨by decide +kernel, by decide +kernel, by decide +kernel, rfl, by decide, (zw (zin1 (List.mem_of_getElem? (i := 2) rfl)) rfl), (zw (zin2 (List.mem_of_getElem? (i := 67) rfl)) rfl)⟩
theorem zM25 : ∀ r, zmd_0[25]? = some r → zMok 25 r := fun r h => (Option.some.inj h) ▸ ⟨by decide +kernel, by decide +kernel, by decide +kernel, rfl, by decide, (zw (zin1 (List.mem_of_getElem? (i := 2) rfl)) rfl), (zw (zin2 (List.mem_of_getElem? (i := 74) rfl)) rfl)⟩
theorem zM26 : ∀ r, zmd_0[26]? = some r → zMok 26 r := fun r h => (Option.some.inj h) ▸ ⟨by decide +kernel, by decide +kernel, by decide +kernel, rfl, by decide, (zw (zin1 (List.mem_of_getElem? (i := 2) rfl)) rfl), (zw (zin2 (List.mem_of_getElem? (i := 78) rfl)) rfl)⟩
theorem zM27 : ∀ r, zmd_0[27]? = some r → zMok 27 r := fun r h => (Option.some.inj h) ▸ ⟨by decide +kernel, by decide +kernel, by decide +kernel, rfl, by decide, (zw (zin1 (List.mem_of_getElem? (i := 2) rfl)) rfl), (zw (zin2 (List.mem_of_getElem? (i := 82) rfl)) rfl)⟩
theorem zM28 : ∀ r, zmd_0[28]? = some r → zMok 28 r := fun r h => (Option.some.inj h) ▸ ⟨by decide +kernel, by decide +kernel, by decide +kernel, rfl, by decide, (zw (zin1 (List.mem_of_getElem? (i := 1) rfl)) rfl), (zw (zin2 (List.mem_of_getElem? (i := 85) rfl)) rfl)⟩
theorem zM29 : ∀ r, zmd_0[29]? = some r → zMok 29 r := fun r h => (Option.some.inj h) ▸ ⟨by decide +kernel, by decide +kernel, by decide +kernel, rfl, by decide, (zw (zin1 (List.mem_of_getElem? (i := 22) rfl)) rfl), (zw (zin2 (List.mem_of_getElem? (i := 88) rfl)) rfl)⟩
theorem zM30 : ∀ r, zmd_1[0]? = some r → zMok 30 r := fun r h => (Option.some.inj h) ▸ ⟨by decide +kernel, by decide +kernel, by decide +kernel, rfl, by decide, (zw (zin1 (List.mem_of_getElem? (i := 3) rfl)) rfl), (zw (zin2 (List.mem_of_getElem? (i := 95) rfl)) rfl)⟩
theorem zM31 : ∀ r, zmd_1[1]? = some r → zMok 31 r := fun r h => (Option.some.inj h) ▸ ⟨by decide +kernel, by decide +kernel, by decide +kernel, rfl, by decide, (zw (zin1 (List.mem_of_getElem? (i := 3) rfl)) rfl), (zw (zin2 (List.mem_of_getElem? (i := 99) rfl)) rfl)⟩
theorem zM32 : ∀ r, zmd_1[2]? = some r → zMok 32 r := fun r h => (Option.some.inj h) ▸ ⟨by decide +kernel, by decide +kernel, by decide +kernel, rfl, by decide, (zw (zin1 (List.mem_of_getElem? (i := 3) rfl)) rfl), (zw (zin2 (List.mem_of_getElem? (i := 103) rfl)) rfl)⟩
theorem zM33 : ∀ r, zmd_1[3]? = some r → zMok 33 r := fun r h => (Option.some.inj h) ▸ ⟨by decide +kernel, by decide +kernel, by decide +kernel, rfl, by decide, (zw (zin1 (List.mem_of_getElem? (i := 3) rfl)) rfl), (zw (zin2 (List.mem_of_getElem? (i := 107) rfl)) rfl)⟩
theorem zM34 : ∀ r, zmd_1[4]? = some r → zMok 34 r := fun r h => (Option.some.inj h) ▸ ⟨by decide +kernel, by decide +kernel, by decide +kernel, rfl, by decide, (zw (zin1 (List.mem_of_getElem? (i := 3) rfl)) rfl), (zw (zin2 (List.mem_of_getElem? (i := 112) rfl)) rfl)⟩
theorem zM35 : ∀ r, zmd_1[5]? = some r → zMok 35 r := fun r h => (Option.some.inj h) ▸ ⟨by decide +kernel, by decide +kernel, by decide +kernel, rfl, by decide, (zw (zin1 (List.mem_of_getElem? (i := 2) rfl)) rfl), (zw (zin2 (List.mem_of_getElem? (i := 116) rfl)) rfl)⟩
theorem zM36 : ∀ r, zmd_1[6]? = some r → zMok 36 r := fun r h => (Option.some.inj h) ▸ ⟨by decide +kernel, by decide +kernel, by decide +kernel, rfl, by decide, (zw (zin1 (List.mem_of_getElem? (i := 2) rfl)) rfl), (zw (zin2 (List.mem_of_getElem? (i := 120) rfl)) rfl)⟩
theorem zM37 : ∀ r, zmd_1[7]? = some r → zMok 37 r := fun r h => (Option.some.inj h) ▸ ⟨by decide +kernel, by decide +kernel, by decide +kernel, rfl, by decide, (zw (zin1 (List.mem_of_getElem? (i := 3) rfl)) rfl), (zw (zin2 (List.mem_of_getElem? (i := 124) rfl)) rfl)⟩
theorem zM38 : ∀ r, zmd_1[8]? = some r → zMok 38 r := fun r h => (Option.some.inj h) ▸ ⟨by decide +kernel, by decide +kernel, by decide +kernel, rfl, by decide, (zw (zin1 (List.mem_of_getElem? (i := 2) rfl)) rfl), (zw (zin2 (List.mem_of_getElem? (i := 128) rfl)) rfl)⟩
theorem zM39 : ∀ r, zmd_1[9]? = some r → zMok 39 r := fun r h => (Option.some.inj h) ▸ ⟨by decide +kernel, by decide +kernel, by decide +kernel, rfl, by decide, (zw (zin1 (List.mem_of_getElem? (i := 1) rfl)) rfl), (zw (zin2 (List.mem_of_getElem? (i := 133) rfl)) rfl)⟩
theorem zM40 : ∀ r, zmd_1[10]? = some r → zMok 40 r := fun r h => (Option.some.inj h) ▸ ⟨by decide +kernel, by decide +kernel, by decide +kernel, rfl, by decide, (zw (zin1 (List.mem_of_getElem? (i := 1) rfl)) rfl), (zw (zin2 (List.mem_of_getElem? (i := 136) rfl)) rfl)⟩
theorem zM41 : ∀ r, zmd_1[11]? = some r → zMok 41 r := fun r h => (Option.some.inj h) ▸ ⟨by decide +kernel, by decide +kernel, by decide +kernel, rfl, by decide, (zw (zin1 (List.mem_of_getElem? (i := 2) rfl)) rfl), (zw (zin2 (List.mem_of_getElem? (i := 141) rfl)) rfl)⟩
theorem zM42 : ∀ r, zmd_1[12]? = some r → zMok 42 r := fun r h => (Option.some.inj h) ▸ ⟨by decide +kernel, by decide +kernel, by decide +kernel, rfl, by decide, (zw (zin1 (List.mem_of_getElem? (i := 1) rfl)) rfl), (zw (zin2 (List.mem_of_getElem? (i := 146) rfl)) rfl)⟩
theorem zM43 : ∀ r, zmd_1[13]? = some r → zMok 43 r := fun r h => (Option.some.inj h) ▸ ⟨by decide +kernel, by decide +kernel, by decide +kernel, rfl, by decide, (zw (zin1 (List.mem_of_getElem? (i := 1) rfl)) rfl), (zw (zin2 (List.mem_of_getElem? (i := 149) rfl)) rfl)⟩
theorem zM44 : ∀ r, zmd_1[14]? = some r → zMok 44 r := fun r h => (Option.some.inj h) ▸ ⟨by decide +kernel, by decide +kernel, by decide +kernel, rfl, by decide, (zw (zin1 (List.mem_of_getElem? (i := 1) rfl)) rfl), (zw (zin2 (List.mem_of_getElem? (i := 154) rfl)) rfl)⟩
theorem zM45 : ∀ r, zmd_1[15]? = some r → zMok 45 r := fun r h => (Option.some.inj h) ▸ ⟨by decide +kernel, by decide +kernel, by decide +kernel, rfl, by decide, (zw (zin1 (List.mem_of_getElem? (i := 2) rfl)) rfl), (zw (zin2 (List.mem_of_getElem? (i := 160) rfl)) rfl)⟩
theorem zM46 : ∀ r, zmd_1[16]? = some r → zMok 46 r := fun r h => (Option.some.inj h) ▸ ⟨by decide +kernel, by decide +kernel, by decide +kernel, rfl, by decide, (zw (zin1 (List.mem_of_getElem? (i := 1) rfl)) rfl), (zw (zin2 (List.mem_of_getElem? (i := 165) rfl)) rfl)⟩
theorem zM47 : ∀ r, zmd_1[17]? = some r → zMok 47 r := fun r h => (Option.some.inj h) ▸ ⟨by decide +kernel, by decide +kernel, by decide +kernel, rfl, by decide, (zw (zin1 (List.mem_of_getElem? (i := 1) rfl)) rfl), (zw (zin2 (List.mem_of_getElem? (i := 171) rfl)) rfl)⟩
theorem zM48 : ∀ r, zmd_1[18]? = some r → zMok 48 r := fun r h => (Option.some.inj h) ▸ ⟨by decide +kernel, by decide +kernel, by decide +kernel, rfl, by decide, (zw (zin1 (List.mem_of_getElem? (i := 3) rfl)) rfl), (zw (zin2 (List.mem_of_getElem? (i := 176) rfl)) rfl)⟩
theorem zM49 : ∀ r, zmd_1[19]? = some r → zMok 49 r := fun r h => (Option.some.inj h) ▸ ⟨by decide +kernel, by decide +kernel, by decide +kernel, rfl, by decide, (zw (zin1 (List.mem_of_getElem? (i := 1) rfl)) rfl), (zw (zin2 (List.mem_of_getElem? (i := 181) rfl)) rfl)⟩
theorem zM50 : ∀ r, zmd_1[20]? = some r → zMok 50 r := fun r h => (Option.some.inj h) ▸ ⟨by decide +kernel, by decide +kernel, by decide +kernel, rfl, by decide, (zw (zin1 (List.mem_of_getElem? (i := 2) rfl)) rfl), (zw (zin2 (List.mem_of_getElem? (i := 185) rfl)) rfl)⟩
theorem zM51 : ∀ r, zmd_1[21]? = some r → zMok 51 r := fun r h => (Option.some.inj h) ▸ ⟨by decide +kernel, by decide +kernel, by decide +kernel, rfl, by decide, (zw (zin1 (List.mem_of_getElem? (i := 2) rfl)) rfl), (zw (zin2 (List.mem_of_getElem? (i := 189) rfl)) rfl)⟩
theorem zM52 : ∀ r, zmd_1[22]? = some r → zMok 52 r := fun r h => (Option.some.inj h) ▸ ⟨by decide +kernel, by decide +kernel, by decide +kernel, rfl, by decide, (zw (zin1 (List.mem_of_getElem? (i := 3) rfl)) rfl), (zw (zin2 (List.mem_of_getElem? (i := 193) rfl)) rfl)⟩
theorem zM53 : ∀ r, zmd_1[23]? = some r → zMok 53 r := fun r h => (Option.some.inj h) ▸ ⟨by decide +kernel, by decide +kernel, by decide +kernel, rfl, by decide, (zw (zin1 (List.mem_of_getElem? (i := 3) rfl)) rfl), (zw (zin2 (List.mem_of_getElem? (i := 199) rfl)) rfl)⟩
theorem zM54 : ∀ r, zmd_1[24]? = some r → zMok 54 r := fun r h => (Option.some.inj h) ▸ ⟨by decide +kernel, by decide +kernel, by decide +kernel, rfl, by decide, (zw (zin1 (List.mem_of_getElem? (i := 3) rfl)) rfl), (zw (zin2 (List.mem_of_getElem? (i := 203) rfl)) rfl)⟩
theorem zM55 : ∀ r, zmd_1[25]? = some r → zMok 55 r := fun r h => (Option.some.inj h) ▸ ⟨by decide +kernel, by decide +kernel, by decide +kernel, rfl, by decide, (zw (zin1 (List.mem_of_getElem? (i := 1) rfl)) rfl), (zw (zin2 (List.mem_of_getElem? (i := 207) rfl)) rfl)⟩
theorem zM56 : ∀ r, zmd_1[26]? = some r → zMok 56 r := fun r h => (Option.some.inj h) ▸ ⟨by decide +kernel, by decide +kernel, by decide +kernel, rfl, by decide, (zw (zin1 (List.mem_of_getElem? (i := 1) rfl)) rfl), (zw (zin2 (List.mem_of_getElem? (i := 211) rfl)) rfl)⟩
theorem zM57 : ∀ r, zmd_1[27]? = some r → zMok 57 r := fun r h => (Option.some.inj h) ▸ ⟨by decide +kernel, by decide +kernel, by decide +kernel, rfl, by decide, (zw (zin1 (List.mem_of_getElem? (i := 3) rfl)) rfl), (zw (zin2 (List.mem_of_getElem? (i := 216) rfl)) rfl)⟩
theorem zM58 : ∀ r, zmd_1[28]? = some r → zMok 58 r := fun r h => (Option.some.inj h) ▸ ⟨by decide +kernel, by decide +kernel, by decide +kernel, rfl, by decide, (zw (zin1 (List.mem_of_getElem? (i := 1) rfl)) rfl), (zw (zin2 (List.mem_of_getElem? (i := 221) rfl)) rfl)⟩
theorem zM59 : ∀ r, zmd_1[29]? = some r → zMok 59 r := fun r h => (Option.some.inj h) ▸ ⟨by decide +kernel, by decide +kernel, by decide +kernel, rfl, by decide, (zw (zin1 (List.mem_of_getElem? (i := 3) rfl)) rfl), (zw (zin2 (List.mem_of_getElem? (i := 225) rfl)) rfl)⟩
theorem zM60 : ∀ r, zmd_2[0]? = some r → zMok 60 r := fun r h => (Option.some.inj h) ▸ ⟨by decide +kernel, by decide +kernel, by decide +kernel, rfl, by decide, (zw (zin1 (List.mem_of_getElem? (i := 3) rfl)) rfl), (zw (zin2 (List.mem_of_getElem? (i := 229) rfl)) rfl)⟩
theorem zM61 : ∀ r, zmd_2[1]? = some r → zMok 61 r := fun r h => (Option.some.inj h) ▸ ⟨by decide +kernel, by decide +kernel, by decide +kernel, rfl, by decide, (zw (zin1 (List.mem_of_getElem? (i := 1) rfl)) rfl), (zw (zin2 (List.mem_of_getElem? (i := 233) rfl)) rfl)⟩
theorem zM62 : ∀ r, zmd_2[2]? = some r → zMok 62 r := fun r h => (Option.some.inj h) ▸ ⟨by decide +kernel, by decide +kernel, by decide +kernel, rfl, by decide, (zw (zin1 (List.mem_of_getElem? (i := 2) rfl)) rfl), (zw (zin2 (List.mem_of_getElem? (i := 237) rfl)) rfl)⟩
theorem zM63 : ∀ r, zmd_2[3]? = some r → zMok 63 r := fun r h => (Option.some.inj h) ▸ ⟨by decide +kernel, by decide +kernel, by decide +kernel, rfl, by decide, (zw (zin1 (List.mem_of_getElem? (i := 2) rfl)) rfl), (zw (zin3 (List.mem_of_getElem? (i := 1) rfl)) rfl)⟩
theorem zM64 : ∀ r, zmd_2[4]? = some r → zMok 64 r := fun r h => (Option.some.inj h) ▸ ⟨by decide +kernel, by decide +kernel, by decide +kernel, rfl, by decide, (zw (zin1 (List.mem_of_getElem? (i := 2) rfl)) rfl), (zw (zin3 (List.mem_of_getElem? (i := 5) rfl)) rfl)⟩
theorem zM65 : ∀ r, zmd_2[5]? = some r → zMok 65 r := fun r h => (Option.some.inj h) ▸ ⟨by decide +kernel, by decide +kernel, by decide +kernel, rfl, by decide, (zw (zin1 (List.mem_of_getElem? (i := 1) rfl)) rfl), (zw (zin3 (List.mem_of_getElem? (i := 8) rfl)) rfl)⟩
theorem zM66 : ∀ r, zmd_2[6]? = some r → zMok 66 r := fun r h => (Option.some.inj h) ▸ ⟨by decide +kernel, by decide +kernel, by decide +kernel, rfl, by decide, (zw (zin1 (List.mem_of_getElem? (i := 8) rfl)) rfl), (zw (zin3 (List.mem_of_getElem? (i := 13) rfl)) rfl)⟩
theorem zM67 : ∀ r, zmd_2[7]? = some r → zMok 67 r := fun r h => (Option.some.inj h) ▸ ⟨by decide +kernel, by decide +kernel, by decide +kernel, rfl, by decide, (zw (zin1 (List.mem_of_getElem? (i := 0) rfl)) rfl), (zw (zin3 (List.mem_of_getElem? (i := 27) rfl)) rfl)⟩
theorem zM68 : ∀ r, zmd_2[8]? = some r → zMok 68 r := fun r h => (Option.some.inj h) ▸ ⟨by decide +kernel, by decide +kernel, by decide +kernel, rfl, by decide, (zw (zin1 (List.mem_of_getElem? (i := 1) rfl)) rfl), (zw (zin3 (List.mem_of_getElem? (i := 33) rfl)) rfl)⟩
theorem zM69 : ∀ r, zmd_2[9]? = some r → zMok 69 r := fun r h => (Option.some.inj h) ▸ ⟨by decide +kernel, by decide +kernel, by decide +kernel, rfl, by decide, (zw (zin1 (List.mem_of_getElem? (i := 14) rfl)) rfl), (zw (zin3 (List.mem_of_getElem? (i := 54) rfl)) rfl)⟩
theorem zM70 : ∀ r, zmd_2[10]? = some r → zMok 70 r := fun r h => (Option.some.inj h) ▸ ⟨by decide +kernel, by decide +kernel, by decide +kernel, rfl, by decide, (zw (zin1 (List.mem_of_getElem? (i := 0) rfl)) rfl), (zw (zin3 (List.mem_of_getElem? (i := 87) rfl)) rfl)⟩
theorem zM71 : ∀ r, zmd_2[11]? = some r → zMok 71 r := fun r h => (Option.some.inj h) ▸ ⟨by decide +kernel, by decide +kernel, by decide +kernel, rfl, by decide, (zw (zin1 (List.mem_of_getElem? (i := 1) rfl)) rfl), (zw (zin3 (List.mem_of_getElem? (i := 92) rfl)) rfl)⟩
theorem zM72 : ∀ r, zmd_2[12]? = some r → zMok 72 r := fun r h => (Option.some.inj h) ▸ ⟨by decide +kernel, by decide +kernel, by decide +kernel, rfl, by decide, (zw (zin1 (List.mem_of_getElem? (i := 1) rfl)) rfl), (zw (zin3 (List.mem_of_getElem? (i := 95) rfl)) rfl)⟩
theorem zM73 : ∀ r, zmd_2[13]? = some r → zMok 73 r := fun r h => (Option.some.inj h) ▸ ⟨by decide +kernel, by decide +kernel, by decide +kernel, rfl, by decide, (zw (zin1 (List.mem_of_getElem? (i := 0) rfl)) rfl), (zw (zin3 (List.mem_of_getElem? (i := 100) rfl)) rfl)⟩
theorem zM74 : ∀ r, zmd_2[14]? = some r → zMok 74 r := fun r h => (Option.some.inj h) ▸ ⟨by decide +kernel, by decide +kernel, by decide +kernel, rfl, by decide, (zw (zin1 (List.mem_of_getElem? (i := 1) rfl)) rfl), (zw (zin3 (List.mem_of_getElem? (i := 104) rfl)) rfl)⟩
theorem zM75 : ∀ r, zmd_2[15]? = some r → zMok 75 r := fun r h => (Option.some.inj h) ▸ ⟨by decide +kernel, by decide +kernel, by decide +kernel, rfl, by decide, (zw (zin1 (List.mem_of_getElem? (i := 0) rfl)) rfl), (zw (zin3 (List.mem_of_getElem? (i := 107) rfl)) rfl)⟩
theorem zM76 : ∀ r, zmd_2[16]? = some r → zMok 76 r := fun r h => (Option.some.inj h) ▸ ⟨by decide +kernel, by decide +kernel, by decide +kernel, rfl, by decide, (zw (zin1 (List.mem_of_getElem? (i := 1) rfl)) rfl), (zw (zin3 (List.mem_of_getElem? (i := 111) rfl)) rfl)⟩
theorem zM77 : ∀ r, zmd_2[17]? = some r → zMok 77 r := fun r h => (Option.some.inj h) ▸ ⟨by decide +kernel, by decide +kernel, by decide +kernel, rfl, by decide, (zw (zin1 (List.mem_of_getElem? (i := 1) rfl)) rfl), (zw (zin3 (List.mem_of_getElem? (i := 114) rfl)) rfl)⟩
theorem zM78 : ∀ r, zmd_2[18]? = some r → zMok 78 r := fun r h => (Option.some.inj h) ▸ ⟨by decide +kernel, by decide +kernel, by decide +kernel, rfl, by decide, (zw (zin1 (List.mem_of_getElem? (i := 1) rfl)) rfl), (zw (zin3 (List.mem_of_getElem? (i := 119) rfl)) rfl)⟩
theorem zM79 : ∀ r, zmd_2[19]? = some r → zMok 79 r := fun r h => (Option.some.inj h) ▸ ⟨by decide +kernel, by decide +kernel, by decide +kernel, rfl, by decide, (zw (zin1 (List.mem_of_getElem? (i := 1) rfl)) rfl), (zw (zin3 (List.mem_of_getElem? (i := 123) rfl)) rfl)⟩
theorem zM80 : ∀ r, zmd_2[20]? = some r → zMok 80 r := fun r h => (Option.some.inj h) ▸ ⟨by decide +kernel, by decide +kernel, by decide +kernel, rfl, by decide, (zw (zin1 (List.mem_of_getElem? (i := 0) rfl)) rfl), (zw (zin3 (List.mem_of_getElem? (i := 127) rfl)) rfl)⟩
theorem zM81 : ∀ r, zmd_2[21]? = some r → zMok 81 r := fun r h => (Option.some.inj h) ▸ ⟨by decide +kernel, by decide +kernel, by decide +kernel, rfl, by decide, (zw (zin1 (List.mem_of_getElem? (i := 1) rfl)) rfl), (zw (zin3 (List.mem_of_getElem? (i := 131) rfl)) rfl)⟩
theorem zM82 : ∀ r, zmd_2[22]? = some r → zMok 82 r := fun r h => (Option.some.inj h) ▸ ⟨by decide +kernel, by decide +kernel, by decide +kernel, rfl, by decide, (zw (zin1 (List.mem_of_getElem? (i := 0) rfl)) rfl), (zw (zin3 (List.mem_of_getElem? (i := 135) rfl)) rfl)⟩
theorem zM83 : ∀ r, zmd_2[23]? = some r → zMok 83 r := fun r h => (Option.some.inj h) ▸ ⟨by decide +kernel, by decide +kernel, by decide +kernel, rfl, by decide, (zw (zin1 (List.mem_of_getElem? (i := 1) rfl)) rfl), (zw (zin3 (List.mem_of_getElem? (i := 139) rfl)) rfl)⟩
theorem zM84 : ∀ r, zmd_2[24]? = some r → zMok 84 r := fun r h => (Option.some.inj h) ▸ ⟨by decide +kernel, by decide +kernel, by decide +kernel, rfl, by decide, (zw (zin1 (List.mem_of_getElem? (i := 14) rfl)) rfl), (zw (zin3 (List.mem_of_getElem? (i := 144) rfl)) rfl)⟩
theorem zM85 : ∀ r, zmd_2[25]? = some r → zMok 85 r := fun r h => (Option.some.inj h) ▸ ⟨by decide +kernel, by decide +kernel, by decide +kernel, rfl, by decide, (zw (zin1 (List.mem_of_getElem? (i := 0) rfl)) rfl), (zw (zin3 (List.mem_of_getElem? (i := 148) rfl)) rfl)⟩
theorem zM86 : ∀ r, zmd_2[26]? = some r → zMok 86 r := fun r h => (Option.some.inj h) ▸ ⟨by decide +kernel, by decide +kernel, by decide +kernel, rfl, by decide, (zw (zin1 (List.mem_of_getElem? (i := 1) rfl)) rfl), (zw (zin3 (List.mem_of_getElem? (i := 152) rfl)) rfl)⟩
theorem zM87 : ∀ r, zmd_2[27]? = some r → zMok 87 r := fun r h => (Option.some.inj h) ▸ ⟨by decide +kernel, by decide +kernel, by decide +kernel, rfl, by decide, (zw (zin1 (List.mem_of_getElem? (i := 14) rfl)) rfl), (zw (zin3 (List.mem_of_getElem? (i := 157) rfl)) rfl)⟩
theorem zM88 : ∀ r, zmd_2[28]? = some r → zMok 88 r := fun r h => (Option.some.inj h) ▸ ⟨by decide +kernel, by decide +kernel, by decide +kernel, rfl, by decide, (zw (zin1 (List.mem_of_getElem? (i := 14) rfl)) rfl), (zw (zin3 (List.mem_of_getElem? (i := 161) rfl)) rfl)⟩
theorem zM89 : ∀ r, zmd_2[29]? = some r → zMok 89 r := fun r h => (Option.some.inj h) ▸ ⟨by decide +kernel, by decide +kernel, by decide +kernel, rfl, by decide, (zw (zin1 (List.mem_of_getElem? (i := 0) rfl)) rfl), (zw (zin3 (List.mem_of_getElem? (i := 164) rfl)) rfl)⟩
theorem zM90 : ∀ r, zmd_3[0]? = some r → zMok 90 r := fun r h => (Option.some.inj h) ▸ ⟨by decide +kernel, by decide +kernel, by decide +kernel, rfl, by decide, (zw (zin1 (List.mem_of_getElem? (i := 1) rfl)) rfl), (zw (zin3 (List.mem_of_getElem? (i := 168) rfl)) rfl)⟩
theorem zM91 : ∀ r, zmd_3[1]? = some r → zMok 91 r := fun r h => (Option.some.inj h) ▸ ⟨by decide +kernel, by decide +kernel, by decide +kernel, rfl, by decide, (zw (zin1 (List.mem_of_getElem? (i := 1) rfl)) rfl), (zw (zin3 (List.mem_of_getElem? (i := 172) rfl)) rfl)⟩
theorem zM92 : ∀ r, zmd_3[2]? = some r → zMok 92 r := fun r h => (Option.some.inj h) ▸ ⟨by decide +kernel, by decide +kernel, by decide +kernel, rfl, by decide, (zw (zin1 (List.mem_of_getElem? (i := 2) rfl)) rfl), (zw (zin3 (List.mem_of_getElem? (i := 177) rfl)) rfl)⟩
theorem zM93 : ∀ r, zmd_3[3]? = some r → zMok 93 r := fun r h => (Option.some.inj h) ▸ ⟨by decide +kernel, by decide +kernel, by decide +kernel, rfl, by decide, (zw (zin1 (List.mem_of_getElem? (i := 2) rfl)) rfl), (zw (zin3 (List.mem_of_getElem? (i := 181) rfl)) rfl)⟩
theorem zM94 : ∀ r, zmd_3[4]? = some r → zMok 94 r := fun r h => (Option.some.inj h) ▸ ⟨by decide +kernel, by decide +kernel, by decide +kernel, rfl, by decide, (zw (zin1 (List.mem_of_getElem? (i := 0) rfl)) rfl), (zw (zin3 (List.mem_of_getElem? (i := 185) rfl)) rfl)⟩
theorem zM95 : ∀ r, zmd_3[5]? = some r → zMok 95 r := fun r h => (Option.some.inj h) ▸ ⟨by decide +kernel, by decide +kernel, by decide +kernel, rfl, by decide, (zw (zin1 (List.mem_of_getElem? (i := 1) rfl)) rfl), (zw (zin3 (List.mem_of_getElem? (i := 189) rfl)) rfl)⟩
theorem zM96 : ∀ r, zmd_3[6]? = some r → zMok 96 r := fun r h => (Option.some.inj h) ▸ ⟨by decide +kernel, by decide +kernel, by decide +kernel, rfl, by decide, (zw (zin1 (List.mem_of_getElem? (i := 2) rfl)) rfl), (zw (zin3 (List.mem_of_getElem? (i := 195) rfl)) rfl)⟩
theorem zM97 : ∀ r, zmd_3[7]? = some r → zMok 97 r := fun r h => (Option.some.inj h) ▸ ⟨by decide +kernel, by decide +kernel, by decide +kernel, rfl, by decide, (zw (zin1 (List.mem_of_getElem? (i := 0) rfl)) rfl), (zw (zin3 (List.mem_of_getElem? (i := 198) rfl)) rfl)⟩
theorem zM98 : ∀ r, zmd_3[8]? = some r → zMok 98 r := fun r h => (Option.some.inj h) ▸ ⟨by decide +kernel, by decide +kernel, by decide +kernel, rfl, by decide, (zw (zin1 (List.mem_of_getElem? (i := 1) rfl)) rfl), (zw (zin3 (List.mem_of_getElem? (i := 202) rfl)) rfl)⟩
theorem zM99 : ∀ r, zmd_3[9]? = some r → zMok 99 r := fun r h => (Option.some.inj h) ▸ ⟨by decide +kernel, by decide +kernel, by decide +kernel, rfl, by decide, (zw (zin1 (List.mem_of_getElem? (i := 2) rfl)) rfl), (zw (zin3 (List.mem_of_getElem? (i := 207) rfl)) rfl)⟩
theorem zM100 : ∀ r, zmd_3[10]? = some r → zMok 100 r := fun r h => (Option.some.inj h) ▸ ⟨by decide +kernel, by decide +kernel, by decide +kernel, rfl, by decide, (zw (zin1 (List.mem_of_getElem? (i := 2) rfl)) rfl), (zw (zin3 (List.mem_of_getElem? (i := 211) rfl)) rfl)⟩
theorem zM101 : ∀ r, zmd_3[11]? = some r → zMok 101 r := fun r h => (Option.some.inj h) ▸ ⟨by decide +kernel, by decide +kernel, by decide +kernel, rfl, by decide, (zw (zin1 (List.mem_of_getElem? (i := 1) rfl)) rfl), (zw (zin3 (List.mem_of_getElem? (i := 214) rfl)) rfl)⟩
theorem zM102 : ∀ r, zmd_3[12]? = some r → zMok 102 r := fun r h => (Option.some.inj h) ▸ ⟨by decide +kernel, by decide +kernel, by decide +kernel, rfl, by decide, (zw (zin1 (List.mem_of_getElem? (i := 0) rfl)) rfl), (zw (zin3 (List.mem_of_getElem? (i := 219) rfl)) rfl)⟩
theorem zM103 : ∀ r, zmd_3[13]? = some r → zMok 103 r := fun r h => (Option.some.inj h) ▸ ⟨by decide +kernel, by decide +kernel, by decide +kernel, rfl, by decide, (zw (zin1 (List.mem_of_getElem? (i := 1) rfl)) rfl), (zw (zin3 (List.mem_of_getElem? (i := 223) rfl)) rfl)⟩
theorem zM104 : ∀ r, zmd_3[14]? = some r → zMok 104 r := fun r h => (Option.some.inj h) ▸ ⟨by decide +kernel, by decide +kernel, by decide +kernel, rfl, by decide, (zw (zin1 (List.mem_of_getElem? (i := 0) rfl)) rfl), (zw (zin3 (List.mem_of_getElem? (i := 226) rfl)) rfl)⟩
theorem zM105 : ∀ r, zmd_3[15]? = some r → zMok 105 r := fun r h => (Option.some.inj h) ▸ ⟨by decide +kernel, by decide +kernel, by decide +kernel, rfl, by decide, (zw (zin1 (List.mem_of_getElem? (i := 0) rfl)) rfl), (zw (zin3 (List.mem_of_getElem? (i := 230) rfl)) rfl)⟩
theorem zM106 : ∀ r, zmd_3[16]? = some r → zMok 106 r := fun r h => (Option.some.inj h) ▸ ⟨by decide +kernel, by decide +kernel, by decide +kernel, rfl, by decide, (zw (zin1 (List.mem_of_getElem? (i := 0) rfl)) rfl), (zw (zin3 (List.mem_of_getElem? (i := 234) rfl)) rfl)⟩
theorem zM107 : ∀ r, zmd_3[17]? = some r → zMok 107 r := fun r h => (Option.some.inj h) ▸ ⟨by decide +kernel, by decide +kernel, by decide +kernel, rfl, by decide, (zw (zin1 (List.mem_of_getElem? (i := 0) rfl)) rfl), (zw (zin3 (List.mem_of_getElem? (i := 238) rfl)) rfl)⟩
theorem zM108 : ∀ r, zmd_3[18]? = some r → zMok 108 r := fun r h => (Option.some.inj h) ▸ ⟨by decide +kernel, by decide +kernel, by decide +kernel, rfl, by decide, (zw (zin1 (List.mem_of_getElem? (i := 0) rfl)) rfl), (zw (zin4 (List.mem_of_getElem? (i := 2) rfl)) rfl)⟩
theorem zM109 : ∀ r, zmd_3[19]? = some r → zMok 109 r := fun r h => (Option.some.inj h) ▸ ⟨by decide +kernel, by decide +kernel, by decide +kernel, rfl, by decide, (zw (zin1 (List.mem_of_getElem? (i := 1) rfl)) rfl), (zw (zin4 (List.mem_of_getElem? (i := 6) rfl)) rfl)⟩
theorem zM110 : ∀ r, zmd_3[20]? = some r → zMok 110 r := fun r h => (Option.some.inj h) ▸ ⟨by decide +kernel, by decide +kernel, by decide +kernel, rfl, by decide, (zw (zin1 (List.mem_of_getElem? (i := 27) rfl)) rfl), (zw (zin4 (List.mem_of_getElem? (i := 11) rfl)) rfl)⟩
theorem zM111 : ∀ r, zmd_3[21]? = some r → zMok 111 r := fun r h => (Option.some.inj h) ▸ ⟨by decide +kernel, by decide +kernel, by decide +kernel, rfl, by decide, (zw (zin1 (List.mem_of_getElem? (i := 26) rfl)) rfl), (zw (zin4 (List.mem_of_getElem? (i := 14) rfl)) rfl)⟩
theorem zM112 : ∀ r, zmd_3[22]? = some r → zMok 112 r := fun r h => (Option.some.inj h) ▸ ⟨by decide +kernel, by decide +kernel, by decide +kernel, rfl, by decide, (zw (zin1 (List.mem_of_getElem? (i := 27) rfl)) rfl), (zw (zin4 (List.mem_of_getElem? (i := 41) rfl)) rfl)⟩
theorem zM113 : ∀ r, zmd_3[23]? = some r → zMok 113 r := fun r h => (Option.some.inj h) ▸ ⟨by decide +kernel, by decide +kernel, by decide +kernel, rfl, by decide, (zw (zin1 (List.mem_of_getElem? (i := 26) rfl)) rfl), (zw (zin4 (List.mem_of_getElem? (i := 44) rfl)) rfl)⟩
theorem zM114 : ∀ r, zmd_3[24]? = some r → zMok 114 r := fun r h => (Option.some.inj h) ▸ ⟨by decide +kernel, by decide +kernel, by decide +kernel, rfl, by decide, (zw (zin1 (List.mem_of_getElem? (i := 26) rfl)) rfl), (zw (zin4 (List.mem_of_getElem? (i := 48) rfl)) rfl)⟩
theorem zM115 : ∀ r, zmd_3[25]? = some r → zMok 115 r := fun r h => (Option.some.inj h) ▸ ⟨by decide +kernel, by decide +kernel, by decide +kernel, rfl, by decide, (zw (zin1 (List.mem_of_getElem? (i := 26) rfl)) rfl), (zw (zin4 (List.mem_of_getElem? (i := 52) rfl)) rfl)⟩
theorem zM116 : ∀ r, zmd_3[26]? = some r → zMok 116 r := fun r h => (Option.some.inj h) ▸ ⟨by decide +kernel, by decide +kernel, by decide +kernel, rfl, by decide, (zw (zin1 (List.mem_of_getElem? (i := 16) rfl)) rfl), (zw (zin4 (List.mem_of_getElem? (i := 55) rfl)) rfl)⟩
theorem zM117 : ∀ r, zmd_3[27]? = some r → zMok 117 r := fun r h => (Option.some.inj h) ▸ ⟨by decide +kernel, by decide +kernel, by decide +kernel, rfl, by decide, (zw (zin1 (List.mem_of_getElem? (i := 17) rfl)) rfl), (zw (zin4 (List.mem_of_getElem? (i := 58) rfl)) rfl)⟩
theorem zM118 : ∀ r, zmd_3[28]? = some r → zMok 118 r := fun r h => (Option.some.inj h) ▸ ⟨by decide +kernel, by decide +kernel, by decide +kernel, rfl, by decide, (zw (zin1 (List.mem_of_getElem? (i := 18) rfl)) rfl), (zw (zin4 (List.mem_of_getElem? (i := 66) rfl)) rfl)⟩
theorem zM119 : ∀ r, zmd_3[29]? = some r → zMok 119 r := fun r h => (Option.some.inj h) ▸ ⟨by decide +kernel, by decide +kernel, by decide +kernel, rfl, by decide, (zw (zin1 (List.mem_of_getElem? (i := 17) rfl)) rfl), (zw (zin4 (List.mem_of_getElem? (i := 76) rfl)) rfl)⟩
theorem zM120 : ∀ r, zmd_4[0]? = some r → zMok 120 r := fun r h => (Option.some.inj h) ▸ ⟨by decide +kernel, by decide +kernel, by decide +kernel, rfl, by decide, (zw (zin1 (List.mem_of_getElem? (i := 26) rfl)) rfl), (zw (zin4 (List.mem_of_getElem? (i := 82) rfl)) rfl)⟩
theorem zM121 : ∀ r, zmd_4[1]? = some r → zMok 121 r := fun r h => (Option.some.inj h) ▸ ⟨by decide +kernel, by decide +kernel, by decide +kernel, rfl, by decide, (zw (zin1 (List.mem_of_getElem? (i := 30) rfl)) rfl), (zw (zin4 (List.mem_of_getElem? (i := 85) rfl)) rfl)⟩
theorem zM122 : ∀ r, zmd_4[2]? = some r → zMok 122 r := fun r h => (Option.some.inj h) ▸ ⟨by decide +kernel, by decide +kernel, by decide +kernel, rfl, by decide, (zw (zin1 (List.mem_of_getElem? (i := 24) rfl)) rfl), (zw (zin4 (List.mem_of_getElem? (i := 130) rfl)) rfl)⟩
theorem zM123 : ∀ r, zmd_4[3]? = some r → zMok 123 r := fun r h => (Option.some.inj h) ▸ ⟨by decide +kernel, by decide +kernel, by decide +kernel, rfl, by decide, (zw (zin1 (List.mem_of_getElem? (i := 1) rfl)) rfl), (zw (zin4 (List.mem_of_getElem? (i := 134) rfl)) rfl)⟩
theorem zM124 : ∀ r, zmd_4[4]? = some r → zMok 124 r := fun r h => (Option.some.inj h) ▸ ⟨by decide +kernel, by decide +kernel, by decide +kernel, rfl, by decide, (zw (zin1 (List.mem_of_getElem? (i := 27) rfl)) rfl), (zw (zin4 (List.mem_of_getElem? (i := 138) rfl)) rfl)⟩
theorem zM125 : ∀ r, zmd_4[5]? = some r → zMok 125 r := fun r h => (Option.some.inj h) ▸ ⟨by decide +kernel, by decide +kernel, by decide +kernel, rfl, by decide, (zw (zin1 (List.mem_of_getElem? (i := 28) rfl)) rfl), (zw (zin4 (List.mem_of_getElem? (i := 143) rfl)) rfl)⟩
theorem zM126 : ∀ r, zmd_4[6]? = some r → zMok 126 r := fun r h => (Option.some.inj h) ▸ ⟨by decide +kernel, by decide +kernel, by decide +kernel, rfl, by decide, (zw (zin1 (List.mem_of_getElem? (i := 28) rfl)) rfl), (zw (zin4 (List.mem_of_getElem? (i := 146) rfl)) rfl)⟩
theorem zM127 : ∀ r, zmd_4[7]? = some r → zMok 127 r := fun r h => (Option.some.inj h) ▸ ⟨by decide +kernel, by decide +kernel, by decide +kernel, rfl, by decide, (zw (zin1 (List.mem_of_getElem? (i := 26) rfl)) rfl), (zw (zin4 (List.mem_of_getElem? (i := 152) rfl)) rfl)⟩
theorem zM128 : ∀ r, zmd_4[8]? = some r → zMok 128 r := fun r h => (Option.some.inj h) ▸ ⟨by decide +kernel, by decide +kernel, by decide +kernel, rfl, by decide, (zw (zin1 (List.mem_of_getElem? (i := 27) rfl)) rfl), (zw (zin4 (List.mem_of_getElem? (i := 158) rfl)) rfl)⟩
theorem zM129 : ∀ r, zmd_4[9]? = some r → zMok 129 r := fun r h => (Option.some.inj h) ▸ ⟨by decide +kernel, by decide +kernel, by decide +kernel, rfl, by decide, (zw (zin1 (List.mem_of_getElem? (i := 26) rfl)) rfl), (zw (zin4 (List.mem_of_getElem? (i := 160) rfl)) rfl)⟩
theorem zM130 : ∀ r, zmd_4[10]? = some r → zMok 130 r := fun r h => (Option.some.inj h) ▸ ⟨by decide +kernel, by decide +kernel, by decide +kernel, rfl, by decide, (zw (zin1 (List.mem_of_getElem? (i := 18) rfl)) rfl), (zw (zin4 (List.mem_of_getElem? (i := 164) rfl)) rfl)⟩
theorem zM131 : ∀ r, zmd_4[11]? = some r → zMok 131 r := fun r h => (Option.some.inj h) ▸ ⟨by decide +kernel, by decide +kernel, by decide +kernel, rfl, by decide, (zw (zin1 (List.mem_of_getElem? (i := 18) rfl)) rfl), (zw (zin4 (List.mem_of_getElem? (i := 167) rfl)) rfl)⟩
theorem zM132 : ∀ r, zmd_4[12]? = some r → zMok 132 r := fun r h => (Option.some.inj h) ▸ ⟨by decide +kernel, by decide +kernel, by decide +kernel, rfl, by decide, (zw (zin1 (List.mem_of_getElem? (i := 18) rfl)) rfl), (zw (zin4 (List.mem_of_getElem? (i := 170) rfl)) rfl)⟩
theorem zM133 : ∀ r, zmd_4[13]? = some r → zMok 133 r := fun r h => (Option.some.inj h) ▸ ⟨by decide +kernel, by decide +kernel, by decide +kernel, rfl, by decide, (zw (zin1 (List.mem_of_getElem? (i := 28) rfl)) rfl), (zw (zin4 (List.mem_of_getElem? (i := 226) rfl)) rfl)⟩
theorem zM134 : ∀ r, zmd_4[14]? = some r → zMok 134 r := fun r h => (Option.some.inj h) ▸ ⟨by decide +kernel, by decide +kernel, by decide +kernel, rfl, by decide, (zw (zin1 (List.mem_of_getElem? (i := 28) rfl)) rfl), (zw (zin4 (List.mem_of_getElem? (i := 230) rfl)) rfl)⟩
theorem zM135 : ∀ r, zmd_4[15]? = some r → zMok 135 r := fun r h => (Option.some.inj h) ▸ ⟨by decide +kernel, by decide +kernel, by decide +kernel, rfl, by decide, (zw (zin1 (List.mem_of_getElem? (i := 0) rfl)) rfl), (zw (zin5 (List.mem_of_getElem? (i := 35) rfl)) rfl)⟩
theorem zM136 : ∀ r, zmd_4[16]? = some r → zMok 136 r := fun r h => (Option.some.inj h) ▸ ⟨by decide +kernel, by decide +kernel, by decide +kernel, rfl, by decide, (zw (zin1 (List.mem_of_getElem? (i := 0) rfl)) rfl), (zw (zin5 (List.mem_of_getElem? (i := 39) rfl)) rfl)⟩
theorem zM137 : ∀ r, zmd_4[17]? = some r → zMok 137 r := fun r h => (Option.some.inj h) ▸ ⟨by decide +kernel, by decide +kernel, by decide +kernel, rfl, by decide, (zw (zin1 (List.mem_of_getElem? (i := 1) rfl)) rfl), (zw (zin5 (List.mem_of_getElem? (i := 43) rfl)) rfl)⟩
theorem zM138 : ∀ r, zmd_4[18]? = some r → zMok 138 r := fun r h => (Option.some.inj h) ▸ ⟨by decide +kernel, by decide +kernel, by decide +kernel, rfl, by decide, (zw (zin1 (List.mem_of_getElem? (i := 0) rfl)) rfl), (zw (zin5 (List.mem_of_getElem? (i := 46) rfl)) rfl)⟩
theorem zM139 : ∀ r, zmd_4[19]? = some r → zMok 139 r := fun r h => (Option.some.inj h) ▸ ⟨by decide +kernel, by decide +kernel, by decide +kernel, rfl, by decide, (zw (zin1 (List.mem_of_getElem? (i := 0) rfl)) rfl), (zw (zin5 (List.mem_of_getElem? (i := 50) rfl)) rfl)⟩
theorem zM140 : ∀ r, zmd_4[20]? = some r → zMok 140 r := fun r h => (Option.some.inj h) ▸ ⟨by decide +kernel, by decide +kernel, by decide +kernel, rfl, by decide, (zw (zin1 (List.mem_of_getElem? (i := 0) rfl)) rfl), (zw (zin5 (List.mem_of_getElem? (i := 54) rfl)) rfl)⟩
theorem zM141 : ∀ r, zmd_4[21]? = some r → zMok 141 r := fun r h => (Option.some.inj h) ▸ ⟨by decide +kernel, by decide +kernel, by decide +kernel, rfl, by decide, (zw (zin1 (List.mem_of_getElem? (i := 0) rfl)) rfl), (zw (zin5 (List.mem_of_getElem? (i := 58) rfl)) rfl)⟩
theorem zM142 : ∀ r, zmd_4[22]? = some r → zMok 142 r := fun r h => (Option.some.inj h) ▸ ⟨by decide +kernel, by decide +kernel, by decide +kernel, rfl, by decide, (zw (zin1 (List.mem_of_getElem? (i := 0) rfl)) rfl), (zw (zin5 (List.mem_of_getElem? (i := 62) rfl)) rfl)⟩
theorem zM143 : ∀ r, zmd_4[23]? = some r → zMok 143 r := fun r h => (Option.some.inj h) ▸ ⟨by decide +kernel, by decide +kernel, by decide +kernel, rfl, by decide, (zw (zin1 (List.mem_of_getElem? (i := 1) rfl)) rfl), (zw (zin5 (List.mem_of_getElem? (i := 66) rfl)) rfl)⟩
theorem zM144 : ∀ r, zmd_4[24]? = some r → zMok 144 r := fun r h => (Option.some.inj h) ▸ ⟨by decide +kernel, by decide +kernel, by decide +kernel, rfl, by decide, (zw (zin1 (List.mem_of_getElem? (i := 0) rfl)) rfl), (zw (zin5 (List.mem_of_getElem? (i := 69) rfl)) rfl)⟩
theorem zM145 : ∀ r, zmd_4[25]? = some r → zMok 145 r := fun r h => (Option.some.inj h) ▸ ⟨by decide +kernel, by decide +kernel, by decide +kernel, rfl, by decide, (zw (zin1 (List.mem_of_getElem? (i := 0) rfl)) rfl), (zw (zin5 (List.mem_of_getElem? (i := 73) rfl)) rfl)⟩
theorem zM146 : ∀ r, zmd_4[26]? = some r → zMok 146 r := fun r h => (Option.some.inj h) ▸ ⟨by decide +kernel, by decide +kernel, by decide +kernel, rfl, by decide, (zw (zin1 (List.mem_of_getElem? (i := 4) rfl)) rfl), (zw (zin5 (List.mem_of_getElem? (i := 79) rfl)) rfl)⟩
theorem zM147 : ∀ r, zmd_4[27]? = some r → zMok 147 r := fun r h => (Option.some.inj h) ▸ ⟨by decide +kernel, by decide +kernel, by decide +kernel, rfl, by decide, (zw (zin1 (List.mem_of_getElem? (i := 7) rfl)) rfl), (zw (zin5 (List.mem_of_getElem? (i := 85) rfl)) rfl)⟩
theorem zM148 : ∀ r, zmd_4[28]? = some r → zMok 148 r := fun r h => (Option.some.inj h) ▸ ⟨by decide +kernel, by decide +kernel, by decide +kernel, rfl, by decide, (zw (zin1 (List.mem_of_getElem? (i := 6) rfl)) rfl), (zw (zin5 (List.mem_of_getElem? (i := 88) rfl)) rfl)⟩
theorem zM149 : ∀ r, zmd_4[29]? = some r → zMok 149 r := fun r h => (Option.some.inj h) ▸ ⟨by decide +kernel, by decide +kernel, by decide +kernel, rfl, by decide, (zw (zin1 (List.mem_of_getElem? (i := 5) rfl)) rfl), (zw (zin5 (List.mem_of_getElem? (i := 91) rfl)) rfl)⟩
theorem zM150 : ∀ r, zmd_5[0]? = some r → zMok 150 r := fun r h => (Option.some.inj h) ▸ ⟨by decide +kernel, by decide +kernel, by decide +kernel, rfl, by decide, (zw (zin1 (List.mem_of_getElem? (i := 4) rfl)) rfl), (zw (zin5 (List.mem_of_getElem? (i := 120) rfl)) rfl)⟩
theorem zM151 : ∀ r, zmd_5[1]? = some r → zMok 151 r := fun r h => (Option.some.inj h) ▸ ⟨by decide +kernel, by decide +kernel, by decide +kernel, rfl, by decide, (zw (zin1 (List.mem_of_getElem? (i := 4) rfl)) rfl), (zw (zin5 (List.mem_of_getElem? (i := 123) rfl)) rfl)⟩
theorem zM152 : ∀ r, zmd_5[2]? = some r → zMok 152 r := fun r h => (Option.some.inj h) ▸ ⟨by decide +kernel, by decide +kernel, by decide +kernel, rfl, by decide, (zw (zin1 (List.mem_of_getElem? (i := 4) rfl)) rfl), (zw (zin5 (List.mem_of_getElem? (i := 127) rfl)) rfl)⟩
theorem zM153 : ∀ r, zmd_5[3]? = some r → zMok 153 r := fun r h => (Option.some.inj h) ▸ ⟨by decide +kernel, by decide +kernel, by decide +kernel, rfl, by decide, (zw (zin1 (List.mem_of_getElem? (i := 7) rfl)) rfl), (zw (zin5 (List.mem_of_getElem? (i := 137) rfl)) rfl)⟩
theorem zM154 : ∀ r, zmd_5[4]? = some r → zMok 154 r := fun r h => (Option.some.inj h) ▸ ⟨by decide +kernel, by decide +kernel, by decide +kernel, rfl, by decide, (zw (zin1 (List.mem_of_getElem? (i := 15) rfl)) rfl), (zw (zin5 (List.mem_of_getElem? (i := 142) rfl)) rfl)⟩
theorem zM155 : ∀ r, zmd_5[5]? = some r → zMok 155 r := fun r h => (Option.some.inj h) ▸ ⟨by decide +kernel, by decide +kernel, by decide +kernel, rfl, by decide, (zw (zin1 (List.mem_of_getElem? (i := 15) rfl)) rfl), (zw (zin5 (List.mem_of_getElem? (i := 149) rfl)) rfl)⟩
theorem zM156 : ∀ r, zmd_5[6]? = some r → zMok 156 r := fun r h => (Option.some.inj h) ▸ ⟨by decide +kernel, by decide +kernel, by decide +kernel, rfl, by decide, (zw (zin1 (List.mem_of_getElem? (i := 15) rfl)) rfl), (zw (zin5 (List.mem_of_getElem? (i := 153) rfl)) rfl)⟩
theorem zM157 : ∀ r, zmd_5[7]? = some r → zMok 157 r := fun r h => (Option.some.inj h) ▸ ⟨by decide +kernel, by decide +kernel, by decide +kernel, rfl, by decide, (zw (zin1 (List.mem_of_getElem? (i := 7) rfl)) rfl), (zw (zin5 (List.mem_of_getElem? (i := 191) rfl)) rfl)⟩
theorem zM158 : ∀ r, zmd_5[8]? = some r → zMok 158 r := fun r h => (Option.some.inj h) ▸ ⟨by decide +kernel, by decide +kernel, by decide +kernel, rfl, by decide, (zw (zin1 (List.mem_of_getElem? (i := 7) rfl)) rfl), (zw (zin5 (List.mem_of_getElem? (i := 195) rfl)) rfl)⟩
theorem zM159 : ∀ r, zmd_5[9]? = some r → zMok 159 r := fun r h => (Option.some.inj h) ▸ ⟨by decide +kernel, by decide +kernel, by decide +kernel, rfl, by decide, (zw (zin1 (List.mem_of_getElem? (i := 7) rfl)) rfl), (zw (zin5 (List.mem_of_getElem? (i := 199) rfl)) rfl)⟩
theorem zM160 : ∀ r, zmd_5[10]? = some r → zMok 160 r := fun r h => (Option.some.inj h) ▸ ⟨by decide +kernel, by decide +kernel, by decide +kernel, rfl, by decide, (zw (zin1 (List.mem_of_getElem? (i := 7) rfl)) rfl), (zw (zin5 (List.mem_of_getElem? (i := 203) rfl)) rfl)⟩
theorem zM161 : ∀ r, zmd_5[11]? = some r → zMok 161 r := fun r h => (Option.some.inj h) ▸ ⟨by decide +kernel, by decide +kernel, by decide +kernel, rfl, by decide, (zw (zin1 (List.mem_of_getElem? (i := 4) rfl)) rfl), (zw (zin5 (List.mem_of_getElem? (i := 237) rfl)) rfl)⟩
theorem zM162 : ∀ r, zmd_5[12]? = some r → zMok 162 r := fun r h => (Option.some.inj h) ▸ ⟨by decide +kernel, by decide +kernel, by decide +kernel, rfl, by decide, (zw (zin1 (List.mem_of_getElem? (i := 4) rfl)) rfl), (zw (zin6 (List.mem_of_getElem? (i := 1) rfl)) rfl)⟩
theorem zM163 : ∀ r, zmd_5[13]? = some r → zMok 163 r := fun r h => (Option.some.inj h) ▸ ⟨by decide +kernel, by decide +kernel, by decide +kernel, rfl, by decide, (zw (zin1 (List.mem_of_getElem? (i := 4) rfl)) rfl), (zw (zin6 (List.mem_of_getElem? (i := 5) rfl)) rfl)⟩
theorem zM164 : ∀ r, zmd_5[14]? = some r → zMok 164 r := fun r h => (Option.some.inj h) ▸ ⟨by decide +kernel, by decide +kernel, by decide +kernel, rfl, by decide, (zw (zin1 (List.mem_of_getElem? (i := 7) rfl)) rfl), (zw (zin6 (List.mem_of_getElem? (i := 14) rfl)) rfl)⟩
theorem zM165 : ∀ r, zmd_5[15]? = some r → zMok 165 r := fun r h => (Option.some.inj h) ▸ ⟨by decide +kernel, by decide +kernel, by decide +kernel, rfl, by decide, (zw (zin1 (List.mem_of_getElem? (i := 23) rfl)) rfl), (zw (zin6 (List.mem_of_getElem? (i := 17) rfl)) rfl)⟩
theorem zM166 : ∀ r, zmd_5[16]? = some r → zMok 166 r := fun r h => (Option.some.inj h) ▸ ⟨by decide +kernel, by decide +kernel, by decide +kernel, rfl, by decide, (zw (zin1 (List.mem_of_getElem? (i := 7) rfl)) rfl), (zw (zin6 (List.mem_of_getElem? (i := 22) rfl)) rfl)⟩
theorem zM167 : ∀ r, zmd_5[17]? = some r → zMok 167 r := fun r h => (Option.some.inj h) ▸ ⟨by decide +kernel, by decide +kernel, by decide +kernel, rfl, by decide, (zw (zin1 (List.mem_of_getElem? (i := 15) rfl)) rfl), (zw (zin6 (List.mem_of_getElem? (i := 26) rfl)) rfl)⟩
theorem zM168 : ∀ r, zmd_5[18]? = some r → zMok 168 r := fun r h => (Option.some.inj h) ▸ ⟨by decide +kernel, by decide +kernel, by decide +kernel, rfl, by decide, (zw (zin1 (List.mem_of_getElem? (i := 15) rfl)) rfl), (zw (zin6 (List.mem_of_getElem? (i := 30) rfl)) rfl)⟩
theorem zM169 : ∀ r, zmd_5[19]? = some r → zMok 169 r := fun r h => (Option.some.inj h) ▸ ⟨by decide +kernel, by decide +kernel, by decide +kernel, rfl, by decide, (zw (zin1 (List.mem_of_getElem? (i := 4) rfl)) rfl), (zw (zin6 (List.mem_of_getElem? (i := 33) rfl)) rfl)⟩
theorem zM170 : ∀ r, zmd_5[20]? = some r → zMok 170 r := fun r h => (Option.some.inj h) ▸ ⟨by decide +kernel, by decide +kernel, by decide +kernel, rfl, by decide, (zw (zin1 (List.mem_of_getElem? (i := 4) rfl)) rfl), (zw (zin6 (List.mem_of_getElem? (i := 36) rfl)) rfl)⟩
theorem zM171 : ∀ r, zmd_5[21]? = some r → zMok 171 r := fun r h => (Option.some.inj h) ▸ ⟨by decide +kernel, by decide +kernel, by decide +kernel, rfl, by decide, (zw (zin1 (List.mem_of_getElem? (i := 15) rfl)) rfl), (zw (zin6 (List.mem_of_getElem? (i := 40) rfl)) rfl)⟩
theorem zM172 : ∀ r, zmd_5[22]? = some r → zMok 172 r := fun r h => (Option.some.inj h) ▸ ⟨by decide +kernel, by decide +kernel, by decide +kernel, rfl, by decide, (zw (zin1 (List.mem_of_getElem? (i := 15) rfl)) rfl), (zw (zin6 (List.mem_of_getElem? (i := 45) rfl)) rfl)⟩
theorem zM173 : ∀ r, zmd_5[23]? = some r → zMok 173 r := fun r h => (Option.some.inj h) ▸ ⟨by decide +kernel, by decide +kernel, by decide +kernel, rfl, by decide, (zw (zin1 (List.mem_of_getElem? (i := 15) rfl)) rfl), (zw (zin6 (List.mem_of_getElem? (i := 49) rfl)) rfl)⟩
theorem zM174 : ∀ r, zmd_5[24]? = some r → zMok 174 r := fun r h => (Option.some.inj h) ▸ ⟨by decide +kernel, by decide +kernel, by decide +kernel, rfl, by decide, (zw (zin1 (List.mem_of_getElem? (i := 15) rfl)) rfl), (zw (zin6 (List.mem_of_getElem? (i := 53) rfl)) rfl)⟩
theorem zM175 : ∀ r, zmd_5[25]? = some r → zMok 175 r := fun r h => (Option.some.inj h) ▸ ⟨by decide +kernel, by decide +kernel, by decide +kernel, rfl, by decide, (zw (zin1 (List.mem_of_getElem? (i := 4) rfl)) rfl), (zw (zin6 (List.mem_of_getElem? (i := 56) rfl)) rfl)⟩
theorem zM176 : ∀ r, zmd_5[26]? = some r → zMok 176 r := fun r h => (Option.some.inj h) ▸ ⟨by decide +kernel, by decide +kernel, by decide +kernel, rfl, by decide, (zw (zin1 (List.mem_of_getElem? (i := 4) rfl)) rfl), (zw (zin6 (List.mem_of_getElem? (i := 59) rfl)) rfl)⟩
theorem zM177 : ∀ r, zmd_5[27]? = some r → zMok 177 r := fun r h => (Option.some.inj h) ▸ ⟨by decide +kernel, by decide +kernel, by decide +kernel, rfl, by decide, (zw (zin1 (List.mem_of_getElem? (i := 4) rfl)) rfl), (zw (zin6 (List.mem_of_getElem? (i := 64) rfl)) rfl)⟩
theorem zM178 : ∀ r, zmd_5[28]? = some r → zMok 178 r := fun r h => (Option.some.inj h) ▸ ⟨by decide +kernel, by decide +kernel, by decide +kernel, rfl, by decide, (zw (zin1 (List.mem_of_getElem? (i := 4) rfl)) rfl), (zw (zin6 (List.mem_of_getElem? (i := 68) rfl)) rfl)⟩
theorem zM179 : ∀ r, zmd_5[29]? = some r → zMok 179 r := fun r h => (Option.some.inj h) ▸ ⟨by decide +kernel, by decide +kernel, by decide +kernel, rfl, by decide, (zw (zin1 (List.mem_of_getElem? (i := 4) rfl)) rfl), (zw (zin6 (List.mem_of_getElem? (i := 72) rfl)) rfl)⟩
theorem zM180 : ∀ r, zmd_6[0]? = some r → zMok 180 r := fun r h => (Option.some.inj h) ▸ ⟨by decide +kernel, by decide +kernel, by decide +kernel, rfl, by decide, (zw (zin1 (List.mem_of_getElem? (i := 15) rfl)) rfl), (zw (zin6 (List.mem_of_getElem? (i := 78) rfl)) rfl)⟩
theorem zM181 : ∀ r, zmd_6[1]? = some r → zMok 181 r := fun r h => (Option.some.inj h) ▸ ⟨by decide +kernel, by decide +kernel, by decide +kernel, rfl, by decide, (zw (zin1 (List.mem_of_getElem? (i := 15) rfl)) rfl), (zw (zin6 (List.mem_of_getElem? (i := 84) rfl)) rfl)⟩
theorem zM182 : ∀ r, zmd_6[2]? = some r → zMok 182 r := fun r h => (Option.some.inj h) ▸ ⟨by decide +kernel, by decide +kernel, by decide +kernel, rfl, by decide, (zw (zin1 (List.mem_of_getElem? (i := 15) rfl)) rfl), (zw (zin6 (List.mem_of_getElem? (i := 88) rfl)) rfl)⟩
theorem zM183 : ∀ r, zmd_6[3]? = some r → zMok 183 r := fun r h => (Option.some.inj h) ▸ ⟨by decide +kernel, by decide +kernel, by decide +kernel, rfl, by decide, (zw (zin1 (List.mem_of_getElem? (i := 15) rfl)) rfl), (zw (zin6 (List.mem_of_getElem? (i := 93) rfl)) rfl)⟩
theorem zM184 : ∀ r, zmd_6[4]? = some r → zMok 184 r := fun r h => (Option.some.inj h) ▸ ⟨by decide +kernel, by decide +kernel, by decide +kernel, rfl, by decide, (zw (zin1 (List.mem_of_getElem? (i := 15) rfl)) rfl), (zw (zin6 (List.mem_of_getElem? (i := 100) rfl)) rfl)⟩
theorem zM185 : ∀ r, zmd_6[5]? = some r → zMok 185 r := fun r h => (Option.some.inj h) ▸ ⟨by decide +kernel, by decide +kernel, by decide +kernel, rfl, by decide, (zw (zin1 (List.mem_of_getElem? (i := 15) rfl)) rfl), (zw (zin6 (List.mem_of_getElem? (i := 104) rfl)) rfl)⟩
theorem zM186 : ∀ r, zmd_6[6]? = some r → zMok 186 r := fun r h => (Option.some.inj h) ▸ ⟨by decide +kernel, by decide +kernel, by decide +kernel, rfl, by decide, (zw (zin1 (List.mem_of_getElem? (i := 4) rfl)) rfl), (zw (zin6 (List.mem_of_getElem? (i := 109) rfl)) rfl)⟩
theorem zM187 : ∀ r, zmd_6[7]? = some r → zMok 187 r := fun r h => (Option.some.inj h) ▸ ⟨by decide +kernel, by decide +kernel, by decide +kernel, rfl, by decide, (zw (zin1 (List.mem_of_getElem? (i := 15) rfl)) rfl), (zw (zin6 (List.mem_of_getElem? (i := 113) rfl)) rfl)⟩
theorem zM188 : ∀ r, zmd_6[8]? = some r → zMok 188 r := fun r h => (Option.some.inj h) ▸ ⟨by decide +kernel, by decide +kernel, by decide +kernel, rfl, by decide, (zw (zin1 (List.mem_of_getElem? (i := 15) rfl)) rfl), (zw (zin6 (List.mem_of_getElem? (i := 118) rfl)) rfl)⟩
theorem zM189 : ∀ r, zmd_6[9]? = some r → zMok 189 r := fun r h => (Option.some.inj h) ▸ ⟨by decide +kernel, by decide +kernel, by decide +kernel, rfl, by decide, (zw (zin1 (List.mem_of_getElem? (i := 4) rfl)) rfl), (zw (zin6 (List.mem_of_getElem? (i := 122) rfl)) rfl)⟩
theorem zM190 : ∀ r, zmd_6[10]? = some r → zMok 190 r := fun r h => (Option.some.inj h) ▸ ⟨by decide +kernel, by decide +kernel, by decide +kernel, rfl, by decide, (zw (zin1 (List.mem_of_getElem? (i := 4) rfl)) rfl), (zw (zin6 (List.mem_of_getElem? (i := 126) rfl)) rfl)⟩
theorem zM191 : ∀ r, zmd_6[11]? = some r → zMok 191 r := fun r h => (Option.some.inj h) ▸ ⟨by decide +kernel, by decide +kernel, by decide +kernel, rfl, by decide, (zw (zin1 (List.mem_of_getElem? (i := 15) rfl)) rfl), (zw (zin6 (List.mem_of_getElem? (i := 131) rfl)) rfl)⟩
theorem zM192 : ∀ r, zmd_6[12]? = some r → zMok 192 r := fun r h => (Option.some.inj h) ▸ ⟨by decide +kernel, by decide +kernel, by decide +kernel, rfl, by decide, (zw (zin1 (List.mem_of_getElem? (i := 25) rfl)) rfl), (zw (zin6 (List.mem_of_getElem? (i := 134) rfl)) rfl)⟩
theorem zM193 : ∀ r, zmd_6[13]? = some r → zMok 193 r := fun r h => (Option.some.inj h) ▸ ⟨by decide +kernel, by decide +kernel, by decide +kernel, rfl, by decide, (zw (zin1 (List.mem_of_getElem? (i := 4) rfl)) rfl), (zw (zin6 (List.mem_of_getElem? (i := 152) rfl)) rfl)⟩
theorem zM194 : ∀ r, zmd_6[14]? = some r → zMok 194 r := fun r h => (Option.some.inj h) ▸ ⟨by decide +kernel, by decide +kernel, by decide +kernel, rfl, by decide, (zw (zin1 (List.mem_of_getElem? (i := 7) rfl)) rfl), (zw (zin6 (List.mem_of_getElem? (i := 161) rfl)) rfl)⟩
theorem zM195 : ∀ r, zmd_6[15]? = some r → zMok 195 r := fun r h => (Option.some.inj h) ▸ ⟨by decide +kernel, by decide +kernel, by decide +kernel, rfl, by decide, (zw (zin1 (List.mem_of_getElem? (i := 7) rfl)) rfl), (zw (zin6 (List.mem_of_getElem? (i := 165) rfl)) rfl)⟩
theorem zM196 : ∀ r, zmd_6[16]? = some r → zMok 196 r := fun r h => (Option.some.inj h) ▸ ⟨by decide +kernel, by decide +kernel, by decide +kernel, rfl, by decide, (zw (zin1 (List.mem_of_getElem? (i := 4) rfl)) rfl), (zw (zin6 (List.mem_of_getElem? (i := 170) rfl)) rfl)⟩
theorem zM197 : ∀ r, zmd_6[17]? = some r → zMok 197 r := fun r h => (Option.some.inj h) ▸ ⟨by decide +kernel, by decide +kernel, by decide +kernel, rfl, by decide, (zw (zin1 (List.mem_of_getElem? (i := 15) rfl)) rfl), (zw (zin6 (List.mem_of_getElem? (i := 174) rfl)) rfl)⟩
theorem zM198 : ∀ r, zmd_6[18]? = some r → zMok 198 r := fun r h => (Option.some.inj h) ▸ ⟨by decide +kernel, by decide +kernel, by decide +kernel, rfl, by decide, (zw (zin1 (List.mem_of_getElem? (i := 15) rfl)) rfl), (zw (zin6 (List.mem_of_getElem? (i := 178) rfl)) rfl)⟩
theorem zM199 : ∀ r, zmd_6[19]? = some r → zMok 199 r := fun r h => (Option.some.inj h) ▸ ⟨by decide +kernel, by decide +kernel, by decide +kernel, rfl, by decide, (zw (zin1 (List.mem_of_getElem? (i := 15) rfl)) rfl), (zw (zin6 (List.mem_of_getElem? (i := 184) rfl)) rfl)⟩
theorem zM200 : ∀ r, zmd_6[20]? = some r → zMok 200 r := fun r h => (Option.some.inj h) ▸ ⟨by decide +kernel, by decide +kernel, by decide +kernel, rfl, by decide, (zw (zin1 (List.mem_of_getElem? (i := 4) rfl)) rfl), (zw (zin6 (List.mem_of_getElem? (i := 187) rfl)) rfl)⟩
theorem zM201 : ∀ r, zmd_6[21]? = some r → zMok 201 r := fun r h => (Option.some.inj h) ▸ ⟨by decide +kernel, by decide +kernel, by decide +kernel, rfl, by decide, (zw (zin1 (List.mem_of_getElem? (i := 4) rfl)) rfl), (zw (zin6 (List.mem_of_getElem? (i := 191) rfl)) rfl)⟩
theorem zM202 : ∀ r, zmd_6[22]? = some r → zMok 202 r := fun r h => (Option.some.inj h) ▸ ⟨by decide +kernel, by decide +kernel, by decide +kernel, rfl, by decide, (zw (zin1 (List.mem_of_getElem? (i := 15) rfl)) rfl), (zw (zin6 (List.mem_of_getElem? (i := 196) rfl)) rfl)⟩
theorem zM203 : ∀ r, zmd_6[23]? = some r → zMok 203 r := fun r h => (Option.some.inj h) ▸ ⟨by decide +kernel, by decide +kernel, by decide +kernel, rfl, by decide, (zw (zin1 (List.mem_of_getElem? (i := 4) rfl)) rfl), (zw (zin6 (List.mem_of_getElem? (i := 200) rfl)) rfl)⟩
theorem zM204 : ∀ r, zmd_6[24]? = some r → zMok 204 r := fun r h => (Option.some.inj h) ▸ ⟨by decide +kernel, by decide +kernel, by decide +kernel, rfl, by decide, (zw (zin1 (List.mem_of_getElem? (i := 4) rfl)) rfl), (zw (zin6 (List.mem_of_getElem? (i := 206) rfl)) rfl)⟩
theorem zM205 : ∀ r, zmd_6[25]? = some r → zMok 205 r := fun r h => (Option.some.inj h) ▸ ⟨by decide +kernel, by decide +kernel, by decide +kernel, rfl, by decide, (zw (zin1 (List.mem_of_getElem? (i := 4) rfl)) rfl), (zw (zin6 (List.mem_of_getElem? (i := 210) rfl)) rfl)⟩
theorem zM206 : ∀ r, zmd_6[26]? = some r → zMok 206 r := fun r h => (Option.some.inj h) ▸ ⟨by decide +kernel, by decide +kernel, by decide +kernel, rfl, by decide, (zw (zin1 (List.mem_of_getElem? (i := 4) rfl)) rfl), (zw (zin6 (List.mem_of_getElem? (i := 214) rfl)) rfl)⟩
theorem zM207 : ∀ r, zmd_6[27]? = some r → zMok 207 r := fun r h => (Option.some.inj h) ▸ ⟨by decide +kernel, by decide +kernel, by decide +kernel, rfl, by decide, (zw (zin1 (List.mem_of_getElem? (i := 4) rfl)) rfl), (zw (zin6 (List.mem_of_getElem? (i := 218) rfl)) rfl)⟩
theorem zM208 : ∀ r, zmd_6[28]? = some r → zMok 208 r := fun r h => (Option.some.inj h) ▸ ⟨by decide +kernel, by decide +kernel, by decide +kernel, rfl, by decide, (zw (zin1 (List.mem_of_getElem? (i := 4) rfl)) rfl), (zw (zin6 (List.mem_of_getElem? (i := 221) rfl)) rfl)⟩
theorem zM209 : ∀ r, zmd_6[29]? = some r → zMok 209 r := fun r h => (Option.some.inj h) ▸ ⟨by decide +kernel, by decide +kernel, by decide +kernel, rfl, by decide, (zw (zin1 (List.mem_of_getElem? (i := 4) rfl)) rfl), (zw (zin6 (List.mem_of_getElem? (i := 226) rfl)) rfl)⟩
theorem zM210 : ∀ r, zmd_7[0]? = some r → zMok 210 r := fun r h => (Option.some.inj h) ▸ ⟨by decide +kernel, by decide +kernel, by decide +kernel, rfl, by decide, (zw (zin1 (List.mem_of_getElem? (i := 15) rfl)) rfl), (zw (zin6 (List.mem_of_getElem? (i := 230) rfl)) rfl)⟩
theorem zM211 : ∀ r, zmd_7[1]? = some r → zMok 211 r := fun r h => (Option.some.inj h) ▸ ⟨by decide +kernel, by decide +kernel, by decide +kernel, rfl, by decide, (zw (zin1 (List.mem_of_getElem? (i := 4) rfl)) rfl), (zw (zin6 (List.mem_of_getElem? (i := 234) rfl)) rfl)⟩
theorem zM212 : ∀ r, zmd_7[2]? = some r → zMok 212 r := fun r h => (Option.some.inj h) ▸ ⟨by decide +kernel, by decide +kernel, by decide +kernel, rfl, by decide, (zw (zin1 (List.mem_of_getElem? (i := 4) rfl)) rfl), (zw (zin6 (List.mem_of_getElem? (i := 238) rfl)) rfl)⟩
theorem zM213 : ∀ r, zmd_7[3]? = some r → zMok 213 r := fun r h => (Option.some.inj h) ▸ ⟨by decide +kernel, by decide +kernel, by decide +kernel, rfl, by decide, (zw (zin1 (List.mem_of_getElem? (i := 15) rfl)) rfl), (zw (zin7 (List.mem_of_getElem? (i := 2) rfl)) rfl)⟩
theorem zM214 : ∀ r, zmd_7[4]? = some r → zMok 214 r := fun r h => (Option.some.inj h) ▸ ⟨by decide +kernel, by decide +kernel, by decide +kernel, rfl, by decide, (zw (zin1 (List.mem_of_getElem? (i := 4) rfl)) rfl), (zw (zin7 (List.mem_of_getElem? (i := 5) rfl)) rfl)⟩
theorem zM215 : ∀ r, zmd_7[5]? = some r → zMok 215 r := fun r h => (Option.some.inj h) ▸ ⟨by decide +kernel, by decide +kernel, by decide +kernel, rfl, by decide, (zw (zin1 (List.mem_of_getElem? (i := 4) rfl)) rfl), (zw (zin7 (List.mem_of_getElem? (i := 9) rfl)) rfl)⟩
theorem zM216 : ∀ r, zmd_7[6]? = some r → zMok 216 r := fun r h => (Option.some.inj h) ▸ ⟨by decide +kernel, by decide +kernel, by decide +kernel, rfl, by decide, (zw (zin1 (List.mem_of_getElem? (i := 4) rfl)) rfl), (zw (zin7 (List.mem_of_getElem? (i := 18) rfl)) rfl)⟩
theorem zM217 : ∀ r, zmd_7[7]? = some r → zMok 217 r := fun r h => (Option.some.inj h) ▸ ⟨by decide +kernel, by decide +kernel, by decide +kernel, rfl, by decide, (zw (zin1 (List.mem_of_getElem? (i := 4) rfl)) rfl), (zw (zin7 (List.mem_of_getElem? (i := 22) rfl)) rfl)⟩
theorem zM218 : ∀ r, zmd_7[8]? = some r → zMok 218 r := fun r h => (Option.some.inj h) ▸ ⟨by decide +kernel, by decide +kernel, by decide +kernel, rfl, by decide, (zw (zin1 (List.mem_of_getElem? (i := 4) rfl)) rfl), (zw (zin7 (List.mem_of_getElem? (i := 25) rfl)) rfl)⟩
theorem zM219 : ∀ r, zmd_7[9]? = some r → zMok 219 r := fun r h => (Option.some.inj h) ▸ ⟨by decide +kernel, by decide +kernel, by decide +kernel, rfl, by decide, (zw (zin1 (List.mem_of_getElem? (i := 4) rfl)) rfl), (zw (zin7 (List.mem_of_getElem? (i := 28) rfl)) rfl)⟩
theorem zM220 : ∀ r, zmd_7[10]? = some r → zMok 220 r := fun r h => (Option.some.inj h) ▸ ⟨by decide +kernel, by decide +kernel, by decide +kernel, rfl, by decide, (zw (zin1 (List.mem_of_getElem? (i := 4) rfl)) rfl), (zw (zin7 (List.mem_of_getElem? (i := 32) rfl)) rfl)⟩
theorem zM221 : ∀ r, zmd_7[11]? = some r → zMok 221 r := fun r h => (Option.some.inj h) ▸ ⟨by decide +kernel, by decide +kernel, by decide +kernel, rfl, by decide, (zw (zin1 (List.mem_of_getElem? (i := 4) rfl)) rfl), (zw (zin7 (List.mem_of_getElem? (i := 35) rfl)) rfl)⟩
theorem zM222 : ∀ r, zmd_7[12]? = some r → zMok 222 r := fun r h => (Option.some.inj h) ▸ ⟨by decide +kernel, by decide +kernel, by decide +kernel, rfl, by decide, (zw (zin1 (List.mem_of_getElem? (i := 4) rfl)) rfl), (zw (zin7 (List.mem_of_getElem? (i := 38) rfl)) rfl)⟩
theorem zM223 : ∀ r, zmd_7[13]? = some r → zMok 223 r := fun r h => (Option.some.inj h) ▸ ⟨by decide +kernel, by decide +kernel, by decide +kernel, rfl, by decide, (zw (zin1 (List.mem_of_getElem? (i := 4) rfl)) rfl), (zw (zin7 (List.mem_of_getElem? (i := 50) rfl)) rfl)⟩
theorem zM224 : ∀ r, zmd_7[14]? = some r → zMok 224 r := fun r h => (Option.some.inj h) ▸ ⟨by decide +kernel, by decide +kernel, by decide +kernel, rfl, by decide, (zw (zin1 (List.mem_of_getElem? (i := 4) rfl)) rfl), (zw (zin7 (List.mem_of_getElem? (i := 54) rfl)) rfl)⟩
theorem zM225 : ∀ r, zmd_7[15]? = some r → zMok 225 r := fun r h => (Option.some.inj h) ▸ ⟨by decide +kernel, by decide +kernel, by decide +kernel, rfl, by decide, (zw (zin1 (List.mem_of_getElem? (i := 4) rfl)) rfl), (zw (zin7 (List.mem_of_getElem? (i := 58) rfl)) rfl)⟩
theorem zM226 : ∀ r, zmd_7[16]? = some r → zMok 226 r := fun r h => (Option.some.inj h) ▸ ⟨by decide +kernel, by decide +kernel, by decide +kernel, rfl, by decide, (zw (zin1 (List.mem_of_getElem? (i := 4) rfl)) rfl), (zw (zin7 (List.mem_of_getElem? (i := 61) rfl)) rfl)⟩
theorem zM227 : ∀ r, zmd_7[17]? = some r → zMok 227 r := fun r h => (Option.some.inj h) ▸ ⟨by decide +kernel, by decide +kernel, by decide +kernel, rfl, by decide, (zw (zin1 (List.mem_of_getElem? (i := 4) rfl)) rfl), (zw (zin7 (List.mem_of_getElem? (i := 66) rfl)) rfl)⟩
theorem zM228 : ∀ r, zmd_7[18]? = some r → zMok 228 r := fun r h => (Option.some.inj h) ▸ ⟨by decide +kernel, by decide +kernel, by decide +kernel, rfl, by decide, (zw (zin1 (List.mem_of_getElem? (i := 4) rfl)) rfl), (zw (zin7 (List.mem_of_getElem? (i := 69) rfl)) rfl)⟩
theorem zM229 : ∀ r, zmd_7[19]? = some r → zMok 229 r := fun r h => (Option.some.inj h) ▸ ⟨by decide +kernel, by decide +kernel, by decide +kernel, rfl, by decide, (zw (zin1 (List.mem_of_getElem? (i := 4) rfl)) rfl), (zw (zin7 (List.mem_of_getElem? (i := 84) rfl)) rfl)⟩
theorem zM230 : ∀ r, zmd_7[20]? = some r → zMok 230 r := fun r h => (Option.some.inj h) ▸ ⟨by decide +kernel, by decide +kernel, by decide +kernel, rfl, by decide, (zw (zin1 (List.mem_of_getElem? (i := 4) rfl)) rfl), (zw (zin7 (List.mem_of_getElem? (i := 89) rfl)) rfl)⟩
theorem zM231 : ∀ r, zmd_7[21]? = some r → zMok 231 r := fun r h => (Option.some.inj h) ▸ ⟨by decide +kernel, by decide +kernel, by decide +kernel, rfl, by decide, (zw (zin1 (List.mem_of_getElem? (i := 4) rfl)) rfl), (zw (zin7 (List.mem_of_getElem? (i := 92) rfl)) rfl)⟩
theorem zM232 : ∀ r, zmd_7[22]? = some r → zMok 232 r := fun r h => (Option.some.inj h) ▸ ⟨by decide +kernel, by decide +kernel, by decide +kernel, rfl, by decide, (zw (zin1 (List.mem_of_getElem? (i := 4) rfl)) rfl), (zw (zin7 (List.mem_of_getElem? (i := 95) rfl)) rfl)⟩
theorem zM233 : ∀ r, zmd_7[23]? = some r → zMok 233 r := fun r h => (Option.some.inj h) ▸ ⟨by decide +kernel, by decide +kernel, by decide +kernel, rfl, by decide, (zw (zin1 (List.mem_of_getElem? (i := 4) rfl)) rfl), (zw (zin7 (List.mem_of_getElem? (i := 100) rfl)) rfl)⟩
theorem zM234 : ∀ r, zmd_7[24]? = some r → zMok 234 r := fun r h => (Option.some.inj h) ▸ ⟨by decide +kernel, by decide +kernel, by decide +kernel, rfl, by decide, (zw (zin1 (List.mem_of_getElem? (i := 4) rfl)) rfl), (zw (zin7 (List.mem_of_getElem? (i := 104) rfl)) rfl)⟩
theorem zM235 : ∀ r, zmd_7[25]? = some r → zMok 235 r := fun r h => (Option.some.inj h) ▸ ⟨by decide +kernel, by decide +kernel, by decide +kernel, rfl, by decide, (zw (zin1 (List.mem_of_getElem? (i := 4) rfl)) rfl), (zw (zin7 (List.mem_of_getElem? (i := 107) rfl)) rfl)⟩
theorem zM236 : ∀ r, zmd_7[26]? = some r → zMok 236 r := fun r h => (Option.some.inj h) ▸ ⟨by decide +kernel, by decide +kernel, by decide +kernel, rfl, by decide, (zw (zin1 (List.mem_of_getElem? (i := 4) rfl)) rfl), (zw (zin7 (List.mem_of_getElem? (i := 111) rfl)) rfl)⟩
theorem zM_ok : ∀ (j : Nat) (r : zMd), j < 237 → zmd j = some r → zMok j r := by
  intro j r hj h
  match j, hj, h with
  | 0, _, h => exact zM0 r h
  | 1, _, h => exact zM1 r h
  | 2, _, h => exact zM2 r h
  | 3, _, h => exact zM3 r h
  | 4, _, h => exact zM4 r h
  | 5, _, h => exact zM5 r h
  | 6, _, h => exact zM6 r h
  | 7, _, h => exact zM7 r h
  | 8, _, h => exact zM8 r h
  | 9, _, h => exact zM9 r h
  | 10, _, h => exact zM10 r h
  | 11, _, h => exact zM11 r h
  | 12, _, h => exact zM12 r h
  | 13, _, h => exact zM13 r h
  | 14, _, h => exact zM14 r h
  | 15, _, h => exact zM15 r h
  | 16, _, h => exact zM16 r h
  | 17, _, h => exact zM17 r h
  | 18, _, h => exact zM18 r h
  | 19, _, h => exact zM19 r h
  | 20, _, h => exact zM20 r h
  | 21, _, h => exact zM21 r h
  | 22, _, h => exact zM22 r h
  | 23, _, h => exact zM23 r h
  | 24, _, h => exact zM24 r h
  | 25, _, h => exact zM25 r h
  | 26, _, h => exact zM26 r h
  | 27, _, h => exact zM27 r h
  | 28, _, h => exact zM28 r h
  | 29, _, h => exact zM29 r h
  | 30, _, h => exact zM30 r h
  | 31, _, h => exact zM31 r h
  | 32, _, h => exact zM32 r h
  | 33, _, h => exact zM33 r h
  | 34, _, h => exact zM34 r h
  | 35, _, h => exact zM35 r h
  | 36, _, h => exact zM36 r h
  | 37, _, h => exact zM37 r h
  | 38, _, h => exact zM38 r h
  | 39, _, h => exact zM39 r h
  | 40, _, h => exact zM40 r h
  | 41, _, h => exact zM41 r h
  | 42, _, h => exact zM42 r h
  | 43, _, h => exact zM43 r h
  | 44, _, h => exact zM44 r h
  | 45, _, h => exact zM45 r h
  | 46, _, h => exact zM46 r h
  | 47, _, h => exact zM47 r h
  | 48, _, h => exact zM48 r h
  | 49, _, h => exact zM49 r h
  | 50, _, h => exact zM50 r h
  | 51, _, h => exact zM51 r h
  | 52, _, h => exact zM52 r h
  | 53, _, h => exact zM53 r h
  | 54, _, h => exact zM54 r h
  | 55, _, h => exact zM55 r h
  | 56, _, h => exact zM56 r h
  | 57, _, h => exact zM57 r h
  | 58, _, h => exact zM58 r h
  | 59, _, h => exact zM59 r h
  | 60, _, h => exact zM60 r h
  | 61, _, h => exact zM61 r h
  | 62, _, h => exact zM62 r h
  | 63, _, h => exact zM63 r h
  | 64, _, h => exact zM64 r h
  | 65, _, h => exact zM65 r h
  | 66, _, h => exact zM66 r h
  | 67, _, h => exact zM67 r h
  | 68, _, h => exact zM68 r h
  | 69, _, h => exact zM69 r h
  | 70, _, h => exact zM70 r h
  | 71, _, h => exact zM71 r h
  | 72, _, h => exact zM72 r h
  | 73, _, h => exact zM73 r h
  | 74, _, h => exact zM74 r h
  | 75, _, h => exact zM75 r h
  | 76, _, h => exact zM76 r h
  | 77, _, h => exact zM77 r h
  | 78, _, h => exact zM78 r h
  | 79, _, h => exact zM79 r h
  | 80, _, h => exact zM80 r h
  | 81, _, h => exact zM81 r h
  | 82, _, h => exact zM82 r h
  | 83, _, h => exact zM83 r h
  | 84, _, h => exact zM84 r h
  | 85, _, h => exact zM85 r h
  | 86, _, h => exact zM86 r h
  | 87, _, h => exact zM87 r h
  | 88, _, h => exact zM88 r h
  | 89, _, h => exact zM89 r h
  | 90, _, h => exact zM90 r h
  | 91, _, h => exact zM91 r h
  | 92, _, h => exact zM92 r h
  | 93, _, h => exact zM93 r h
  | 94, _, h => exact zM94 r h
  | 95, _, h => exact zM95 r h
  | 96, _, h => exact zM96 r h
  | 97, _, h => exact zM97 r h
  | 98, _, h => exact zM98 r h
  | 99, _, h => exact zM99 r h
  | 100, _, h => exact zM100 r h
  | 101, _, h => exact zM101 r h
  | 102, _, h => exact zM102 r h
  | 103, _, h => exact zM103 r h
  | 104, _, h => exact zM104 r h
  | 105, _, h => exact zM105 r h
  | 106, _, h => exact zM106 r h
  | 107, _, h => exact zM107 r h
  | 108, _, h => exact zM108 r h
  | 109, _, h => exact zM109 r h
  | 110, _, h => exact zM110 r h
  | 111, _, h => exact zM111 r h
  | 112, _, h => exact zM112 r h
  | 113, _, h => exact zM113 r h
  | 114, _, h => exact zM114 r h
  | 115, _, h => exact zM115 r h
  | 116, _, h => exact zM116 r h
  | 117, _, h => exact zM117 r h
  | 118, _, h => exact zM118 r h
  | 119, _, h => exact zM119 r h
  | 120, _, h => exact zM120 r h
  | 121, _, h => exact zM121 r h
  | 122, _, h => exact zM122 r h
  | 123, _, h => exact zM123 r h
  | 124, _, h => exact zM124 r h
  | 125, _, h => exact zM125 r h
  | 126, _, h => exact zM126 r h
  | 127, _, h => exact zM127 r h
  | 128, _, h => exact zM128 r h
  | 129, _, h => exact zM129 r h
  | 130, _, h => exact zM130 r h
  | 131, _, h => exact zM131 r h
  | 132, _, h => exact zM132 r h
  | 133, _, h => exact zM133 r h
  | 134, _, h => exact zM134 r h
  | 135, _, h => exact zM135 r h
  | 136, _, h => exact zM136 r h
  | 137, _, h => exact zM137 r h
  | 138, _, h => exact zM138 r h
  | 139, _, h => exact zM139 r h
  | 140, _, h => exact zM140 r h
  | 141, _, h => exact zM141 r h
  | 142, _, h => exact zM142 r h
  | 143, _, h => exact zM143 r h
  | 144, _, h => exact zM144 r h
  | 145, _, h => exact zM145 r h
  | 146, _, h => exact zM146 r h
  | 147, _, h => exact zM147 r h
  | 148, _, h => exact zM148 r h
  | 149, _, h => exact zM149 r h
  | 150, _, h => exact zM150 r h
  | 151, _, h => exact zM151 r h
  | 152, _, h => exact zM152 r h
  | 153, _, h => exact zM153 r h
  | 154, _, h => exact zM154 r h
  | 155, _, h => exact zM155 r h
  | 156, _, h => exact zM156 r h
  | 157, _, h => exact zM157 r h
  | 158, _, h => exact zM158 r h
  | 159, _, h => exact zM159 r h
  | 160, _, h => exact zM160 r h
  | 161, _, h => exact zM161 r h
  | 162, _, h => exact zM162 r h
  | 163, _, h => exact zM163 r h
  | 164, _, h => exact zM164 r h
  | 165, _, h => exact zM165 r h
  | 166, _, h => exact zM166 r h
  | 167, _, h => exact zM167 r h
  | 168, _, h => exact zM168 r h
  | 169, _, h => exact zM169 r h
  | 170, _, h => exact zM170 r h
  | 171, _, h => exact zM171 r h
  | 172, _, h => exact zM172 r h
  | 173, _, h => exact zM173 r h
  | 174, _, h => exact zM174 r h
  | 175, _, h => exact zM175 r h
  | 176, _, h => exact zM176 r h
  | 177, _, h => exact zM177 r h
  | 178, _, h => exact zM178 r h
  | 179, _, h => exact zM179 r h
  | 180, _, h => exact zM180 r h
  | 181, _, h => exact zM181 r h
  | 182, _, h => exact zM182 r h
  | 183, _, h => exact zM183 r h
  | 184, _, h => exact zM184 r h
  | 185, _, h => exact zM185 r h
  | 186, _, h => exact zM186 r h
  | 187, _, h => exact zM187 r h
  | 188, _, h => exact zM188 r h
  | 189, _, h => exact zM189 r h
  | 190, _, h => exact zM190 r h
  | 191, _, h => exact zM191 r h
  | 192, _, h => exact zM192 r h
  | 193, _, h => exact zM193 r h
  | 194, _, h => exact zM194 r h
  | 195, _, h => exact zM195 r h
  | 196, _, h => exact zM196 r h
  | 197, _, h => exact zM197 r h
  | 198, _, h => exact zM198 r h
  | 199, _, h => exact zM199 r h
  | 200, _, h => exact zM200 r h
  | 201, _, h => exact zM201 r h
  | 202, _, h => exact zM202 r h
  | 203, _, h => exact zM203 r h
  | 204, _, h => exact zM204 r h
  | 205, _, h => exact zM205 r h
  | 206, _, h => exact zM206 r h
  | 207, _, h => exact zM207 r h
  | 208, _, h => exact zM208 r h
  | 209, _, h => exact zM209 r h
  | 210, _, h => exact zM210 r h
  | 211, _, h => exact zM211 r h
  | 212, _, h => exact zM212 r h
  | 213, _, h => exact zM213 r h
  | 214, _, h => exact zM214 r h
  | 215, _, h => exact zM215 r h
  | 216, _, h => exact zM216 r h
  | 217, _, h => exact zM217 r h
  | 218, _, h => exact zM218 r h
  | 219, _, h => exact zM219 r h
  | 220, _, h => exact zM220 r h
  | 221, _, h => exact zM221 r h
  | 222, _, h => exact zM222 r h
  | 223, _, h => exact zM223 r h
  | 224, _, h => exact zM224 r h
  | 225, _, h => exact zM225 r h
  | 226, _, h => exact zM226 r h
  | 227, _, h => exact zM227 r h
  | 228, _, h => exact zM228 r h
  | 229, _, h => exact zM229 r h
  | 230, _, h => exact zM230 r h
  | 231, _, h => exact zM231 r h
  | 232, _, h => exact zM232 r h
  | 233, _, h => exact zM233 r h
  | 234, _, h => exact zM234 r h
  | 235, _, h => exact zM235 r h
  | 236, _, h => exact zM236 r h
  | k + 237, hj, _ => exact absurd hj (by omega)
end
section
/-! ===== fields: (owner, entry) to (tag, place, kind of type, final) ===== -/
def ztyc : FieldType → Nat
  | .int => 0 | .boolean => 1 | .byte => 2 | .long => 3 | .double => 4 | .float => 5 | .object _ => 6 | .array _ => 7 | _ => 9
abbrev zFe : Type := (Nat × Nat) × Nat × Nat × Nat × Nat
def zFok (e : zFe) : Prop := ∃ (own C : String) (T : u_T) (N : Nat) (ref : String) (ty : FieldType), zon[e.1.1]? = some own ∧ zcl[e.2.1]? = some (C, T, N) ∧ e.2.2.1 < N ∧ (Jvm.Cond.fieldLink own e.1.2 ref (T e.2.2.1).2.1 (T e.2.2.1).2.2.1 ∈ zWS ∨ ∃ host, Jvm.Cond.fieldLinkNest own e.1.2 ref (T e.2.2.1).2.1 (T e.2.2.1).2.2.1 host ∈ zXW) ∧
  (ref = (T e.2.2.1).1 ∨ Jvm.Cond.sameField ref (T e.2.2.1).1 (T e.2.2.1).2.1 (T e.2.2.1).2.2.1 ∈ zWS) ∧ parseFieldDescriptor (T e.2.2.1).2.2.1 = some ty ∧ ztyc ty = e.2.2.2.1 ∧ ((T e.2.2.1).2.2.2 = false ∧ e.2.2.2.2 = 0 ∨ (T e.2.2.1).2.2.2 = true ∧ e.2.2.2.2 = 1)
def zFl : List (zFe) := [((0, 11), 0, 0, 7, 1),
  ((0, 20), 0, 1, 6, 1),
  ((0, 27), 0, 2, 6, 1),
  ((0, 31), 0, 3, 0, 0),
  ((0, 35), 0, 4, 0, 0),
  ((1, 9), 1, 0, 7, 1),
  ((1, 15), 1, 1, 7, 1),
  ((1, 18), 1, 2, 7, 1),
  ((1, 21), 1, 3, 0, 0),
  ((1, 25), 1, 4, 0, 0),
  ((2, 9), 2, 0, 7, 1),
  ((2, 15), 2, 1, 7, 1),
  ((2, 23), 2, 2, 6, 1),
  ((2, 27), 2, 3, 7, 1),
  ((2, 30), 2, 4, 7, 1),
  ((2, 33), 2, 5, 7, 1),
  ((0, 103), 4, 5, 0, 0),
  ((0, 55), 4, 0, 6, 1),
  ((0, 110), 4, 4, 0, 0),
  ((0, 154), 1, 3, 0, 0),
  ((0, 157), 1, 4, 0, 0),
  ((0, 209), 4, 1, 6, 1),
  ((0, 100), 2, 10, 0, 0),
  ((0, 117), 4, 6, 0, 0),
  ((2, 40), 2, 10, 0, 0),
  ((2, 44), 2, 6, 1, 0),
  ((2, 56), 2, 8, 0, 0),
  ((2, 62), 2, 7, 0, 0),
  ((2, 73), 1, 3, 0, 0),
  ((2, 74), 1, 4, 0, 0),
  ((2, 75), 2, 9, 0, 0),
  ((5, 13), 3, 0, 3, 0),
  ((6, 12), 4, 1, 6, 1),
  ((6, 18), 4, 2, 7, 1),
  ((6, 22), 4, 3, 7, 1),
  ((6, 30), 4, 0, 6, 1),
  ((6, 34), 4, 4, 0, 0),
  ((6, 38), 1, 0, 7, 1),
  ((5, 76), 3, 2, 6, 0),
  ((8, 15), 5, 0, 7, 0),
  ((8, 22), 5, 1, 2, 0),
  ((8, 79), 5, 3, 0, 0),
  ((14, 15), 6, 1, 2, 1),
  ((14, 9), 6, 0, 7, 1),
  ((14, 1048), 5, 2, 1, 0),
  ((5, 87), 3, 1, 4, 0),
  ((15, 10), 7, 1, 6, 1),
  ((16, 9), 8, 0, 7, 0),
  ((17, 7), 8, 2, 0, 0),
  ((15, 16), 7, 0, 0, 0),
  ((16, 48), 8, 1, 0, 0),
  ((19, 12), 9, 4, 6, 0),
  ((19, 18), 9, 0, 0, 0),
  ((19, 22), 9, 1, 0, 0),
  ((19, 25), 9, 3, 7, 0),
  ((19, 38), 9, 2, 7, 0),
  ((16, 63), 8, 2, 0, 0),
  ((15, 73), 9, 3, 7, 0),
  ((15, 93), 9, 5, 0, 0),
  ((15, 96), 9, 6, 0, 0),
  ((15, 102), 9, 4, 6, 0),
  ((15, 107), 9, 2, 7, 0),
  ((21, 7), 10, 0, 7, 1),
  ((21, 13), 10, 1, 0, 1),
  ((21, 17), 10, 2, 1, 1),
  ((15, 121), 10, 0, 7, 1),
  ((15, 122), 10, 1, 0, 1),
  ((15, 125), 10, 2, 1, 1),
  ((15, 133), 9, 0, 0, 0),
  ((15, 136), 9, 1, 0, 0),
  ((15, 151), 7, 2, 0, 0)]
set_option maxRecDepth 20000 in
theorem zFl_0 : zFok (((0, 11), 0, 0, 7, 1)) := ⟨_, _, _, _, "TesseraHall", (.array (.object "TesseraHall$Board")), rfl, rfl, by decide, .inl (zw (zin1 (List.mem_of_getElem? (i := 139) rfl)) rfl), .inl rfl, by decide +kernel, rfl, .inr ⟨rfl, rfl⟩⟩
set_option maxRecDepth 20000 in
theorem zFl_1 : zFok (((0, 20), 0, 1, 6, 1)) := ⟨_, _, _, _, "TesseraHall", (.object "TesseraHall$Grid"), rfl, rfl, by decide, .inl (zw (zin1 (List.mem_of_getElem? (i := 140) rfl)) rfl), .inl rfl, by decide +kernel, rfl, .inr ⟨rfl, rfl⟩⟩
set_option maxRecDepth 20000 in
theorem zFl_2 : zFok (((0, 27), 0, 2, 6, 1)) := ⟨_, _, _, _, "TesseraHall", (.object "TesseraHall$Album"), rfl, rfl, by decide, .inl (zw (zin1 (List.mem_of_getElem? (i := 141) rfl)) rfl), .inl rfl, by decide +kernel, rfl, .inr ⟨rfl, rfl⟩⟩
set_option maxRecDepth 20000 in
theorem zFl_3 : zFok (((0, 31), 0, 3, 0, 0)) := ⟨_, _, _, _, "TesseraHall", .int, rfl, rfl, by decide, .inl (zw (zin1 (List.mem_of_getElem? (i := 142) rfl)) rfl), .inl rfl, by decide +kernel, rfl, .inl ⟨rfl, rfl⟩⟩
set_option maxRecDepth 20000 in
theorem zFl_4 : zFok (((0, 35), 0, 4, 0, 0)) := ⟨_, _, _, _, "TesseraHall", .int, rfl, rfl, by decide, .inl (zw (zin1 (List.mem_of_getElem? (i := 143) rfl)) rfl), .inl rfl, by decide +kernel, rfl, .inl ⟨rfl, rfl⟩⟩
set_option maxRecDepth 20000 in
theorem zFl_5 : zFok (((1, 9), 1, 0, 7, 1)) := ⟨_, _, _, _, "TesseraHall$Grid", (.array .int), rfl, rfl, by decide, .inl (zw (zin1 (List.mem_of_getElem? (i := 74) rfl)) rfl), .inl rfl, by decide +kernel, rfl, .inr ⟨rfl, rfl⟩⟩
set_option maxRecDepth 20000 in
theorem zFl_6 : zFok (((1, 15), 1, 1, 7, 1)) := ⟨_, _, _, _, "TesseraHall$Grid", (.array .int), rfl, rfl, by decide, .inl (zw (zin1 (List.mem_of_getElem? (i := 76) rfl)) rfl), .inl rfl, by decide +kernel, rfl, .inr ⟨rfl, rfl⟩⟩
set_option maxRecDepth 20000 in
theorem zFl_7 : zFok (((1, 18), 1, 2, 7, 1)) := ⟨_, _, _, _, "TesseraHall$Grid", (.array .int), rfl, rfl, by decide, .inl (zw (zin1 (List.mem_of_getElem? (i := 77) rfl)) rfl), .inl rfl, by decide +kernel, rfl, .inr ⟨rfl, rfl⟩⟩
set_option maxRecDepth 20000 in
theorem zFl_8 : zFok (((1, 21), 1, 3, 0, 0)) := ⟨_, _, _, _, "TesseraHall$Grid", .int, rfl, rfl, by decide, .inl (zw (zin1 (List.mem_of_getElem? (i := 78) rfl)) rfl), .inl rfl, by decide +kernel, rfl, .inl ⟨rfl, rfl⟩⟩
set_option maxRecDepth 20000 in
theorem zFl_9 : zFok (((1, 25), 1, 4, 0, 0)) := ⟨_, _, _, _, "TesseraHall$Grid", .int, rfl, rfl, by decide, .inl (zw (zin1 (List.mem_of_getElem? (i := 81) rfl)) rfl), .inl rfl, by decide +kernel, rfl, .inl ⟨rfl, rfl⟩⟩
set_option maxRecDepth 20000 in
theorem zFl_10 : zFok (((2, 9), 2, 0, 7, 1)) := ⟨_, _, _, _, "TesseraHall$Album", (.array .int), rfl, rfl, by decide, .inl (zw (zin1 (List.mem_of_getElem? (i := 104) rfl)) rfl), .inl rfl, by decide +kernel, rfl, .inr ⟨rfl, rfl⟩⟩
set_option maxRecDepth 20000 in
theorem zFl_11 : zFok (((2, 15), 2, 1, 7, 1)) := ⟨_, _, _, _, "TesseraHall$Album", (.array .int), rfl, rfl, by decide, .inl (zw (zin1 (List.mem_of_getElem? (i := 105) rfl)) rfl), .inl rfl, by decide +kernel, rfl, .inr ⟨rfl, rfl⟩⟩
set_option maxRecDepth 20000 in
theorem zFl_12 : zFok (((2, 23), 2, 2, 6, 1)) := ⟨_, _, _, _, "TesseraHall$Album", (.object "TesseraHall$Grid"), rfl, rfl, by decide, .inl (zw (zin1 (List.mem_of_getElem? (i := 106) rfl)) rfl), .inl rfl, by decide +kernel, rfl, .inr ⟨rfl, rfl⟩⟩
set_option maxRecDepth 20000 in
theorem zFl_13 : zFok (((2, 27), 2, 3, 7, 1)) := ⟨_, _, _, _, "TesseraHall$Album", (.array .int), rfl, rfl, by decide, .inl (zw (zin1 (List.mem_of_getElem? (i := 107) rfl)) rfl), .inl rfl, by decide +kernel, rfl, .inr ⟨rfl, rfl⟩⟩
set_option maxRecDepth 20000 in
theorem zFl_14 : zFok (((2, 30), 2, 4, 7, 1)) := ⟨_, _, _, _, "TesseraHall$Album", (.array .int), rfl, rfl, by decide, .inl (zw (zin1 (List.mem_of_getElem? (i := 108) rfl)) rfl), .inl rfl, by decide +kernel, rfl, .inr ⟨rfl, rfl⟩⟩
set_option maxRecDepth 20000 in
theorem zFl_15 : zFok (((2, 33), 2, 5, 7, 1)) := ⟨_, _, _, _, "TesseraHall$Album", (.array .int), rfl, rfl, by decide, .inl (zw (zin1 (List.mem_of_getElem? (i := 109) rfl)) rfl), .inl rfl, by decide +kernel, rfl, .inr ⟨rfl, rfl⟩⟩
set_option maxRecDepth 20000 in
theorem zFl_16 : zFok (((0, 103), 4, 5, 0, 0)) := ⟨_, _, _, _, "TesseraHall$Board", .int, rfl, rfl, by decide, .inr ⟨_, (zx (zin3 (List.mem_of_getElem? (i := 68) rfl)) rfl)⟩, .inl rfl, by decide +kernel, rfl, .inl ⟨rfl, rfl⟩⟩
set_option maxRecDepth 20000 in
theorem zFl_17 : zFok (((0, 55), 4, 0, 6, 1)) := ⟨_, _, _, _, "TesseraHall$Board", (.object "TesseraHall$Grid"), rfl, rfl, by decide, .inr ⟨_, (zx (zin3 (List.mem_of_getElem? (i := 61) rfl)) rfl)⟩, .inl rfl, by decide +kernel, rfl, .inr ⟨rfl, rfl⟩⟩
set_option maxRecDepth 20000 in
theorem zFl_18 : zFok (((0, 110), 4, 4, 0, 0)) := ⟨_, _, _, _, "TesseraHall$Board", .int, rfl, rfl, by decide, .inr ⟨_, (zx (zin3 (List.mem_of_getElem? (i := 67) rfl)) rfl)⟩, .inl rfl, by decide +kernel, rfl, .inl ⟨rfl, rfl⟩⟩
set_option maxRecDepth 20000 in
theorem zFl_19 : zFok (((0, 154), 1, 3, 0, 0)) := ⟨_, _, _, _, "TesseraHall$Grid", .int, rfl, rfl, by decide, .inr ⟨_, (zx (zin1 (List.mem_of_getElem? (i := 80) rfl)) rfl)⟩, .inl rfl, by decide +kernel, rfl, .inl ⟨rfl, rfl⟩⟩
set_option maxRecDepth 20000 in
theorem zFl_20 : zFok (((0, 157), 1, 4, 0, 0)) := ⟨_, _, _, _, "TesseraHall$Grid", .int, rfl, rfl, by decide, .inr ⟨_, (zx (zin1 (List.mem_of_getElem? (i := 83) rfl)) rfl)⟩, .inl rfl, by decide +kernel, rfl, .inl ⟨rfl, rfl⟩⟩
set_option maxRecDepth 20000 in
theorem zFl_21 : zFok (((0, 209), 4, 1, 6, 1)) := ⟨_, _, _, _, "TesseraHall$Board", (.object "TesseraHall$Album"), rfl, rfl, by decide, .inr ⟨_, (zx (zin3 (List.mem_of_getElem? (i := 63) rfl)) rfl)⟩, .inl rfl, by decide +kernel, rfl, .inr ⟨rfl, rfl⟩⟩
set_option maxRecDepth 20000 in
theorem zFl_22 : zFok (((0, 100), 2, 10, 0, 0)) := ⟨_, _, _, _, "TesseraHall$Album", .int, rfl, rfl, by decide, .inr ⟨_, (zx (zin1 (List.mem_of_getElem? (i := 115) rfl)) rfl)⟩, .inl rfl, by decide +kernel, rfl, .inl ⟨rfl, rfl⟩⟩
set_option maxRecDepth 20000 in
theorem zFl_23 : zFok (((0, 117), 4, 6, 0, 0)) := ⟨_, _, _, _, "TesseraHall$Board", .int, rfl, rfl, by decide, .inr ⟨_, (zx (zin3 (List.mem_of_getElem? (i := 69) rfl)) rfl)⟩, .inl rfl, by decide +kernel, rfl, .inl ⟨rfl, rfl⟩⟩
set_option maxRecDepth 20000 in
theorem zFl_24 : zFok (((2, 40), 2, 10, 0, 0)) := ⟨_, _, _, _, "TesseraHall$Album", .int, rfl, rfl, by decide, .inl (zw (zin1 (List.mem_of_getElem? (i := 114) rfl)) rfl), .inl rfl, by decide +kernel, rfl, .inl ⟨rfl, rfl⟩⟩
set_option maxRecDepth 20000 in
theorem zFl_25 : zFok (((2, 44), 2, 6, 1, 0)) := ⟨_, _, _, _, "TesseraHall$Album", .boolean, rfl, rfl, by decide, .inl (zw (zin1 (List.mem_of_getElem? (i := 110) rfl)) rfl), .inl rfl, by decide +kernel, rfl, .inl ⟨rfl, rfl⟩⟩
set_option maxRecDepth 20000 in
theorem zFl_26 : zFok (((2, 56), 2, 8, 0, 0)) := ⟨_, _, _, _, "TesseraHall$Album", .int, rfl, rfl, by decide, .inl (zw (zin1 (List.mem_of_getElem? (i := 112) rfl)) rfl), .inl rfl, by decide +kernel, rfl, .inl ⟨rfl, rfl⟩⟩
set_option maxRecDepth 20000 in
theorem zFl_27 : zFok (((2, 62), 2, 7, 0, 0)) := ⟨_, _, _, _, "TesseraHall$Album", .int, rfl, rfl, by decide, .inl (zw (zin1 (List.mem_of_getElem? (i := 111) rfl)) rfl), .inl rfl, by decide +kernel, rfl, .inl ⟨rfl, rfl⟩⟩
set_option maxRecDepth 20000 in
theorem zFl_28 : zFok (((2, 73), 1, 3, 0, 0)) := ⟨_, _, _, _, "TesseraHall$Grid", .int, rfl, rfl, by decide, .inr ⟨_, (zx (zin1 (List.mem_of_getElem? (i := 79) rfl)) rfl)⟩, .inl rfl, by decide +kernel, rfl, .inl ⟨rfl, rfl⟩⟩
set_option maxRecDepth 20000 in
theorem zFl_29 : zFok (((2, 74), 1, 4, 0, 0)) := ⟨_, _, _, _, "TesseraHall$Grid", .int, rfl, rfl, by decide, .inr ⟨_, (zx (zin1 (List.mem_of_getElem? (i := 82) rfl)) rfl)⟩, .inl rfl, by decide +kernel, rfl, .inl ⟨rfl, rfl⟩⟩
set_option maxRecDepth 20000 in
theorem zFl_30 : zFok (((2, 75), 2, 9, 0, 0)) := ⟨_, _, _, _, "TesseraHall$Album", .int, rfl, rfl, by decide, .inl (zw (zin1 (List.mem_of_getElem? (i := 113) rfl)) rfl), .inl rfl, by decide +kernel, rfl, .inl ⟨rfl, rfl⟩⟩
set_option maxRecDepth 20000 in
theorem zFl_31 : zFok (((5, 13), 3, 0, 3, 0)) := ⟨_, _, _, _, "TesseraHallLaw$Out", .long, rfl, rfl, by decide, .inr ⟨_, (zx (zin3 (List.mem_of_getElem? (i := 15) rfl)) rfl)⟩, .inl rfl, by decide +kernel, rfl, .inl ⟨rfl, rfl⟩⟩
set_option maxRecDepth 20000 in
theorem zFl_32 : zFok (((6, 12), 4, 1, 6, 1)) := ⟨_, _, _, _, "TesseraHall$Board", (.object "TesseraHall$Album"), rfl, rfl, by decide, .inl (zw (zin3 (List.mem_of_getElem? (i := 62) rfl)) rfl), .inl rfl, by decide +kernel, rfl, .inr ⟨rfl, rfl⟩⟩
set_option maxRecDepth 20000 in
theorem zFl_33 : zFok (((6, 18), 4, 2, 7, 1)) := ⟨_, _, _, _, "TesseraHall$Board", (.array .int), rfl, rfl, by decide, .inl (zw (zin3 (List.mem_of_getElem? (i := 64) rfl)) rfl), .inl rfl, by decide +kernel, rfl, .inr ⟨rfl, rfl⟩⟩
set_option maxRecDepth 20000 in
theorem zFl_34 : zFok (((6, 22), 4, 3, 7, 1)) := ⟨_, _, _, _, "TesseraHall$Board", (.array .int), rfl, rfl, by decide, .inl (zw (zin3 (List.mem_of_getElem? (i := 65) rfl)) rfl), .inl rfl, by decide +kernel, rfl, .inr ⟨rfl, rfl⟩⟩
set_option maxRecDepth 20000 in
theorem zFl_35 : zFok (((6, 30), 4, 0, 6, 1)) := ⟨_, _, _, _, "TesseraHall$Board", (.object "TesseraHall$Grid"), rfl, rfl, by decide, .inl (zw (zin3 (List.mem_of_getElem? (i := 60) rfl)) rfl), .inl rfl, by decide +kernel, rfl, .inr ⟨rfl, rfl⟩⟩
set_option maxRecDepth 20000 in
theorem zFl_36 : zFok (((6, 34), 4, 4, 0, 0)) := ⟨_, _, _, _, "TesseraHall$Board", .int, rfl, rfl, by decide, .inl (zw (zin3 (List.mem_of_getElem? (i := 66) rfl)) rfl), .inl rfl, by decide +kernel, rfl, .inl ⟨rfl, rfl⟩⟩
set_option maxRecDepth 20000 in
theorem zFl_37 : zFok (((6, 38), 1, 0, 7, 1)) := ⟨_, _, _, _, "TesseraHall$Grid", (.array .int), rfl, rfl, by decide, .inr ⟨_, (zx (zin1 (List.mem_of_getElem? (i := 75) rfl)) rfl)⟩, .inl rfl, by decide +kernel, rfl, .inr ⟨rfl, rfl⟩⟩
set_option maxRecDepth 20000 in
theorem zFl_38 : zFok (((5, 76), 3, 2, 6, 0)) := ⟨_, _, _, _, "TesseraHallLaw$Out", (.object "java/lang/String"), rfl, rfl, by decide, .inr ⟨_, (zx (zin3 (List.mem_of_getElem? (i := 17) rfl)) rfl)⟩, .inl rfl, by decide +kernel, rfl, .inl ⟨rfl, rfl⟩⟩
set_option maxRecDepth 20000 in
theorem zFl_39 : zFok (((8, 15), 5, 0, 7, 0)) := ⟨_, _, _, _, "java/lang/AbstractStringBuilder", (.array .byte), rfl, rfl, by decide, .inl (zw (zin4 (List.mem_of_getElem? (i := 25) rfl)) rfl), .inl rfl, by decide +kernel, rfl, .inl ⟨rfl, rfl⟩⟩
set_option maxRecDepth 20000 in
theorem zFl_40 : zFok (((8, 22), 5, 1, 2, 0)) := ⟨_, _, _, _, "java/lang/AbstractStringBuilder", .byte, rfl, rfl, by decide, .inl (zw (zin4 (List.mem_of_getElem? (i := 26) rfl)) rfl), .inl rfl, by decide +kernel, rfl, .inl ⟨rfl, rfl⟩⟩
set_option maxRecDepth 20000 in
theorem zFl_41 : zFok (((8, 79), 5, 3, 0, 0)) := ⟨_, _, _, _, "java/lang/AbstractStringBuilder", .int, rfl, rfl, by decide, .inl (zw (zin4 (List.mem_of_getElem? (i := 28) rfl)) rfl), .inl rfl, by decide +kernel, rfl, .inl ⟨rfl, rfl⟩⟩
set_option maxRecDepth 20000 in
theorem zFl_42 : zFok (((14, 15), 6, 1, 2, 1)) := ⟨_, _, _, _, "java/lang/String", .byte, rfl, rfl, by decide, .inl (zw (zin5 (List.mem_of_getElem? (i := 23) rfl)) rfl), .inl rfl, by decide +kernel, rfl, .inr ⟨rfl, rfl⟩⟩
set_option maxRecDepth 20000 in
theorem zFl_43 : zFok (((14, 9), 6, 0, 7, 1)) := ⟨_, _, _, _, "java/lang/String", (.array .byte), rfl, rfl, by decide, .inl (zw (zin5 (List.mem_of_getElem? (i := 22) rfl)) rfl), .inl rfl, by decide +kernel, rfl, .inr ⟨rfl, rfl⟩⟩
set_option maxRecDepth 20000 in
theorem zFl_44 : zFok (((14, 1048), 5, 2, 1, 0)) := ⟨_, _, _, _, "java/lang/AbstractStringBuilder", .boolean, rfl, rfl, by decide, .inl (zw (zin4 (List.mem_of_getElem? (i := 27) rfl)) rfl), .inl rfl, by decide +kernel, rfl, .inl ⟨rfl, rfl⟩⟩
set_option maxRecDepth 20000 in
theorem zFl_45 : zFok (((5, 87), 3, 1, 4, 0)) := ⟨_, _, _, _, "TesseraHallLaw$Out", .double, rfl, rfl, by decide, .inr ⟨_, (zx (zin3 (List.mem_of_getElem? (i := 16) rfl)) rfl)⟩, .inl rfl, by decide +kernel, rfl, .inl ⟨rfl, rfl⟩⟩
set_option maxRecDepth 20000 in
theorem zFl_46 : zFok (((15, 10), 7, 1, 6, 1)) := ⟨_, _, _, _, "TesseraHallModel", (.object "java/util/List"), rfl, rfl, by decide, .inl (zw (zin5 (List.mem_of_getElem? (i := 108) rfl)) rfl), .inl rfl, by decide +kernel, rfl, .inr ⟨rfl, rfl⟩⟩
set_option maxRecDepth 20000 in
theorem zFl_47 : zFok (((16, 9), 8, 0, 7, 0)) := ⟨_, _, _, _, "java/util/ArrayList", (.array (.object "java/lang/Object")), rfl, rfl, by decide, .inl (zw (zin5 (List.mem_of_getElem? (i := 95) rfl)) rfl), .inl rfl, by decide +kernel, rfl, .inl ⟨rfl, rfl⟩⟩
set_option maxRecDepth 20000 in
theorem zFl_48 : zFok (((17, 7), 8, 2, 0, 0)) := ⟨_, _, _, _, "java/util/AbstractList", .int, rfl, rfl, by decide, .inl (zw (zin5 (List.mem_of_getElem? (i := 97) rfl)) rfl), .inl rfl, by decide +kernel, rfl, .inl ⟨rfl, rfl⟩⟩
set_option maxRecDepth 20000 in
theorem zFl_49 : zFok (((15, 16), 7, 0, 0, 0)) := ⟨_, _, _, _, "TesseraHallModel", .int, rfl, rfl, by decide, .inl (zw (zin5 (List.mem_of_getElem? (i := 107) rfl)) rfl), .inl rfl, by decide +kernel, rfl, .inl ⟨rfl, rfl⟩⟩
set_option maxRecDepth 20000 in
theorem zFl_50 : zFok (((16, 48), 8, 1, 0, 0)) := ⟨_, _, _, _, "java/util/ArrayList", .int, rfl, rfl, by decide, .inl (zw (zin5 (List.mem_of_getElem? (i := 96) rfl)) rfl), .inl rfl, by decide +kernel, rfl, .inl ⟨rfl, rfl⟩⟩
set_option maxRecDepth 20000 in
theorem zFl_51 : zFok (((19, 12), 9, 4, 6, 0)) := ⟨_, _, _, _, "TesseraHallModel$Board", (.object "java/util/List"), rfl, rfl, by decide, .inl (zw (zin5 (List.mem_of_getElem? (i := 164) rfl)) rfl), .inl rfl, by decide +kernel, rfl, .inl ⟨rfl, rfl⟩⟩
set_option maxRecDepth 20000 in
theorem zFl_52 : zFok (((19, 18), 9, 0, 0, 0)) := ⟨_, _, _, _, "TesseraHallModel$Board", .int, rfl, rfl, by decide, .inl (zw (zin5 (List.mem_of_getElem? (i := 156) rfl)) rfl), .inl rfl, by decide +kernel, rfl, .inl ⟨rfl, rfl⟩⟩
set_option maxRecDepth 20000 in
theorem zFl_53 : zFok (((19, 22), 9, 1, 0, 0)) := ⟨_, _, _, _, "TesseraHallModel$Board", .int, rfl, rfl, by decide, .inl (zw (zin5 (List.mem_of_getElem? (i := 158) rfl)) rfl), .inl rfl, by decide +kernel, rfl, .inl ⟨rfl, rfl⟩⟩
set_option maxRecDepth 20000 in
theorem zFl_54 : zFok (((19, 25), 9, 3, 7, 0)) := ⟨_, _, _, _, "TesseraHallModel$Board", (.array .int), rfl, rfl, by decide, .inl (zw (zin5 (List.mem_of_getElem? (i := 162) rfl)) rfl), .inl rfl, by decide +kernel, rfl, .inl ⟨rfl, rfl⟩⟩
set_option maxRecDepth 20000 in
theorem zFl_55 : zFok (((19, 38), 9, 2, 7, 0)) := ⟨_, _, _, _, "TesseraHallModel$Board", (.array (.array .int)), rfl, rfl, by decide, .inl (zw (zin5 (List.mem_of_getElem? (i := 160) rfl)) rfl), .inl rfl, by decide +kernel, rfl, .inl ⟨rfl, rfl⟩⟩
set_option maxRecDepth 20000 in
theorem zFl_56 : zFok (((16, 63), 8, 2, 0, 0)) := ⟨_, _, _, _, "java/util/ArrayList", .int, rfl, rfl, by decide, .inl (zw (zin5 (List.mem_of_getElem? (i := 98) rfl)) rfl), .inr (zw (zin5 (List.mem_of_getElem? (i := 99) rfl)) rfl), by decide +kernel, rfl, .inl ⟨rfl, rfl⟩⟩
set_option maxRecDepth 20000 in
theorem zFl_57 : zFok (((15, 73), 9, 3, 7, 0)) := ⟨_, _, _, _, "TesseraHallModel$Board", (.array .int), rfl, rfl, by decide, .inl (zw (zin5 (List.mem_of_getElem? (i := 163) rfl)) rfl), .inl rfl, by decide +kernel, rfl, .inl ⟨rfl, rfl⟩⟩
set_option maxRecDepth 20000 in
theorem zFl_58 : zFok (((15, 93), 9, 5, 0, 0)) := ⟨_, _, _, _, "TesseraHallModel$Board", .int, rfl, rfl, by decide, .inl (zw (zin5 (List.mem_of_getElem? (i := 166) rfl)) rfl), .inl rfl, by decide +kernel, rfl, .inl ⟨rfl, rfl⟩⟩
set_option maxRecDepth 20000 in
theorem zFl_59 : zFok (((15, 96), 9, 6, 0, 0)) := ⟨_, _, _, _, "TesseraHallModel$Board", .int, rfl, rfl, by decide, .inl (zw (zin5 (List.mem_of_getElem? (i := 167) rfl)) rfl), .inl rfl, by decide +kernel, rfl, .inl ⟨rfl, rfl⟩⟩
set_option maxRecDepth 20000 in
theorem zFl_60 : zFok (((15, 102), 9, 4, 6, 0)) := ⟨_, _, _, _, "TesseraHallModel$Board", (.object "java/util/List"), rfl, rfl, by decide, .inl (zw (zin5 (List.mem_of_getElem? (i := 165) rfl)) rfl), .inl rfl, by decide +kernel, rfl, .inl ⟨rfl, rfl⟩⟩
set_option maxRecDepth 20000 in
theorem zFl_61 : zFok (((15, 107), 9, 2, 7, 0)) := ⟨_, _, _, _, "TesseraHallModel$Board", (.array (.array .int)), rfl, rfl, by decide, .inl (zw (zin5 (List.mem_of_getElem? (i := 161) rfl)) rfl), .inl rfl, by decide +kernel, rfl, .inl ⟨rfl, rfl⟩⟩
set_option maxRecDepth 20000 in
theorem zFl_62 : zFok (((21, 7), 10, 0, 7, 1)) := ⟨_, _, _, _, "TesseraHallModel$Kept", (.array (.array .int)), rfl, rfl, by decide, .inl (zw (zin6 (List.mem_of_getElem? (i := 136) rfl)) rfl), .inl rfl, by decide +kernel, rfl, .inr ⟨rfl, rfl⟩⟩
set_option maxRecDepth 20000 in
theorem zFl_63 : zFok (((21, 13), 10, 1, 0, 1)) := ⟨_, _, _, _, "TesseraHallModel$Kept", .int, rfl, rfl, by decide, .inl (zw (zin6 (List.mem_of_getElem? (i := 138) rfl)) rfl), .inl rfl, by decide +kernel, rfl, .inr ⟨rfl, rfl⟩⟩
set_option maxRecDepth 20000 in
theorem zFl_64 : zFok (((21, 17), 10, 2, 1, 1)) := ⟨_, _, _, _, "TesseraHallModel$Kept", .boolean, rfl, rfl, by decide, .inl (zw (zin6 (List.mem_of_getElem? (i := 140) rfl)) rfl), .inl rfl, by decide +kernel, rfl, .inr ⟨rfl, rfl⟩⟩
set_option maxRecDepth 20000 in
theorem zFl_65 : zFok (((15, 121), 10, 0, 7, 1)) := ⟨_, _, _, _, "TesseraHallModel$Kept", (.array (.array .int)), rfl, rfl, by decide, .inl (zw (zin6 (List.mem_of_getElem? (i := 137) rfl)) rfl), .inl rfl, by decide +kernel, rfl, .inr ⟨rfl, rfl⟩⟩
set_option maxRecDepth 20000 in
theorem zFl_66 : zFok (((15, 122), 10, 1, 0, 1)) := ⟨_, _, _, _, "TesseraHallModel$Kept", .int, rfl, rfl, by decide, .inl (zw (zin6 (List.mem_of_getElem? (i := 139) rfl)) rfl), .inl rfl, by decide +kernel, rfl, .inr ⟨rfl, rfl⟩⟩
set_option maxRecDepth 20000 in
theorem zFl_67 : zFok (((15, 125), 10, 2, 1, 1)) := ⟨_, _, _, _, "TesseraHallModel$Kept", .boolean, rfl, rfl, by decide, .inl (zw (zin6 (List.mem_of_getElem? (i := 141) rfl)) rfl), .inl rfl, by decide +kernel, rfl, .inr ⟨rfl, rfl⟩⟩
set_option maxRecDepth 20000 in
theorem zFl_68 : zFok (((15, 133), 9, 0, 0, 0)) := ⟨_, _, _, _, "TesseraHallModel$Board", .int, rfl, rfl, by decide, .inl (zw (zin5 (List.mem_of_getElem? (i := 157) rfl)) rfl), .inl rfl, by decide +kernel, rfl, .inl ⟨rfl, rfl⟩⟩
set_option maxRecDepth 20000 in
theorem zFl_69 : zFok (((15, 136), 9, 1, 0, 0)) := ⟨_, _, _, _, "TesseraHallModel$Board", .int, rfl, rfl, by decide, .inl (zw (zin5 (List.mem_of_getElem? (i := 159) rfl)) rfl), .inl rfl, by decide +kernel, rfl, .inl ⟨rfl, rfl⟩⟩
set_option maxRecDepth 20000 in
theorem zFl_70 : zFok (((15, 151), 7, 2, 0, 0)) := ⟨_, _, _, _, "TesseraHallModel", .int, rfl, rfl, by decide, .inl (zw (zin5 (List.mem_of_getElem? (i := 109) rfl)) rfl), .inl rfl, by decide +kernel, rfl, .inl ⟨rfl, rfl⟩⟩
theorem zFl_ok : ∀ e ∈ zFl, zFok e := List.forall_mem_cons.mpr ⟨zFl_0, List.forall_mem_cons.mpr ⟨zFl_1, List.forall_mem_cons.mpr ⟨zFl_2, List.forall_mem_cons.mpr ⟨zFl_3, List.forall_mem_cons.mpr ⟨zFl_4, List.forall_mem_cons.mpr ⟨zFl_5, List.forall_mem_cons.mpr ⟨zFl_6, List.forall_mem_cons.mpr ⟨zFl_7, List.forall_mem_cons.mpr ⟨zFl_8, List.forall_mem_cons.mpr ⟨zFl_9, List.forall_mem_cons.mpr ⟨zFl_10, List.forall_mem_cons.mpr ⟨zFl_11, List.forall_mem_cons.mpr ⟨zFl_12, List.forall_mem_cons.mpr ⟨zFl_13, List.forall_mem_cons.mpr ⟨zFl_14, List.forall_mem_cons.mpr ⟨zFl_15, List.forall_mem_cons.mpr ⟨zFl_16, List.forall_mem_cons.mpr ⟨zFl_17, List.forall_mem_cons.mpr ⟨zFl_18, List.forall_mem_cons.mpr ⟨zFl_19, List.forall_mem_cons.mpr ⟨zFl_20, List.forall_mem_cons.mpr ⟨zFl_21, List.forall_mem_cons.mpr ⟨zFl_22, List.forall_mem_cons.mpr ⟨zFl_23, List.forall_mem_cons.mpr ⟨zFl_24, List.forall_mem_cons.mpr ⟨zFl_25, List.forall_mem_cons.mpr ⟨zFl_26, List.forall_mem_cons.mpr ⟨zFl_27, List.forall_mem_cons.mpr ⟨zFl_28, List.forall_mem_cons.mpr ⟨zFl_29, List.forall_mem_cons.mpr ⟨zFl_30, List.forall_mem_cons.mpr ⟨zFl_31, List.forall_mem_cons.mpr ⟨zFl_32, List.forall_mem_cons.mpr ⟨zFl_33, List.forall_mem_cons.mpr ⟨zFl_34, List.forall_mem_cons.mpr ⟨zFl_35, List.forall_mem_cons.mpr ⟨zFl_36, List.forall_mem_cons.mpr ⟨zFl_37, List.forall_mem_cons.mpr ⟨zFl_38, List.forall_mem_cons.mpr ⟨zFl_39, List.forall_mem_cons.mpr ⟨zFl_40, List.forall_mem_cons.mpr ⟨zFl_41, List.forall_mem_cons.mpr ⟨zFl_42, List.forall_mem_cons.mpr ⟨zFl_43, List.forall_mem_cons.mpr ⟨zFl_44, List.forall_mem_cons.mpr ⟨zFl_45, List.forall_mem_cons.mpr ⟨zFl_46, List.forall_mem_cons.mpr ⟨zFl_47, List.forall_mem_cons.mpr ⟨zFl_48, List.forall_mem_cons.mpr ⟨zFl_49, List.forall_mem_cons.mpr ⟨zFl_50, List.forall_mem_cons.mpr ⟨zFl_51, List.forall_mem_cons.mpr ⟨zFl_52, List.forall_mem_cons.mpr ⟨zFl_53, List.forall_mem_cons.mpr ⟨zFl_54, List.forall_mem_cons.mpr ⟨zFl_55, List.forall_mem_cons.mpr ⟨zFl_56, List.forall_mem_cons.mpr ⟨zFl_57, List.forall_mem_cons.mpr ⟨zFl_58, List.forall_mem_cons.mpr ⟨zFl_59, List.forall_mem_cons.mpr ⟨zFl_60, List.forall_mem_cons.mpr ⟨zFl_61, List.forall_mem_cons.mpr ⟨zFl_62, List.forall_mem_cons.mpr ⟨zFl_63, List.forall_mem_cons.mpr ⟨zFl_64, List.forall_mem_cons.mpr ⟨zFl_65, List.forall_mem_cons.mpr ⟨zFl_66, List.forall_mem_cons.mpr ⟨zFl_67, List.forall_mem_cons.mpr ⟨zFl_68, List.forall_mem_cons.mpr ⟨zFl_69, List.forall_mem_cons.mpr ⟨zFl_70, fun _ h => absurd h List.not_mem_nil⟩⟩⟩⟩⟩⟩⟩⟩⟩⟩⟩⟩⟩⟩⟩⟩⟩⟩⟩⟩⟩⟩⟩⟩⟩⟩⟩⟩⟩⟩⟩⟩⟩⟩⟩⟩⟩⟩⟩⟩⟩⟩⟩⟩⟩⟩⟩⟩⟩⟩⟩⟩⟩⟩⟩⟩⟩⟩⟩⟩⟩⟩⟩⟩⟩⟩⟩⟩⟩⟩⟩
/-! ===== statics ===== -/
def zsts : List (String × String × String) := [("TesseraHall", "SHOWN", "[I"), ("TesseraHall", "DARK_AT", "[I"), ("java/lang/String", "COMPACT_STRINGS", "Z"), ("java/util/ArrayList", "DEFAULTCAPACITY_EMPTY_ELEMENTDATA", "[Ljava/lang/Object;")]
def zSok (e : (Nat × Nat) × Nat) : Prop := ∃ (own C n d : String), zon[e.1.1]? = some own ∧ zsts[e.2]? = some (C, n, d) ∧ (Jvm.Cond.fieldLink own e.1.2 C n d ∈ zWS ∨ ∃ host, Jvm.Cond.fieldLinkNest own e.1.2 C n d host ∈ zXW)
def zSl : List ((Nat × Nat) × Nat) := [((0, 199), 0),
  ((1, 70), 1),
  ((2, 97), 1),
  ((8, 18), 2),
  ((14, 38), 2),
  ((16, 39), 3)]
set_option maxRecDepth 20000 in
theorem zSl_0 : zSok (((0, 199), 0)) := ⟨_, _, _, _, rfl, rfl, .inl (zw (zin1 (List.mem_of_getElem? (i := 72) rfl)) rfl)⟩
set_option maxRecDepth 20000 in
theorem zSl_1 : zSok (((1, 70), 1)) := ⟨_, _, _, _, rfl, rfl, .inr ⟨_, (zx (zin2 (List.mem_of_getElem? (i := 48) rfl)) rfl)⟩⟩
set_option maxRecDepth 20000 in
theorem zSl_2 : zSok (((2, 97), 1)) := ⟨_, _, _, _, rfl, rfl, .inr ⟨_, (zx (zin2 (List.mem_of_getElem? (i := 100) rfl)) rfl)⟩⟩
set_option maxRecDepth 20000 in
theorem zSl_3 : zSok (((8, 18), 2)) := ⟨_, _, _, _, rfl, rfl, .inl (zw (zin4 (List.mem_of_getElem? (i := 16) rfl)) rfl)⟩
set_option maxRecDepth 20000 in
theorem zSl_4 : zSok (((14, 38), 2)) := ⟨_, _, _, _, rfl, rfl, .inl (zw (zin4 (List.mem_of_getElem? (i := 231) rfl)) rfl)⟩
set_option maxRecDepth 20000 in
theorem zSl_5 : zSok (((16, 39), 3)) := ⟨_, _, _, _, rfl, rfl, .inl (zw (zin5 (List.mem_of_getElem? (i := 93) rfl)) rfl)⟩
theorem zSl_ok : ∀ e ∈ zSl, zSok e := List.forall_mem_cons.mpr ⟨zSl_0, List.forall_mem_cons.mpr ⟨zSl_1, List.forall_mem_cons.mpr ⟨zSl_2, List.forall_mem_cons.mpr ⟨zSl_3, List.forall_mem_cons.mpr ⟨zSl_4, List.forall_mem_cons.mpr ⟨zSl_5, fun _ h => absurd h List.not_mem_nil⟩⟩⟩⟩⟩⟩
/-! ===== new, anewarray, multianewarray, checkcast ===== -/
def zNok (e : (Nat × Nat) × Nat) : Prop := ∃ (own : String) (r : vw_C), zon[e.1.1]? = some own ∧ zcl[e.2]? = some r ∧ Jvm.Cond.classLink own e.1.2 r.1 ∈ zWS
def zNl : List ((Nat × Nat) × Nat) := [((0, 15), 1),
  ((0, 24), 2),
  ((2, 18), 1),
  ((0, 9), 4),
  ((6, 9), 2),
  ((6, 25), 1),
  ((0, 221), 5),
  ((7, 18), 6),
  ((11, 45), 5),
  ((15, 7), 8),
  ((15, 42), 9),
  ((19, 9), 8),
  ((15, 105), 10),
  ((19, 13), 9),
  ((15, 180), 5),
  ((5, 8), 0),
  ((5, 114), 7),
  ((5, 14), 3)]
set_option maxRecDepth 20000 in
theorem zNl_0 : zNok (((0, 15), 1)) := ⟨_, _, rfl, rfl, (zw (zin1 (List.mem_of_getElem? (i := 43) rfl)) rfl)⟩
set_option maxRecDepth 20000 in
theorem zNl_1 : zNok (((0, 24), 2)) := ⟨_, _, rfl, rfl, (zw (zin1 (List.mem_of_getElem? (i := 96) rfl)) rfl)⟩
set_option maxRecDepth 20000 in
theorem zNl_2 : zNok (((2, 18), 1)) := ⟨_, _, rfl, rfl, (zw (zin1 (List.mem_of_getElem? (i := 102) rfl)) rfl)⟩
set_option maxRecDepth 20000 in
theorem zNl_3 : zNok (((0, 9), 4)) := ⟨_, _, rfl, rfl, (zw (zin1 (List.mem_of_getElem? (i := 41) rfl)) rfl)⟩
set_option maxRecDepth 20000 in
theorem zNl_4 : zNok (((6, 9), 2)) := ⟨_, _, rfl, rfl, (zw (zin3 (List.mem_of_getElem? (i := 56) rfl)) rfl)⟩
set_option maxRecDepth 20000 in
theorem zNl_5 : zNok (((6, 25), 1)) := ⟨_, _, rfl, rfl, (zw (zin3 (List.mem_of_getElem? (i := 58) rfl)) rfl)⟩
set_option maxRecDepth 20000 in
theorem zNl_6 : zNok (((0, 221), 5)) := ⟨_, _, rfl, rfl, (zw (zin4 (List.mem_of_getElem? (i := 7) rfl)) rfl)⟩
set_option maxRecDepth 20000 in
theorem zNl_7 : zNok (((7, 18), 6)) := ⟨_, _, rfl, rfl, (zw (zin4 (List.mem_of_getElem? (i := 139) rfl)) rfl)⟩
set_option maxRecDepth 20000 in
theorem zNl_8 : zNok (((11, 45), 5)) := ⟨_, _, rfl, rfl, (zw (zin4 (List.mem_of_getElem? (i := 172) rfl)) rfl)⟩
set_option maxRecDepth 20000 in
theorem zNl_9 : zNok (((15, 7), 8)) := ⟨_, _, rfl, rfl, (zw (zin5 (List.mem_of_getElem? (i := 81) rfl)) rfl)⟩
set_option maxRecDepth 20000 in
theorem zNl_10 : zNok (((15, 42), 9)) := ⟨_, _, rfl, rfl, (zw (zin5 (List.mem_of_getElem? (i := 138) rfl)) rfl)⟩
set_option maxRecDepth 20000 in
theorem zNl_11 : zNok (((19, 9), 8)) := ⟨_, _, rfl, rfl, (zw (zin5 (List.mem_of_getElem? (i := 144) rfl)) rfl)⟩
set_option maxRecDepth 20000 in
theorem zNl_12 : zNok (((15, 105), 10)) := ⟨_, _, rfl, rfl, (zw (zin6 (List.mem_of_getElem? (i := 127) rfl)) rfl)⟩
set_option maxRecDepth 20000 in
theorem zNl_13 : zNok (((19, 13), 9)) := ⟨_, _, rfl, rfl, (zw (zin6 (List.mem_of_getElem? (i := 179) rfl)) rfl)⟩
set_option maxRecDepth 20000 in
theorem zNl_14 : zNok (((15, 180), 5)) := ⟨_, _, rfl, rfl, (zw (zin7 (List.mem_of_getElem? (i := 10) rfl)) rfl)⟩
set_option maxRecDepth 20000 in
theorem zNl_15 : zNok (((5, 8), 0)) := ⟨_, _, rfl, rfl, (zw (zin1 (List.mem_of_getElem? (i := 33) rfl)) rfl)⟩
set_option maxRecDepth 20000 in
theorem zNl_16 : zNok (((5, 114), 7)) := ⟨_, _, rfl, rfl, (zw (zin5 (List.mem_of_getElem? (i := 75) rfl)) rfl)⟩
set_option maxRecDepth 20000 in
theorem zNl_17 : zNok (((5, 14), 3)) := ⟨_, _, rfl, rfl, (zw (zin3 (List.mem_of_getElem? (i := 9) rfl)) rfl)⟩
theorem zNl_ok : ∀ e ∈ zNl, zNok e := List.forall_mem_cons.mpr ⟨zNl_0, List.forall_mem_cons.mpr ⟨zNl_1, List.forall_mem_cons.mpr ⟨zNl_2, List.forall_mem_cons.mpr ⟨zNl_3, List.forall_mem_cons.mpr ⟨zNl_4, List.forall_mem_cons.mpr ⟨zNl_5, List.forall_mem_cons.mpr ⟨zNl_6, List.forall_mem_cons.mpr ⟨zNl_7, List.forall_mem_cons.mpr ⟨zNl_8, List.forall_mem_cons.mpr ⟨zNl_9, List.forall_mem_cons.mpr ⟨zNl_10, List.forall_mem_cons.mpr ⟨zNl_11, List.forall_mem_cons.mpr ⟨zNl_12, List.forall_mem_cons.mpr ⟨zNl_13, List.forall_mem_cons.mpr ⟨zNl_14, List.forall_mem_cons.mpr ⟨zNl_15, List.forall_mem_cons.mpr ⟨zNl_16, List.forall_mem_cons.mpr ⟨zNl_17, fun _ h => absurd h List.not_mem_nil⟩⟩⟩⟩⟩⟩⟩⟩⟩⟩⟩⟩⟩⟩⟩⟩⟩⟩
def zAok (e : (Nat × Nat) × Nat) : Prop := ∃ (own : String) (ty : FieldType), zon[e.1.1]? = some own ∧ zar[e.2]? = some ty ∧ ((∃ C, ty = .object C ∧ Jvm.Cond.classLink own e.1.2 C ∈ zWS ∧ Jvm.Cond.arrayOver ty ∈ zXW) ∨ ∃ t, ty = .array t ∧ Jvm.Cond.classLink own e.1.2 ty.toString ∈ zWS ∧ Jvm.Cond.arrayOver ty ∈ zXW)
def zAl : List ((Nat × Nat) × Nat) := [((0, 9), 4),
  ((16, 7), 5),
  ((19, 96), 2)]
set_option maxRecDepth 20000 in
theorem zAl_0 : zAok (((0, 9), 4)) := ⟨_, _, rfl, rfl, .inl ⟨_, rfl, (zw (zin1 (List.mem_of_getElem? (i := 41) rfl)) rfl), (zx (zin1 (List.mem_of_getElem? (i := 42) rfl)) rfl)⟩⟩
set_option maxRecDepth 20000 in
theorem zAl_1 : zAok (((16, 7), 5)) := ⟨_, _, rfl, rfl, .inl ⟨_, rfl, (zw (zin5 (List.mem_of_getElem? (i := 233) rfl)) rfl), (zx (zin5 (List.mem_of_getElem? (i := 230) rfl)) rfl)⟩⟩
set_option maxRecDepth 20000 in
theorem zAl_2 : zAok (((19, 96), 2)) := ⟨_, _, rfl, rfl, .inr ⟨_, rfl, (zw (zin6 (List.mem_of_getElem? (i := 89) rfl)) rfl), (zx (zin5 (List.mem_of_getElem? (i := 155) rfl)) rfl)⟩⟩
theorem zAl_ok : ∀ e ∈ zAl, zAok e := List.forall_mem_cons.mpr ⟨zAl_0, List.forall_mem_cons.mpr ⟨zAl_1, List.forall_mem_cons.mpr ⟨zAl_2, fun _ h => absurd h List.not_mem_nil⟩⟩⟩
def zGok (e : (Nat × Nat) × Nat) : Prop := ∃ (own : String), zon[e.1.1]? = some own ∧ (e.2 = 2 ∧ Jvm.Cond.classLink own e.1.2 "[[I" ∈ zWS ∨ e.2 = 3 ∧ Jvm.Cond.classLink own e.1.2 "[[[I" ∈ zWS)
def zGl : List ((Nat × Nat) × Nat) := [((19, 36), 2),
  ((19, 101), 3)]
set_option maxRecDepth 20000 in
theorem zGl_0 : zGok (((19, 36), 2)) := ⟨_, rfl, .inl ⟨rfl, (zw (zin5 (List.mem_of_getElem? (i := 154) rfl)) rfl)⟩⟩
set_option maxRecDepth 20000 in
theorem zGl_1 : zGok (((19, 101), 3)) := ⟨_, rfl, .inr ⟨rfl, (zw (zin6 (List.mem_of_getElem? (i := 95) rfl)) rfl)⟩⟩
theorem zGl_ok : ∀ e ∈ zGl, zGok e := List.forall_mem_cons.mpr ⟨zGl_0, List.forall_mem_cons.mpr ⟨zGl_1, fun _ h => absurd h List.not_mem_nil⟩⟩
theorem zov1 : Jvm.Cond.arrayOver (.array .int) ∈ zXW := (zx (zin5 (List.mem_of_getElem? (i := 155) rfl)) rfl)
theorem zov2 : Jvm.Cond.arrayOver (.array (.array .int)) ∈ zXW := (zx (zin6 (List.mem_of_getElem? (i := 96) rfl)) rfl)
theorem zaci : Jvm.Cond.arrayClass .int ∈ zWS := (zw (zin1 (List.mem_of_getElem? (i := 95) rfl)) rfl)
theorem zacb : Jvm.Cond.arrayClass .byte ∈ zWS := (zw (zin1 (List.mem_of_getElem? (i := 239) rfl)) rfl)
theorem zovB : Jvm.Cond.arrayOver (.object "TesseraHall$Board") ∈ zXW := (zx (zin1 (List.mem_of_getElem? (i := 42) rfl)) rfl)
theorem zovO : Jvm.Cond.arrayOver (.object "java/lang/Object") ∈ zXW := (zx (zin5 (List.mem_of_getElem? (i := 230) rfl)) rfl)
/-- what may be laid into an array of Objects: tags -/
def zobj : List Nat := [0, 1, 2, 3, 4, 5, 6, 7, 8, 9, 10]
theorem zobj_ok : ∀ t ∈ zobj, ∃ r : vw_C, zcl[t]? = some r ∧ Jvm.Cond.castable r.1 "java/lang/Object" ∈ zXW := List.forall_mem_cons.mpr ⟨⟨_, rfl, (zx (zin7 (List.mem_of_getElem? (i := 126) rfl)) rfl)⟩, List.forall_mem_cons.mpr ⟨⟨_, rfl, (zx (zin7 (List.mem_of_getElem? (i := 127) rfl)) rfl)⟩, List.forall_mem_cons.mpr ⟨⟨_, rfl, (zx (zin7 (List.mem_of_getElem? (i := 128) rfl)) rfl)⟩, List.forall_mem_cons.mpr ⟨⟨_, rfl, (zx (zin7 (List.mem_of_getElem? (i := 131) rfl)) rfl)⟩, List.forall_mem_cons.mpr ⟨⟨_, rfl, (zx (zin7 (List.mem_of_getElem? (i := 125) rfl)) rfl)⟩, List.forall_mem_cons.mpr ⟨⟨_, rfl, (zx (zin7 (List.mem_of_getElem? (i := 137) rfl)) rfl)⟩, List.forall_mem_cons.mpr ⟨⟨_, rfl, (zx (zin7 (List.mem_of_getElem? (i := 138) rfl)) rfl)⟩, List.forall_mem_cons.mpr ⟨⟨_, rfl, (zx (zin7 (List.mem_of_getElem? (i := 129) rfl)) rfl)⟩, List.forall_mem_cons.mpr ⟨⟨_, rfl, (zx (zin7 (List.mem_of_getElem? (i := 130) rfl)) rfl)⟩, List.forall_mem_cons.mpr ⟨⟨_, rfl, (zx (zin7 (List.mem_of_getElem? (i := 134) rfl)) rfl)⟩, List.forall_mem_cons.mpr ⟨⟨_, rfl, (zx (zin7 (List.mem_of_getElem? (i := 136) rfl)) rfl)⟩, fun _ h => absurd h List.not_mem_nil⟩⟩⟩⟩⟩⟩⟩⟩⟩⟩⟩
/-! ===== constants, texts ===== -/
def zKok (e : (Nat × Nat × Nat) × Value) : Prop := ∃ (own : String), zon[e.1.1]? = some own ∧ ((∃ v, e.2 = .int v ∧ e.1.2.2 ≤ 1 ∧ Jvm.Cond.constant own e.1.2.1 v ∈ zWS) ∨ (∃ v, e.2 = .long v ∧ e.1.2.2 = 2 ∧ Jvm.Cond.constantLong own e.1.2.1 v ∈ zWS) ∨ (∃ v, e.2 = .double v ∧ e.1.2.2 = 2 ∧ Jvm.Cond.constantDouble own e.1.2.1 v ∈ zWS))
def zKl : List ((Nat × Nat × Nat) × Value) := [((0, 268, 2), .long 58319),
  ((0, 270, 2), .long 31),
  ((0, 295, 2), .double 4634204016564240384),
  ((3, 265, 1), .int 1431655765),
  ((3, 266, 1), .int 858993459),
  ((3, 267, 1), .int 252645135),
  ((0, 259, 2), .double 4602678819172646912),
  ((8, 39, 0), .int 2147483647),
  ((9, 200, 0), .int 2147483639),
  ((15, 224, 2), .double 4602678819172646912),
  ((15, 252, 2), .long 58319),
  ((15, 254, 2), .long 31),
  ((15, 256, 2), .double 4634204016564240384)]
set_option maxRecDepth 20000 in
theorem zKl_0 : zKok (((0, 268, 2), .long 58319)) := ⟨_, rfl, .inr (.inl ⟨_, rfl, rfl, (zw (zin1 (List.mem_of_getElem? (i := 163) rfl)) rfl)⟩)⟩
set_option maxRecDepth 20000 in
theorem zKl_1 : zKok (((0, 270, 2), .long 31)) := ⟨_, rfl, .inr (.inl ⟨_, rfl, rfl, (zw (zin1 (List.mem_of_getElem? (i := 164) rfl)) rfl)⟩)⟩
set_option maxRecDepth 20000 in
theorem zKl_2 : zKok (((0, 295, 2), .double 4634204016564240384)) := ⟨_, rfl, .inr (.inr ⟨_, rfl, rfl, (zw (zin2 (List.mem_of_getElem? (i := 177) rfl)) rfl)⟩)⟩
set_option maxRecDepth 20000 in
theorem zKl_3 : zKok (((3, 265, 1), .int 1431655765)) := ⟨_, rfl, .inl ⟨_, rfl, by decide, (zw (zin2 (List.mem_of_getElem? (i := 89) rfl)) rfl)⟩⟩
set_option maxRecDepth 20000 in
theorem zKl_4 : zKok (((3, 266, 1), .int 858993459)) := ⟨_, rfl, .inl ⟨_, rfl, by decide, (zw (zin2 (List.mem_of_getElem? (i := 90) rfl)) rfl)⟩⟩
set_option maxRecDepth 20000 in
theorem zKl_5 : zKok (((3, 267, 1), .int 252645135)) := ⟨_, rfl, .inl ⟨_, rfl, by decide, (zw (zin2 (List.mem_of_getElem? (i := 91) rfl)) rfl)⟩⟩
set_option maxRecDepth 20000 in
theorem zKl_6 : zKok (((0, 259, 2), .double 4602678819172646912)) := ⟨_, rfl, .inr (.inr ⟨_, rfl, rfl, (zw (zin2 (List.mem_of_getElem? (i := 217) rfl)) rfl)⟩)⟩
set_option maxRecDepth 20000 in
theorem zKl_7 : zKok (((8, 39, 0), .int 2147483647)) := ⟨_, rfl, .inl ⟨_, rfl, by decide, (zw (zin4 (List.mem_of_getElem? (i := 63) rfl)) rfl)⟩⟩
set_option maxRecDepth 20000 in
theorem zKl_8 : zKok (((9, 200, 0), .int 2147483639)) := ⟨_, rfl, .inl ⟨_, rfl, by decide, (zw (zin4 (List.mem_of_getElem? (i := 59) rfl)) rfl)⟩⟩
set_option maxRecDepth 20000 in
theorem zKl_9 : zKok (((15, 224, 2), .double 4602678819172646912)) := ⟨_, rfl, .inr (.inr ⟨_, rfl, rfl, (zw (zin7 (List.mem_of_getElem? (i := 70) rfl)) rfl)⟩)⟩
set_option maxRecDepth 20000 in
theorem zKl_10 : zKok (((15, 252, 2), .long 58319)) := ⟨_, rfl, .inr (.inl ⟨_, rfl, rfl, (zw (zin7 (List.mem_of_getElem? (i := 112) rfl)) rfl)⟩)⟩
set_option maxRecDepth 20000 in
theorem zKl_11 : zKok (((15, 254, 2), .long 31)) := ⟨_, rfl, .inr (.inl ⟨_, rfl, rfl, (zw (zin7 (List.mem_of_getElem? (i := 113) rfl)) rfl)⟩)⟩
set_option maxRecDepth 20000 in
theorem zKl_12 : zKok (((15, 256, 2), .double 4634204016564240384)) := ⟨_, rfl, .inr (.inr ⟨_, rfl, rfl, (zw (zin7 (List.mem_of_getElem? (i := 114) rfl)) rfl)⟩)⟩
theorem zKl_ok : ∀ e ∈ zKl, zKok e := List.forall_mem_cons.mpr ⟨zKl_0, List.forall_mem_cons.mpr ⟨zKl_1, List.forall_mem_cons.mpr ⟨zKl_2, List.forall_mem_cons.mpr ⟨zKl_3, List.forall_mem_cons.mpr ⟨zKl_4, List.forall_mem_cons.mpr ⟨zKl_5, List.forall_mem_cons.mpr ⟨zKl_6, List.forall_mem_cons.mpr ⟨zKl_7, List.forall_mem_cons.mpr ⟨zKl_8, List.forall_mem_cons.mpr ⟨zKl_9, List.forall_mem_cons.mpr ⟨zKl_10, List.forall_mem_cons.mpr ⟨zKl_11, List.forall_mem_cons.mpr ⟨zKl_12, fun _ h => absurd h List.not_mem_nil⟩⟩⟩⟩⟩⟩⟩⟩⟩⟩⟩⟩⟩
def zstr : List (String × Nat × String) := [("TesseraHall", 319, "no such what"), ("TesseraHall", 313, "no such BOARD"), ("TesseraHall", 315, "no such CELL"), ("TesseraHall", 317, "no such LINE"), ("TesseraHall", 197, "nth is 0 or more"), ("TesseraHall", 239, "nth is 0 to 499"), ("TesseraHall", 40, "WIDE and HIGH are 2 to 5"), ("TesseraHall", 47, "there are 3 BOARDS"), ("TesseraHall", 70, "no such CLUE for this LINE"), ("TesseraHall", 321, "the CELL is not UNKNOWN"), ("TesseraHall", 123, "6 GUESSES stand"), ("TesseraHall", 129, "no GUESS stands"), ("TesseraHall", 141, "how is 0 to 2"), ("TesseraHall", 323, "a GUESS stands"), ("TesseraHall", 162, "no such row"), ("TesseraHall", 165, "no such set of places"), ("TesseraHall", 173, "a CELL is UNKNOWN"), ("TesseraHallModel", 183, "")]
def zLok (e : (Nat × Nat) × Nat) : Prop := ∃ (own tx : String), zon[e.1.1]? = some own ∧ zstr[e.2]? = some (own, e.1.2, tx)
def zLl : List ((Nat × Nat) × Nat) := [((15, 183), 17)]
set_option maxRecDepth 20000 in
theorem zLl_0 : zLok (((15, 183), 17)) := ⟨_, _, rfl, rfl⟩
theorem zLl_ok : ∀ e ∈ zLl, zLok e := List.forall_mem_cons.mpr ⟨zLl_0, fun _ h => absurd h List.not_mem_nil⟩
/-! ===== throw new E(text) ===== -/
def zexn : List String := ["java/lang/IllegalArgumentException", "java/lang/IllegalStateException", "java/lang/IndexOutOfBoundsException"]
def znm : List String := ["java/lang/RuntimeException", "java/lang/Exception"]
def zTok (e : (Nat × Nat × Nat × Nat) × Nat × Nat) : Prop := ∃ (own E tx : String), zon[e.1.1]? = some own ∧ zexn[e.2.1]? = some E ∧ zstr[e.2.2]? = some (own, e.1.2.2.1, tx) ∧ Jvm.Cond.classLink own e.1.2.1 E ∈ zWS ∧ Jvm.Cond.initialized E ∈ zWS ∧ Bundle.fit E = true ∧ (∀ w ∈ vx_atS own e.1.2.2.2 E znm, w ∈ zWS ∨ w ∈ zXW) ∧ (∀ w ∈ Jvm.Cond.classLink own e.1.2.1 E :: Jvm.Cond.initialized E :: vx_atS own e.1.2.2.2 E znm, vx_ot w = true)
theorem zgd {L : List Jvm.Cond} (a b : Jvm.Cond) (ha : vx_ot a = true) (hb : vx_ot b = true) (h : ∀ w ∈ L, vx_ot w = true) : ∀ w ∈ a :: b :: L, vx_ot w = true := List.forall_mem_cons.mpr ⟨ha, List.forall_mem_cons.mpr ⟨hb, h⟩⟩
set_option maxRecDepth 100000 in
set_option maxHeartbeats 4000000 in
theorem zot_0_42 : ∀ w ∈ vx_atS "TesseraHall" 42 "java/lang/IllegalArgumentException" znm, vx_ot w = true := by decide +kernel
set_option maxRecDepth 100000 in
set_option maxHeartbeats 4000000 in
theorem zat_0_42 : ∀ w ∈ vx_atS "TesseraHall" 42 "java/lang/IllegalArgumentException" znm, w ∈ zWS ∨ w ∈ zXW := by decide +kernel
set_option maxRecDepth 100000 in
set_option maxHeartbeats 4000000 in
theorem zot_2_164 : ∀ w ∈ vx_atS "TesseraHall" 164 "java/lang/IndexOutOfBoundsException" znm, vx_ot w = true := by decide +kernel
set_option maxRecDepth 100000 in
set_option maxHeartbeats 4000000 in
theorem zat_2_164 : ∀ w ∈ vx_atS "TesseraHall" 164 "java/lang/IndexOutOfBoundsException" znm, w ∈ zWS ∨ w ∈ zXW := by decide +kernel
set_option maxRecDepth 100000 in
set_option maxHeartbeats 4000000 in
theorem zot_1_49 : ∀ w ∈ vx_atS "TesseraHall" 49 "java/lang/IllegalStateException" znm, vx_ot w = true := by decide +kernel
set_option maxRecDepth 100000 in
set_option maxHeartbeats 4000000 in
theorem zat_1_49 : ∀ w ∈ vx_atS "TesseraHall" 49 "java/lang/IllegalStateException" znm, w ∈ zWS ∨ w ∈ zXW := by decide +kernel
def zTl : List ((Nat × Nat × Nat × Nat) × Nat × Nat) := [((0, 38, 319, 42), 0, 0),
  ((0, 160, 313, 164), 2, 1),
  ((0, 160, 315, 164), 2, 2),
  ((0, 160, 317, 164), 2, 3),
  ((0, 38, 197, 42), 0, 4),
  ((0, 38, 239, 42), 0, 5),
  ((0, 38, 40, 42), 0, 6),
  ((0, 45, 47, 49), 1, 7),
  ((0, 38, 70, 42), 0, 8),
  ((0, 45, 321, 49), 1, 9),
  ((0, 45, 123, 49), 1, 10),
  ((0, 45, 129, 49), 1, 11),
  ((0, 38, 141, 42), 0, 12),
  ((0, 45, 323, 49), 1, 13),
  ((0, 160, 162, 164), 2, 14),
  ((0, 38, 165, 42), 0, 15),
  ((0, 45, 173, 49), 1, 16)]
set_option maxRecDepth 20000 in
theorem zTl_0 : zTok (((0, 38, 319, 42), 0, 0)) := ⟨"TesseraHall", "java/lang/IllegalArgumentException", _, rfl, rfl, rfl, (zw (zin1 (List.mem_of_getElem? (i := 172) rfl)) rfl), (zw (zin1 (List.mem_of_getElem? (i := 12) rfl)) rfl), by decide +kernel, zat_0_42, zgd _ _ (by decide +kernel) (by decide +kernel) (zot_0_42)⟩
set_option maxRecDepth 20000 in
theorem zTl_1 : zTok (((0, 160, 313, 164), 2, 1)) := ⟨"TesseraHall", "java/lang/IndexOutOfBoundsException", _, rfl, rfl, rfl, (zw (zin2 (List.mem_of_getElem? (i := 4) rfl)) rfl), (zw (zin1 (List.mem_of_getElem? (i := 20) rfl)) rfl), by decide +kernel, zat_2_164, zgd _ _ (by decide +kernel) (by decide +kernel) (zot_2_164)⟩
set_option maxRecDepth 20000 in
theorem zTl_2 : zTok (((0, 160, 315, 164), 2, 2)) := ⟨"TesseraHall", "java/lang/IndexOutOfBoundsException", _, rfl, rfl, rfl, (zw (zin2 (List.mem_of_getElem? (i := 4) rfl)) rfl), (zw (zin1 (List.mem_of_getElem? (i := 20) rfl)) rfl), by decide +kernel, zat_2_164, zgd _ _ (by decide +kernel) (by decide +kernel) (zot_2_164)⟩
set_option maxRecDepth 20000 in
theorem zTl_3 : zTok (((0, 160, 317, 164), 2, 3)) := ⟨"TesseraHall", "java/lang/IndexOutOfBoundsException", _, rfl, rfl, rfl, (zw (zin2 (List.mem_of_getElem? (i := 4) rfl)) rfl), (zw (zin1 (List.mem_of_getElem? (i := 20) rfl)) rfl), by decide +kernel, zat_2_164, zgd _ _ (by decide +kernel) (by decide +kernel) (zot_2_164)⟩
set_option maxRecDepth 20000 in
theorem zTl_4 : zTok (((0, 38, 197, 42), 0, 4)) := ⟨"TesseraHall", "java/lang/IllegalArgumentException", _, rfl, rfl, rfl, (zw (zin1 (List.mem_of_getElem? (i := 172) rfl)) rfl), (zw (zin1 (List.mem_of_getElem? (i := 12) rfl)) rfl), by decide +kernel, zat_0_42, zgd _ _ (by decide +kernel) (by decide +kernel) (zot_0_42)⟩
set_option maxRecDepth 20000 in
theorem zTl_5 : zTok (((0, 38, 239, 42), 0, 5)) := ⟨"TesseraHall", "java/lang/IllegalArgumentException", _, rfl, rfl, rfl, (zw (zin1 (List.mem_of_getElem? (i := 172) rfl)) rfl), (zw (zin1 (List.mem_of_getElem? (i := 12) rfl)) rfl), by decide +kernel, zat_0_42, zgd _ _ (by decide +kernel) (by decide +kernel) (zot_0_42)⟩
set_option maxRecDepth 20000 in
theorem zTl_6 : zTok (((0, 38, 40, 42), 0, 6)) := ⟨"TesseraHall", "java/lang/IllegalArgumentException", _, rfl, rfl, rfl, (zw (zin1 (List.mem_of_getElem? (i := 172) rfl)) rfl), (zw (zin1 (List.mem_of_getElem? (i := 12) rfl)) rfl), by decide +kernel, zat_0_42, zgd _ _ (by decide +kernel) (by decide +kernel) (zot_0_42)⟩
set_option maxRecDepth 20000 in
theorem zTl_7 : zTok (((0, 45, 47, 49), 1, 7)) := ⟨"TesseraHall", "java/lang/IllegalStateException", _, rfl, rfl, rfl, (zw (zin3 (List.mem_of_getElem? (i := 35) rfl)) rfl), (zw (zin1 (List.mem_of_getElem? (i := 13) rfl)) rfl), by decide +kernel, zat_1_49, zgd _ _ (by decide +kernel) (by decide +kernel) (zot_1_49)⟩
set_option maxRecDepth 20000 in
theorem zTl_8 : zTok (((0, 38, 70, 42), 0, 8)) := ⟨"TesseraHall", "java/lang/IllegalArgumentException", _, rfl, rfl, rfl, (zw (zin1 (List.mem_of_getElem? (i := 172) rfl)) rfl), (zw (zin1 (List.mem_of_getElem? (i := 12) rfl)) rfl), by decide +kernel, zat_0_42, zgd _ _ (by decide +kernel) (by decide +kernel) (zot_0_42)⟩
set_option maxRecDepth 20000 in
theorem zTl_9 : zTok (((0, 45, 321, 49), 1, 9)) := ⟨"TesseraHall", "java/lang/IllegalStateException", _, rfl, rfl, rfl, (zw (zin3 (List.mem_of_getElem? (i := 35) rfl)) rfl), (zw (zin1 (List.mem_of_getElem? (i := 13) rfl)) rfl), by decide +kernel, zat_1_49, zgd _ _ (by decide +kernel) (by decide +kernel) (zot_1_49)⟩
set_option maxRecDepth 20000 in
theorem zTl_10 : zTok (((0, 45, 123, 49), 1, 10)) := ⟨"TesseraHall", "java/lang/IllegalStateException", _, rfl, rfl, rfl, (zw (zin3 (List.mem_of_getElem? (i := 35) rfl)) rfl), (zw (zin1 (List.mem_of_getElem? (i := 13) rfl)) rfl), by decide +kernel, zat_1_49, zgd _ _ (by decide +kernel) (by decide +kernel) (zot_1_49)⟩
set_option maxRecDepth 20000 in
theorem zTl_11 : zTok (((0, 45, 129, 49), 1, 11)) := ⟨"TesseraHall", "java/lang/IllegalStateException", _, rfl, rfl, rfl, (zw (zin3 (List.mem_of_getElem? (i := 35) rfl)) rfl), (zw (zin1 (List.mem_of_getElem? (i := 13) rfl)) rfl), by decide +kernel, zat_1_49, zgd _ _ (by decide +kernel) (by decide +kernel) (zot_1_49)⟩
set_option maxRecDepth 20000 in
theorem zTl_12 : zTok (((0, 38, 141, 42), 0, 12)) := ⟨"TesseraHall", "java/lang/IllegalArgumentException", _, rfl, rfl, rfl, (zw (zin1 (List.mem_of_getElem? (i := 172) rfl)) rfl), (zw (zin1 (List.mem_of_getElem? (i := 12) rfl)) rfl), by decide +kernel, zat_0_42, zgd _ _ (by decide +kernel) (by decide +kernel) (zot_0_42)⟩
set_option maxRecDepth 20000 in
theorem zTl_13 : zTok (((0, 45, 323, 49), 1, 13)) := ⟨"TesseraHall", "java/lang/IllegalStateException", _, rfl, rfl, rfl, (zw (zin3 (List.mem_of_getElem? (i := 35) rfl)) rfl), (zw (zin1 (List.mem_of_getElem? (i := 13) rfl)) rfl), by decide +kernel, zat_1_49, zgd _ _ (by decide +kernel) (by decide +kernel) (zot_1_49)⟩
set_option maxRecDepth 20000 in
theorem zTl_14 : zTok (((0, 160, 162, 164), 2, 14)) := ⟨"TesseraHall", "java/lang/IndexOutOfBoundsException", _, rfl, rfl, rfl, (zw (zin2 (List.mem_of_getElem? (i := 4) rfl)) rfl), (zw (zin1 (List.mem_of_getElem? (i := 20) rfl)) rfl), by decide +kernel, zat_2_164, zgd _ _ (by decide +kernel) (by decide +kernel) (zot_2_164)⟩
set_option maxRecDepth 20000 in
theorem zTl_15 : zTok (((0, 38, 165, 42), 0, 15)) := ⟨"TesseraHall", "java/lang/IllegalArgumentException", _, rfl, rfl, rfl, (zw (zin1 (List.mem_of_getElem? (i := 172) rfl)) rfl), (zw (zin1 (List.mem_of_getElem? (i := 12) rfl)) rfl), by decide +kernel, zat_0_42, zgd _ _ (by decide +kernel) (by decide +kernel) (zot_0_42)⟩
set_option maxRecDepth 20000 in
theorem zTl_16 : zTok (((0, 45, 173, 49), 1, 16)) := ⟨"TesseraHall", "java/lang/IllegalStateException", _, rfl, rfl, rfl, (zw (zin3 (List.mem_of_getElem? (i := 35) rfl)) rfl), (zw (zin1 (List.mem_of_getElem? (i := 13) rfl)) rfl), by decide +kernel, zat_1_49, zgd _ _ (by decide +kernel) (by decide +kernel) (zot_1_49)⟩
theorem zTl_ok : ∀ e ∈ zTl, zTok e := List.forall_mem_cons.mpr ⟨zTl_0, List.forall_mem_cons.mpr ⟨zTl_1, List.forall_mem_cons.mpr ⟨zTl_2, List.forall_mem_cons.mpr ⟨zTl_3, List.forall_mem_cons.mpr ⟨zTl_4, List.forall_mem_cons.mpr ⟨zTl_5, List.forall_mem_cons.mpr ⟨zTl_6, List.forall_mem_cons.mpr ⟨zTl_7, List.forall_mem_cons.mpr ⟨zTl_8, List.forall_mem_cons.mpr ⟨zTl_9, List.forall_mem_cons.mpr ⟨zTl_10, List.forall_mem_cons.mpr ⟨zTl_11, List.forall_mem_cons.mpr ⟨zTl_12, List.forall_mem_cons.mpr ⟨zTl_13, List.forall_mem_cons.mpr ⟨zTl_14, List.forall_mem_cons.mpr ⟨zTl_15, List.forall_mem_cons.mpr ⟨zTl_16, fun _ h => absurd h List.not_mem_nil⟩⟩⟩⟩⟩⟩⟩⟩⟩⟩⟩⟩⟩⟩⟩⟩⟩
def zHt : List (Nat × Nat) := [(500019, 0), (500021, 1), (500027, 2)]
def zHok (e : (Nat × Nat) × Nat) : Prop := ∃ (own E : String), zon[e.1.1]? = some own ∧ zexn[e.2]? = some E ∧ e.1.2 ≠ 0 ∧ e.1.2 < 100000 ∧ Jvm.Cond.classLink own e.1.2 E ∈ zWS ∧ Jvm.Cond.castable E E ∈ zXW
def zHl : List ((Nat × Nat) × Nat) := [((5, 19), 0),
  ((5, 21), 1),
  ((5, 27), 2)]
set_option maxRecDepth 20000 in
theorem zHl_0 : zHok (((5, 19), 0)) := ⟨_, _, rfl, rfl, by decide, by decide, (zw (zin3 (List.mem_of_getElem? (i := 28) rfl)) rfl), (zx (zin1 (List.mem_of_getElem? (i := 174) rfl)) rfl)⟩
set_option maxRecDepth 20000 in
theorem zHl_1 : zHok (((5, 21), 1)) := ⟨_, _, rfl, rfl, by decide, by decide, (zw (zin3 (List.mem_of_getElem? (i := 29) rfl)) rfl), (zx (zin3 (List.mem_of_getElem? (i := 37) rfl)) rfl)⟩
set_option maxRecDepth 20000 in
theorem zHl_2 : zHok (((5, 27), 2)) := ⟨_, _, rfl, rfl, by decide, by decide, (zw (zin3 (List.mem_of_getElem? (i := 88) rfl)) rfl), (zx (zin2 (List.mem_of_getElem? (i := 6) rfl)) rfl)⟩
theorem zHl_ok : ∀ e ∈ zHl, zHok e := List.forall_mem_cons.mpr ⟨zHl_0, List.forall_mem_cons.mpr ⟨zHl_1, List.forall_mem_cons.mpr ⟨zHl_2, fun _ h => absurd h List.not_mem_nil⟩⟩⟩
theorem zHt_eq : zHt = zHl.map (fun e => (e.1.1 * 100000 + e.1.2, e.2)) := rfl
/-! ===== calls: (owner, entry, kind) to (method, arguments, tag of the receiver) ===== -/
abbrev zVe : Type := (Nat × Nat × Nat) × Nat × Nat × Nat
def zVok (e : zVe) : Prop := ∃ (own : String) (r : zMd), zon[e.1.1]? = some own ∧ zmd e.2.1 = some r ∧ e.2.1 < 237 ∧
  match e.1.2.2 with
  | 0 => r.2.2.2.2.2.2 = [] ∧ (parseMethodDescriptor r.1.desc).map (fun d => d.parameters.length) = some e.2.2.1 ∧ ∃ c : vw_C, zcl[e.2.2.2]? = some c ∧ Jvm.Cond.methodLink own e.1.2.1 r.1 ∈ zWS ∧ Jvm.Cond.instanceMethod r.1 ∈ zWS ∧ Jvm.Cond.selects c.1 r.1 r.1 ∈ zWS
  | 2 => r.2.2.2.2.2.2 = [] ∧ ∃ (c : vw_C) (x : MethodName) (b0 : ByteArray) (m0 : Nat) (r0 : Option FieldType), zcl[e.2.2.2]? = some c ∧ (parseMethodDescriptor x.desc).map (fun d => d.parameters.length) = some e.2.2.1 ∧ x.cls ≠ "java/lang/invoke/MethodHandle" ∧ x.cls ≠ "java/lang/invoke/VarHandle" ∧ Jvm.Cond.methodLink own e.1.2.1 x ∈ zWS ∧ Jvm.Cond.instanceMethod r.1 ∈ zWS ∧ Jvm.Cond.selects c.1 x r.1 ∈ zWS ∧ Jvm.Cond.sameMethod x.cls x.cls x.name x.desc ∈ zWS ∧ Jvm.Cond.instanceMethod x ∈ zWS ∧ Jvm.Cond.code x b0 m0 r0 ∈ zWS
  | 3 => r.2.2.2.2.2.2 = [] ∧ (parseMethodDescriptor r.1.desc).map (fun d => d.parameters.length) = some e.2.2.1 ∧ Jvm.Cond.methodLink own e.1.2.1 r.1 ∈ zWS ∧ Jvm.Cond.static r.1 ∈ zWS
  | 4 => r.2.2.2.2.2.2 = [] ∧ (parseMethodDescriptor r.1.desc).map (fun d => d.parameters.length) = some e.2.2.1 ∧ (∃ host, Jvm.Cond.methodLinkNest own e.1.2.1 r.1 host ∈ zXW) ∧ Jvm.Cond.static r.1 ∈ zWS
  | 5 => r.2.2.2.2.2.2 = [] ∧ (parseMethodDescriptor r.1.desc).map (fun d => d.parameters.length) = some e.2.2.1 ∧ r.1.name = "<init>" ∧ r.2.2.2.1 = none ∧ Jvm.Cond.methodLink own e.1.2.1 r.1 ∈ zWS ∧ Jvm.Cond.instanceMethod r.1 ∈ zWS
  | 6 => r.2.2.2.2.2.2 = [] ∧ (parseMethodDescriptor r.1.desc).map (fun d => d.parameters.length) = some e.2.2.1 ∧ r.1.name = "<init>" ∧ r.2.2.2.1 = none ∧ (∃ host, Jvm.Cond.methodLinkNest own e.1.2.1 r.1 host ∈ zXW) ∧ Jvm.Cond.instanceMethod r.1 ∈ zWS
  | 7 => r.2.2.2.2.2.2 = [] ∧ (parseMethodDescriptor r.1.desc).map (fun d => d.parameters.length) = some e.2.2.1 ∧ r.1.name ≠ "<init>" ∧ ∃ c : vw_C, zcl[e.2.2.2]? = some c ∧ c.1 = own ∧ Jvm.Cond.methodLink own e.1.2.1 r.1 ∈ zWS ∧ Jvm.Cond.sameMethod r.1.cls r.1.cls r.1.name r.1.desc ∈ zWS ∧ Jvm.Cond.superclass own r.1.cls ∈ zWS ∧ Jvm.Cond.instanceMethod r.1 ∈ zWS
  | 8 => r.2.2.2.2.2.2 = [] ∧ ∃ (c : vw_C) (x : MethodName), zcl[e.2.2.2]? = some c ∧ (parseMethodDescriptor x.desc).map (fun d => d.parameters.length) = some e.2.2.1 ∧ x.cls ≠ "java/lang/invoke/MethodHandle" ∧ x.cls ≠ "java/lang/invoke/VarHandle" ∧ Jvm.Cond.methodLink own e.1.2.1 x ∈ zWS ∧ Jvm.Cond.declares x ∈ zXW ∧ Jvm.Cond.interfaceMethod x.cls x.cls x.name x.desc ∈ zXW ∧ Jvm.Cond.selects c.1 x r.1 ∈ zWS ∧ Jvm.Cond.instanceMethod r.1 ∈ zWS ∧ Jvm.Cond.publicMethod r.1 ∈ zXW ∧ Jvm.Cond.unhidden c.1 x.name x.desc ∈ zXW ∧ Jvm.Cond.castable c.1 x.cls ∈ zXW
  | 9 => r.2.2.2.2.2.2 ≠ [] ∧ (parseMethodDescriptor r.1.desc).map (fun d => d.parameters.length) = some e.2.2.1 ∧ Jvm.Cond.methodLink own e.1.2.1 r.1 ∈ zWS ∧ Jvm.Cond.static r.1 ∈ zWS
  | _ => False
def zVl0 : List (zVe) := [((0, 17, 5), 1, 2, 0),
  ((0, 26, 6), 8, 0, 0),
  ((1, 28, 0), 2, 0, 1),
  ((1, 31, 0), 4, 0, 1),
  ((1, 35, 0), 5, 2, 1),
  ((1, 39, 0), 3, 5, 1),
  ((1, 43, 0), 6, 1, 1),
  ((1, 47, 4), 7, 2, 0),
  ((2, 20, 5), 1, 2, 0),
  ((0, 272, 0), 11, 1, 0),
  ((0, 275, 0), 17, 2, 0),
  ((0, 184, 3), 12, 2, 0),
  ((0, 51, 0), 13, 1, 0),
  ((0, 170, 0), 14, 1, 1),
  ((1, 88, 0), 15, 0, 1),
  ((1, 67, 0), 16, 1, 1),
  ((0, 279, 0), 18, 2, 0),
  ((0, 181, 0), 15, 0, 1),
  ((0, 282, 0), 39, 3, 0),
  ((0, 256, 0), 4, 0, 1),
  ((0, 286, 0), 42, 3, 0),
  ((0, 289, 0), 46, 3, 0),
  ((0, 292, 0), 47, 2, 0),
  ((0, 297, 0), 49, 2, 0),
  ((0, 301, 0), 55, 1, 0),
  ((0, 304, 0), 56, 1, 0),
  ((0, 307, 0), 58, 1, 0),
  ((0, 310, 0), 61, 2, 0),
  ((0, 206, 0), 19, 0, 1),
  ((0, 96, 0), 22, 2, 2),
  ((0, 212, 0), 35, 0, 1),
  ((0, 215, 0), 37, 0, 2),
  ((0, 218, 0), 38, 0, 1),
  ((1, 73, 0), 20, 1, 1),
  ((1, 51, 0), 21, 2, 1),
  ((2, 36, 0), 23, 2, 2),
  ((2, 48, 0), 24, 1, 1),
  ((2, 52, 0), 25, 1, 1),
  ((2, 59, 0), 20, 1, 1),
  ((2, 65, 0), 30, 1, 2),
  ((2, 69, 3), 32, 3, 0),
  ((2, 78, 0), 4, 0, 1),
  ((1, 76, 0), 26, 3, 1),
  ((1, 80, 0), 27, 5, 1),
  ((1, 83, 3), 29, 1, 0),
  ((1, 54, 4), 28, 2, 0),
  ((2, 86, 0), 31, 2, 2),
  ((2, 82, 0), 33, 1, 2),
  ((2, 90, 4), 28, 2, 0),
  ((2, 94, 0), 34, 2, 2),
  ((1, 91, 0), 36, 1, 1),
  ((0, 86, 3), 40, 2, 0),
  ((0, 187, 0), 41, 2, 1),
  ((0, 58, 3), 43, 2, 0),
  ((0, 83, 0), 36, 1, 1),
  ((0, 191, 3), 44, 1, 0),
  ((0, 75, 0), 20, 1, 1),
  ((0, 78, 3), 29, 1, 0),
  ((0, 194, 0), 45, 2, 1),
  ((0, 62, 0), 6, 1, 1)]
set_option maxRecDepth 20000 in
theorem zVl0_0 : zVok (((0, 17, 5), 1, 2, 0)) := ⟨_, _, rfl, rfl, by decide, ⟨rfl, by decide +kernel, rfl, rfl, (zw (zin1 (List.mem_of_getElem? (i := 45) rfl)) rfl), (zw (zin1 (List.mem_of_getElem? (i := 46) rfl)) rfl)⟩⟩
set_option maxRecDepth 20000 in
theorem zVl0_1 : zVok (((0, 26, 6), 8, 0, 0)) := ⟨_, _, rfl, rfl, by decide, ⟨rfl, by decide +kernel, rfl, rfl, ⟨_, (zx (zin1 (List.mem_of_getElem? (i := 98) rfl)) rfl)⟩, (zw (zin1 (List.mem_of_getElem? (i := 99) rfl)) rfl)⟩⟩
set_option maxRecDepth 20000 in
theorem zVl0_2 : zVok (((1, 28, 0), 2, 0, 1)) := ⟨_, _, rfl, rfl, by decide, ⟨rfl, by decide +kernel, _, rfl, (zw (zin1 (List.mem_of_getElem? (i := 49) rfl)) rfl), (zw (zin1 (List.mem_of_getElem? (i := 50) rfl)) rfl), (zw (zin1 (List.mem_of_getElem? (i := 51) rfl)) rfl)⟩⟩
set_option maxRecDepth 20000 in
theorem zVl0_3 : zVok (((1, 31, 0), 4, 0, 1)) := ⟨_, _, rfl, rfl, by decide, ⟨rfl, by decide +kernel, _, rfl, (zw (zin1 (List.mem_of_getElem? (i := 57) rfl)) rfl), (zw (zin1 (List.mem_of_getElem? (i := 58) rfl)) rfl), (zw (zin1 (List.mem_of_getElem? (i := 59) rfl)) rfl)⟩⟩
set_option maxRecDepth 20000 in
theorem zVl0_4 : zVok (((1, 35, 0), 5, 2, 1)) := ⟨_, _, rfl, rfl, by decide, ⟨rfl, by decide +kernel, _, rfl, (zw (zin1 (List.mem_of_getElem? (i := 61) rfl)) rfl), (zw (zin1 (List.mem_of_getElem? (i := 62) rfl)) rfl), (zw (zin1 (List.mem_of_getElem? (i := 63) rfl)) rfl)⟩⟩
set_option maxRecDepth 20000 in
theorem zVl0_5 : zVok (((1, 39, 0), 3, 5, 1)) := ⟨_, _, rfl, rfl, by decide, ⟨rfl, by decide +kernel, _, rfl, (zw (zin1 (List.mem_of_getElem? (i := 53) rfl)) rfl), (zw (zin1 (List.mem_of_getElem? (i := 54) rfl)) rfl), (zw (zin1 (List.mem_of_getElem? (i := 55) rfl)) rfl)⟩⟩
set_option maxRecDepth 20000 in
theorem zVl0_6 : zVok (((1, 43, 0), 6, 1, 1)) := ⟨_, _, rfl, rfl, by decide, ⟨rfl, by decide +kernel, _, rfl, (zw (zin1 (List.mem_of_getElem? (i := 65) rfl)) rfl), (zw (zin1 (List.mem_of_getElem? (i := 66) rfl)) rfl), (zw (zin1 (List.mem_of_getElem? (i := 67) rfl)) rfl)⟩⟩
set_option maxRecDepth 20000 in
theorem zVl0_7 : zVok (((1, 47, 4), 7, 2, 0)) := ⟨_, _, rfl, rfl, by decide, ⟨rfl, by decide +kernel, ⟨_, (zx (zin1 (List.mem_of_getElem? (i := 69) rfl)) rfl)⟩, (zw (zin1 (List.mem_of_getElem? (i := 70) rfl)) rfl)⟩⟩
set_option maxRecDepth 20000 in
theorem zVl0_8 : zVok (((2, 20, 5), 1, 2, 0)) := ⟨_, _, rfl, rfl, by decide, ⟨rfl, by decide +kernel, rfl, rfl, (zw (zin1 (List.mem_of_getElem? (i := 103) rfl)) rfl), (zw (zin1 (List.mem_of_getElem? (i := 46) rfl)) rfl)⟩⟩
set_option maxRecDepth 20000 in
theorem zVl0_9 : zVok (((0, 272, 0), 11, 1, 0)) := ⟨_, _, rfl, rfl, by decide, ⟨rfl, by decide +kernel, _, rfl, (zw (zin1 (List.mem_of_getElem? (i := 165) rfl)) rfl), (zw (zin1 (List.mem_of_getElem? (i := 166) rfl)) rfl), (zw (zin1 (List.mem_of_getElem? (i := 167) rfl)) rfl)⟩⟩
set_option maxRecDepth 20000 in
theorem zVl0_10 : zVok (((0, 275, 0), 17, 2, 0)) := ⟨_, _, rfl, rfl, by decide, ⟨rfl, by decide +kernel, _, rfl, (zw (zin2 (List.mem_of_getElem? (i := 32) rfl)) rfl), (zw (zin2 (List.mem_of_getElem? (i := 34) rfl)) rfl), (zw (zinp (List.mem_of_getElem? (i := 2) rfl)) rfl)⟩⟩
set_option maxRecDepth 20000 in
theorem zVl0_11 : zVok (((0, 184, 3), 12, 2, 0)) := ⟨_, _, rfl, rfl, by decide, ⟨rfl, by decide +kernel, (zw (zin1 (List.mem_of_getElem? (i := 169) rfl)) rfl), (zw (zin1 (List.mem_of_getElem? (i := 170) rfl)) rfl)⟩⟩
set_option maxRecDepth 20000 in
theorem zVl0_12 : zVok (((0, 51, 0), 13, 1, 0)) := ⟨_, _, rfl, rfl, by decide, ⟨rfl, by decide +kernel, _, rfl, (zw (zin2 (List.mem_of_getElem? (i := 0) rfl)) rfl), (zw (zin2 (List.mem_of_getElem? (i := 2) rfl)) rfl), (zw (zinp (List.mem_of_getElem? (i := 1) rfl)) rfl)⟩⟩
set_option maxRecDepth 20000 in
theorem zVl0_13 : zVok (((0, 170, 0), 14, 1, 1)) := ⟨_, _, rfl, rfl, by decide, ⟨rfl, by decide +kernel, _, rfl, (zw (zin2 (List.mem_of_getElem? (i := 20) rfl)) rfl), (zw (zin2 (List.mem_of_getElem? (i := 21) rfl)) rfl), (zw (zin2 (List.mem_of_getElem? (i := 22) rfl)) rfl)⟩⟩
set_option maxRecDepth 20000 in
theorem zVl0_14 : zVok (((1, 88, 0), 15, 0, 1)) := ⟨_, _, rfl, rfl, by decide, ⟨rfl, by decide +kernel, _, rfl, (zw (zin2 (List.mem_of_getElem? (i := 24) rfl)) rfl), (zw (zin2 (List.mem_of_getElem? (i := 25) rfl)) rfl), (zw (zin2 (List.mem_of_getElem? (i := 26) rfl)) rfl)⟩⟩
set_option maxRecDepth 20000 in
theorem zVl0_15 : zVok (((1, 67, 0), 16, 1, 1)) := ⟨_, _, rfl, rfl, by decide, ⟨rfl, by decide +kernel, _, rfl, (zw (zin2 (List.mem_of_getElem? (i := 28) rfl)) rfl), (zw (zin2 (List.mem_of_getElem? (i := 29) rfl)) rfl), (zw (zin2 (List.mem_of_getElem? (i := 30) rfl)) rfl)⟩⟩
set_option maxRecDepth 20000 in
theorem zVl0_16 : zVok (((0, 279, 0), 18, 2, 0)) := ⟨_, _, rfl, rfl, by decide, ⟨rfl, by decide +kernel, _, rfl, (zw (zin2 (List.mem_of_getElem? (i := 36) rfl)) rfl), (zw (zin2 (List.mem_of_getElem? (i := 37) rfl)) rfl), (zw (zin2 (List.mem_of_getElem? (i := 38) rfl)) rfl)⟩⟩
set_option maxRecDepth 20000 in
theorem zVl0_17 : zVok (((0, 181, 0), 15, 0, 1)) := ⟨_, _, rfl, rfl, by decide, ⟨rfl, by decide +kernel, _, rfl, (zw (zin2 (List.mem_of_getElem? (i := 129) rfl)) rfl), (zw (zin2 (List.mem_of_getElem? (i := 25) rfl)) rfl), (zw (zin2 (List.mem_of_getElem? (i := 26) rfl)) rfl)⟩⟩
set_option maxRecDepth 20000 in
theorem zVl0_18 : zVok (((0, 282, 0), 39, 3, 0)) := ⟨_, _, rfl, rfl, by decide, ⟨rfl, by decide +kernel, _, rfl, (zw (zin2 (List.mem_of_getElem? (i := 130) rfl)) rfl), (zw (zin2 (List.mem_of_getElem? (i := 131) rfl)) rfl), (zw (zin2 (List.mem_of_getElem? (i := 132) rfl)) rfl)⟩⟩
set_option maxRecDepth 20000 in
theorem zVl0_19 : zVok (((0, 256, 0), 4, 0, 1)) := ⟨_, _, rfl, rfl, by decide, ⟨rfl, by decide +kernel, _, rfl, (zw (zin2 (List.mem_of_getElem? (i := 142) rfl)) rfl), (zw (zin1 (List.mem_of_getElem? (i := 58) rfl)) rfl), (zw (zin1 (List.mem_of_getElem? (i := 59) rfl)) rfl)⟩⟩
set_option maxRecDepth 20000 in
theorem zVl0_20 : zVok (((0, 286, 0), 42, 3, 0)) := ⟨_, _, rfl, rfl, by decide, ⟨rfl, by decide +kernel, _, rfl, (zw (zin2 (List.mem_of_getElem? (i := 143) rfl)) rfl), (zw (zin2 (List.mem_of_getElem? (i := 144) rfl)) rfl), (zw (zin2 (List.mem_of_getElem? (i := 145) rfl)) rfl)⟩⟩
set_option maxRecDepth 20000 in
theorem zVl0_21 : zVok (((0, 289, 0), 46, 3, 0)) := ⟨_, _, rfl, rfl, by decide, ⟨rfl, by decide +kernel, _, rfl, (zw (zin2 (List.mem_of_getElem? (i := 162) rfl)) rfl), (zw (zin2 (List.mem_of_getElem? (i := 163) rfl)) rfl), (zw (zin2 (List.mem_of_getElem? (i := 164) rfl)) rfl)⟩⟩
set_option maxRecDepth 20000 in
theorem zVl0_22 : zVok (((0, 292, 0), 47, 2, 0)) := ⟨_, _, rfl, rfl, by decide, ⟨rfl, by decide +kernel, _, rfl, (zw (zin2 (List.mem_of_getElem? (i := 168) rfl)) rfl), (zw (zin2 (List.mem_of_getElem? (i := 169) rfl)) rfl), (zw (zin2 (List.mem_of_getElem? (i := 170) rfl)) rfl)⟩⟩
set_option maxRecDepth 20000 in
theorem zVl0_23 : zVok (((0, 297, 0), 49, 2, 0)) := ⟨_, _, rfl, rfl, by decide, ⟨rfl, by decide +kernel, _, rfl, (zw (zin2 (List.mem_of_getElem? (i := 178) rfl)) rfl), (zw (zin2 (List.mem_of_getElem? (i := 179) rfl)) rfl), (zw (zin2 (List.mem_of_getElem? (i := 180) rfl)) rfl)⟩⟩
set_option maxRecDepth 20000 in
theorem zVl0_24 : zVok (((0, 301, 0), 55, 1, 0)) := ⟨_, _, rfl, rfl, by decide, ⟨rfl, by decide +kernel, _, rfl, (zw (zin2 (List.mem_of_getElem? (i := 204) rfl)) rfl), (zw (zin2 (List.mem_of_getElem? (i := 205) rfl)) rfl), (zw (zin2 (List.mem_of_getElem? (i := 206) rfl)) rfl)⟩⟩
set_option maxRecDepth 20000 in
theorem zVl0_25 : zVok (((0, 304, 0), 56, 1, 0)) := ⟨_, _, rfl, rfl, by decide, ⟨rfl, by decide +kernel, _, rfl, (zw (zin2 (List.mem_of_getElem? (i := 208) rfl)) rfl), (zw (zin2 (List.mem_of_getElem? (i := 209) rfl)) rfl), (zw (zin2 (List.mem_of_getElem? (i := 210) rfl)) rfl)⟩⟩
set_option maxRecDepth 20000 in
theorem zVl0_26 : zVok (((0, 307, 0), 58, 1, 0)) := ⟨_, _, rfl, rfl, by decide, ⟨rfl, by decide +kernel, _, rfl, (zw (zin2 (List.mem_of_getElem? (i := 218) rfl)) rfl), (zw (zin2 (List.mem_of_getElem? (i := 219) rfl)) rfl), (zw (zin2 (List.mem_of_getElem? (i := 220) rfl)) rfl)⟩⟩
set_option maxRecDepth 20000 in
theorem zVl0_27 : zVok (((0, 310, 0), 61, 2, 0)) := ⟨_, _, rfl, rfl, by decide, ⟨rfl, by decide +kernel, _, rfl, (zw (zin2 (List.mem_of_getElem? (i := 230) rfl)) rfl), (zw (zin2 (List.mem_of_getElem? (i := 231) rfl)) rfl), (zw (zin2 (List.mem_of_getElem? (i := 232) rfl)) rfl)⟩⟩
set_option maxRecDepth 20000 in
theorem zVl0_28 : zVok (((0, 206, 0), 19, 0, 1)) := ⟨_, _, rfl, rfl, by decide, ⟨rfl, by decide +kernel, _, rfl, (zw (zin2 (List.mem_of_getElem? (i := 40) rfl)) rfl), (zw (zin2 (List.mem_of_getElem? (i := 41) rfl)) rfl), (zw (zin2 (List.mem_of_getElem? (i := 42) rfl)) rfl)⟩⟩
set_option maxRecDepth 20000 in
theorem zVl0_29 : zVok (((0, 96, 0), 22, 2, 2)) := ⟨_, _, rfl, rfl, by decide, ⟨rfl, by decide +kernel, _, rfl, (zw (zin2 (List.mem_of_getElem? (i := 54) rfl)) rfl), (zw (zin2 (List.mem_of_getElem? (i := 55) rfl)) rfl), (zw (zin2 (List.mem_of_getElem? (i := 56) rfl)) rfl)⟩⟩
set_option maxRecDepth 20000 in
theorem zVl0_30 : zVok (((0, 212, 0), 35, 0, 1)) := ⟨_, _, rfl, rfl, by decide, ⟨rfl, by decide +kernel, _, rfl, (zw (zin2 (List.mem_of_getElem? (i := 113) rfl)) rfl), (zw (zin2 (List.mem_of_getElem? (i := 114) rfl)) rfl), (zw (zin2 (List.mem_of_getElem? (i := 115) rfl)) rfl)⟩⟩
set_option maxRecDepth 20000 in
theorem zVl0_31 : zVok (((0, 215, 0), 37, 0, 2)) := ⟨_, _, rfl, rfl, by decide, ⟨rfl, by decide +kernel, _, rfl, (zw (zin2 (List.mem_of_getElem? (i := 121) rfl)) rfl), (zw (zin2 (List.mem_of_getElem? (i := 122) rfl)) rfl), (zw (zin2 (List.mem_of_getElem? (i := 123) rfl)) rfl)⟩⟩
set_option maxRecDepth 20000 in
theorem zVl0_32 : zVok (((0, 218, 0), 38, 0, 1)) := ⟨_, _, rfl, rfl, by decide, ⟨rfl, by decide +kernel, _, rfl, (zw (zin2 (List.mem_of_getElem? (i := 125) rfl)) rfl), (zw (zin2 (List.mem_of_getElem? (i := 126) rfl)) rfl), (zw (zin2 (List.mem_of_getElem? (i := 127) rfl)) rfl)⟩⟩
set_option maxRecDepth 20000 in
theorem zVl0_33 : zVok (((1, 73, 0), 20, 1, 1)) := ⟨_, _, rfl, rfl, by decide, ⟨rfl, by decide +kernel, _, rfl, (zw (zin2 (List.mem_of_getElem? (i := 44) rfl)) rfl), (zw (zin2 (List.mem_of_getElem? (i := 45) rfl)) rfl), (zw (zin2 (List.mem_of_getElem? (i := 46) rfl)) rfl)⟩⟩
set_option maxRecDepth 20000 in
theorem zVl0_34 : zVok (((1, 51, 0), 21, 2, 1)) := ⟨_, _, rfl, rfl, by decide, ⟨rfl, by decide +kernel, _, rfl, (zw (zin2 (List.mem_of_getElem? (i := 50) rfl)) rfl), (zw (zin2 (List.mem_of_getElem? (i := 51) rfl)) rfl), (zw (zin2 (List.mem_of_getElem? (i := 52) rfl)) rfl)⟩⟩
set_option maxRecDepth 20000 in
theorem zVl0_35 : zVok (((2, 36, 0), 23, 2, 2)) := ⟨_, _, rfl, rfl, by decide, ⟨rfl, by decide +kernel, _, rfl, (zw (zin2 (List.mem_of_getElem? (i := 58) rfl)) rfl), (zw (zin2 (List.mem_of_getElem? (i := 60) rfl)) rfl), (zw (zinp (List.mem_of_getElem? (i := 3) rfl)) rfl)⟩⟩
set_option maxRecDepth 20000 in
theorem zVl0_36 : zVok (((2, 48, 0), 24, 1, 1)) := ⟨_, _, rfl, rfl, by decide, ⟨rfl, by decide +kernel, _, rfl, (zw (zin2 (List.mem_of_getElem? (i := 64) rfl)) rfl), (zw (zin2 (List.mem_of_getElem? (i := 65) rfl)) rfl), (zw (zin2 (List.mem_of_getElem? (i := 66) rfl)) rfl)⟩⟩
set_option maxRecDepth 20000 in
theorem zVl0_37 : zVok (((2, 52, 0), 25, 1, 1)) := ⟨_, _, rfl, rfl, by decide, ⟨rfl, by decide +kernel, _, rfl, (zw (zin2 (List.mem_of_getElem? (i := 71) rfl)) rfl), (zw (zin2 (List.mem_of_getElem? (i := 72) rfl)) rfl), (zw (zin2 (List.mem_of_getElem? (i := 73) rfl)) rfl)⟩⟩
set_option maxRecDepth 20000 in
theorem zVl0_38 : zVok (((2, 59, 0), 20, 1, 1)) := ⟨_, _, rfl, rfl, by decide, ⟨rfl, by decide +kernel, _, rfl, (zw (zin2 (List.mem_of_getElem? (i := 63) rfl)) rfl), (zw (zin2 (List.mem_of_getElem? (i := 45) rfl)) rfl), (zw (zin2 (List.mem_of_getElem? (i := 46) rfl)) rfl)⟩⟩
set_option maxRecDepth 20000 in
theorem zVl0_39 : zVok (((2, 65, 0), 30, 1, 2)) := ⟨_, _, rfl, rfl, by decide, ⟨rfl, by decide +kernel, _, rfl, (zw (zin2 (List.mem_of_getElem? (i := 92) rfl)) rfl), (zw (zin2 (List.mem_of_getElem? (i := 94) rfl)) rfl), (zw (zinp (List.mem_of_getElem? (i := 6) rfl)) rfl)⟩⟩
set_option maxRecDepth 20000 in
theorem zVl0_40 : zVok (((2, 69, 3), 32, 3, 0)) := ⟨_, _, rfl, rfl, by decide, ⟨rfl, by decide +kernel, (zw (zin2 (List.mem_of_getElem? (i := 101) rfl)) rfl), (zw (zin2 (List.mem_of_getElem? (i := 102) rfl)) rfl)⟩⟩
set_option maxRecDepth 20000 in
theorem zVl0_41 : zVok (((2, 78, 0), 4, 0, 1)) := ⟨_, _, rfl, rfl, by decide, ⟨rfl, by decide +kernel, _, rfl, (zw (zin2 (List.mem_of_getElem? (i := 62) rfl)) rfl), (zw (zin1 (List.mem_of_getElem? (i := 58) rfl)) rfl), (zw (zin1 (List.mem_of_getElem? (i := 59) rfl)) rfl)⟩⟩
set_option maxRecDepth 20000 in
theorem zVl0_42 : zVok (((1, 76, 0), 26, 3, 1)) := ⟨_, _, rfl, rfl, by decide, ⟨rfl, by decide +kernel, _, rfl, (zw (zin2 (List.mem_of_getElem? (i := 75) rfl)) rfl), (zw (zin2 (List.mem_of_getElem? (i := 77) rfl)) rfl), (zw (zinp (List.mem_of_getElem? (i := 4) rfl)) rfl)⟩⟩
set_option maxRecDepth 20000 in
theorem zVl0_43 : zVok (((1, 80, 0), 27, 5, 1)) := ⟨_, _, rfl, rfl, by decide, ⟨rfl, by decide +kernel, _, rfl, (zw (zin2 (List.mem_of_getElem? (i := 79) rfl)) rfl), (zw (zin2 (List.mem_of_getElem? (i := 81) rfl)) rfl), (zw (zinp (List.mem_of_getElem? (i := 5) rfl)) rfl)⟩⟩
set_option maxRecDepth 20000 in
theorem zVl0_44 : zVok (((1, 83, 3), 29, 1, 0)) := ⟨_, _, rfl, rfl, by decide, ⟨rfl, by decide +kernel, (zw (zin2 (List.mem_of_getElem? (i := 86) rfl)) rfl), (zw (zin2 (List.mem_of_getElem? (i := 87) rfl)) rfl)⟩⟩
set_option maxRecDepth 20000 in
theorem zVl0_45 : zVok (((1, 54, 4), 28, 2, 0)) := ⟨_, _, rfl, rfl, by decide, ⟨rfl, by decide +kernel, ⟨_, (zx (zin2 (List.mem_of_getElem? (i := 83) rfl)) rfl)⟩, (zw (zin2 (List.mem_of_getElem? (i := 84) rfl)) rfl)⟩⟩
set_option maxRecDepth 20000 in
theorem zVl0_46 : zVok (((2, 86, 0), 31, 2, 2)) := ⟨_, _, rfl, rfl, by decide, ⟨rfl, by decide +kernel, _, rfl, (zw (zin2 (List.mem_of_getElem? (i := 96) rfl)) rfl), (zw (zin2 (List.mem_of_getElem? (i := 98) rfl)) rfl), (zw (zinp (List.mem_of_getElem? (i := 7) rfl)) rfl)⟩⟩
set_option maxRecDepth 20000 in
theorem zVl0_47 : zVok (((2, 82, 0), 33, 1, 2)) := ⟨_, _, rfl, rfl, by decide, ⟨rfl, by decide +kernel, _, rfl, (zw (zin2 (List.mem_of_getElem? (i := 104) rfl)) rfl), (zw (zin2 (List.mem_of_getElem? (i := 106) rfl)) rfl), (zw (zinp (List.mem_of_getElem? (i := 8) rfl)) rfl)⟩⟩
set_option maxRecDepth 20000 in
theorem zVl0_48 : zVok (((2, 90, 4), 28, 2, 0)) := ⟨_, _, rfl, rfl, by decide, ⟨rfl, by decide +kernel, ⟨_, (zx (zin2 (List.mem_of_getElem? (i := 108) rfl)) rfl)⟩, (zw (zin2 (List.mem_of_getElem? (i := 84) rfl)) rfl)⟩⟩
set_option maxRecDepth 20000 in
theorem zVl0_49 : zVok (((2, 94, 0), 34, 2, 2)) := ⟨_, _, rfl, rfl, by decide, ⟨rfl, by decide +kernel, _, rfl, (zw (zin2 (List.mem_of_getElem? (i := 109) rfl)) rfl), (zw (zin2 (List.mem_of_getElem? (i := 111) rfl)) rfl), (zw (zinp (List.mem_of_getElem? (i := 9) rfl)) rfl)⟩⟩
set_option maxRecDepth 20000 in
theorem zVl0_50 : zVok (((1, 91, 0), 36, 1, 1)) := ⟨_, _, rfl, rfl, by decide, ⟨rfl, by decide +kernel, _, rfl, (zw (zin2 (List.mem_of_getElem? (i := 117) rfl)) rfl), (zw (zin2 (List.mem_of_getElem? (i := 118) rfl)) rfl), (zw (zin2 (List.mem_of_getElem? (i := 119) rfl)) rfl)⟩⟩
set_option maxRecDepth 20000 in
theorem zVl0_51 : zVok (((0, 86, 3), 40, 2, 0)) := ⟨_, _, rfl, rfl, by decide, ⟨rfl, by decide +kernel, (zw (zin2 (List.mem_of_getElem? (i := 134) rfl)) rfl), (zw (zin2 (List.mem_of_getElem? (i := 135) rfl)) rfl)⟩⟩
set_option maxRecDepth 20000 in
theorem zVl0_52 : zVok (((0, 187, 0), 41, 2, 1)) := ⟨_, _, rfl, rfl, by decide, ⟨rfl, by decide +kernel, _, rfl, (zw (zin2 (List.mem_of_getElem? (i := 138) rfl)) rfl), (zw (zin2 (List.mem_of_getElem? (i := 139) rfl)) rfl), (zw (zin2 (List.mem_of_getElem? (i := 140) rfl)) rfl)⟩⟩
set_option maxRecDepth 20000 in
theorem zVl0_53 : zVok (((0, 58, 3), 43, 2, 0)) := ⟨_, _, rfl, rfl, by decide, ⟨rfl, by decide +kernel, (zw (zin2 (List.mem_of_getElem? (i := 147) rfl)) rfl), (zw (zin2 (List.mem_of_getElem? (i := 148) rfl)) rfl)⟩⟩
set_option maxRecDepth 20000 in
theorem zVl0_54 : zVok (((0, 83, 0), 36, 1, 1)) := ⟨_, _, rfl, rfl, by decide, ⟨rfl, by decide +kernel, _, rfl, (zw (zin2 (List.mem_of_getElem? (i := 151) rfl)) rfl), (zw (zin2 (List.mem_of_getElem? (i := 118) rfl)) rfl), (zw (zin2 (List.mem_of_getElem? (i := 119) rfl)) rfl)⟩⟩
set_option maxRecDepth 20000 in
theorem zVl0_55 : zVok (((0, 191, 3), 44, 1, 0)) := ⟨_, _, rfl, rfl, by decide, ⟨rfl, by decide +kernel, (zw (zin2 (List.mem_of_getElem? (i := 152) rfl)) rfl), (zw (zin2 (List.mem_of_getElem? (i := 153) rfl)) rfl)⟩⟩
set_option maxRecDepth 20000 in
theorem zVl0_56 : zVok (((0, 75, 0), 20, 1, 1)) := ⟨_, _, rfl, rfl, by decide, ⟨rfl, by decide +kernel, _, rfl, (zw (zin2 (List.mem_of_getElem? (i := 155) rfl)) rfl), (zw (zin2 (List.mem_of_getElem? (i := 45) rfl)) rfl), (zw (zin2 (List.mem_of_getElem? (i := 46) rfl)) rfl)⟩⟩
set_option maxRecDepth 20000 in
theorem zVl0_57 : zVok (((0, 78, 3), 29, 1, 0)) := ⟨_, _, rfl, rfl, by decide, ⟨rfl, by decide +kernel, (zw (zin2 (List.mem_of_getElem? (i := 156) rfl)) rfl), (zw (zin2 (List.mem_of_getElem? (i := 87) rfl)) rfl)⟩⟩
set_option maxRecDepth 20000 in
theorem zVl0_58 : zVok (((0, 194, 0), 45, 2, 1)) := ⟨_, _, rfl, rfl, by decide, ⟨rfl, by decide +kernel, _, rfl, (zw (zin2 (List.mem_of_getElem? (i := 157) rfl)) rfl), (zw (zin2 (List.mem_of_getElem? (i := 158) rfl)) rfl), (zw (zin2 (List.mem_of_getElem? (i := 159) rfl)) rfl)⟩⟩
set_option maxRecDepth 20000 in
theorem zVl0_59 : zVok (((0, 62, 0), 6, 1, 1)) := ⟨_, _, rfl, rfl, by decide, ⟨rfl, by decide +kernel, _, rfl, (zw (zin2 (List.mem_of_getElem? (i := 161) rfl)) rfl), (zw (zin1 (List.mem_of_getElem? (i := 66) rfl)) rfl), (zw (zin1 (List.mem_of_getElem? (i := 67) rfl)) rfl)⟩⟩
theorem zVl0_ok : ∀ e ∈ zVl0, zVok e := List.forall_mem_cons.mpr ⟨zVl0_0, List.forall_mem_cons.mpr ⟨zVl0_1, List.forall_mem_cons.mpr ⟨zVl0_2, List.forall_mem_cons.mpr ⟨zVl0_3, List.forall_mem_cons.mpr ⟨zVl0_4, List.forall_mem_cons.mpr ⟨zVl0_5, List.forall_mem_cons.mpr ⟨zVl0_6, List.forall_mem_cons.mpr ⟨zVl0_7, List.forall_mem_cons.mpr ⟨zVl0_8, List.forall_mem_cons.mpr ⟨zVl0_9, List.forall_mem_cons.mpr ⟨zVl0_10, List.forall_mem_cons.mpr ⟨zVl0_11, List.forall_mem_cons.mpr ⟨zVl0_12, List.forall_mem_cons.mpr ⟨zVl0_13, List.forall_mem_cons.mpr ⟨zVl0_14, List.forall_mem_cons.mpr ⟨zVl0_15, List.forall_mem_cons.mpr ⟨zVl0_16, List.forall_mem_cons.mpr ⟨zVl0_17, List.forall_mem_cons.mpr ⟨zVl0_18, List.forall_mem_cons.mpr ⟨zVl0_19, List.forall_mem_cons.mpr ⟨zVl0_20, List.forall_mem_cons.mpr ⟨zVl0_21, List.forall_mem_cons.mpr ⟨zVl0_22, List.forall_mem_cons.mpr ⟨zVl0_23, List.forall_mem_cons.mpr ⟨zVl0_24, List.forall_mem_cons.mpr ⟨zVl0_25, List.forall_mem_cons.mpr ⟨zVl0_26, List.forall_mem_cons.mpr ⟨zVl0_27, List.forall_mem_cons.mpr ⟨zVl0_28, List.forall_mem_cons.mpr ⟨zVl0_29, List.forall_mem_cons.mpr ⟨zVl0_30, List.forall_mem_cons.mpr ⟨zVl0_31, List.forall_mem_cons.mpr ⟨zVl0_32, List.forall_mem_cons.mpr ⟨zVl0_33, List.forall_mem_cons.mpr ⟨zVl0_34, List.forall_mem_cons.mpr ⟨zVl0_35, List.forall_mem_cons.mpr ⟨zVl0_36, List.forall_mem_cons.mpr ⟨zVl0_37, List.forall_mem_cons.mpr ⟨zVl0_38, List.forall_mem_cons.mpr ⟨zVl0_39, List.forall_mem_cons.mpr ⟨zVl0_40, List.forall_mem_cons.mpr ⟨zVl0_41, List.forall_mem_cons.mpr ⟨zVl0_42, List.forall_mem_cons.mpr ⟨zVl0_43, List.forall_mem_cons.mpr ⟨zVl0_44, List.forall_mem_cons.mpr ⟨zVl0_45, List.forall_mem_cons.mpr ⟨zVl0_46, List.forall_mem_cons.mpr ⟨zVl0_47, List.forall_mem_cons.mpr ⟨zVl0_48, List.forall_mem_cons.mpr ⟨zVl0_49, List.forall_mem_cons.mpr ⟨zVl0_50, List.forall_mem_cons.mpr ⟨zVl0_51, List.forall_mem_cons.mpr ⟨zVl0_52, List.forall_mem_cons.mpr ⟨zVl0_53, List.forall_mem_cons.mpr ⟨zVl0_54, List.forall_mem_cons.mpr ⟨zVl0_55, List.forall_mem_cons.mpr ⟨zVl0_56, List.forall_mem_cons.mpr ⟨zVl0_57, List.forall_mem_cons.mpr ⟨zVl0_58, List.forall_mem_cons.mpr ⟨zVl0_59, fun _ h => absurd h List.not_mem_nil⟩⟩⟩⟩⟩⟩⟩⟩⟩⟩⟩⟩⟩⟩⟩⟩⟩⟩⟩⟩⟩⟩⟩⟩⟩⟩⟩⟩⟩⟩⟩⟩⟩⟩⟩⟩⟩⟩⟩⟩⟩⟩⟩⟩⟩⟩⟩⟩⟩⟩⟩⟩⟩⟩⟩⟩⟩⟩⟩⟩
def zVl1 : List (zVe) := [((0, 203, 3), 28, 2, 0),
  ((0, 241, 0), 48, 1, 2),
  ((0, 248, 0), 50, 0, 1),
  ((0, 252, 0), 52, 1, 2),
  ((1, 94, 0), 51, 1, 1),
  ((2, 106, 0), 15, 0, 1),
  ((2, 109, 0), 16, 1, 1),
  ((2, 103, 0), 53, 1, 2),
  ((2, 100, 0), 54, 0, 2),
  ((0, 135, 0), 16, 1, 1),
  ((0, 244, 0), 57, 1, 2),
  ((0, 261, 0), 59, 0, 2),
  ((2, 112, 0), 60, 1, 2),
  ((0, 264, 0), 62, 2, 1),
  ((1, 110, 0), 63, 2, 1),
  ((1, 107, 0), 64, 2, 1),
  ((1, 113, 4), 65, 1, 0),
  ((5, 7, 0), 68, 2, 0),
  ((0, 50, 5), 69, 2, 0),
  ((6, 11, 6), 8, 0, 0),
  ((6, 27, 5), 1, 2, 0),
  ((5, 23, 0), 71, 3, 0),
  ((0, 66, 3), 72, 2, 0),
  ((0, 72, 0), 5, 2, 1),
  ((5, 29, 0), 74, 2, 0),
  ((5, 32, 0), 76, 3, 0),
  ((0, 89, 3), 77, 2, 0),
  ((0, 92, 0), 78, 3, 0),
  ((0, 106, 3), 79, 1, 0),
  ((0, 113, 0), 3, 5, 1),
  ((0, 147, 0), 24, 1, 1),
  ((5, 36, 0), 81, 1, 0),
  ((0, 120, 0), 25, 1, 1),
  ((5, 40, 0), 83, 3, 0),
  ((0, 125, 0), 84, 1, 4),
  ((5, 44, 0), 86, 2, 0),
  ((0, 131, 0), 87, 0, 4),
  ((0, 138, 0), 88, 0, 4),
  ((5, 48, 0), 90, 2, 0),
  ((0, 143, 3), 91, 1, 0),
  ((0, 151, 0), 92, 2, 1),
  ((1, 103, 0), 93, 4, 1),
  ((1, 116, 0), 41, 2, 1),
  ((5, 51, 0), 95, 3, 0),
  ((0, 167, 0), 96, 2, 1),
  ((5, 54, 0), 98, 1, 0),
  ((0, 175, 0), 99, 0, 1),
  ((0, 178, 0), 2, 0, 1),
  ((1, 58, 0), 100, 1, 1),
  ((1, 61, 4), 101, 1, 0),
  ((1, 64, 4), 44, 1, 0),
  ((5, 57, 0), 103, 1, 0),
  ((5, 60, 0), 39, 3, 0),
  ((5, 63, 0), 42, 3, 0),
  ((5, 66, 0), 46, 3, 0),
  ((5, 69, 0), 18, 2, 0),
  ((5, 72, 0), 109, 1, 0),
  ((0, 223, 5), 110, 0, 0),
  ((0, 224, 0), 112, 1, 5),
  ((0, 228, 0), 21, 2, 1)]
set_option maxRecDepth 20000 in
theorem zVl1_0 : zVok (((0, 203, 3), 28, 2, 0)) := ⟨_, _, rfl, rfl, by decide, ⟨rfl, by decide +kernel, (zw (zin2 (List.mem_of_getElem? (i := 167) rfl)) rfl), (zw (zin2 (List.mem_of_getElem? (i := 84) rfl)) rfl)⟩⟩
set_option maxRecDepth 20000 in
theorem zVl1_1 : zVok (((0, 241, 0), 48, 1, 2)) := ⟨_, _, rfl, rfl, by decide, ⟨rfl, by decide +kernel, _, rfl, (zw (zin2 (List.mem_of_getElem? (i := 173) rfl)) rfl), (zw (zin2 (List.mem_of_getElem? (i := 174) rfl)) rfl), (zw (zin2 (List.mem_of_getElem? (i := 175) rfl)) rfl)⟩⟩
set_option maxRecDepth 20000 in
theorem zVl1_2 : zVok (((0, 248, 0), 50, 0, 1)) := ⟨_, _, rfl, rfl, by decide, ⟨rfl, by decide +kernel, _, rfl, (zw (zin2 (List.mem_of_getElem? (i := 182) rfl)) rfl), (zw (zin2 (List.mem_of_getElem? (i := 183) rfl)) rfl), (zw (zin2 (List.mem_of_getElem? (i := 184) rfl)) rfl)⟩⟩
set_option maxRecDepth 20000 in
theorem zVl1_3 : zVok (((0, 252, 0), 52, 1, 2)) := ⟨_, _, rfl, rfl, by decide, ⟨rfl, by decide +kernel, _, rfl, (zw (zin2 (List.mem_of_getElem? (i := 190) rfl)) rfl), (zw (zin2 (List.mem_of_getElem? (i := 191) rfl)) rfl), (zw (zin2 (List.mem_of_getElem? (i := 192) rfl)) rfl)⟩⟩
set_option maxRecDepth 20000 in
theorem zVl1_4 : zVok (((1, 94, 0), 51, 1, 1)) := ⟨_, _, rfl, rfl, by decide, ⟨rfl, by decide +kernel, _, rfl, (zw (zin2 (List.mem_of_getElem? (i := 186) rfl)) rfl), (zw (zin2 (List.mem_of_getElem? (i := 188) rfl)) rfl), (zw (zinp (List.mem_of_getElem? (i := 10) rfl)) rfl)⟩⟩
set_option maxRecDepth 20000 in
theorem zVl1_5 : zVok (((2, 106, 0), 15, 0, 1)) := ⟨_, _, rfl, rfl, by decide, ⟨rfl, by decide +kernel, _, rfl, (zw (zin2 (List.mem_of_getElem? (i := 194) rfl)) rfl), (zw (zin2 (List.mem_of_getElem? (i := 25) rfl)) rfl), (zw (zin2 (List.mem_of_getElem? (i := 26) rfl)) rfl)⟩⟩
set_option maxRecDepth 20000 in
theorem zVl1_6 : zVok (((2, 109, 0), 16, 1, 1)) := ⟨_, _, rfl, rfl, by decide, ⟨rfl, by decide +kernel, _, rfl, (zw (zin2 (List.mem_of_getElem? (i := 195) rfl)) rfl), (zw (zin2 (List.mem_of_getElem? (i := 29) rfl)) rfl), (zw (zin2 (List.mem_of_getElem? (i := 30) rfl)) rfl)⟩⟩
set_option maxRecDepth 20000 in
theorem zVl1_7 : zVok (((2, 103, 0), 53, 1, 2)) := ⟨_, _, rfl, rfl, by decide, ⟨rfl, by decide +kernel, _, rfl, (zw (zin2 (List.mem_of_getElem? (i := 196) rfl)) rfl), (zw (zin2 (List.mem_of_getElem? (i := 198) rfl)) rfl), (zw (zinp (List.mem_of_getElem? (i := 11) rfl)) rfl)⟩⟩
set_option maxRecDepth 20000 in
theorem zVl1_8 : zVok (((2, 100, 0), 54, 0, 2)) := ⟨_, _, rfl, rfl, by decide, ⟨rfl, by decide +kernel, _, rfl, (zw (zin2 (List.mem_of_getElem? (i := 200) rfl)) rfl), (zw (zin2 (List.mem_of_getElem? (i := 202) rfl)) rfl), (zw (zinp (List.mem_of_getElem? (i := 12) rfl)) rfl)⟩⟩
set_option maxRecDepth 20000 in
theorem zVl1_9 : zVok (((0, 135, 0), 16, 1, 1)) := ⟨_, _, rfl, rfl, by decide, ⟨rfl, by decide +kernel, _, rfl, (zw (zin2 (List.mem_of_getElem? (i := 212) rfl)) rfl), (zw (zin2 (List.mem_of_getElem? (i := 29) rfl)) rfl), (zw (zin2 (List.mem_of_getElem? (i := 30) rfl)) rfl)⟩⟩
set_option maxRecDepth 20000 in
theorem zVl1_10 : zVok (((0, 244, 0), 57, 1, 2)) := ⟨_, _, rfl, rfl, by decide, ⟨rfl, by decide +kernel, _, rfl, (zw (zin2 (List.mem_of_getElem? (i := 213) rfl)) rfl), (zw (zin2 (List.mem_of_getElem? (i := 214) rfl)) rfl), (zw (zin2 (List.mem_of_getElem? (i := 215) rfl)) rfl)⟩⟩
set_option maxRecDepth 20000 in
theorem zVl1_11 : zVok (((0, 261, 0), 59, 0, 2)) := ⟨_, _, rfl, rfl, by decide, ⟨rfl, by decide +kernel, _, rfl, (zw (zin2 (List.mem_of_getElem? (i := 222) rfl)) rfl), (zw (zin2 (List.mem_of_getElem? (i := 223) rfl)) rfl), (zw (zin2 (List.mem_of_getElem? (i := 224) rfl)) rfl)⟩⟩
set_option maxRecDepth 20000 in
theorem zVl1_12 : zVok (((2, 112, 0), 60, 1, 2)) := ⟨_, _, rfl, rfl, by decide, ⟨rfl, by decide +kernel, _, rfl, (zw (zin2 (List.mem_of_getElem? (i := 226) rfl)) rfl), (zw (zin2 (List.mem_of_getElem? (i := 228) rfl)) rfl), (zw (zinp (List.mem_of_getElem? (i := 13) rfl)) rfl)⟩⟩
set_option maxRecDepth 20000 in
theorem zVl1_13 : zVok (((0, 264, 0), 62, 2, 1)) := ⟨_, _, rfl, rfl, by decide, ⟨rfl, by decide +kernel, _, rfl, (zw (zin2 (List.mem_of_getElem? (i := 234) rfl)) rfl), (zw (zin2 (List.mem_of_getElem? (i := 235) rfl)) rfl), (zw (zin2 (List.mem_of_getElem? (i := 236) rfl)) rfl)⟩⟩
set_option maxRecDepth 20000 in
theorem zVl1_14 : zVok (((1, 110, 0), 63, 2, 1)) := ⟨_, _, rfl, rfl, by decide, ⟨rfl, by decide +kernel, _, rfl, (zw (zin2 (List.mem_of_getElem? (i := 238) rfl)) rfl), (zw (zin3 (List.mem_of_getElem? (i := 0) rfl)) rfl), (zw (zinp (List.mem_of_getElem? (i := 14) rfl)) rfl)⟩⟩
set_option maxRecDepth 20000 in
theorem zVl1_15 : zVok (((1, 107, 0), 64, 2, 1)) := ⟨_, _, rfl, rfl, by decide, ⟨rfl, by decide +kernel, _, rfl, (zw (zin3 (List.mem_of_getElem? (i := 2) rfl)) rfl), (zw (zin3 (List.mem_of_getElem? (i := 4) rfl)) rfl), (zw (zinp (List.mem_of_getElem? (i := 15) rfl)) rfl)⟩⟩
set_option maxRecDepth 20000 in
theorem zVl1_16 : zVok (((1, 113, 4), 65, 1, 0)) := ⟨_, _, rfl, rfl, by decide, ⟨rfl, by decide +kernel, ⟨_, (zx (zin3 (List.mem_of_getElem? (i := 6) rfl)) rfl)⟩, (zw (zin3 (List.mem_of_getElem? (i := 7) rfl)) rfl)⟩⟩
set_option maxRecDepth 20000 in
theorem zVl1_17 : zVok (((5, 7, 0), 68, 2, 0)) := ⟨_, _, rfl, rfl, by decide, ⟨rfl, by decide +kernel, _, rfl, (zw (zin3 (List.mem_of_getElem? (i := 30) rfl)) rfl), (zw (zin3 (List.mem_of_getElem? (i := 31) rfl)) rfl), (zw (zin3 (List.mem_of_getElem? (i := 32) rfl)) rfl)⟩⟩
set_option maxRecDepth 20000 in
theorem zVl1_18 : zVok (((0, 50, 5), 69, 2, 0)) := ⟨_, _, rfl, rfl, by decide, ⟨rfl, by decide +kernel, rfl, rfl, (zw (zin3 (List.mem_of_getElem? (i := 52) rfl)) rfl), (zw (zin3 (List.mem_of_getElem? (i := 53) rfl)) rfl)⟩⟩
set_option maxRecDepth 20000 in
theorem zVl1_19 : zVok (((6, 11, 6), 8, 0, 0)) := ⟨_, _, rfl, rfl, by decide, ⟨rfl, by decide +kernel, rfl, rfl, ⟨_, (zx (zin3 (List.mem_of_getElem? (i := 57) rfl)) rfl)⟩, (zw (zin1 (List.mem_of_getElem? (i := 99) rfl)) rfl)⟩⟩
set_option maxRecDepth 20000 in
theorem zVl1_20 : zVok (((6, 27, 5), 1, 2, 0)) := ⟨_, _, rfl, rfl, by decide, ⟨rfl, by decide +kernel, rfl, rfl, (zw (zin3 (List.mem_of_getElem? (i := 59) rfl)) rfl), (zw (zin1 (List.mem_of_getElem? (i := 46) rfl)) rfl)⟩⟩
set_option maxRecDepth 20000 in
theorem zVl1_21 : zVok (((5, 23, 0), 71, 3, 0)) := ⟨_, _, rfl, rfl, by decide, ⟨rfl, by decide +kernel, _, rfl, (zw (zin3 (List.mem_of_getElem? (i := 89) rfl)) rfl), (zw (zin3 (List.mem_of_getElem? (i := 90) rfl)) rfl), (zw (zin3 (List.mem_of_getElem? (i := 91) rfl)) rfl)⟩⟩
set_option maxRecDepth 20000 in
theorem zVl1_22 : zVok (((0, 66, 3), 72, 2, 0)) := ⟨_, _, rfl, rfl, by decide, ⟨rfl, by decide +kernel, (zw (zin3 (List.mem_of_getElem? (i := 93) rfl)) rfl), (zw (zin3 (List.mem_of_getElem? (i := 94) rfl)) rfl)⟩⟩
set_option maxRecDepth 20000 in
theorem zVl1_23 : zVok (((0, 72, 0), 5, 2, 1)) := ⟨_, _, rfl, rfl, by decide, ⟨rfl, by decide +kernel, _, rfl, (zw (zin3 (List.mem_of_getElem? (i := 97) rfl)) rfl), (zw (zin1 (List.mem_of_getElem? (i := 62) rfl)) rfl), (zw (zin1 (List.mem_of_getElem? (i := 63) rfl)) rfl)⟩⟩
set_option maxRecDepth 20000 in
theorem zVl1_24 : zVok (((5, 29, 0), 74, 2, 0)) := ⟨_, _, rfl, rfl, by decide, ⟨rfl, by decide +kernel, _, rfl, (zw (zin3 (List.mem_of_getElem? (i := 101) rfl)) rfl), (zw (zin3 (List.mem_of_getElem? (i := 102) rfl)) rfl), (zw (zin3 (List.mem_of_getElem? (i := 103) rfl)) rfl)⟩⟩
set_option maxRecDepth 20000 in
theorem zVl1_25 : zVok (((5, 32, 0), 76, 3, 0)) := ⟨_, _, rfl, rfl, by decide, ⟨rfl, by decide +kernel, _, rfl, (zw (zin3 (List.mem_of_getElem? (i := 108) rfl)) rfl), (zw (zin3 (List.mem_of_getElem? (i := 109) rfl)) rfl), (zw (zin3 (List.mem_of_getElem? (i := 110) rfl)) rfl)⟩⟩
set_option maxRecDepth 20000 in
theorem zVl1_26 : zVok (((0, 89, 3), 77, 2, 0)) := ⟨_, _, rfl, rfl, by decide, ⟨rfl, by decide +kernel, (zw (zin3 (List.mem_of_getElem? (i := 112) rfl)) rfl), (zw (zin3 (List.mem_of_getElem? (i := 113) rfl)) rfl)⟩⟩
set_option maxRecDepth 20000 in
theorem zVl1_27 : zVok (((0, 92, 0), 78, 3, 0)) := ⟨_, _, rfl, rfl, by decide, ⟨rfl, by decide +kernel, _, rfl, (zw (zin3 (List.mem_of_getElem? (i := 116) rfl)) rfl), (zw (zin3 (List.mem_of_getElem? (i := 118) rfl)) rfl), (zw (zinp (List.mem_of_getElem? (i := 16) rfl)) rfl)⟩⟩
set_option maxRecDepth 20000 in
theorem zVl1_28 : zVok (((0, 106, 3), 79, 1, 0)) := ⟨_, _, rfl, rfl, by decide, ⟨rfl, by decide +kernel, (zw (zin3 (List.mem_of_getElem? (i := 121) rfl)) rfl), (zw (zin3 (List.mem_of_getElem? (i := 122) rfl)) rfl)⟩⟩
set_option maxRecDepth 20000 in
theorem zVl1_29 : zVok (((0, 113, 0), 3, 5, 1)) := ⟨_, _, rfl, rfl, by decide, ⟨rfl, by decide +kernel, _, rfl, (zw (zin3 (List.mem_of_getElem? (i := 124) rfl)) rfl), (zw (zin1 (List.mem_of_getElem? (i := 54) rfl)) rfl), (zw (zin1 (List.mem_of_getElem? (i := 55) rfl)) rfl)⟩⟩
set_option maxRecDepth 20000 in
theorem zVl1_30 : zVok (((0, 147, 0), 24, 1, 1)) := ⟨_, _, rfl, rfl, by decide, ⟨rfl, by decide +kernel, _, rfl, (zw (zin3 (List.mem_of_getElem? (i := 120) rfl)) rfl), (zw (zin2 (List.mem_of_getElem? (i := 65) rfl)) rfl), (zw (zin2 (List.mem_of_getElem? (i := 66) rfl)) rfl)⟩⟩
set_option maxRecDepth 20000 in
theorem zVl1_31 : zVok (((5, 36, 0), 81, 1, 0)) := ⟨_, _, rfl, rfl, by decide, ⟨rfl, by decide +kernel, _, rfl, (zw (zin3 (List.mem_of_getElem? (i := 128) rfl)) rfl), (zw (zin3 (List.mem_of_getElem? (i := 129) rfl)) rfl), (zw (zin3 (List.mem_of_getElem? (i := 130) rfl)) rfl)⟩⟩
set_option maxRecDepth 20000 in
theorem zVl1_32 : zVok (((0, 120, 0), 25, 1, 1)) := ⟨_, _, rfl, rfl, by decide, ⟨rfl, by decide +kernel, _, rfl, (zw (zin3 (List.mem_of_getElem? (i := 132) rfl)) rfl), (zw (zin2 (List.mem_of_getElem? (i := 72) rfl)) rfl), (zw (zin2 (List.mem_of_getElem? (i := 73) rfl)) rfl)⟩⟩
set_option maxRecDepth 20000 in
theorem zVl1_33 : zVok (((5, 40, 0), 83, 3, 0)) := ⟨_, _, rfl, rfl, by decide, ⟨rfl, by decide +kernel, _, rfl, (zw (zin3 (List.mem_of_getElem? (i := 136) rfl)) rfl), (zw (zin3 (List.mem_of_getElem? (i := 137) rfl)) rfl), (zw (zin3 (List.mem_of_getElem? (i := 138) rfl)) rfl)⟩⟩
set_option maxRecDepth 20000 in
theorem zVl1_34 : zVok (((0, 125, 0), 84, 1, 4)) := ⟨_, _, rfl, rfl, by decide, ⟨rfl, by decide +kernel, _, rfl, (zw (zin3 (List.mem_of_getElem? (i := 141) rfl)) rfl), (zw (zin3 (List.mem_of_getElem? (i := 142) rfl)) rfl), (zw (zin3 (List.mem_of_getElem? (i := 143) rfl)) rfl)⟩⟩
set_option maxRecDepth 20000 in
theorem zVl1_35 : zVok (((5, 44, 0), 86, 2, 0)) := ⟨_, _, rfl, rfl, by decide, ⟨rfl, by decide +kernel, _, rfl, (zw (zin3 (List.mem_of_getElem? (i := 149) rfl)) rfl), (zw (zin3 (List.mem_of_getElem? (i := 150) rfl)) rfl), (zw (zin3 (List.mem_of_getElem? (i := 151) rfl)) rfl)⟩⟩
set_option maxRecDepth 20000 in
theorem zVl1_36 : zVok (((0, 131, 0), 87, 0, 4)) := ⟨_, _, rfl, rfl, by decide, ⟨rfl, by decide +kernel, _, rfl, (zw (zin3 (List.mem_of_getElem? (i := 154) rfl)) rfl), (zw (zin3 (List.mem_of_getElem? (i := 155) rfl)) rfl), (zw (zin3 (List.mem_of_getElem? (i := 156) rfl)) rfl)⟩⟩
set_option maxRecDepth 20000 in
theorem zVl1_37 : zVok (((0, 138, 0), 88, 0, 4)) := ⟨_, _, rfl, rfl, by decide, ⟨rfl, by decide +kernel, _, rfl, (zw (zin3 (List.mem_of_getElem? (i := 158) rfl)) rfl), (zw (zin3 (List.mem_of_getElem? (i := 159) rfl)) rfl), (zw (zin3 (List.mem_of_getElem? (i := 160) rfl)) rfl)⟩⟩
set_option maxRecDepth 20000 in
theorem zVl1_38 : zVok (((5, 48, 0), 90, 2, 0)) := ⟨_, _, rfl, rfl, by decide, ⟨rfl, by decide +kernel, _, rfl, (zw (zin3 (List.mem_of_getElem? (i := 165) rfl)) rfl), (zw (zin3 (List.mem_of_getElem? (i := 166) rfl)) rfl), (zw (zin3 (List.mem_of_getElem? (i := 167) rfl)) rfl)⟩⟩
set_option maxRecDepth 20000 in
theorem zVl1_39 : zVok (((0, 143, 3), 91, 1, 0)) := ⟨_, _, rfl, rfl, by decide, ⟨rfl, by decide +kernel, (zw (zin3 (List.mem_of_getElem? (i := 170) rfl)) rfl), (zw (zin3 (List.mem_of_getElem? (i := 171) rfl)) rfl)⟩⟩
set_option maxRecDepth 20000 in
theorem zVl1_40 : zVok (((0, 151, 0), 92, 2, 1)) := ⟨_, _, rfl, rfl, by decide, ⟨rfl, by decide +kernel, _, rfl, (zw (zin3 (List.mem_of_getElem? (i := 174) rfl)) rfl), (zw (zin3 (List.mem_of_getElem? (i := 175) rfl)) rfl), (zw (zin3 (List.mem_of_getElem? (i := 176) rfl)) rfl)⟩⟩
set_option maxRecDepth 20000 in
theorem zVl1_41 : zVok (((1, 103, 0), 93, 4, 1)) := ⟨_, _, rfl, rfl, by decide, ⟨rfl, by decide +kernel, _, rfl, (zw (zin3 (List.mem_of_getElem? (i := 178) rfl)) rfl), (zw (zin3 (List.mem_of_getElem? (i := 180) rfl)) rfl), (zw (zinp (List.mem_of_getElem? (i := 17) rfl)) rfl)⟩⟩
set_option maxRecDepth 20000 in
theorem zVl1_42 : zVok (((1, 116, 0), 41, 2, 1)) := ⟨_, _, rfl, rfl, by decide, ⟨rfl, by decide +kernel, _, rfl, (zw (zin3 (List.mem_of_getElem? (i := 182) rfl)) rfl), (zw (zin2 (List.mem_of_getElem? (i := 139) rfl)) rfl), (zw (zin2 (List.mem_of_getElem? (i := 140) rfl)) rfl)⟩⟩
set_option maxRecDepth 20000 in
theorem zVl1_43 : zVok (((5, 51, 0), 95, 3, 0)) := ⟨_, _, rfl, rfl, by decide, ⟨rfl, by decide +kernel, _, rfl, (zw (zin3 (List.mem_of_getElem? (i := 186) rfl)) rfl), (zw (zin3 (List.mem_of_getElem? (i := 187) rfl)) rfl), (zw (zin3 (List.mem_of_getElem? (i := 188) rfl)) rfl)⟩⟩
set_option maxRecDepth 20000 in
theorem zVl1_44 : zVok (((0, 167, 0), 96, 2, 1)) := ⟨_, _, rfl, rfl, by decide, ⟨rfl, by decide +kernel, _, rfl, (zw (zin3 (List.mem_of_getElem? (i := 192) rfl)) rfl), (zw (zin3 (List.mem_of_getElem? (i := 193) rfl)) rfl), (zw (zin3 (List.mem_of_getElem? (i := 194) rfl)) rfl)⟩⟩
set_option maxRecDepth 20000 in
theorem zVl1_45 : zVok (((5, 54, 0), 98, 1, 0)) := ⟨_, _, rfl, rfl, by decide, ⟨rfl, by decide +kernel, _, rfl, (zw (zin3 (List.mem_of_getElem? (i := 199) rfl)) rfl), (zw (zin3 (List.mem_of_getElem? (i := 200) rfl)) rfl), (zw (zin3 (List.mem_of_getElem? (i := 201) rfl)) rfl)⟩⟩
set_option maxRecDepth 20000 in
theorem zVl1_46 : zVok (((0, 175, 0), 99, 0, 1)) := ⟨_, _, rfl, rfl, by decide, ⟨rfl, by decide +kernel, _, rfl, (zw (zin3 (List.mem_of_getElem? (i := 204) rfl)) rfl), (zw (zin3 (List.mem_of_getElem? (i := 205) rfl)) rfl), (zw (zin3 (List.mem_of_getElem? (i := 206) rfl)) rfl)⟩⟩
set_option maxRecDepth 20000 in
theorem zVl1_47 : zVok (((0, 178, 0), 2, 0, 1)) := ⟨_, _, rfl, rfl, by decide, ⟨rfl, by decide +kernel, _, rfl, (zw (zin3 (List.mem_of_getElem? (i := 216) rfl)) rfl), (zw (zin1 (List.mem_of_getElem? (i := 50) rfl)) rfl), (zw (zin1 (List.mem_of_getElem? (i := 51) rfl)) rfl)⟩⟩
set_option maxRecDepth 20000 in
theorem zVl1_48 : zVok (((1, 58, 0), 100, 1, 1)) := ⟨_, _, rfl, rfl, by decide, ⟨rfl, by decide +kernel, _, rfl, (zw (zin3 (List.mem_of_getElem? (i := 208) rfl)) rfl), (zw (zin3 (List.mem_of_getElem? (i := 210) rfl)) rfl), (zw (zinp (List.mem_of_getElem? (i := 18) rfl)) rfl)⟩⟩
set_option maxRecDepth 20000 in
theorem zVl1_49 : zVok (((1, 61, 4), 101, 1, 0)) := ⟨_, _, rfl, rfl, by decide, ⟨rfl, by decide +kernel, ⟨_, (zx (zin3 (List.mem_of_getElem? (i := 212) rfl)) rfl)⟩, (zw (zin3 (List.mem_of_getElem? (i := 213) rfl)) rfl)⟩⟩
set_option maxRecDepth 20000 in
theorem zVl1_50 : zVok (((1, 64, 4), 44, 1, 0)) := ⟨_, _, rfl, rfl, by decide, ⟨rfl, by decide +kernel, ⟨_, (zx (zin3 (List.mem_of_getElem? (i := 215) rfl)) rfl)⟩, (zw (zin2 (List.mem_of_getElem? (i := 153) rfl)) rfl)⟩⟩
set_option maxRecDepth 20000 in
theorem zVl1_51 : zVok (((5, 57, 0), 103, 1, 0)) := ⟨_, _, rfl, rfl, by decide, ⟨rfl, by decide +kernel, _, rfl, (zw (zin3 (List.mem_of_getElem? (i := 220) rfl)) rfl), (zw (zin3 (List.mem_of_getElem? (i := 221) rfl)) rfl), (zw (zin3 (List.mem_of_getElem? (i := 222) rfl)) rfl)⟩⟩
set_option maxRecDepth 20000 in
theorem zVl1_52 : zVok (((5, 60, 0), 39, 3, 0)) := ⟨_, _, rfl, rfl, by decide, ⟨rfl, by decide +kernel, _, rfl, (zw (zin3 (List.mem_of_getElem? (i := 227) rfl)) rfl), (zw (zin2 (List.mem_of_getElem? (i := 131) rfl)) rfl), (zw (zin2 (List.mem_of_getElem? (i := 132) rfl)) rfl)⟩⟩
set_option maxRecDepth 20000 in
theorem zVl1_53 : zVok (((5, 63, 0), 42, 3, 0)) := ⟨_, _, rfl, rfl, by decide, ⟨rfl, by decide +kernel, _, rfl, (zw (zin3 (List.mem_of_getElem? (i := 231) rfl)) rfl), (zw (zin2 (List.mem_of_getElem? (i := 144) rfl)) rfl), (zw (zin2 (List.mem_of_getElem? (i := 145) rfl)) rfl)⟩⟩
set_option maxRecDepth 20000 in
theorem zVl1_54 : zVok (((5, 66, 0), 46, 3, 0)) := ⟨_, _, rfl, rfl, by decide, ⟨rfl, by decide +kernel, _, rfl, (zw (zin3 (List.mem_of_getElem? (i := 235) rfl)) rfl), (zw (zin2 (List.mem_of_getElem? (i := 163) rfl)) rfl), (zw (zin2 (List.mem_of_getElem? (i := 164) rfl)) rfl)⟩⟩
set_option maxRecDepth 20000 in
theorem zVl1_55 : zVok (((5, 69, 0), 18, 2, 0)) := ⟨_, _, rfl, rfl, by decide, ⟨rfl, by decide +kernel, _, rfl, (zw (zin3 (List.mem_of_getElem? (i := 239) rfl)) rfl), (zw (zin2 (List.mem_of_getElem? (i := 37) rfl)) rfl), (zw (zin2 (List.mem_of_getElem? (i := 38) rfl)) rfl)⟩⟩
set_option maxRecDepth 20000 in
theorem zVl1_56 : zVok (((5, 72, 0), 109, 1, 0)) := ⟨_, _, rfl, rfl, by decide, ⟨rfl, by decide +kernel, _, rfl, (zw (zin4 (List.mem_of_getElem? (i := 3) rfl)) rfl), (zw (zin4 (List.mem_of_getElem? (i := 4) rfl)) rfl), (zw (zin4 (List.mem_of_getElem? (i := 5) rfl)) rfl)⟩⟩
set_option maxRecDepth 20000 in
theorem zVl1_57 : zVok (((0, 223, 5), 110, 0, 0)) := ⟨_, _, rfl, rfl, by decide, ⟨rfl, by decide +kernel, rfl, rfl, (zw (zin4 (List.mem_of_getElem? (i := 9) rfl)) rfl), (zw (zin4 (List.mem_of_getElem? (i := 10) rfl)) rfl)⟩⟩
set_option maxRecDepth 20000 in
theorem zVl1_58 : zVok (((0, 224, 0), 112, 1, 5)) := ⟨_, _, rfl, rfl, by decide, ⟨rfl, by decide +kernel, _, rfl, (zw (zin4 (List.mem_of_getElem? (i := 38) rfl)) rfl), (zw (zin4 (List.mem_of_getElem? (i := 39) rfl)) rfl), (zw (zin4 (List.mem_of_getElem? (i := 40) rfl)) rfl)⟩⟩
set_option maxRecDepth 20000 in
theorem zVl1_59 : zVok (((0, 228, 0), 21, 2, 1)) := ⟨_, _, rfl, rfl, by decide, ⟨rfl, by decide +kernel, _, rfl, (zw (zin4 (List.mem_of_getElem? (i := 131) rfl)) rfl), (zw (zin2 (List.mem_of_getElem? (i := 51) rfl)) rfl), (zw (zin2 (List.mem_of_getElem? (i := 52) rfl)) rfl)⟩⟩
theorem zVl1_ok : ∀ e ∈ zVl1, zVok e := List.forall_mem_cons.mpr ⟨zVl1_0, List.forall_mem_cons.mpr ⟨zVl1_1, List.forall_mem_cons.mpr ⟨zVl1_2, List.forall_mem_cons.mpr ⟨zVl1_3, List.forall_mem_cons.mpr ⟨zVl1_4, List.forall_mem_cons.mpr ⟨zVl1_5, List.forall_mem_cons.mpr ⟨zVl1_6, List.forall_mem_cons.mpr ⟨zVl1_7, List.forall_mem_cons.mpr ⟨zVl1_8, List.forall_mem_cons.mpr ⟨zVl1_9, List.forall_mem_cons.mpr ⟨zVl1_10, List.forall_mem_cons.mpr ⟨zVl1_11, List.forall_mem_cons.mpr ⟨zVl1_12, List.forall_mem_cons.mpr ⟨zVl1_13, List.forall_mem_cons.mpr ⟨zVl1_14, List.forall_mem_cons.mpr ⟨zVl1_15, List.forall_mem_cons.mpr ⟨zVl1_16, List.forall_mem_cons.mpr ⟨zVl1_17, List.forall_mem_cons.mpr ⟨zVl1_18, List.forall_mem_cons.mpr ⟨zVl1_19, List.forall_mem_cons.mpr ⟨zVl1_20, List.forall_mem_cons.mpr ⟨zVl1_21, List.forall_mem_cons.mpr ⟨zVl1_22, List.forall_mem_cons.mpr ⟨zVl1_23, List.forall_mem_cons.mpr ⟨zVl1_24, List.forall_mem_cons.mpr ⟨zVl1_25, List.forall_mem_cons.mpr ⟨zVl1_26, List.forall_mem_cons.mpr ⟨zVl1_27, List.forall_mem_cons.mpr ⟨zVl1_28, List.forall_mem_cons.mpr ⟨zVl1_29, List.forall_mem_cons.mpr ⟨zVl1_30, List.forall_mem_cons.mpr ⟨zVl1_31, List.forall_mem_cons.mpr ⟨zVl1_32, List.forall_mem_cons.mpr ⟨zVl1_33, List.forall_mem_cons.mpr ⟨zVl1_34, List.forall_mem_cons.mpr ⟨zVl1_35, List.forall_mem_cons.mpr ⟨zVl1_36, List.forall_mem_cons.mpr ⟨zVl1_37, List.forall_mem_cons.mpr ⟨zVl1_38, List.forall_mem_cons.mpr ⟨zVl1_39, List.forall_mem_cons.mpr ⟨zVl1_40, List.forall_mem_cons.mpr ⟨zVl1_41, List.forall_mem_cons.mpr ⟨zVl1_42, List.forall_mem_cons.mpr ⟨zVl1_43, List.forall_mem_cons.mpr ⟨zVl1_44, List.forall_mem_cons.mpr ⟨zVl1_45, List.forall_mem_cons.mpr ⟨zVl1_46, List.forall_mem_cons.mpr ⟨zVl1_47, List.forall_mem_cons.mpr ⟨zVl1_48, List.forall_mem_cons.mpr ⟨zVl1_49, List.forall_mem_cons.mpr ⟨zVl1_50, List.forall_mem_cons.mpr ⟨zVl1_51, List.forall_mem_cons.mpr ⟨zVl1_52, List.forall_mem_cons.mpr ⟨zVl1_53, List.forall_mem_cons.mpr ⟨zVl1_54, List.forall_mem_cons.mpr ⟨zVl1_55, List.forall_mem_cons.mpr ⟨zVl1_56, List.forall_mem_cons.mpr ⟨zVl1_57, List.forall_mem_cons.mpr ⟨zVl1_58, List.forall_mem_cons.mpr ⟨zVl1_59, fun _ h => absurd h List.not_mem_nil⟩⟩⟩⟩⟩⟩⟩⟩⟩⟩⟩⟩⟩⟩⟩⟩⟩⟩⟩⟩⟩⟩⟩⟩⟩⟩⟩⟩⟩⟩⟩⟩⟩⟩⟩⟩⟩⟩⟩⟩⟩⟩⟩⟩⟩⟩⟩⟩⟩⟩⟩⟩⟩⟩⟩⟩⟩⟩⟩⟩
def zVl2 : List (zVe) := [((0, 231, 3), 123, 1, 0),
  ((0, 235, 0), 124, 0, 5),
  ((7, 1, 5), 111, 1, 0),
  ((7, 50, 7), 113, 1, 5),
  ((8, 100, 0), 114, 1, 5),
  ((8, 83, 0), 120, 0, 5),
  ((8, 191, 3), 121, 1, 0),
  ((8, 104, 0), 115, 1, 5),
  ((8, 108, 3), 118, 2, 0),
  ((8, 114, 3), 116, 3, 0),
  ((9, 194, 3), 117, 2, 0),
  ((11, 304, 3), 119, 2, 0),
  ((7, 137, 5), 125, 1, 0),
  ((14, 489, 5), 126, 2, 0),
  ((14, 552, 0), 127, 0, 5),
  ((14, 549, 2), 128, 0, 5),
  ((14, 1047, 0), 120, 0, 5),
  ((14, 54, 3), 130, 3, 0),
  ((7, 343, 7), 129, 0, 5),
  ((11, 339, 3), 131, 3, 0),
  ((11, 343, 3), 132, 2, 0),
  ((11, 47, 5), 110, 0, 0),
  ((11, 61, 0), 124, 0, 5),
  ((14, 335, 0), 134, 0, 6),
  ((5, 80, 0), 47, 2, 0),
  ((5, 83, 0), 137, 2, 0),
  ((5, 91, 0), 49, 2, 0),
  ((5, 94, 0), 11, 1, 0),
  ((5, 97, 0), 55, 1, 0),
  ((5, 100, 0), 56, 1, 0),
  ((5, 103, 0), 143, 4, 0),
  ((5, 107, 0), 58, 1, 0),
  ((5, 110, 0), 61, 2, 0),
  ((15, 9, 5), 147, 0, 0),
  ((16, 1, 5), 148, 0, 0),
  ((17, 1, 5), 149, 0, 0),
  ((15, 30, 3), 151, 3, 0),
  ((15, 50, 0), 152, 1, 7),
  ((15, 24, 8), 153, 0, 8),
  ((15, 54, 5), 154, 2, 0),
  ((15, 57, 8), 157, 1, 8),
  ((19, 11, 5), 147, 0, 0),
  ((19, 29, 0), 155, 0, 9),
  ((19, 32, 0), 156, 0, 9),
  ((16, 131, 0), 158, 3, 8),
  ((16, 129, 0), 159, 0, 8),
  ((16, 69, 0), 160, 1, 8),
  ((16, 73, 3), 116, 3, 0),
  ((16, 79, 3), 117, 2, 0),
  ((15, 64, 0), 162, 2, 7),
  ((15, 38, 8), 164, 1, 8),
  ((15, 67, 0), 168, 1, 9),
  ((15, 70, 3), 169, 2, 0),
  ((15, 77, 0), 171, 1, 9),
  ((15, 34, 0), 163, 1, 7),
  ((15, 47, 0), 167, 0, 9),
  ((16, 118, 3), 165, 2, 0),
  ((16, 123, 0), 166, 1, 8),
  ((20, 105, 3), 122, 3, 0),
  ((15, 61, 3), 170, 1, 0)]
set_option maxRecDepth 20000 in
theorem zVl2_0 : zVok (((0, 231, 3), 123, 1, 0)) := ⟨_, _, rfl, rfl, by decide, ⟨rfl, by decide +kernel, (zw (zin4 (List.mem_of_getElem? (i := 132) rfl)) rfl), (zw (zin4 (List.mem_of_getElem? (i := 133) rfl)) rfl)⟩⟩
set_option maxRecDepth 20000 in
theorem zVl2_1 : zVok (((0, 235, 0), 124, 0, 5)) := ⟨_, _, rfl, rfl, by decide, ⟨rfl, by decide +kernel, _, rfl, (zw (zin4 (List.mem_of_getElem? (i := 135) rfl)) rfl), (zw (zin4 (List.mem_of_getElem? (i := 136) rfl)) rfl), (zw (zin4 (List.mem_of_getElem? (i := 137) rfl)) rfl)⟩⟩
set_option maxRecDepth 20000 in
theorem zVl2_2 : zVok (((7, 1, 5), 111, 1, 0)) := ⟨_, _, rfl, rfl, by decide, ⟨rfl, by decide +kernel, rfl, rfl, (zw (zin4 (List.mem_of_getElem? (i := 12) rfl)) rfl), (zw (zin4 (List.mem_of_getElem? (i := 13) rfl)) rfl)⟩⟩
set_option maxRecDepth 20000 in
theorem zVl2_3 : zVok (((7, 50, 7), 113, 1, 5)) := ⟨_, _, rfl, rfl, by decide, ⟨rfl, by decide +kernel, by decide +kernel, _, rfl, rfl, (zw (zin4 (List.mem_of_getElem? (i := 42) rfl)) rfl), (zw (zin7 (List.mem_of_getElem? (i := 116) rfl)) rfl), (zw (zin4 (List.mem_of_getElem? (i := 37) rfl)) rfl), (zw (zin4 (List.mem_of_getElem? (i := 43) rfl)) rfl)⟩⟩
set_option maxRecDepth 20000 in
theorem zVl2_4 : zVok (((8, 100, 0), 114, 1, 5)) := ⟨_, _, rfl, rfl, by decide, ⟨rfl, by decide +kernel, _, rfl, (zw (zin4 (List.mem_of_getElem? (i := 45) rfl)) rfl), (zw (zin4 (List.mem_of_getElem? (i := 47) rfl)) rfl), (zw (zinx (List.mem_of_getElem? (i := 0) rfl)) rfl)⟩⟩
set_option maxRecDepth 20000 in
theorem zVl2_5 : zVok (((8, 83, 0), 120, 0, 5)) := ⟨_, _, rfl, rfl, by decide, ⟨rfl, by decide +kernel, _, rfl, (zw (zin4 (List.mem_of_getElem? (i := 78) rfl)) rfl), (zw (zin4 (List.mem_of_getElem? (i := 79) rfl)) rfl), (zw (zin4 (List.mem_of_getElem? (i := 81) rfl)) rfl)⟩⟩
set_option maxRecDepth 20000 in
theorem zVl2_6 : zVok (((8, 191, 3), 121, 1, 0)) := ⟨_, _, rfl, rfl, by decide, ⟨rfl, by decide +kernel, (zw (zin4 (List.mem_of_getElem? (i := 83) rfl)) rfl), (zw (zin4 (List.mem_of_getElem? (i := 84) rfl)) rfl)⟩⟩
set_option maxRecDepth 20000 in
theorem zVl2_7 : zVok (((8, 104, 0), 115, 1, 5)) := ⟨_, _, rfl, rfl, by decide, ⟨rfl, by decide +kernel, _, rfl, (zw (zin4 (List.mem_of_getElem? (i := 49) rfl)) rfl), (zw (zin4 (List.mem_of_getElem? (i := 51) rfl)) rfl), (zw (zinx (List.mem_of_getElem? (i := 1) rfl)) rfl)⟩⟩
set_option maxRecDepth 20000 in
theorem zVl2_8 : zVok (((8, 108, 3), 118, 2, 0)) := ⟨_, _, rfl, rfl, by decide, ⟨rfl, by decide +kernel, (zw (zin4 (List.mem_of_getElem? (i := 64) rfl)) rfl), (zw (zin4 (List.mem_of_getElem? (i := 65) rfl)) rfl)⟩⟩
set_option maxRecDepth 20000 in
theorem zVl2_9 : zVok (((8, 114, 3), 116, 3, 0)) := ⟨_, _, rfl, rfl, by decide, ⟨rfl, by decide +kernel, (zw (zin4 (List.mem_of_getElem? (i := 53) rfl)) rfl), (zw (zin4 (List.mem_of_getElem? (i := 54) rfl)) rfl)⟩⟩
set_option maxRecDepth 20000 in
theorem zVl2_10 : zVok (((9, 194, 3), 117, 2, 0)) := ⟨_, _, rfl, rfl, by decide, ⟨rfl, by decide +kernel, (zw (zin4 (List.mem_of_getElem? (i := 56) rfl)) rfl), (zw (zin4 (List.mem_of_getElem? (i := 57) rfl)) rfl)⟩⟩
set_option maxRecDepth 20000 in
theorem zVl2_11 : zVok (((11, 304, 3), 119, 2, 0)) := ⟨_, _, rfl, rfl, by decide, ⟨rfl, by decide +kernel, (zw (zin4 (List.mem_of_getElem? (i := 74) rfl)) rfl), (zw (zin4 (List.mem_of_getElem? (i := 75) rfl)) rfl)⟩⟩
set_option maxRecDepth 20000 in
theorem zVl2_12 : zVok (((7, 137, 5), 125, 1, 0)) := ⟨_, _, rfl, rfl, by decide, ⟨rfl, by decide +kernel, rfl, rfl, (zw (zin4 (List.mem_of_getElem? (i := 141) rfl)) rfl), (zw (zin4 (List.mem_of_getElem? (i := 142) rfl)) rfl)⟩⟩
set_option maxRecDepth 20000 in
theorem zVl2_13 : zVok (((14, 489, 5), 126, 2, 0)) := ⟨_, _, rfl, rfl, by decide, ⟨rfl, by decide +kernel, rfl, rfl, (zw (zin4 (List.mem_of_getElem? (i := 144) rfl)) rfl), (zw (zin4 (List.mem_of_getElem? (i := 145) rfl)) rfl)⟩⟩
set_option maxRecDepth 20000 in
theorem zVl2_14 : zVok (((14, 552, 0), 127, 0, 5)) := ⟨_, _, rfl, rfl, by decide, ⟨rfl, by decide +kernel, _, rfl, (zw (zin4 (List.mem_of_getElem? (i := 148) rfl)) rfl), (zw (zin4 (List.mem_of_getElem? (i := 149) rfl)) rfl), (zw (zin4 (List.mem_of_getElem? (i := 151) rfl)) rfl)⟩⟩
set_option maxRecDepth 20000 in
theorem zVl2_15 : zVok (((14, 549, 2), 128, 0, 5)) := ⟨_, _, rfl, rfl, by decide, ⟨rfl, _, ⟨"java/lang/AbstractStringBuilder", "length", "()I"⟩, _, _, _, rfl, by decide +kernel, by decide +kernel, by decide +kernel, (zw (zin4 (List.mem_of_getElem? (i := 153) rfl)) rfl), (zw (zin4 (List.mem_of_getElem? (i := 157) rfl)) rfl), (zw (zin4 (List.mem_of_getElem? (i := 156) rfl)) rfl), (zw (zin4 (List.mem_of_getElem? (i := 155) rfl)) rfl), (zw (zin4 (List.mem_of_getElem? (i := 154) rfl)) rfl), (zw (zin4 (List.mem_of_getElem? (i := 160) rfl)) rfl)⟩⟩
set_option maxRecDepth 20000 in
theorem zVl2_16 : zVok (((14, 1047, 0), 120, 0, 5)) := ⟨_, _, rfl, rfl, by decide, ⟨rfl, by decide +kernel, _, rfl, (zw (zin4 (List.mem_of_getElem? (i := 161) rfl)) rfl), (zw (zin4 (List.mem_of_getElem? (i := 79) rfl)) rfl), (zw (zin4 (List.mem_of_getElem? (i := 81) rfl)) rfl)⟩⟩
set_option maxRecDepth 20000 in
theorem zVl2_17 : zVok (((14, 54, 3), 130, 3, 0)) := ⟨_, _, rfl, rfl, by decide, ⟨rfl, by decide +kernel, (zw (zin4 (List.mem_of_getElem? (i := 162) rfl)) rfl), (zw (zin4 (List.mem_of_getElem? (i := 163) rfl)) rfl)⟩⟩
set_option maxRecDepth 20000 in
theorem zVl2_18 : zVok (((7, 343, 7), 129, 0, 5)) := ⟨_, _, rfl, rfl, by decide, ⟨rfl, by decide +kernel, by decide +kernel, _, rfl, rfl, (zw (zin4 (List.mem_of_getElem? (i := 159) rfl)) rfl), (zw (zin4 (List.mem_of_getElem? (i := 155) rfl)) rfl), (zw (zin4 (List.mem_of_getElem? (i := 37) rfl)) rfl), (zw (zin4 (List.mem_of_getElem? (i := 154) rfl)) rfl)⟩⟩
set_option maxRecDepth 20000 in
theorem zVl2_19 : zVok (((11, 339, 3), 131, 3, 0)) := ⟨_, _, rfl, rfl, by decide, ⟨rfl, by decide +kernel, (zw (zin4 (List.mem_of_getElem? (i := 165) rfl)) rfl), (zw (zin4 (List.mem_of_getElem? (i := 166) rfl)) rfl)⟩⟩
set_option maxRecDepth 20000 in
theorem zVl2_20 : zVok (((11, 343, 3), 132, 2, 0)) := ⟨_, _, rfl, rfl, by decide, ⟨rfl, by decide +kernel, (zw (zin4 (List.mem_of_getElem? (i := 168) rfl)) rfl), (zw (zin4 (List.mem_of_getElem? (i := 169) rfl)) rfl)⟩⟩
set_option maxRecDepth 20000 in
theorem zVl2_21 : zVok (((11, 47, 5), 110, 0, 0)) := ⟨_, _, rfl, rfl, by decide, ⟨rfl, by decide +kernel, rfl, rfl, (zw (zin4 (List.mem_of_getElem? (i := 173) rfl)) rfl), (zw (zin4 (List.mem_of_getElem? (i := 10) rfl)) rfl)⟩⟩
set_option maxRecDepth 20000 in
theorem zVl2_22 : zVok (((11, 61, 0), 124, 0, 5)) := ⟨_, _, rfl, rfl, by decide, ⟨rfl, by decide +kernel, _, rfl, (zw (zin5 (List.mem_of_getElem? (i := 7) rfl)) rfl), (zw (zin4 (List.mem_of_getElem? (i := 136) rfl)) rfl), (zw (zin4 (List.mem_of_getElem? (i := 137) rfl)) rfl)⟩⟩
set_option maxRecDepth 20000 in
theorem zVl2_23 : zVok (((14, 335, 0), 134, 0, 6)) := ⟨_, _, rfl, rfl, by decide, ⟨rfl, by decide +kernel, _, rfl, (zw (zin4 (List.mem_of_getElem? (i := 227) rfl)) rfl), (zw (zin4 (List.mem_of_getElem? (i := 228) rfl)) rfl), (zw (zin4 (List.mem_of_getElem? (i := 229) rfl)) rfl)⟩⟩
set_option maxRecDepth 20000 in
theorem zVl2_24 : zVok (((5, 80, 0), 47, 2, 0)) := ⟨_, _, rfl, rfl, by decide, ⟨rfl, by decide +kernel, _, rfl, (zw (zin5 (List.mem_of_getElem? (i := 36) rfl)) rfl), (zw (zin2 (List.mem_of_getElem? (i := 169) rfl)) rfl), (zw (zin2 (List.mem_of_getElem? (i := 170) rfl)) rfl)⟩⟩
set_option maxRecDepth 20000 in
theorem zVl2_25 : zVok (((5, 83, 0), 137, 2, 0)) := ⟨_, _, rfl, rfl, by decide, ⟨rfl, by decide +kernel, _, rfl, (zw (zin5 (List.mem_of_getElem? (i := 40) rfl)) rfl), (zw (zin5 (List.mem_of_getElem? (i := 41) rfl)) rfl), (zw (zin5 (List.mem_of_getElem? (i := 42) rfl)) rfl)⟩⟩
set_option maxRecDepth 20000 in
theorem zVl2_26 : zVok (((5, 91, 0), 49, 2, 0)) := ⟨_, _, rfl, rfl, by decide, ⟨rfl, by decide +kernel, _, rfl, (zw (zin5 (List.mem_of_getElem? (i := 47) rfl)) rfl), (zw (zin2 (List.mem_of_getElem? (i := 179) rfl)) rfl), (zw (zin2 (List.mem_of_getElem? (i := 180) rfl)) rfl)⟩⟩
set_option maxRecDepth 20000 in
theorem zVl2_27 : zVok (((5, 94, 0), 11, 1, 0)) := ⟨_, _, rfl, rfl, by decide, ⟨rfl, by decide +kernel, _, rfl, (zw (zin5 (List.mem_of_getElem? (i := 51) rfl)) rfl), (zw (zin1 (List.mem_of_getElem? (i := 166) rfl)) rfl), (zw (zin1 (List.mem_of_getElem? (i := 167) rfl)) rfl)⟩⟩
set_option maxRecDepth 20000 in
theorem zVl2_28 : zVok (((5, 97, 0), 55, 1, 0)) := ⟨_, _, rfl, rfl, by decide, ⟨rfl, by decide +kernel, _, rfl, (zw (zin5 (List.mem_of_getElem? (i := 55) rfl)) rfl), (zw (zin2 (List.mem_of_getElem? (i := 205) rfl)) rfl), (zw (zin2 (List.mem_of_getElem? (i := 206) rfl)) rfl)⟩⟩
set_option maxRecDepth 20000 in
theorem zVl2_29 : zVok (((5, 100, 0), 56, 1, 0)) := ⟨_, _, rfl, rfl, by decide, ⟨rfl, by decide +kernel, _, rfl, (zw (zin5 (List.mem_of_getElem? (i := 59) rfl)) rfl), (zw (zin2 (List.mem_of_getElem? (i := 209) rfl)) rfl), (zw (zin2 (List.mem_of_getElem? (i := 210) rfl)) rfl)⟩⟩
set_option maxRecDepth 20000 in
theorem zVl2_30 : zVok (((5, 103, 0), 143, 4, 0)) := ⟨_, _, rfl, rfl, by decide, ⟨rfl, by decide +kernel, _, rfl, (zw (zin5 (List.mem_of_getElem? (i := 63) rfl)) rfl), (zw (zin5 (List.mem_of_getElem? (i := 64) rfl)) rfl), (zw (zin5 (List.mem_of_getElem? (i := 65) rfl)) rfl)⟩⟩
set_option maxRecDepth 20000 in
theorem zVl2_31 : zVok (((5, 107, 0), 58, 1, 0)) := ⟨_, _, rfl, rfl, by decide, ⟨rfl, by decide +kernel, _, rfl, (zw (zin5 (List.mem_of_getElem? (i := 70) rfl)) rfl), (zw (zin2 (List.mem_of_getElem? (i := 219) rfl)) rfl), (zw (zin2 (List.mem_of_getElem? (i := 220) rfl)) rfl)⟩⟩
set_option maxRecDepth 20000 in
theorem zVl2_32 : zVok (((5, 110, 0), 61, 2, 0)) := ⟨_, _, rfl, rfl, by decide, ⟨rfl, by decide +kernel, _, rfl, (zw (zin5 (List.mem_of_getElem? (i := 74) rfl)) rfl), (zw (zin2 (List.mem_of_getElem? (i := 231) rfl)) rfl), (zw (zin2 (List.mem_of_getElem? (i := 232) rfl)) rfl)⟩⟩
set_option maxRecDepth 20000 in
theorem zVl2_33 : zVok (((15, 9, 5), 147, 0, 0)) := ⟨_, _, rfl, rfl, by decide, ⟨rfl, by decide +kernel, rfl, rfl, (zw (zin5 (List.mem_of_getElem? (i := 83) rfl)) rfl), (zw (zin5 (List.mem_of_getElem? (i := 84) rfl)) rfl)⟩⟩
set_option maxRecDepth 20000 in
theorem zVl2_34 : zVok (((16, 1, 5), 148, 0, 0)) := ⟨_, _, rfl, rfl, by decide, ⟨rfl, by decide +kernel, rfl, rfl, (zw (zin5 (List.mem_of_getElem? (i := 86) rfl)) rfl), (zw (zin5 (List.mem_of_getElem? (i := 87) rfl)) rfl)⟩⟩
set_option maxRecDepth 20000 in
theorem zVl2_35 : zVok (((17, 1, 5), 149, 0, 0)) := ⟨_, _, rfl, rfl, by decide, ⟨rfl, by decide +kernel, rfl, rfl, (zw (zin5 (List.mem_of_getElem? (i := 89) rfl)) rfl), (zw (zin5 (List.mem_of_getElem? (i := 90) rfl)) rfl)⟩⟩
set_option maxRecDepth 20000 in
theorem zVl2_36 : zVok (((15, 30, 3), 151, 3, 0)) := ⟨_, _, rfl, rfl, by decide, ⟨rfl, by decide +kernel, (zw (zin5 (List.mem_of_getElem? (i := 121) rfl)) rfl), (zw (zin5 (List.mem_of_getElem? (i := 122) rfl)) rfl)⟩⟩
set_option maxRecDepth 20000 in
theorem zVl2_37 : zVok (((15, 50, 0), 152, 1, 7)) := ⟨_, _, rfl, rfl, by decide, ⟨rfl, by decide +kernel, _, rfl, (zw (zin5 (List.mem_of_getElem? (i := 124) rfl)) rfl), (zw (zin5 (List.mem_of_getElem? (i := 126) rfl)) rfl), (zw (zinp (List.mem_of_getElem? (i := 19) rfl)) rfl)⟩⟩
set_option maxRecDepth 20000 in
theorem zVl2_38 : zVok (((15, 24, 8), 153, 0, 8)) := ⟨_, _, rfl, rfl, by decide, ⟨rfl, _, ⟨"java/util/List", "size", "()I"⟩, rfl, by decide +kernel, by decide +kernel, by decide +kernel, (zw (zin5 (List.mem_of_getElem? (i := 129) rfl)) rfl), (zx (zin5 (List.mem_of_getElem? (i := 131) rfl)) rfl), (zx (zin5 (List.mem_of_getElem? (i := 130) rfl)) (by decide +kernel)), (zw (zin5 (List.mem_of_getElem? (i := 133) rfl)) rfl), (zw (zin5 (List.mem_of_getElem? (i := 135) rfl)) rfl), (zx (zin5 (List.mem_of_getElem? (i := 136) rfl)) rfl), (zx (zin5 (List.mem_of_getElem? (i := 134) rfl)) rfl), (zx (zin5 (List.mem_of_getElem? (i := 132) rfl)) rfl)⟩⟩
set_option maxRecDepth 20000 in
theorem zVl2_39 : zVok (((15, 54, 5), 154, 2, 0)) := ⟨_, _, rfl, rfl, by decide, ⟨rfl, by decide +kernel, rfl, rfl, (zw (zin5 (List.mem_of_getElem? (i := 140) rfl)) rfl), (zw (zin5 (List.mem_of_getElem? (i := 141) rfl)) rfl)⟩⟩
set_option maxRecDepth 20000 in
theorem zVl2_40 : zVok (((15, 57, 8), 157, 1, 8)) := ⟨_, _, rfl, rfl, by decide, ⟨rfl, _, ⟨"java/util/List", "add", "(Ljava/lang/Object;)Z"⟩, rfl, by decide +kernel, by decide +kernel, by decide +kernel, (zw (zin5 (List.mem_of_getElem? (i := 184) rfl)) rfl), (zx (zin5 (List.mem_of_getElem? (i := 186) rfl)) rfl), (zx (zin5 (List.mem_of_getElem? (i := 185) rfl)) (by decide +kernel)), (zw (zin5 (List.mem_of_getElem? (i := 187) rfl)) rfl), (zw (zin5 (List.mem_of_getElem? (i := 189) rfl)) rfl), (zx (zin5 (List.mem_of_getElem? (i := 190) rfl)) rfl), (zx (zin5 (List.mem_of_getElem? (i := 188) rfl)) rfl), (zx (zin5 (List.mem_of_getElem? (i := 132) rfl)) rfl)⟩⟩
set_option maxRecDepth 20000 in
theorem zVl2_41 : zVok (((19, 11, 5), 147, 0, 0)) := ⟨_, _, rfl, rfl, by decide, ⟨rfl, by decide +kernel, rfl, rfl, (zw (zin5 (List.mem_of_getElem? (i := 145) rfl)) rfl), (zw (zin5 (List.mem_of_getElem? (i := 84) rfl)) rfl)⟩⟩
set_option maxRecDepth 20000 in
theorem zVl2_42 : zVok (((19, 29, 0), 155, 0, 9)) := ⟨_, _, rfl, rfl, by decide, ⟨rfl, by decide +kernel, _, rfl, (zw (zin5 (List.mem_of_getElem? (i := 146) rfl)) rfl), (zw (zin5 (List.mem_of_getElem? (i := 147) rfl)) rfl), (zw (zin5 (List.mem_of_getElem? (i := 148) rfl)) rfl)⟩⟩
set_option maxRecDepth 20000 in
theorem zVl2_43 : zVok (((19, 32, 0), 156, 0, 9)) := ⟨_, _, rfl, rfl, by decide, ⟨rfl, by decide +kernel, _, rfl, (zw (zin5 (List.mem_of_getElem? (i := 150) rfl)) rfl), (zw (zin5 (List.mem_of_getElem? (i := 151) rfl)) rfl), (zw (zin5 (List.mem_of_getElem? (i := 152) rfl)) rfl)⟩⟩
set_option maxRecDepth 20000 in
theorem zVl2_44 : zVok (((16, 131, 0), 158, 3, 8)) := ⟨_, _, rfl, rfl, by decide, ⟨rfl, by decide +kernel, _, rfl, (zw (zin5 (List.mem_of_getElem? (i := 192) rfl)) rfl), (zw (zin5 (List.mem_of_getElem? (i := 194) rfl)) rfl), (zw (zinp (List.mem_of_getElem? (i := 20) rfl)) rfl)⟩⟩
set_option maxRecDepth 20000 in
theorem zVl2_45 : zVok (((16, 129, 0), 159, 0, 8)) := ⟨_, _, rfl, rfl, by decide, ⟨rfl, by decide +kernel, _, rfl, (zw (zin5 (List.mem_of_getElem? (i := 196) rfl)) rfl), (zw (zin5 (List.mem_of_getElem? (i := 198) rfl)) rfl), (zw (zinp (List.mem_of_getElem? (i := 21) rfl)) rfl)⟩⟩
set_option maxRecDepth 20000 in
theorem zVl2_46 : zVok (((16, 69, 0), 160, 1, 8)) := ⟨_, _, rfl, rfl, by decide, ⟨rfl, by decide +kernel, _, rfl, (zw (zin5 (List.mem_of_getElem? (i := 200) rfl)) rfl), (zw (zin5 (List.mem_of_getElem? (i := 202) rfl)) rfl), (zw (zinp (List.mem_of_getElem? (i := 22) rfl)) rfl)⟩⟩
set_option maxRecDepth 20000 in
theorem zVl2_47 : zVok (((16, 73, 3), 116, 3, 0)) := ⟨_, _, rfl, rfl, by decide, ⟨rfl, by decide +kernel, (zw (zin5 (List.mem_of_getElem? (i := 204) rfl)) rfl), (zw (zin4 (List.mem_of_getElem? (i := 54) rfl)) rfl)⟩⟩
set_option maxRecDepth 20000 in
theorem zVl2_48 : zVok (((16, 79, 3), 117, 2, 0)) := ⟨_, _, rfl, rfl, by decide, ⟨rfl, by decide +kernel, (zw (zin5 (List.mem_of_getElem? (i := 232) rfl)) rfl), (zw (zin4 (List.mem_of_getElem? (i := 57) rfl)) rfl)⟩⟩
set_option maxRecDepth 20000 in
theorem zVl2_49 : zVok (((15, 64, 0), 162, 2, 7)) := ⟨_, _, rfl, rfl, by decide, ⟨rfl, by decide +kernel, _, rfl, (zw (zin5 (List.mem_of_getElem? (i := 238) rfl)) rfl), (zw (zin6 (List.mem_of_getElem? (i := 0) rfl)) rfl), (zw (zinp (List.mem_of_getElem? (i := 23) rfl)) rfl)⟩⟩
set_option maxRecDepth 20000 in
theorem zVl2_50 : zVok (((15, 38, 8), 164, 1, 8)) := ⟨_, _, rfl, rfl, by decide, ⟨rfl, _, ⟨"java/util/List", "get", "(I)Ljava/lang/Object;"⟩, rfl, by decide +kernel, by decide +kernel, by decide +kernel, (zw (zin6 (List.mem_of_getElem? (i := 7) rfl)) rfl), (zx (zin6 (List.mem_of_getElem? (i := 9) rfl)) rfl), (zx (zin6 (List.mem_of_getElem? (i := 8) rfl)) (by decide +kernel)), (zw (zin6 (List.mem_of_getElem? (i := 10) rfl)) rfl), (zw (zin6 (List.mem_of_getElem? (i := 12) rfl)) rfl), (zx (zin6 (List.mem_of_getElem? (i := 13) rfl)) rfl), (zx (zin6 (List.mem_of_getElem? (i := 11) rfl)) rfl), (zx (zin5 (List.mem_of_getElem? (i := 132) rfl)) rfl)⟩⟩
set_option maxRecDepth 20000 in
theorem zVl2_51 : zVok (((15, 67, 0), 168, 1, 9)) := ⟨_, _, rfl, rfl, by decide, ⟨rfl, by decide +kernel, _, rfl, (zw (zin6 (List.mem_of_getElem? (i := 27) rfl)) rfl), (zw (zin6 (List.mem_of_getElem? (i := 28) rfl)) rfl), (zw (zin6 (List.mem_of_getElem? (i := 29) rfl)) rfl)⟩⟩
set_option maxRecDepth 20000 in
theorem zVl2_52 : zVok (((15, 70, 3), 169, 2, 0)) := ⟨_, _, rfl, rfl, by decide, ⟨rfl, by decide +kernel, (zw (zin6 (List.mem_of_getElem? (i := 31) rfl)) rfl), (zw (zin6 (List.mem_of_getElem? (i := 32) rfl)) rfl)⟩⟩
set_option maxRecDepth 20000 in
theorem zVl2_53 : zVok (((15, 77, 0), 171, 1, 9)) := ⟨_, _, rfl, rfl, by decide, ⟨rfl, by decide +kernel, _, rfl, (zw (zin6 (List.mem_of_getElem? (i := 37) rfl)) rfl), (zw (zin6 (List.mem_of_getElem? (i := 38) rfl)) rfl), (zw (zin6 (List.mem_of_getElem? (i := 39) rfl)) rfl)⟩⟩
set_option maxRecDepth 20000 in
theorem zVl2_54 : zVok (((15, 34, 0), 163, 1, 7)) := ⟨_, _, rfl, rfl, by decide, ⟨rfl, by decide +kernel, _, rfl, (zw (zin6 (List.mem_of_getElem? (i := 2) rfl)) rfl), (zw (zin6 (List.mem_of_getElem? (i := 4) rfl)) rfl), (zw (zinp (List.mem_of_getElem? (i := 24) rfl)) rfl)⟩⟩
set_option maxRecDepth 20000 in
theorem zVl2_55 : zVok (((15, 47, 0), 167, 0, 9)) := ⟨_, _, rfl, rfl, by decide, ⟨rfl, by decide +kernel, _, rfl, (zw (zin6 (List.mem_of_getElem? (i := 23) rfl)) rfl), (zw (zin6 (List.mem_of_getElem? (i := 24) rfl)) rfl), (zw (zin6 (List.mem_of_getElem? (i := 25) rfl)) rfl)⟩⟩
set_option maxRecDepth 20000 in
theorem zVl2_56 : zVok (((16, 118, 3), 165, 2, 0)) := ⟨_, _, rfl, rfl, by decide, ⟨rfl, by decide +kernel, (zw (zin6 (List.mem_of_getElem? (i := 15) rfl)) rfl), (zw (zin6 (List.mem_of_getElem? (i := 16) rfl)) rfl)⟩⟩
set_option maxRecDepth 20000 in
theorem zVl2_57 : zVok (((16, 123, 0), 166, 1, 8)) := ⟨_, _, rfl, rfl, by decide, ⟨rfl, by decide +kernel, _, rfl, (zw (zin6 (List.mem_of_getElem? (i := 19) rfl)) rfl), (zw (zin6 (List.mem_of_getElem? (i := 20) rfl)) rfl), (zw (zin6 (List.mem_of_getElem? (i := 21) rfl)) rfl)⟩⟩
set_option maxRecDepth 20000 in
theorem zVl2_58 : zVok (((20, 105, 3), 122, 3, 0)) := ⟨_, _, rfl, rfl, by decide, ⟨rfl, by decide +kernel, (zw (zin6 (List.mem_of_getElem? (i := 18) rfl)) rfl), (zw (zin4 (List.mem_of_getElem? (i := 129) rfl)) rfl)⟩⟩
set_option maxRecDepth 20000 in
theorem zVl2_59 : zVok (((15, 61, 3), 170, 1, 0)) := ⟨_, _, rfl, rfl, by decide, ⟨rfl, by decide +kernel, (zw (zin6 (List.mem_of_getElem? (i := 34) rfl)) rfl), (zw (zin6 (List.mem_of_getElem? (i := 35) rfl)) rfl)⟩⟩
theorem zVl2_ok : ∀ e ∈ zVl2, zVok e := List.forall_mem_cons.mpr ⟨zVl2_0, List.forall_mem_cons.mpr ⟨zVl2_1, List.forall_mem_cons.mpr ⟨zVl2_2, List.forall_mem_cons.mpr ⟨zVl2_3, List.forall_mem_cons.mpr ⟨zVl2_4, List.forall_mem_cons.mpr ⟨zVl2_5, List.forall_mem_cons.mpr ⟨zVl2_6, List.forall_mem_cons.mpr ⟨zVl2_7, List.forall_mem_cons.mpr ⟨zVl2_8, List.forall_mem_cons.mpr ⟨zVl2_9, List.forall_mem_cons.mpr ⟨zVl2_10, List.forall_mem_cons.mpr ⟨zVl2_11, List.forall_mem_cons.mpr ⟨zVl2_12, List.forall_mem_cons.mpr ⟨zVl2_13, List.forall_mem_cons.mpr ⟨zVl2_14, List.forall_mem_cons.mpr ⟨zVl2_15, List.forall_mem_cons.mpr ⟨zVl2_16, List.forall_mem_cons.mpr ⟨zVl2_17, List.forall_mem_cons.mpr ⟨zVl2_18, List.forall_mem_cons.mpr ⟨zVl2_19, List.forall_mem_cons.mpr ⟨zVl2_20, List.forall_mem_cons.mpr ⟨zVl2_21, List.forall_mem_cons.mpr ⟨zVl2_22, List.forall_mem_cons.mpr ⟨zVl2_23, List.forall_mem_cons.mpr ⟨zVl2_24, List.forall_mem_cons.mpr ⟨zVl2_25, List.forall_mem_cons.mpr ⟨zVl2_26, List.forall_mem_cons.mpr ⟨zVl2_27, List.forall_mem_cons.mpr ⟨zVl2_28, List.forall_mem_cons.mpr ⟨zVl2_29, List.forall_mem_cons.mpr ⟨zVl2_30, List.forall_mem_cons.mpr ⟨zVl2_31, List.forall_mem_cons.mpr ⟨zVl2_32, List.forall_mem_cons.mpr ⟨zVl2_33, List.forall_mem_cons.mpr ⟨zVl2_34, List.forall_mem_cons.mpr ⟨zVl2_35, List.forall_mem_cons.mpr ⟨zVl2_36, List.forall_mem_cons.mpr ⟨zVl2_37, List.forall_mem_cons.mpr ⟨zVl2_38, List.forall_mem_cons.mpr ⟨zVl2_39, List.forall_mem_cons.mpr ⟨zVl2_40, List.forall_mem_cons.mpr ⟨zVl2_41, List.forall_mem_cons.mpr ⟨zVl2_42, List.forall_mem_cons.mpr ⟨zVl2_43, List.forall_mem_cons.mpr ⟨zVl2_44, List.forall_mem_cons.mpr ⟨zVl2_45, List.forall_mem_cons.mpr ⟨zVl2_46, List.forall_mem_cons.mpr ⟨zVl2_47, List.forall_mem_cons.mpr ⟨zVl2_48, List.forall_mem_cons.mpr ⟨zVl2_49, List.forall_mem_cons.mpr ⟨zVl2_50, List.forall_mem_cons.mpr ⟨zVl2_51, List.forall_mem_cons.mpr ⟨zVl2_52, List.forall_mem_cons.mpr ⟨zVl2_53, List.forall_mem_cons.mpr ⟨zVl2_54, List.forall_mem_cons.mpr ⟨zVl2_55, List.forall_mem_cons.mpr ⟨zVl2_56, List.forall_mem_cons.mpr ⟨zVl2_57, List.forall_mem_cons.mpr ⟨zVl2_58, List.forall_mem_cons.mpr ⟨zVl2_59, fun _ h => absurd h List.not_mem_nil⟩⟩⟩⟩⟩⟩⟩⟩⟩⟩⟩⟩⟩⟩⟩⟩⟩⟩⟩⟩⟩⟩⟩⟩⟩⟩⟩⟩⟩⟩⟩⟩⟩⟩⟩⟩⟩⟩⟩⟩⟩⟩⟩⟩⟩⟩⟩⟩⟩⟩⟩⟩⟩⟩⟩⟩⟩⟩⟩⟩
def zVl3 : List (zVe) := [((19, 54, 0), 168, 1, 9),
  ((19, 72, 0), 172, 2, 9),
  ((19, 58, 0), 173, 2, 9),
  ((19, 62, 0), 174, 1, 9),
  ((19, 65, 4), 175, 2, 0),
  ((19, 69, 4), 176, 2, 0),
  ((15, 20, 3), 175, 2, 0),
  ((15, 80, 0), 179, 2, 7),
  ((15, 83, 0), 174, 1, 9),
  ((15, 86, 0), 180, 4, 9),
  ((15, 90, 0), 181, 0, 9),
  ((15, 44, 0), 156, 0, 9),
  ((19, 75, 8), 153, 0, 8),
  ((19, 111, 0), 182, 0, 9),
  ((19, 97, 0), 183, 1, 9),
  ((19, 103, 0), 184, 3, 9),
  ((19, 107, 0), 185, 6, 9),
  ((19, 83, 0), 171, 1, 9),
  ((15, 99, 0), 187, 0, 9),
  ((19, 80, 0), 167, 0, 9),
  ((19, 86, 0), 188, 2, 9),
  ((19, 90, 0), 180, 4, 9),
  ((19, 94, 4), 189, 1, 0),
  ((15, 111, 3), 191, 1, 0),
  ((15, 115, 5), 192, 3, 0),
  ((15, 118, 8), 194, 1, 8),
  ((16, 144, 0), 195, 2, 8),
  ((15, 129, 0), 197, 1, 9),
  ((19, 115, 0), 198, 0, 9),
  ((19, 118, 3), 199, 3, 0),
  ((19, 122, 4), 200, 1, 0),
  ((19, 47, 5), 154, 2, 0),
  ((19, 50, 3), 191, 1, 0),
  ((15, 139, 0), 173, 2, 9),
  ((15, 143, 0), 202, 1, 9),
  ((15, 145, 3), 176, 2, 0),
  ((15, 148, 0), 155, 0, 9),
  ((15, 158, 3), 208, 3, 0),
  ((15, 154, 0), 188, 2, 9),
  ((15, 162, 0), 210, 2, 9),
  ((15, 172, 0), 182, 0, 9),
  ((15, 176, 3), 212, 3, 0),
  ((15, 165, 0), 213, 0, 9),
  ((15, 168, 3), 214, 2, 0),
  ((15, 182, 5), 110, 0, 0),
  ((15, 185, 0), 112, 1, 5),
  ((15, 189, 0), 124, 0, 5),
  ((15, 197, 3), 218, 2, 0),
  ((15, 193, 3), 219, 2, 0),
  ((15, 207, 3), 221, 1, 0),
  ((15, 211, 3), 222, 2, 0),
  ((15, 215, 0), 224, 1, 7),
  ((15, 220, 3), 226, 1, 0),
  ((15, 218, 3), 189, 1, 0),
  ((15, 230, 3), 228, 2, 0),
  ((15, 233, 0), 198, 0, 9),
  ((15, 242, 3), 231, 2, 0),
  ((15, 236, 3), 232, 3, 0),
  ((15, 240, 3), 119, 2, 0),
  ((15, 249, 0), 234, 2, 7)]
set_option maxRecDepth 20000 in
theorem zVl3_0 : zVok (((19, 54, 0), 168, 1, 9)) := ⟨_, _, rfl, rfl, by decide, ⟨rfl, by decide +kernel, _, rfl, (zw (zin6 (List.mem_of_getElem? (i := 41) rfl)) rfl), (zw (zin6 (List.mem_of_getElem? (i := 28) rfl)) rfl), (zw (zin6 (List.mem_of_getElem? (i := 29) rfl)) rfl)⟩⟩
set_option maxRecDepth 20000 in
theorem zVl3_1 : zVok (((19, 72, 0), 172, 2, 9)) := ⟨_, _, rfl, rfl, by decide, ⟨rfl, by decide +kernel, _, rfl, (zw (zin6 (List.mem_of_getElem? (i := 42) rfl)) rfl), (zw (zin6 (List.mem_of_getElem? (i := 43) rfl)) rfl), (zw (zin6 (List.mem_of_getElem? (i := 44) rfl)) rfl)⟩⟩
set_option maxRecDepth 20000 in
theorem zVl3_2 : zVok (((19, 58, 0), 173, 2, 9)) := ⟨_, _, rfl, rfl, by decide, ⟨rfl, by decide +kernel, _, rfl, (zw (zin6 (List.mem_of_getElem? (i := 46) rfl)) rfl), (zw (zin6 (List.mem_of_getElem? (i := 47) rfl)) rfl), (zw (zin6 (List.mem_of_getElem? (i := 48) rfl)) rfl)⟩⟩
set_option maxRecDepth 20000 in
theorem zVl3_3 : zVok (((19, 62, 0), 174, 1, 9)) := ⟨_, _, rfl, rfl, by decide, ⟨rfl, by decide +kernel, _, rfl, (zw (zin6 (List.mem_of_getElem? (i := 50) rfl)) rfl), (zw (zin6 (List.mem_of_getElem? (i := 51) rfl)) rfl), (zw (zin6 (List.mem_of_getElem? (i := 52) rfl)) rfl)⟩⟩
set_option maxRecDepth 20000 in
theorem zVl3_4 : zVok (((19, 65, 4), 175, 2, 0)) := ⟨_, _, rfl, rfl, by decide, ⟨rfl, by decide +kernel, ⟨_, (zx (zin6 (List.mem_of_getElem? (i := 54) rfl)) rfl)⟩, (zw (zin6 (List.mem_of_getElem? (i := 55) rfl)) rfl)⟩⟩
set_option maxRecDepth 20000 in
theorem zVl3_5 : zVok (((19, 69, 4), 176, 2, 0)) := ⟨_, _, rfl, rfl, by decide, ⟨rfl, by decide +kernel, ⟨_, (zx (zin6 (List.mem_of_getElem? (i := 57) rfl)) rfl)⟩, (zw (zin6 (List.mem_of_getElem? (i := 58) rfl)) rfl)⟩⟩
set_option maxRecDepth 20000 in
theorem zVl3_6 : zVok (((15, 20, 3), 175, 2, 0)) := ⟨_, _, rfl, rfl, by decide, ⟨rfl, by decide +kernel, (zw (zin6 (List.mem_of_getElem? (i := 60) rfl)) rfl), (zw (zin6 (List.mem_of_getElem? (i := 55) rfl)) rfl)⟩⟩
set_option maxRecDepth 20000 in
theorem zVl3_7 : zVok (((15, 80, 0), 179, 2, 7)) := ⟨_, _, rfl, rfl, by decide, ⟨rfl, by decide +kernel, _, rfl, (zw (zin6 (List.mem_of_getElem? (i := 69) rfl)) rfl), (zw (zin6 (List.mem_of_getElem? (i := 71) rfl)) rfl), (zw (zinp (List.mem_of_getElem? (i := 25) rfl)) rfl)⟩⟩
set_option maxRecDepth 20000 in
theorem zVl3_8 : zVok (((15, 83, 0), 174, 1, 9)) := ⟨_, _, rfl, rfl, by decide, ⟨rfl, by decide +kernel, _, rfl, (zw (zin6 (List.mem_of_getElem? (i := 74) rfl)) rfl), (zw (zin6 (List.mem_of_getElem? (i := 51) rfl)) rfl), (zw (zin6 (List.mem_of_getElem? (i := 52) rfl)) rfl)⟩⟩
set_option maxRecDepth 20000 in
theorem zVl3_9 : zVok (((15, 86, 0), 180, 4, 9)) := ⟨_, _, rfl, rfl, by decide, ⟨rfl, by decide +kernel, _, rfl, (zw (zin6 (List.mem_of_getElem? (i := 75) rfl)) rfl), (zw (zin6 (List.mem_of_getElem? (i := 76) rfl)) rfl), (zw (zin6 (List.mem_of_getElem? (i := 77) rfl)) rfl)⟩⟩
set_option maxRecDepth 20000 in
theorem zVl3_10 : zVok (((15, 90, 0), 181, 0, 9)) := ⟨_, _, rfl, rfl, by decide, ⟨rfl, by decide +kernel, _, rfl, (zw (zin6 (List.mem_of_getElem? (i := 81) rfl)) rfl), (zw (zin6 (List.mem_of_getElem? (i := 82) rfl)) rfl), (zw (zin6 (List.mem_of_getElem? (i := 83) rfl)) rfl)⟩⟩
set_option maxRecDepth 20000 in
theorem zVl3_11 : zVok (((15, 44, 0), 156, 0, 9)) := ⟨_, _, rfl, rfl, by decide, ⟨rfl, by decide +kernel, _, rfl, (zw (zin6 (List.mem_of_getElem? (i := 73) rfl)) rfl), (zw (zin5 (List.mem_of_getElem? (i := 151) rfl)) rfl), (zw (zin5 (List.mem_of_getElem? (i := 152) rfl)) rfl)⟩⟩
set_option maxRecDepth 20000 in
theorem zVl3_12 : zVok (((19, 75, 8), 153, 0, 8)) := ⟨_, _, rfl, rfl, by decide, ⟨rfl, _, ⟨"java/util/List", "size", "()I"⟩, rfl, by decide +kernel, by decide +kernel, by decide +kernel, (zw (zin6 (List.mem_of_getElem? (i := 80) rfl)) rfl), (zx (zin5 (List.mem_of_getElem? (i := 131) rfl)) rfl), (zx (zin5 (List.mem_of_getElem? (i := 130) rfl)) (by decide +kernel)), (zw (zin5 (List.mem_of_getElem? (i := 133) rfl)) rfl), (zw (zin5 (List.mem_of_getElem? (i := 135) rfl)) rfl), (zx (zin5 (List.mem_of_getElem? (i := 136) rfl)) rfl), (zx (zin5 (List.mem_of_getElem? (i := 134) rfl)) rfl), (zx (zin5 (List.mem_of_getElem? (i := 132) rfl)) rfl)⟩⟩
set_option maxRecDepth 20000 in
theorem zVl3_13 : zVok (((19, 111, 0), 182, 0, 9)) := ⟨_, _, rfl, rfl, by decide, ⟨rfl, by decide +kernel, _, rfl, (zw (zin6 (List.mem_of_getElem? (i := 85) rfl)) rfl), (zw (zin6 (List.mem_of_getElem? (i := 86) rfl)) rfl), (zw (zin6 (List.mem_of_getElem? (i := 87) rfl)) rfl)⟩⟩
set_option maxRecDepth 20000 in
theorem zVl3_14 : zVok (((19, 97, 0), 183, 1, 9)) := ⟨_, _, rfl, rfl, by decide, ⟨rfl, by decide +kernel, _, rfl, (zw (zin6 (List.mem_of_getElem? (i := 90) rfl)) rfl), (zw (zin6 (List.mem_of_getElem? (i := 91) rfl)) rfl), (zw (zin6 (List.mem_of_getElem? (i := 92) rfl)) rfl)⟩⟩
set_option maxRecDepth 20000 in
theorem zVl3_15 : zVok (((19, 103, 0), 184, 3, 9)) := ⟨_, _, rfl, rfl, by decide, ⟨rfl, by decide +kernel, _, rfl, (zw (zin6 (List.mem_of_getElem? (i := 97) rfl)) rfl), (zw (zin6 (List.mem_of_getElem? (i := 99) rfl)) rfl), (zw (zinp (List.mem_of_getElem? (i := 26) rfl)) rfl)⟩⟩
set_option maxRecDepth 20000 in
theorem zVl3_16 : zVok (((19, 107, 0), 185, 6, 9)) := ⟨_, _, rfl, rfl, by decide, ⟨rfl, by decide +kernel, _, rfl, (zw (zin6 (List.mem_of_getElem? (i := 101) rfl)) rfl), (zw (zin6 (List.mem_of_getElem? (i := 103) rfl)) rfl), (zw (zinp (List.mem_of_getElem? (i := 27) rfl)) rfl)⟩⟩
set_option maxRecDepth 20000 in
theorem zVl3_17 : zVok (((19, 83, 0), 171, 1, 9)) := ⟨_, _, rfl, rfl, by decide, ⟨rfl, by decide +kernel, _, rfl, (zw (zin6 (List.mem_of_getElem? (i := 94) rfl)) rfl), (zw (zin6 (List.mem_of_getElem? (i := 38) rfl)) rfl), (zw (zin6 (List.mem_of_getElem? (i := 39) rfl)) rfl)⟩⟩
set_option maxRecDepth 20000 in
theorem zVl3_18 : zVok (((15, 99, 0), 187, 0, 9)) := ⟨_, _, rfl, rfl, by decide, ⟨rfl, by decide +kernel, _, rfl, (zw (zin6 (List.mem_of_getElem? (i := 110) rfl)) rfl), (zw (zin6 (List.mem_of_getElem? (i := 111) rfl)) rfl), (zw (zin6 (List.mem_of_getElem? (i := 112) rfl)) rfl)⟩⟩
set_option maxRecDepth 20000 in
theorem zVl3_19 : zVok (((19, 80, 0), 167, 0, 9)) := ⟨_, _, rfl, rfl, by decide, ⟨rfl, by decide +kernel, _, rfl, (zw (zin6 (List.mem_of_getElem? (i := 114) rfl)) rfl), (zw (zin6 (List.mem_of_getElem? (i := 24) rfl)) rfl), (zw (zin6 (List.mem_of_getElem? (i := 25) rfl)) rfl)⟩⟩
set_option maxRecDepth 20000 in
theorem zVl3_20 : zVok (((19, 86, 0), 188, 2, 9)) := ⟨_, _, rfl, rfl, by decide, ⟨rfl, by decide +kernel, _, rfl, (zw (zin6 (List.mem_of_getElem? (i := 115) rfl)) rfl), (zw (zin6 (List.mem_of_getElem? (i := 116) rfl)) rfl), (zw (zin6 (List.mem_of_getElem? (i := 117) rfl)) rfl)⟩⟩
set_option maxRecDepth 20000 in
theorem zVl3_21 : zVok (((19, 90, 0), 180, 4, 9)) := ⟨_, _, rfl, rfl, by decide, ⟨rfl, by decide +kernel, _, rfl, (zw (zin6 (List.mem_of_getElem? (i := 119) rfl)) rfl), (zw (zin6 (List.mem_of_getElem? (i := 76) rfl)) rfl), (zw (zin6 (List.mem_of_getElem? (i := 77) rfl)) rfl)⟩⟩
set_option maxRecDepth 20000 in
theorem zVl3_22 : zVok (((19, 94, 4), 189, 1, 0)) := ⟨_, _, rfl, rfl, by decide, ⟨rfl, by decide +kernel, ⟨_, (zx (zin6 (List.mem_of_getElem? (i := 120) rfl)) rfl)⟩, (zw (zin6 (List.mem_of_getElem? (i := 121) rfl)) rfl)⟩⟩
set_option maxRecDepth 20000 in
theorem zVl3_23 : zVok (((15, 111, 3), 191, 1, 0)) := ⟨_, _, rfl, rfl, by decide, ⟨rfl, by decide +kernel, (zw (zin6 (List.mem_of_getElem? (i := 129) rfl)) rfl), (zw (zin6 (List.mem_of_getElem? (i := 130) rfl)) rfl)⟩⟩
set_option maxRecDepth 20000 in
theorem zVl3_24 : zVok (((15, 115, 5), 192, 3, 0)) := ⟨_, _, rfl, rfl, by decide, ⟨rfl, by decide +kernel, rfl, rfl, (zw (zin6 (List.mem_of_getElem? (i := 132) rfl)) rfl), (zw (zin6 (List.mem_of_getElem? (i := 133) rfl)) rfl)⟩⟩
set_option maxRecDepth 20000 in
theorem zVl3_25 : zVok (((15, 118, 8), 194, 1, 8)) := ⟨_, _, rfl, rfl, by decide, ⟨rfl, _, ⟨"java/util/List", "remove", "(I)Ljava/lang/Object;"⟩, rfl, by decide +kernel, by decide +kernel, by decide +kernel, (zw (zin6 (List.mem_of_getElem? (i := 154) rfl)) rfl), (zx (zin6 (List.mem_of_getElem? (i := 156) rfl)) rfl), (zx (zin6 (List.mem_of_getElem? (i := 155) rfl)) (by decide +kernel)), (zw (zin6 (List.mem_of_getElem? (i := 157) rfl)) rfl), (zw (zin6 (List.mem_of_getElem? (i := 159) rfl)) rfl), (zx (zin6 (List.mem_of_getElem? (i := 160) rfl)) rfl), (zx (zin6 (List.mem_of_getElem? (i := 158) rfl)) rfl), (zx (zin5 (List.mem_of_getElem? (i := 132) rfl)) rfl)⟩⟩
set_option maxRecDepth 20000 in
theorem zVl3_26 : zVok (((16, 144, 0), 195, 2, 8)) := ⟨_, _, rfl, rfl, by decide, ⟨rfl, by decide +kernel, _, rfl, (zw (zin6 (List.mem_of_getElem? (i := 162) rfl)) rfl), (zw (zin6 (List.mem_of_getElem? (i := 164) rfl)) rfl), (zw (zinp (List.mem_of_getElem? (i := 28) rfl)) rfl)⟩⟩
set_option maxRecDepth 20000 in
theorem zVl3_27 : zVok (((15, 129, 0), 197, 1, 9)) := ⟨_, _, rfl, rfl, by decide, ⟨rfl, by decide +kernel, _, rfl, (zw (zin6 (List.mem_of_getElem? (i := 171) rfl)) rfl), (zw (zin6 (List.mem_of_getElem? (i := 172) rfl)) rfl), (zw (zin6 (List.mem_of_getElem? (i := 173) rfl)) rfl)⟩⟩
set_option maxRecDepth 20000 in
theorem zVl3_28 : zVok (((19, 115, 0), 198, 0, 9)) := ⟨_, _, rfl, rfl, by decide, ⟨rfl, by decide +kernel, _, rfl, (zw (zin6 (List.mem_of_getElem? (i := 175) rfl)) rfl), (zw (zin6 (List.mem_of_getElem? (i := 176) rfl)) rfl), (zw (zin6 (List.mem_of_getElem? (i := 177) rfl)) rfl)⟩⟩
set_option maxRecDepth 20000 in
theorem zVl3_29 : zVok (((19, 118, 3), 199, 3, 0)) := ⟨_, _, rfl, rfl, by decide, ⟨rfl, by decide +kernel, (zw (zin6 (List.mem_of_getElem? (i := 182) rfl)) rfl), (zw (zin6 (List.mem_of_getElem? (i := 183) rfl)) rfl)⟩⟩
set_option maxRecDepth 20000 in
theorem zVl3_30 : zVok (((19, 122, 4), 200, 1, 0)) := ⟨_, _, rfl, rfl, by decide, ⟨rfl, by decide +kernel, ⟨_, (zx (zin6 (List.mem_of_getElem? (i := 185) rfl)) rfl)⟩, (zw (zin6 (List.mem_of_getElem? (i := 186) rfl)) rfl)⟩⟩
set_option maxRecDepth 20000 in
theorem zVl3_31 : zVok (((19, 47, 5), 154, 2, 0)) := ⟨_, _, rfl, rfl, by decide, ⟨rfl, by decide +kernel, rfl, rfl, (zw (zin6 (List.mem_of_getElem? (i := 180) rfl)) rfl), (zw (zin5 (List.mem_of_getElem? (i := 141) rfl)) rfl)⟩⟩
set_option maxRecDepth 20000 in
theorem zVl3_32 : zVok (((19, 50, 3), 191, 1, 0)) := ⟨_, _, rfl, rfl, by decide, ⟨rfl, by decide +kernel, (zw (zin6 (List.mem_of_getElem? (i := 181) rfl)) rfl), (zw (zin6 (List.mem_of_getElem? (i := 130) rfl)) rfl)⟩⟩
set_option maxRecDepth 20000 in
theorem zVl3_33 : zVok (((15, 139, 0), 173, 2, 9)) := ⟨_, _, rfl, rfl, by decide, ⟨rfl, by decide +kernel, _, rfl, (zw (zin6 (List.mem_of_getElem? (i := 192) rfl)) rfl), (zw (zin6 (List.mem_of_getElem? (i := 47) rfl)) rfl), (zw (zin6 (List.mem_of_getElem? (i := 48) rfl)) rfl)⟩⟩
set_option maxRecDepth 20000 in
theorem zVl3_34 : zVok (((15, 143, 0), 202, 1, 9)) := ⟨_, _, rfl, rfl, by decide, ⟨rfl, by decide +kernel, _, rfl, (zw (zin6 (List.mem_of_getElem? (i := 193) rfl)) rfl), (zw (zin6 (List.mem_of_getElem? (i := 194) rfl)) rfl), (zw (zin6 (List.mem_of_getElem? (i := 195) rfl)) rfl)⟩⟩
set_option maxRecDepth 20000 in
theorem zVl3_35 : zVok (((15, 145, 3), 176, 2, 0)) := ⟨_, _, rfl, rfl, by decide, ⟨rfl, by decide +kernel, (zw (zin6 (List.mem_of_getElem? (i := 201) rfl)) rfl), (zw (zin6 (List.mem_of_getElem? (i := 58) rfl)) rfl)⟩⟩
set_option maxRecDepth 20000 in
theorem zVl3_36 : zVok (((15, 148, 0), 155, 0, 9)) := ⟨_, _, rfl, rfl, by decide, ⟨rfl, by decide +kernel, _, rfl, (zw (zin6 (List.mem_of_getElem? (i := 202) rfl)) rfl), (zw (zin5 (List.mem_of_getElem? (i := 147) rfl)) rfl), (zw (zin5 (List.mem_of_getElem? (i := 148) rfl)) rfl)⟩⟩
set_option maxRecDepth 20000 in
theorem zVl3_37 : zVok (((15, 158, 3), 208, 3, 0)) := ⟨_, _, rfl, rfl, by decide, ⟨rfl, by decide +kernel, (zw (zin6 (List.mem_of_getElem? (i := 219) rfl)) rfl), (zw (zin6 (List.mem_of_getElem? (i := 220) rfl)) rfl)⟩⟩
set_option maxRecDepth 20000 in
theorem zVl3_38 : zVok (((15, 154, 0), 188, 2, 9)) := ⟨_, _, rfl, rfl, by decide, ⟨rfl, by decide +kernel, _, rfl, (zw (zin6 (List.mem_of_getElem? (i := 222) rfl)) rfl), (zw (zin6 (List.mem_of_getElem? (i := 116) rfl)) rfl), (zw (zin6 (List.mem_of_getElem? (i := 117) rfl)) rfl)⟩⟩
set_option maxRecDepth 20000 in
theorem zVl3_39 : zVok (((15, 162, 0), 210, 2, 9)) := ⟨_, _, rfl, rfl, by decide, ⟨rfl, by decide +kernel, _, rfl, (zw (zin6 (List.mem_of_getElem? (i := 227) rfl)) rfl), (zw (zin6 (List.mem_of_getElem? (i := 228) rfl)) rfl), (zw (zin6 (List.mem_of_getElem? (i := 229) rfl)) rfl)⟩⟩
set_option maxRecDepth 20000 in
theorem zVl3_40 : zVok (((15, 172, 0), 182, 0, 9)) := ⟨_, _, rfl, rfl, by decide, ⟨rfl, by decide +kernel, _, rfl, (zw (zin6 (List.mem_of_getElem? (i := 235) rfl)) rfl), (zw (zin6 (List.mem_of_getElem? (i := 86) rfl)) rfl), (zw (zin6 (List.mem_of_getElem? (i := 87) rfl)) rfl)⟩⟩
set_option maxRecDepth 20000 in
theorem zVl3_41 : zVok (((15, 176, 3), 212, 3, 0)) := ⟨_, _, rfl, rfl, by decide, ⟨rfl, by decide +kernel, (zw (zin6 (List.mem_of_getElem? (i := 236) rfl)) rfl), (zw (zin6 (List.mem_of_getElem? (i := 237) rfl)) rfl)⟩⟩
set_option maxRecDepth 20000 in
theorem zVl3_42 : zVok (((15, 165, 0), 213, 0, 9)) := ⟨_, _, rfl, rfl, by decide, ⟨rfl, by decide +kernel, _, rfl, (zw (zin6 (List.mem_of_getElem? (i := 239) rfl)) rfl), (zw (zin7 (List.mem_of_getElem? (i := 0) rfl)) rfl), (zw (zin7 (List.mem_of_getElem? (i := 1) rfl)) rfl)⟩⟩
set_option maxRecDepth 20000 in
theorem zVl3_43 : zVok (((15, 168, 3), 214, 2, 0)) := ⟨_, _, rfl, rfl, by decide, ⟨rfl, by decide +kernel, (zw (zin7 (List.mem_of_getElem? (i := 3) rfl)) rfl), (zw (zin7 (List.mem_of_getElem? (i := 4) rfl)) rfl)⟩⟩
set_option maxRecDepth 20000 in
theorem zVl3_44 : zVok (((15, 182, 5), 110, 0, 0)) := ⟨_, _, rfl, rfl, by decide, ⟨rfl, by decide +kernel, rfl, rfl, (zw (zin7 (List.mem_of_getElem? (i := 11) rfl)) rfl), (zw (zin4 (List.mem_of_getElem? (i := 10) rfl)) rfl)⟩⟩
set_option maxRecDepth 20000 in
theorem zVl3_45 : zVok (((15, 185, 0), 112, 1, 5)) := ⟨_, _, rfl, rfl, by decide, ⟨rfl, by decide +kernel, _, rfl, (zw (zin7 (List.mem_of_getElem? (i := 13) rfl)) rfl), (zw (zin4 (List.mem_of_getElem? (i := 39) rfl)) rfl), (zw (zin4 (List.mem_of_getElem? (i := 40) rfl)) rfl)⟩⟩
set_option maxRecDepth 20000 in
theorem zVl3_46 : zVok (((15, 189, 0), 124, 0, 5)) := ⟨_, _, rfl, rfl, by decide, ⟨rfl, by decide +kernel, _, rfl, (zw (zin7 (List.mem_of_getElem? (i := 14) rfl)) rfl), (zw (zin4 (List.mem_of_getElem? (i := 136) rfl)) rfl), (zw (zin4 (List.mem_of_getElem? (i := 137) rfl)) rfl)⟩⟩
set_option maxRecDepth 20000 in
theorem zVl3_47 : zVok (((15, 197, 3), 218, 2, 0)) := ⟨_, _, rfl, rfl, by decide, ⟨rfl, by decide +kernel, (zw (zin7 (List.mem_of_getElem? (i := 23) rfl)) rfl), (zw (zin7 (List.mem_of_getElem? (i := 24) rfl)) rfl)⟩⟩
set_option maxRecDepth 20000 in
theorem zVl3_48 : zVok (((15, 193, 3), 219, 2, 0)) := ⟨_, _, rfl, rfl, by decide, ⟨rfl, by decide +kernel, (zw (zin7 (List.mem_of_getElem? (i := 26) rfl)) rfl), (zw (zin7 (List.mem_of_getElem? (i := 27) rfl)) rfl)⟩⟩
set_option maxRecDepth 20000 in
theorem zVl3_49 : zVok (((15, 207, 3), 221, 1, 0)) := ⟨_, _, rfl, rfl, by decide, ⟨rfl, by decide +kernel, (zw (zin7 (List.mem_of_getElem? (i := 33) rfl)) rfl), (zw (zin7 (List.mem_of_getElem? (i := 34) rfl)) rfl)⟩⟩
set_option maxRecDepth 20000 in
theorem zVl3_50 : zVok (((15, 211, 3), 222, 2, 0)) := ⟨_, _, rfl, rfl, by decide, ⟨rfl, by decide +kernel, (zw (zin7 (List.mem_of_getElem? (i := 36) rfl)) rfl), (zw (zin7 (List.mem_of_getElem? (i := 37) rfl)) rfl)⟩⟩
set_option maxRecDepth 20000 in
theorem zVl3_51 : zVok (((15, 215, 0), 224, 1, 7)) := ⟨_, _, rfl, rfl, by decide, ⟨rfl, by decide +kernel, _, rfl, (zw (zin7 (List.mem_of_getElem? (i := 51) rfl)) rfl), (zw (zin7 (List.mem_of_getElem? (i := 53) rfl)) rfl), (zw (zinp (List.mem_of_getElem? (i := 29) rfl)) rfl)⟩⟩
set_option maxRecDepth 20000 in
theorem zVl3_52 : zVok (((15, 220, 3), 226, 1, 0)) := ⟨_, _, rfl, rfl, by decide, ⟨rfl, by decide +kernel, (zw (zin7 (List.mem_of_getElem? (i := 59) rfl)) rfl), (zw (zin7 (List.mem_of_getElem? (i := 60) rfl)) rfl)⟩⟩
set_option maxRecDepth 20000 in
theorem zVl3_53 : zVok (((15, 218, 3), 189, 1, 0)) := ⟨_, _, rfl, rfl, by decide, ⟨rfl, by decide +kernel, (zw (zin7 (List.mem_of_getElem? (i := 62) rfl)) rfl), (zw (zin6 (List.mem_of_getElem? (i := 121) rfl)) rfl)⟩⟩
set_option maxRecDepth 20000 in
theorem zVl3_54 : zVok (((15, 230, 3), 228, 2, 0)) := ⟨_, _, rfl, rfl, by decide, ⟨rfl, by decide +kernel, (zw (zin7 (List.mem_of_getElem? (i := 67) rfl)) rfl), (zw (zin7 (List.mem_of_getElem? (i := 68) rfl)) rfl)⟩⟩
set_option maxRecDepth 20000 in
theorem zVl3_55 : zVok (((15, 233, 0), 198, 0, 9)) := ⟨_, _, rfl, rfl, by decide, ⟨rfl, by decide +kernel, _, rfl, (zw (zin7 (List.mem_of_getElem? (i := 85) rfl)) rfl), (zw (zin6 (List.mem_of_getElem? (i := 176) rfl)) rfl), (zw (zin6 (List.mem_of_getElem? (i := 177) rfl)) rfl)⟩⟩
set_option maxRecDepth 20000 in
theorem zVl3_56 : zVok (((15, 242, 3), 231, 2, 0)) := ⟨_, _, rfl, rfl, by decide, ⟨rfl, by decide +kernel, (zw (zin7 (List.mem_of_getElem? (i := 90) rfl)) rfl), (zw (zin7 (List.mem_of_getElem? (i := 91) rfl)) rfl)⟩⟩
set_option maxRecDepth 20000 in
theorem zVl3_57 : zVok (((15, 236, 3), 232, 3, 0)) := ⟨_, _, rfl, rfl, by decide, ⟨rfl, by decide +kernel, (zw (zin7 (List.mem_of_getElem? (i := 93) rfl)) rfl), (zw (zin7 (List.mem_of_getElem? (i := 94) rfl)) rfl)⟩⟩
set_option maxRecDepth 20000 in
theorem zVl3_58 : zVok (((15, 240, 3), 119, 2, 0)) := ⟨_, _, rfl, rfl, by decide, ⟨rfl, by decide +kernel, (zw (zin7 (List.mem_of_getElem? (i := 96) rfl)) rfl), (zw (zin4 (List.mem_of_getElem? (i := 75) rfl)) rfl)⟩⟩
set_option maxRecDepth 20000 in
theorem zVl3_59 : zVok (((15, 249, 0), 234, 2, 7)) := ⟨_, _, rfl, rfl, by decide, ⟨rfl, by decide +kernel, _, rfl, (zw (zin7 (List.mem_of_getElem? (i := 101) rfl)) rfl), (zw (zin7 (List.mem_of_getElem? (i := 103) rfl)) rfl), (zw (zinp (List.mem_of_getElem? (i := 30) rfl)) rfl)⟩⟩
theorem zVl3_ok : ∀ e ∈ zVl3, zVok e := List.forall_mem_cons.mpr ⟨zVl3_0, List.forall_mem_cons.mpr ⟨zVl3_1, List.forall_mem_cons.mpr ⟨zVl3_2, List.forall_mem_cons.mpr ⟨zVl3_3, List.forall_mem_cons.mpr ⟨zVl3_4, List.forall_mem_cons.mpr ⟨zVl3_5, List.forall_mem_cons.mpr ⟨zVl3_6, List.forall_mem_cons.mpr ⟨zVl3_7, List.forall_mem_cons.mpr ⟨zVl3_8, List.forall_mem_cons.mpr ⟨zVl3_9, List.forall_mem_cons.mpr ⟨zVl3_10, List.forall_mem_cons.mpr ⟨zVl3_11, List.forall_mem_cons.mpr ⟨zVl3_12, List.forall_mem_cons.mpr ⟨zVl3_13, List.forall_mem_cons.mpr ⟨zVl3_14, List.forall_mem_cons.mpr ⟨zVl3_15, List.forall_mem_cons.mpr ⟨zVl3_16, List.forall_mem_cons.mpr ⟨zVl3_17, List.forall_mem_cons.mpr ⟨zVl3_18, List.forall_mem_cons.mpr ⟨zVl3_19, List.forall_mem_cons.mpr ⟨zVl3_20, List.forall_mem_cons.mpr ⟨zVl3_21, List.forall_mem_cons.mpr ⟨zVl3_22, List.forall_mem_cons.mpr ⟨zVl3_23, List.forall_mem_cons.mpr ⟨zVl3_24, List.forall_mem_cons.mpr ⟨zVl3_25, List.forall_mem_cons.mpr ⟨zVl3_26, List.forall_mem_cons.mpr ⟨zVl3_27, List.forall_mem_cons.mpr ⟨zVl3_28, List.forall_mem_cons.mpr ⟨zVl3_29, List.forall_mem_cons.mpr ⟨zVl3_30, List.forall_mem_cons.mpr ⟨zVl3_31, List.forall_mem_cons.mpr ⟨zVl3_32, List.forall_mem_cons.mpr ⟨zVl3_33, List.forall_mem_cons.mpr ⟨zVl3_34, List.forall_mem_cons.mpr ⟨zVl3_35, List.forall_mem_cons.mpr ⟨zVl3_36, List.forall_mem_cons.mpr ⟨zVl3_37, List.forall_mem_cons.mpr ⟨zVl3_38, List.forall_mem_cons.mpr ⟨zVl3_39, List.forall_mem_cons.mpr ⟨zVl3_40, List.forall_mem_cons.mpr ⟨zVl3_41, List.forall_mem_cons.mpr ⟨zVl3_42, List.forall_mem_cons.mpr ⟨zVl3_43, List.forall_mem_cons.mpr ⟨zVl3_44, List.forall_mem_cons.mpr ⟨zVl3_45, List.forall_mem_cons.mpr ⟨zVl3_46, List.forall_mem_cons.mpr ⟨zVl3_47, List.forall_mem_cons.mpr ⟨zVl3_48, List.forall_mem_cons.mpr ⟨zVl3_49, List.forall_mem_cons.mpr ⟨zVl3_50, List.forall_mem_cons.mpr ⟨zVl3_51, List.forall_mem_cons.mpr ⟨zVl3_52, List.forall_mem_cons.mpr ⟨zVl3_53, List.forall_mem_cons.mpr ⟨zVl3_54, List.forall_mem_cons.mpr ⟨zVl3_55, List.forall_mem_cons.mpr ⟨zVl3_56, List.forall_mem_cons.mpr ⟨zVl3_57, List.forall_mem_cons.mpr ⟨zVl3_58, List.forall_mem_cons.mpr ⟨zVl3_59, fun _ h => absurd h List.not_mem_nil⟩⟩⟩⟩⟩⟩⟩⟩⟩⟩⟩⟩⟩⟩⟩⟩⟩⟩⟩⟩⟩⟩⟩⟩⟩⟩⟩⟩⟩⟩⟩⟩⟩⟩⟩⟩⟩⟩⟩⟩⟩⟩⟩⟩⟩⟩⟩⟩⟩⟩⟩⟩⟩⟩⟩⟩⟩⟩⟩⟩
def zVl4 : List (zVe) := [((15, 245, 3), 235, 2, 0),
  ((5, 113, 5), 0, 0, 0),
  ((5, 116, 5), 146, 0, 0),
  ((5, 117, 6), 66, 0, 0),
  ((5, 118, 9), 67, 4, 0),
  ((5, 123, 0), 150, 2, 7),
  ((5, 124, 9), 70, 5, 0),
  ((5, 127, 0), 161, 3, 7),
  ((5, 128, 9), 73, 4, 0),
  ((5, 130, 0), 177, 2, 7),
  ((5, 131, 9), 75, 5, 0),
  ((5, 134, 0), 178, 3, 7),
  ((5, 135, 9), 80, 3, 0),
  ((5, 138, 0), 186, 1, 7),
  ((5, 139, 9), 82, 5, 0),
  ((5, 141, 0), 190, 3, 7),
  ((5, 142, 9), 85, 4, 0),
  ((5, 145, 0), 193, 2, 7),
  ((5, 146, 9), 89, 4, 0),
  ((5, 148, 0), 196, 2, 7),
  ((5, 149, 9), 94, 5, 0),
  ((5, 151, 0), 201, 3, 7),
  ((5, 152, 9), 97, 3, 0),
  ((5, 154, 0), 203, 1, 7),
  ((5, 155, 9), 102, 3, 0),
  ((5, 157, 0), 204, 1, 7),
  ((5, 158, 0), 9, 0, 0),
  ((5, 162, 0), 205, 0, 7),
  ((5, 163, 9), 104, 5, 0),
  ((5, 165, 0), 206, 3, 7),
  ((5, 166, 9), 105, 5, 0),
  ((5, 168, 0), 207, 3, 7),
  ((5, 169, 9), 106, 5, 0),
  ((5, 171, 0), 209, 3, 7),
  ((5, 172, 9), 107, 4, 0),
  ((5, 174, 0), 211, 2, 7),
  ((5, 175, 9), 108, 3, 0),
  ((5, 177, 0), 215, 1, 7),
  ((5, 178, 9), 135, 4, 0),
  ((5, 180, 0), 216, 2, 7),
  ((5, 181, 9), 136, 4, 0),
  ((5, 183, 0), 217, 2, 7),
  ((5, 184, 9), 138, 4, 0),
  ((5, 186, 0), 220, 2, 7),
  ((5, 187, 9), 139, 3, 0),
  ((5, 189, 0), 223, 1, 7),
  ((5, 190, 9), 140, 3, 0),
  ((5, 192, 0), 225, 1, 7),
  ((5, 193, 9), 141, 3, 0),
  ((5, 195, 0), 227, 1, 7),
  ((5, 196, 9), 142, 6, 0),
  ((5, 199, 0), 229, 4, 7),
  ((5, 200, 9), 144, 3, 0),
  ((5, 202, 0), 230, 1, 7),
  ((5, 203, 9), 145, 4, 0),
  ((5, 205, 0), 233, 2, 7),
  ((5, 206, 0), 10, 0, 0),
  ((5, 210, 0), 236, 0, 7)]
set_option maxRecDepth 20000 in
theorem zVl4_0 : zVok (((15, 245, 3), 235, 2, 0)) := ⟨_, _, rfl, rfl, by decide, ⟨rfl, by decide +kernel, (zw (zin7 (List.mem_of_getElem? (i := 105) rfl)) rfl), (zw (zin7 (List.mem_of_getElem? (i := 106) rfl)) rfl)⟩⟩
set_option maxRecDepth 20000 in
theorem zVl4_1 : zVok (((5, 113, 5), 0, 0, 0)) := ⟨_, _, rfl, rfl, by decide, ⟨rfl, by decide +kernel, rfl, rfl, (zw (zin1 (List.mem_of_getElem? (i := 35) rfl)) rfl), (zw (zin1 (List.mem_of_getElem? (i := 36) rfl)) rfl)⟩⟩
set_option maxRecDepth 20000 in
theorem zVl4_2 : zVok (((5, 116, 5), 146, 0, 0)) := ⟨_, _, rfl, rfl, by decide, ⟨rfl, by decide +kernel, rfl, rfl, (zw (zin5 (List.mem_of_getElem? (i := 77) rfl)) rfl), (zw (zin5 (List.mem_of_getElem? (i := 78) rfl)) rfl)⟩⟩
set_option maxRecDepth 20000 in
theorem zVl4_3 : zVok (((5, 117, 6), 66, 0, 0)) := ⟨_, _, rfl, rfl, by decide, ⟨rfl, by decide +kernel, rfl, rfl, ⟨_, (zx (zin3 (List.mem_of_getElem? (i := 11) rfl)) rfl)⟩, (zw (zin3 (List.mem_of_getElem? (i := 12) rfl)) rfl)⟩⟩
set_option maxRecDepth 20000 in
theorem zVl4_4 : zVok (((5, 118, 9), 67, 4, 0)) := ⟨_, _, rfl, rfl, by decide, ⟨by decide, by decide +kernel, (zw (zin3 (List.mem_of_getElem? (i := 25) rfl)) rfl), (zw (zin3 (List.mem_of_getElem? (i := 26) rfl)) rfl)⟩⟩
set_option maxRecDepth 20000 in
theorem zVl4_5 : zVok (((5, 123, 0), 150, 2, 7)) := ⟨_, _, rfl, rfl, by decide, ⟨rfl, by decide +kernel, _, rfl, (zw (zin5 (List.mem_of_getElem? (i := 117) rfl)) rfl), (zw (zin5 (List.mem_of_getElem? (i := 118) rfl)) rfl), (zw (zin5 (List.mem_of_getElem? (i := 119) rfl)) rfl)⟩⟩
set_option maxRecDepth 20000 in
theorem zVl4_6 : zVok (((5, 124, 9), 70, 5, 0)) := ⟨_, _, rfl, rfl, by decide, ⟨by decide, by decide +kernel, (zw (zin3 (List.mem_of_getElem? (i := 85) rfl)) rfl), (zw (zin3 (List.mem_of_getElem? (i := 86) rfl)) rfl)⟩⟩
set_option maxRecDepth 20000 in
theorem zVl4_7 : zVok (((5, 127, 0), 161, 3, 7)) := ⟨_, _, rfl, rfl, by decide, ⟨rfl, by decide +kernel, _, rfl, (zw (zin5 (List.mem_of_getElem? (i := 234) rfl)) rfl), (zw (zin5 (List.mem_of_getElem? (i := 235) rfl)) rfl), (zw (zin5 (List.mem_of_getElem? (i := 236) rfl)) rfl)⟩⟩
set_option maxRecDepth 20000 in
theorem zVl4_8 : zVok (((5, 128, 9), 73, 4, 0)) := ⟨_, _, rfl, rfl, by decide, ⟨by decide, by decide +kernel, (zw (zin3 (List.mem_of_getElem? (i := 98) rfl)) rfl), (zw (zin3 (List.mem_of_getElem? (i := 99) rfl)) rfl)⟩⟩
set_option maxRecDepth 20000 in
theorem zVl4_9 : zVok (((5, 130, 0), 177, 2, 7)) := ⟨_, _, rfl, rfl, by decide, ⟨rfl, by decide +kernel, _, rfl, (zw (zin6 (List.mem_of_getElem? (i := 61) rfl)) rfl), (zw (zin6 (List.mem_of_getElem? (i := 62) rfl)) rfl), (zw (zin6 (List.mem_of_getElem? (i := 63) rfl)) rfl)⟩⟩
set_option maxRecDepth 20000 in
theorem zVl4_10 : zVok (((5, 131, 9), 75, 5, 0)) := ⟨_, _, rfl, rfl, by decide, ⟨by decide, by decide +kernel, (zw (zin3 (List.mem_of_getElem? (i := 105) rfl)) rfl), (zw (zin3 (List.mem_of_getElem? (i := 106) rfl)) rfl)⟩⟩
set_option maxRecDepth 20000 in
theorem zVl4_11 : zVok (((5, 134, 0), 178, 3, 7)) := ⟨_, _, rfl, rfl, by decide, ⟨rfl, by decide +kernel, _, rfl, (zw (zin6 (List.mem_of_getElem? (i := 65) rfl)) rfl), (zw (zin6 (List.mem_of_getElem? (i := 66) rfl)) rfl), (zw (zin6 (List.mem_of_getElem? (i := 67) rfl)) rfl)⟩⟩
set_option maxRecDepth 20000 in
theorem zVl4_12 : zVok (((5, 135, 9), 80, 3, 0)) := ⟨_, _, rfl, rfl, by decide, ⟨by decide, by decide +kernel, (zw (zin3 (List.mem_of_getElem? (i := 125) rfl)) rfl), (zw (zin3 (List.mem_of_getElem? (i := 126) rfl)) rfl)⟩⟩
set_option maxRecDepth 20000 in
theorem zVl4_13 : zVok (((5, 138, 0), 186, 1, 7)) := ⟨_, _, rfl, rfl, by decide, ⟨rfl, by decide +kernel, _, rfl, (zw (zin6 (List.mem_of_getElem? (i := 106) rfl)) rfl), (zw (zin6 (List.mem_of_getElem? (i := 107) rfl)) rfl), (zw (zin6 (List.mem_of_getElem? (i := 108) rfl)) rfl)⟩⟩
set_option maxRecDepth 20000 in
theorem zVl4_14 : zVok (((5, 139, 9), 82, 5, 0)) := ⟨_, _, rfl, rfl, by decide, ⟨by decide, by decide +kernel, (zw (zin3 (List.mem_of_getElem? (i := 133) rfl)) rfl), (zw (zin3 (List.mem_of_getElem? (i := 134) rfl)) rfl)⟩⟩
set_option maxRecDepth 20000 in
theorem zVl4_15 : zVok (((5, 141, 0), 190, 3, 7)) := ⟨_, _, rfl, rfl, by decide, ⟨rfl, by decide +kernel, _, rfl, (zw (zin6 (List.mem_of_getElem? (i := 123) rfl)) rfl), (zw (zin6 (List.mem_of_getElem? (i := 124) rfl)) rfl), (zw (zin6 (List.mem_of_getElem? (i := 125) rfl)) rfl)⟩⟩
set_option maxRecDepth 20000 in
theorem zVl4_16 : zVok (((5, 142, 9), 85, 4, 0)) := ⟨_, _, rfl, rfl, by decide, ⟨by decide, by decide +kernel, (zw (zin3 (List.mem_of_getElem? (i := 146) rfl)) rfl), (zw (zin3 (List.mem_of_getElem? (i := 147) rfl)) rfl)⟩⟩
set_option maxRecDepth 20000 in
theorem zVl4_17 : zVok (((5, 145, 0), 193, 2, 7)) := ⟨_, _, rfl, rfl, by decide, ⟨rfl, by decide +kernel, _, rfl, (zw (zin6 (List.mem_of_getElem? (i := 149) rfl)) rfl), (zw (zin6 (List.mem_of_getElem? (i := 150) rfl)) rfl), (zw (zin6 (List.mem_of_getElem? (i := 151) rfl)) rfl)⟩⟩
set_option maxRecDepth 20000 in
theorem zVl4_18 : zVok (((5, 146, 9), 89, 4, 0)) := ⟨_, _, rfl, rfl, by decide, ⟨by decide, by decide +kernel, (zw (zin3 (List.mem_of_getElem? (i := 162) rfl)) rfl), (zw (zin3 (List.mem_of_getElem? (i := 163) rfl)) rfl)⟩⟩
set_option maxRecDepth 20000 in
theorem zVl4_19 : zVok (((5, 148, 0), 196, 2, 7)) := ⟨_, _, rfl, rfl, by decide, ⟨rfl, by decide +kernel, _, rfl, (zw (zin6 (List.mem_of_getElem? (i := 167) rfl)) rfl), (zw (zin6 (List.mem_of_getElem? (i := 168) rfl)) rfl), (zw (zin6 (List.mem_of_getElem? (i := 169) rfl)) rfl)⟩⟩
set_option maxRecDepth 20000 in
theorem zVl4_20 : zVok (((5, 149, 9), 94, 5, 0)) := ⟨_, _, rfl, rfl, by decide, ⟨by decide, by decide +kernel, (zw (zin3 (List.mem_of_getElem? (i := 183) rfl)) rfl), (zw (zin3 (List.mem_of_getElem? (i := 184) rfl)) rfl)⟩⟩
set_option maxRecDepth 20000 in
theorem zVl4_21 : zVok (((5, 151, 0), 201, 3, 7)) := ⟨_, _, rfl, rfl, by decide, ⟨rfl, by decide +kernel, _, rfl, (zw (zin6 (List.mem_of_getElem? (i := 188) rfl)) rfl), (zw (zin6 (List.mem_of_getElem? (i := 189) rfl)) rfl), (zw (zin6 (List.mem_of_getElem? (i := 190) rfl)) rfl)⟩⟩
set_option maxRecDepth 20000 in
theorem zVl4_22 : zVok (((5, 152, 9), 97, 3, 0)) := ⟨_, _, rfl, rfl, by decide, ⟨by decide, by decide +kernel, (zw (zin3 (List.mem_of_getElem? (i := 196) rfl)) rfl), (zw (zin3 (List.mem_of_getElem? (i := 197) rfl)) rfl)⟩⟩
set_option maxRecDepth 20000 in
theorem zVl4_23 : zVok (((5, 154, 0), 203, 1, 7)) := ⟨_, _, rfl, rfl, by decide, ⟨rfl, by decide +kernel, _, rfl, (zw (zin6 (List.mem_of_getElem? (i := 197) rfl)) rfl), (zw (zin6 (List.mem_of_getElem? (i := 198) rfl)) rfl), (zw (zin6 (List.mem_of_getElem? (i := 199) rfl)) rfl)⟩⟩
set_option maxRecDepth 20000 in
theorem zVl4_24 : zVok (((5, 155, 9), 102, 3, 0)) := ⟨_, _, rfl, rfl, by decide, ⟨by decide, by decide +kernel, (zw (zin3 (List.mem_of_getElem? (i := 217) rfl)) rfl), (zw (zin3 (List.mem_of_getElem? (i := 218) rfl)) rfl)⟩⟩
set_option maxRecDepth 20000 in
theorem zVl4_25 : zVok (((5, 157, 0), 204, 1, 7)) := ⟨_, _, rfl, rfl, by decide, ⟨rfl, by decide +kernel, _, rfl, (zw (zin6 (List.mem_of_getElem? (i := 203) rfl)) rfl), (zw (zin6 (List.mem_of_getElem? (i := 204) rfl)) rfl), (zw (zin6 (List.mem_of_getElem? (i := 205) rfl)) rfl)⟩⟩
set_option maxRecDepth 20000 in
theorem zVl4_26 : zVok (((5, 158, 0), 9, 0, 0)) := ⟨_, _, rfl, rfl, by decide, ⟨rfl, by decide +kernel, _, rfl, (zw (zin1 (List.mem_of_getElem? (i := 155) rfl)) rfl), (zw (zin1 (List.mem_of_getElem? (i := 156) rfl)) rfl), (zw (zin1 (List.mem_of_getElem? (i := 157) rfl)) rfl)⟩⟩
set_option maxRecDepth 20000 in
theorem zVl4_27 : zVok (((5, 162, 0), 205, 0, 7)) := ⟨_, _, rfl, rfl, by decide, ⟨rfl, by decide +kernel, _, rfl, (zw (zin6 (List.mem_of_getElem? (i := 207) rfl)) rfl), (zw (zin6 (List.mem_of_getElem? (i := 208) rfl)) rfl), (zw (zin6 (List.mem_of_getElem? (i := 209) rfl)) rfl)⟩⟩
set_option maxRecDepth 20000 in
theorem zVl4_28 : zVok (((5, 163, 9), 104, 5, 0)) := ⟨_, _, rfl, rfl, by decide, ⟨by decide, by decide +kernel, (zw (zin3 (List.mem_of_getElem? (i := 224) rfl)) rfl), (zw (zin3 (List.mem_of_getElem? (i := 225) rfl)) rfl)⟩⟩
set_option maxRecDepth 20000 in
theorem zVl4_29 : zVok (((5, 165, 0), 206, 3, 7)) := ⟨_, _, rfl, rfl, by decide, ⟨rfl, by decide +kernel, _, rfl, (zw (zin6 (List.mem_of_getElem? (i := 211) rfl)) rfl), (zw (zin6 (List.mem_of_getElem? (i := 212) rfl)) rfl), (zw (zin6 (List.mem_of_getElem? (i := 213) rfl)) rfl)⟩⟩
set_option maxRecDepth 20000 in
theorem zVl4_30 : zVok (((5, 166, 9), 105, 5, 0)) := ⟨_, _, rfl, rfl, by decide, ⟨by decide, by decide +kernel, (zw (zin3 (List.mem_of_getElem? (i := 228) rfl)) rfl), (zw (zin3 (List.mem_of_getElem? (i := 229) rfl)) rfl)⟩⟩
set_option maxRecDepth 20000 in
theorem zVl4_31 : zVok (((5, 168, 0), 207, 3, 7)) := ⟨_, _, rfl, rfl, by decide, ⟨rfl, by decide +kernel, _, rfl, (zw (zin6 (List.mem_of_getElem? (i := 215) rfl)) rfl), (zw (zin6 (List.mem_of_getElem? (i := 216) rfl)) rfl), (zw (zin6 (List.mem_of_getElem? (i := 217) rfl)) rfl)⟩⟩
set_option maxRecDepth 20000 in
theorem zVl4_32 : zVok (((5, 169, 9), 106, 5, 0)) := ⟨_, _, rfl, rfl, by decide, ⟨by decide, by decide +kernel, (zw (zin3 (List.mem_of_getElem? (i := 232) rfl)) rfl), (zw (zin3 (List.mem_of_getElem? (i := 233) rfl)) rfl)⟩⟩
set_option maxRecDepth 20000 in
theorem zVl4_33 : zVok (((5, 171, 0), 209, 3, 7)) := ⟨_, _, rfl, rfl, by decide, ⟨rfl, by decide +kernel, _, rfl, (zw (zin6 (List.mem_of_getElem? (i := 223) rfl)) rfl), (zw (zin6 (List.mem_of_getElem? (i := 224) rfl)) rfl), (zw (zin6 (List.mem_of_getElem? (i := 225) rfl)) rfl)⟩⟩
set_option maxRecDepth 20000 in
theorem zVl4_34 : zVok (((5, 172, 9), 107, 4, 0)) := ⟨_, _, rfl, rfl, by decide, ⟨by decide, by decide +kernel, (zw (zin3 (List.mem_of_getElem? (i := 236) rfl)) rfl), (zw (zin3 (List.mem_of_getElem? (i := 237) rfl)) rfl)⟩⟩
set_option maxRecDepth 20000 in
theorem zVl4_35 : zVok (((5, 174, 0), 211, 2, 7)) := ⟨_, _, rfl, rfl, by decide, ⟨rfl, by decide +kernel, _, rfl, (zw (zin6 (List.mem_of_getElem? (i := 231) rfl)) rfl), (zw (zin6 (List.mem_of_getElem? (i := 232) rfl)) rfl), (zw (zin6 (List.mem_of_getElem? (i := 233) rfl)) rfl)⟩⟩
set_option maxRecDepth 20000 in
theorem zVl4_36 : zVok (((5, 175, 9), 108, 3, 0)) := ⟨_, _, rfl, rfl, by decide, ⟨by decide, by decide +kernel, (zw (zin4 (List.mem_of_getElem? (i := 0) rfl)) rfl), (zw (zin4 (List.mem_of_getElem? (i := 1) rfl)) rfl)⟩⟩
set_option maxRecDepth 20000 in
theorem zVl4_37 : zVok (((5, 177, 0), 215, 1, 7)) := ⟨_, _, rfl, rfl, by decide, ⟨rfl, by decide +kernel, _, rfl, (zw (zin7 (List.mem_of_getElem? (i := 6) rfl)) rfl), (zw (zin7 (List.mem_of_getElem? (i := 7) rfl)) rfl), (zw (zin7 (List.mem_of_getElem? (i := 8) rfl)) rfl)⟩⟩
set_option maxRecDepth 20000 in
theorem zVl4_38 : zVok (((5, 178, 9), 135, 4, 0)) := ⟨_, _, rfl, rfl, by decide, ⟨by decide, by decide +kernel, (zw (zin5 (List.mem_of_getElem? (i := 33) rfl)) rfl), (zw (zin5 (List.mem_of_getElem? (i := 34) rfl)) rfl)⟩⟩
set_option maxRecDepth 20000 in
theorem zVl4_39 : zVok (((5, 180, 0), 216, 2, 7)) := ⟨_, _, rfl, rfl, by decide, ⟨rfl, by decide +kernel, _, rfl, (zw (zin7 (List.mem_of_getElem? (i := 15) rfl)) rfl), (zw (zin7 (List.mem_of_getElem? (i := 16) rfl)) rfl), (zw (zin7 (List.mem_of_getElem? (i := 17) rfl)) rfl)⟩⟩
set_option maxRecDepth 20000 in
theorem zVl4_40 : zVok (((5, 181, 9), 136, 4, 0)) := ⟨_, _, rfl, rfl, by decide, ⟨by decide, by decide +kernel, (zw (zin5 (List.mem_of_getElem? (i := 37) rfl)) rfl), (zw (zin5 (List.mem_of_getElem? (i := 38) rfl)) rfl)⟩⟩
set_option maxRecDepth 20000 in
theorem zVl4_41 : zVok (((5, 183, 0), 217, 2, 7)) := ⟨_, _, rfl, rfl, by decide, ⟨rfl, by decide +kernel, _, rfl, (zw (zin7 (List.mem_of_getElem? (i := 19) rfl)) rfl), (zw (zin7 (List.mem_of_getElem? (i := 20) rfl)) rfl), (zw (zin7 (List.mem_of_getElem? (i := 21) rfl)) rfl)⟩⟩
set_option maxRecDepth 20000 in
theorem zVl4_42 : zVok (((5, 184, 9), 138, 4, 0)) := ⟨_, _, rfl, rfl, by decide, ⟨by decide, by decide +kernel, (zw (zin5 (List.mem_of_getElem? (i := 44) rfl)) rfl), (zw (zin5 (List.mem_of_getElem? (i := 45) rfl)) rfl)⟩⟩
set_option maxRecDepth 20000 in
theorem zVl4_43 : zVok (((5, 186, 0), 220, 2, 7)) := ⟨_, _, rfl, rfl, by decide, ⟨rfl, by decide +kernel, _, rfl, (zw (zin7 (List.mem_of_getElem? (i := 29) rfl)) rfl), (zw (zin7 (List.mem_of_getElem? (i := 30) rfl)) rfl), (zw (zin7 (List.mem_of_getElem? (i := 31) rfl)) rfl)⟩⟩
set_option maxRecDepth 20000 in
theorem zVl4_44 : zVok (((5, 187, 9), 139, 3, 0)) := ⟨_, _, rfl, rfl, by decide, ⟨by decide, by decide +kernel, (zw (zin5 (List.mem_of_getElem? (i := 48) rfl)) rfl), (zw (zin5 (List.mem_of_getElem? (i := 49) rfl)) rfl)⟩⟩
set_option maxRecDepth 20000 in
theorem zVl4_45 : zVok (((5, 189, 0), 223, 1, 7)) := ⟨_, _, rfl, rfl, by decide, ⟨rfl, by decide +kernel, _, rfl, (zw (zin7 (List.mem_of_getElem? (i := 47) rfl)) rfl), (zw (zin7 (List.mem_of_getElem? (i := 48) rfl)) rfl), (zw (zin7 (List.mem_of_getElem? (i := 49) rfl)) rfl)⟩⟩
set_option maxRecDepth 20000 in
theorem zVl4_46 : zVok (((5, 190, 9), 140, 3, 0)) := ⟨_, _, rfl, rfl, by decide, ⟨by decide, by decide +kernel, (zw (zin5 (List.mem_of_getElem? (i := 52) rfl)) rfl), (zw (zin5 (List.mem_of_getElem? (i := 53) rfl)) rfl)⟩⟩
set_option maxRecDepth 20000 in
theorem zVl4_47 : zVok (((5, 192, 0), 225, 1, 7)) := ⟨_, _, rfl, rfl, by decide, ⟨rfl, by decide +kernel, _, rfl, (zw (zin7 (List.mem_of_getElem? (i := 55) rfl)) rfl), (zw (zin7 (List.mem_of_getElem? (i := 56) rfl)) rfl), (zw (zin7 (List.mem_of_getElem? (i := 57) rfl)) rfl)⟩⟩
set_option maxRecDepth 20000 in
theorem zVl4_48 : zVok (((5, 193, 9), 141, 3, 0)) := ⟨_, _, rfl, rfl, by decide, ⟨by decide, by decide +kernel, (zw (zin5 (List.mem_of_getElem? (i := 56) rfl)) rfl), (zw (zin5 (List.mem_of_getElem? (i := 57) rfl)) rfl)⟩⟩
set_option maxRecDepth 20000 in
theorem zVl4_49 : zVok (((5, 195, 0), 227, 1, 7)) := ⟨_, _, rfl, rfl, by decide, ⟨rfl, by decide +kernel, _, rfl, (zw (zin7 (List.mem_of_getElem? (i := 63) rfl)) rfl), (zw (zin7 (List.mem_of_getElem? (i := 64) rfl)) rfl), (zw (zin7 (List.mem_of_getElem? (i := 65) rfl)) rfl)⟩⟩
set_option maxRecDepth 20000 in
theorem zVl4_50 : zVok (((5, 196, 9), 142, 6, 0)) := ⟨_, _, rfl, rfl, by decide, ⟨by decide, by decide +kernel, (zw (zin5 (List.mem_of_getElem? (i := 60) rfl)) rfl), (zw (zin5 (List.mem_of_getElem? (i := 61) rfl)) rfl)⟩⟩
set_option maxRecDepth 20000 in
theorem zVl4_51 : zVok (((5, 199, 0), 229, 4, 7)) := ⟨_, _, rfl, rfl, by decide, ⟨rfl, by decide +kernel, _, rfl, (zw (zin7 (List.mem_of_getElem? (i := 81) rfl)) rfl), (zw (zin7 (List.mem_of_getElem? (i := 82) rfl)) rfl), (zw (zin7 (List.mem_of_getElem? (i := 83) rfl)) rfl)⟩⟩
set_option maxRecDepth 20000 in
theorem zVl4_52 : zVok (((5, 200, 9), 144, 3, 0)) := ⟨_, _, rfl, rfl, by decide, ⟨by decide, by decide +kernel, (zw (zin5 (List.mem_of_getElem? (i := 67) rfl)) rfl), (zw (zin5 (List.mem_of_getElem? (i := 68) rfl)) rfl)⟩⟩
set_option maxRecDepth 20000 in
theorem zVl4_53 : zVok (((5, 202, 0), 230, 1, 7)) := ⟨_, _, rfl, rfl, by decide, ⟨rfl, by decide +kernel, _, rfl, (zw (zin7 (List.mem_of_getElem? (i := 86) rfl)) rfl), (zw (zin7 (List.mem_of_getElem? (i := 87) rfl)) rfl), (zw (zin7 (List.mem_of_getElem? (i := 88) rfl)) rfl)⟩⟩
set_option maxRecDepth 20000 in
theorem zVl4_54 : zVok (((5, 203, 9), 145, 4, 0)) := ⟨_, _, rfl, rfl, by decide, ⟨by decide, by decide +kernel, (zw (zin5 (List.mem_of_getElem? (i := 71) rfl)) rfl), (zw (zin5 (List.mem_of_getElem? (i := 72) rfl)) rfl)⟩⟩
set_option maxRecDepth 20000 in
theorem zVl4_55 : zVok (((5, 205, 0), 233, 2, 7)) := ⟨_, _, rfl, rfl, by decide, ⟨rfl, by decide +kernel, _, rfl, (zw (zin7 (List.mem_of_getElem? (i := 97) rfl)) rfl), (zw (zin7 (List.mem_of_getElem? (i := 98) rfl)) rfl), (zw (zin7 (List.mem_of_getElem? (i := 99) rfl)) rfl)⟩⟩
set_option maxRecDepth 20000 in
theorem zVl4_56 : zVok (((5, 206, 0), 10, 0, 0)) := ⟨_, _, rfl, rfl, by decide, ⟨rfl, by decide +kernel, _, rfl, (zw (zin1 (List.mem_of_getElem? (i := 159) rfl)) rfl), (zw (zin1 (List.mem_of_getElem? (i := 160) rfl)) rfl), (zw (zin1 (List.mem_of_getElem? (i := 161) rfl)) rfl)⟩⟩
set_option maxRecDepth 20000 in
theorem zVl4_57 : zVok (((5, 210, 0), 236, 0, 7)) := ⟨_, _, rfl, rfl, by decide, ⟨rfl, by decide +kernel, _, rfl, (zw (zin7 (List.mem_of_getElem? (i := 108) rfl)) rfl), (zw (zin7 (List.mem_of_getElem? (i := 109) rfl)) rfl), (zw (zin7 (List.mem_of_getElem? (i := 110) rfl)) rfl)⟩⟩
theorem zVl4_ok : ∀ e ∈ zVl4, zVok e := List.forall_mem_cons.mpr ⟨zVl4_0, List.forall_mem_cons.mpr ⟨zVl4_1, List.forall_mem_cons.mpr ⟨zVl4_2, List.forall_mem_cons.mpr ⟨zVl4_3, List.forall_mem_cons.mpr ⟨zVl4_4, List.forall_mem_cons.mpr ⟨zVl4_5, List.forall_mem_cons.mpr ⟨zVl4_6, List.forall_mem_cons.mpr ⟨zVl4_7, List.forall_mem_cons.mpr ⟨zVl4_8, List.forall_mem_cons.mpr ⟨zVl4_9, List.forall_mem_cons.mpr ⟨zVl4_10, List.forall_mem_cons.mpr ⟨zVl4_11, List.forall_mem_cons.mpr ⟨zVl4_12, List.forall_mem_cons.mpr ⟨zVl4_13, List.forall_mem_cons.mpr ⟨zVl4_14, List.forall_mem_cons.mpr ⟨zVl4_15, List.forall_mem_cons.mpr ⟨zVl4_16, List.forall_mem_cons.mpr ⟨zVl4_17, List.forall_mem_cons.mpr ⟨zVl4_18, List.forall_mem_cons.mpr ⟨zVl4_19, List.forall_mem_cons.mpr ⟨zVl4_20, List.forall_mem_cons.mpr ⟨zVl4_21, List.forall_mem_cons.mpr ⟨zVl4_22, List.forall_mem_cons.mpr ⟨zVl4_23, List.forall_mem_cons.mpr ⟨zVl4_24, List.forall_mem_cons.mpr ⟨zVl4_25, List.forall_mem_cons.mpr ⟨zVl4_26, List.forall_mem_cons.mpr ⟨zVl4_27, List.forall_mem_cons.mpr ⟨zVl4_28, List.forall_mem_cons.mpr ⟨zVl4_29, List.forall_mem_cons.mpr ⟨zVl4_30, List.forall_mem_cons.mpr ⟨zVl4_31, List.forall_mem_cons.mpr ⟨zVl4_32, List.forall_mem_cons.mpr ⟨zVl4_33, List.forall_mem_cons.mpr ⟨zVl4_34, List.forall_mem_cons.mpr ⟨zVl4_35, List.forall_mem_cons.mpr ⟨zVl4_36, List.forall_mem_cons.mpr ⟨zVl4_37, List.forall_mem_cons.mpr ⟨zVl4_38, List.forall_mem_cons.mpr ⟨zVl4_39, List.forall_mem_cons.mpr ⟨zVl4_40, List.forall_mem_cons.mpr ⟨zVl4_41, List.forall_mem_cons.mpr ⟨zVl4_42, List.forall_mem_cons.mpr ⟨zVl4_43, List.forall_mem_cons.mpr ⟨zVl4_44, List.forall_mem_cons.mpr ⟨zVl4_45, List.forall_mem_cons.mpr ⟨zVl4_46, List.forall_mem_cons.mpr ⟨zVl4_47, List.forall_mem_cons.mpr ⟨zVl4_48, List.forall_mem_cons.mpr ⟨zVl4_49, List.forall_mem_cons.mpr ⟨zVl4_50, List.forall_mem_cons.mpr ⟨zVl4_51, List.forall_mem_cons.mpr ⟨zVl4_52, List.forall_mem_cons.mpr ⟨zVl4_53, List.forall_mem_cons.mpr ⟨zVl4_54, List.forall_mem_cons.mpr ⟨zVl4_55, List.forall_mem_cons.mpr ⟨zVl4_56, List.forall_mem_cons.mpr ⟨zVl4_57, fun _ h => absurd h List.not_mem_nil⟩⟩⟩⟩⟩⟩⟩⟩⟩⟩⟩⟩⟩⟩⟩⟩⟩⟩⟩⟩⟩⟩⟩⟩⟩⟩⟩⟩⟩⟩⟩⟩⟩⟩⟩⟩⟩⟩⟩⟩⟩⟩⟩⟩⟩⟩⟩⟩⟩⟩⟩⟩⟩⟩⟩⟩⟩⟩
def zVl : List (List zVe) := [zVl0, zVl1, zVl2, zVl3, zVl4]
theorem zVl_ok : ∀ l ∈ zVl, ∀ e ∈ l, zVok e := List.forall_mem_cons.mpr ⟨zVl0_ok, List.forall_mem_cons.mpr ⟨zVl1_ok, List.forall_mem_cons.mpr ⟨zVl2_ok, List.forall_mem_cons.mpr ⟨zVl3_ok, List.forall_mem_cons.mpr ⟨zVl4_ok, fun _ h => absurd h List.not_mem_nil⟩⟩⟩⟩⟩
/-! ===== natives ===== -/
def zWok (e : (Nat × Nat) × Nat) : Prop := ∃ own, zon[e.1.1]? = some own ∧ ∃ y : MethodName, Jvm.Cond.methodLink own e.1.2 y ∈ zWS ∧ (e.2 = 20 ∧ y = Lib.objectInit ∨ e.2 = 21 ∧ y = arraycopyName ∨ e.2 = 25 ∧ y = ⟨"java/lang/Math", "min", "(FF)F"⟩ ∨ e.2 = 26 ∧ y = ⟨"java/lang/Math", "abs", "(D)D"⟩)
def zWl : List ((Nat × Nat) × Nat) := [((0, 1), 20),
  ((1, 3), 20),
  ((2, 3), 20),
  ((1, 97), 21),
  ((4, 1), 20),
  ((6, 3), 20),
  ((6, 41), 21),
  ((8, 3), 20),
  ((11, 150), 21),
  ((14, 1), 20),
  ((15, 1), 20),
  ((18, 1), 20),
  ((19, 3), 20),
  ((19, 41), 21),
  ((21, 1), 20),
  ((16, 112), 21),
  ((15, 201), 25),
  ((15, 226), 26)]
set_option maxRecDepth 20000 in
theorem zWl_0 : zWok (((0, 1), 20)) := ⟨_, rfl, _, (zw (zin1 (List.mem_of_getElem? (i := 38) rfl)) rfl), .inl ⟨rfl, rfl⟩⟩
set_option maxRecDepth 20000 in
theorem zWl_1 : zWok (((1, 3), 20)) := ⟨_, rfl, _, (zw (zin1 (List.mem_of_getElem? (i := 48) rfl)) rfl), .inl ⟨rfl, rfl⟩⟩
set_option maxRecDepth 20000 in
theorem zWl_2 : zWok (((2, 3), 20)) := ⟨_, rfl, _, (zw (zin1 (List.mem_of_getElem? (i := 101) rfl)) rfl), .inl ⟨rfl, rfl⟩⟩
set_option maxRecDepth 20000 in
theorem zWl_3 : zWok (((1, 97), 21)) := ⟨_, rfl, _, (zw (zin2 (List.mem_of_getElem? (i := 68) rfl)) rfl), .inr (.inl ⟨rfl, rfl⟩)⟩
set_option maxRecDepth 20000 in
theorem zWl_4 : zWok (((4, 1), 20)) := ⟨_, rfl, _, (zw (zin3 (List.mem_of_getElem? (i := 14) rfl)) rfl), .inl ⟨rfl, rfl⟩⟩
set_option maxRecDepth 20000 in
theorem zWl_5 : zWok (((6, 3), 20)) := ⟨_, rfl, _, (zw (zin3 (List.mem_of_getElem? (i := 55) rfl)) rfl), .inl ⟨rfl, rfl⟩⟩
set_option maxRecDepth 20000 in
theorem zWl_6 : zWok (((6, 41), 21)) := ⟨_, rfl, _, (zw (zin3 (List.mem_of_getElem? (i := 145) rfl)) rfl), .inr (.inl ⟨rfl, rfl⟩)⟩
set_option maxRecDepth 20000 in
theorem zWl_7 : zWok (((8, 3), 20)) := ⟨_, rfl, _, (zw (zin4 (List.mem_of_getElem? (i := 15) rfl)) rfl), .inl ⟨rfl, rfl⟩⟩
set_option maxRecDepth 20000 in
theorem zWl_8 : zWok (((11, 150), 21)) := ⟨_, rfl, _, (zw (zin4 (List.mem_of_getElem? (i := 77) rfl)) rfl), .inr (.inl ⟨rfl, rfl⟩)⟩
set_option maxRecDepth 20000 in
theorem zWl_9 : zWok (((14, 1), 20)) := ⟨_, rfl, _, (zw (zin4 (List.mem_of_getElem? (i := 147) rfl)) rfl), .inl ⟨rfl, rfl⟩⟩
set_option maxRecDepth 20000 in
theorem zWl_10 : zWok (((15, 1), 20)) := ⟨_, rfl, _, (zw (zin5 (List.mem_of_getElem? (i := 80) rfl)) rfl), .inl ⟨rfl, rfl⟩⟩
set_option maxRecDepth 20000 in
theorem zWl_11 : zWok (((18, 1), 20)) := ⟨_, rfl, _, (zw (zin5 (List.mem_of_getElem? (i := 92) rfl)) rfl), .inl ⟨rfl, rfl⟩⟩
set_option maxRecDepth 20000 in
theorem zWl_12 : zWok (((19, 3), 20)) := ⟨_, rfl, _, (zw (zin5 (List.mem_of_getElem? (i := 143) rfl)) rfl), .inl ⟨rfl, rfl⟩⟩
set_option maxRecDepth 20000 in
theorem zWl_13 : zWok (((19, 41), 21)) := ⟨_, rfl, _, (zw (zin6 (List.mem_of_getElem? (i := 105) rfl)) rfl), .inr (.inl ⟨rfl, rfl⟩)⟩
set_option maxRecDepth 20000 in
theorem zWl_14 : zWok (((21, 1), 20)) := ⟨_, rfl, _, (zw (zin6 (List.mem_of_getElem? (i := 135) rfl)) rfl), .inl ⟨rfl, rfl⟩⟩
set_option maxRecDepth 20000 in
theorem zWl_15 : zWok (((16, 112), 21)) := ⟨_, rfl, _, (zw (zin6 (List.mem_of_getElem? (i := 166) rfl)) rfl), .inr (.inl ⟨rfl, rfl⟩)⟩
set_option maxRecDepth 20000 in
theorem zWl_16 : zWok (((15, 201), 25)) := ⟨_, rfl, _, (zw (zin7 (List.mem_of_getElem? (i := 39) rfl)) rfl), .inr (.inr (.inl ⟨rfl, rfl⟩))⟩
set_option maxRecDepth 20000 in
theorem zWl_17 : zWok (((15, 226), 26)) := ⟨_, rfl, _, (zw (zin7 (List.mem_of_getElem? (i := 71) rfl)) rfl), .inr (.inr (.inr ⟨rfl, rfl⟩))⟩
theorem zWl_ok : ∀ e ∈ zWl, zWok e := List.forall_mem_cons.mpr ⟨zWl_0, List.forall_mem_cons.mpr ⟨zWl_1, List.forall_mem_cons.mpr ⟨zWl_2, List.forall_mem_cons.mpr ⟨zWl_3, List.forall_mem_cons.mpr ⟨zWl_4, List.forall_mem_cons.mpr ⟨zWl_5, List.forall_mem_cons.mpr ⟨zWl_6, List.forall_mem_cons.mpr ⟨zWl_7, List.forall_mem_cons.mpr ⟨zWl_8, List.forall_mem_cons.mpr ⟨zWl_9, List.forall_mem_cons.mpr ⟨zWl_10, List.forall_mem_cons.mpr ⟨zWl_11, List.forall_mem_cons.mpr ⟨zWl_12, List.forall_mem_cons.mpr ⟨zWl_13, List.forall_mem_cons.mpr ⟨zWl_14, List.forall_mem_cons.mpr ⟨zWl_15, List.forall_mem_cons.mpr ⟨zWl_16, List.forall_mem_cons.mpr ⟨zWl_17, fun _ h => absurd h List.not_mem_nil⟩⟩⟩⟩⟩⟩⟩⟩⟩⟩⟩⟩⟩⟩⟩⟩⟩⟩
theorem zoi1 : Jvm.Cond.instanceMethod Lib.objectInit ∈ zWS := (zw (zin1 (List.mem_of_getElem? (i := 39) rfl)) rfl)
theorem zoi2 : Jvm.Cond.code Lib.objectInit ⟨#[0xb1]⟩ 1 none ∈ zWS := (zw (zin1 (List.mem_of_getElem? (i := 40) rfl)) rfl)
theorem zacn : Jvm.Cond.native arraycopyName ∈ zWS := (zw (zin2 (List.mem_of_getElem? (i := 70) rfl)) rfl)
theorem zacs : Jvm.Cond.static arraycopyName ∈ zWS := (zw (zin2 (List.mem_of_getElem? (i := 69) rfl)) rfl)
theorem zacl : Jvm.Cond.initialized "java/lang/System" ∈ zWS := (zw (zin1 (List.mem_of_getElem? (i := 19) rfl)) rfl)
theorem zmfs : Jvm.Cond.static ⟨"java/lang/Math", "min", "(FF)F"⟩ ∈ zWS := (zw (zin7 (List.mem_of_getElem? (i := 40) rfl)) rfl)
theorem zmfc : (Jvm.Cond.code ⟨"java/lang/Math", "min", "(FF)F"⟩ prog_24_method_71_code 2 (some .float)) ∈ zWS := (zw (zin7 (List.mem_of_getElem? (i := 41) rfl)) rfl)
def zmfb : ByteArray := prog_24_method_71_code
theorem zmas : Jvm.Cond.static ⟨"java/lang/Math", "abs", "(D)D"⟩ ∈ zWS := (zw (zin7 (List.mem_of_getElem? (i := 72) rfl)) rfl)
theorem zmac : (Jvm.Cond.code ⟨"java/lang/Math", "abs", "(D)D"⟩ prog_24_method_64_code 2 (some .double)) ∈ zWS := (zw (zin7 (List.mem_of_getElem? (i := 73) rfl)) rfl)
def zmab : ByteArray := prog_24_method_64_code
theorem zmal : Jvm.Cond.initialized "java/lang/Math" ∈ zWS := (zw (zin1 (List.mem_of_getElem? (i := 17) rfl)) rfl)
end
section
/-! ===== the code, resolved: (pc, instruction, length, what its entry is), in pieces of 32 bytes ===== -/
abbrev zAux : Type := Nat × Nat × Nat × Nat × Value
abbrev zIn : Type := Nat × Instr × Nat × zAux
def zc0 : List (List zIn) := [[(0, .aload_n 0, 1, 0, 0, 0, 0, .null), (1, .invokespecial 1, 3, 20, 0, 0, 0, .null), (4, .aload_n 0, 1, 0, 0, 0, 0, .null), (5, .iconst 3, 1, 0, 0, 0, 0, .null), (6, .anewarray 9, 3, 68, 0, 0, 0, .null), (9, .putfield 11, 3, 0, 0, 7, 1, .null), (12, .aload_n 0, 1, 0, 0, 0, 0, .null), (13, .new 15, 3, 1, 5, 0, 0, .null), (16, .dup, 1, 0, 0, 0, 0, .null), (17, .iconst 2, 1, 0, 0, 0, 0, .null), (18, .iconst 2, 1, 0, 0, 0, 0, .null), (19, .invokespecial 17, 3, 5, 1, 2, 0, .null), (22, .putfield 20, 3, 0, 1, 6, 1, .null), (25, .aload_n 0, 1, 0, 0, 0, 0, .null), (26, .new 24, 3, 2, 11, 0, 0, .null), (29, .dup, 1, 0, 0, 0, 0, .null), (30, .invokespecial 26, 3, 6, 8, 0, 0, .null)], [(33, .putfield 27, 3, 0, 2, 6, 1, .null), (36, .aload_n 0, 1, 0, 0, 0, 0, .null), (37, .iconst 0, 1, 0, 0, 0, 0, .null), (38, .putfield 31, 3, 0, 3, 0, 0, .null), (41, .aload_n 0, 1, 0, 0, 0, 0, .null), (42, .iconst 0, 1, 0, 0, 0, 0, .null), (43, .putfield 35, 3, 0, 4, 0, 0, .null), (46, .return_, 1, 0, 0, 0, 0, .null)]]
def zc1 : List (List zIn) := [[(0, .aload_n 0, 1, 0, 0, 0, 0, .null), (1, .invokespecial 3, 3, 20, 0, 0, 0, .null), (4, .aload_n 0, 1, 0, 0, 0, 0, .null), (5, .bipush 100, 2, 0, 0, 0, 0, .null), (7, .newarray .int, 2, 64, 0, 0, 0, .null), (9, .putfield 9, 3, 1, 0, 7, 1, .null), (12, .aload_n 0, 1, 0, 0, 0, 0, .null), (13, .bipush 10, 2, 0, 0, 0, 0, .null), (15, .newarray .int, 2, 64, 0, 0, 0, .null), (17, .putfield 15, 3, 1, 1, 7, 1, .null), (20, .aload_n 0, 1, 0, 0, 0, 0, .null), (21, .bipush 10, 2, 0, 0, 0, 0, .null), (23, .newarray .int, 2, 64, 0, 0, 0, .null), (25, .putfield 18, 3, 1, 2, 7, 1, .null), (28, .aload_n 0, 1, 0, 0, 0, 0, .null), (29, .iload_n 1, 1, 0, 0, 0, 0, .null), (30, .putfield 21, 3, 1, 3, 0, 0, .null)], [(33, .aload_n 0, 1, 0, 0, 0, 0, .null), (34, .iload_n 2, 1, 0, 0, 0, 0, .null), (35, .putfield 25, 3, 1, 4, 0, 0, .null), (38, .aload_n 0, 1, 0, 0, 0, 0, .null), (39, .invokevirtual 28, 3, 0, 2, 0, 1, .null), (42, .iconst 0, 1, 0, 0, 0, 0, .null), (43, .istore_n 3, 1, 0, 0, 0, 0, .null), (44, .iload_n 3, 1, 0, 0, 0, 0, .null), (45, .aload_n 0, 1, 0, 0, 0, 0, .null), (46, .invokevirtual 31, 3, 0, 4, 0, 1, .null), (49, .if_icmp .ge 15, 3, 0, 0, 0, 0, .null), (52, .aload_n 0, 1, 0, 0, 0, 0, .null), (53, .iload_n 3, 1, 0, 0, 0, 0, .null), (54, .iconst (-1), 1, 0, 0, 0, 0, .null), (55, .invokevirtual 35, 3, 0, 5, 2, 1, .null), (58, .iinc 3 1, 3, 0, 0, 0, 0, .null), (61, .goto (-17), 3, 0, 0, 0, 0, .null)], [(64, .return_, 1, 0, 0, 0, 0, .null)]]
def zc2 : List (List zIn) := [[(0, .iconst 0, 1, 0, 0, 0, 0, .null), (1, .istore_n 1, 1, 0, 0, 0, 0, .null), (2, .iload_n 1, 1, 0, 0, 0, 0, .null), (3, .bipush 25, 2, 0, 0, 0, 0, .null), (5, .if_icmp .ge 18, 3, 0, 0, 0, 0, .null), (8, .aload_n 0, 1, 0, 0, 0, 0, .null), (9, .iload_n 1, 1, 0, 0, 0, 0, .null), (10, .iconst 0, 1, 0, 0, 0, 0, .null), (11, .iconst (-1), 1, 0, 0, 0, 0, .null), (12, .iconst 0, 1, 0, 0, 0, 0, .null), (13, .iconst 0, 1, 0, 0, 0, 0, .null), (14, .invokevirtual 39, 3, 0, 3, 5, 1, .null), (17, .iinc 1 1, 3, 0, 0, 0, 0, .null), (20, .goto (-18), 3, 0, 0, 0, 0, .null), (23, .return_, 1, 0, 0, 0, 0, .null)]]
def zc3 : List (List zIn) := [[(0, .iload_n 1, 1, 0, 0, 0, 0, .null), (1, .ifCond .lt 9, 3, 0, 0, 0, 0, .null), (4, .iload_n 1, 1, 0, 0, 0, 0, .null), (5, .bipush 25, 2, 0, 0, 0, 0, .null), (7, .if_icmp .lt 4, 3, 0, 0, 0, 0, .null), (10, .return_, 1, 0, 0, 0, 0, .null), (11, .iload_n 1, 1, 0, 0, 0, 0, .null), (12, .iconst 4, 1, 0, 0, 0, 0, .null), (13, .imul, 1, 0, 0, 0, 0, .null), (14, .istore 6, 2, 0, 0, 0, 0, .null), (16, .aload_n 0, 1, 0, 0, 0, 0, .null), (17, .getfield 9, 3, 1, 0, 7, 1, .null), (20, .iload 6, 2, 0, 0, 0, 0, .null), (22, .iconst 0, 1, 0, 0, 0, 0, .null), (23, .iadd, 1, 0, 0, 0, 0, .null), (24, .iload_n 2, 1, 0, 0, 0, 0, .null), (25, .iastore, 1, 0, 0, 0, 0, .null), (26, .aload_n 0, 1, 0, 0, 0, 0, .null), (27, .getfield 9, 3, 1, 0, 7, 1, .null), (30, .iload 6, 2, 0, 0, 0, 0, .null)], [(32, .iconst 1, 1, 0, 0, 0, 0, .null), (33, .iadd, 1, 0, 0, 0, 0, .null), (34, .iload_n 3, 1, 0, 0, 0, 0, .null), (35, .iastore, 1, 0, 0, 0, 0, .null), (36, .aload_n 0, 1, 0, 0, 0, 0, .null), (37, .getfield 9, 3, 1, 0, 7, 1, .null), (40, .iload 6, 2, 0, 0, 0, 0, .null), (42, .iconst 2, 1, 0, 0, 0, 0, .null), (43, .iadd, 1, 0, 0, 0, 0, .null), (44, .iload 4, 2, 0, 0, 0, 0, .null), (46, .iastore, 1, 0, 0, 0, 0, .null), (47, .aload_n 0, 1, 0, 0, 0, 0, .null), (48, .getfield 9, 3, 1, 0, 7, 1, .null), (51, .iload 6, 2, 0, 0, 0, 0, .null), (53, .iconst 3, 1, 0, 0, 0, 0, .null), (54, .iadd, 1, 0, 0, 0, 0, .null), (55, .iload 5, 2, 0, 0, 0, 0, .null), (57, .iastore, 1, 0, 0, 0, 0, .null), (58, .return_, 1, 0, 0, 0, 0, .null)]]
def zc4 : List (List zIn) := [[(0, .aload_n 0, 1, 0, 0, 0, 0, .null), (1, .getfield 21, 3, 1, 3, 0, 0, .null), (4, .aload_n 0, 1, 0, 0, 0, 0, .null), (5, .getfield 25, 3, 1, 4, 0, 0, .null), (8, .iadd, 1, 0, 0, 0, 0, .null), (9, .ireturn, 1, 0, 0, 0, 0, .null)]]
def zc5 : List (List zIn) := [[(0, .iload_n 1, 1, 0, 0, 0, 0, .null), (1, .ifCond .lt 31, 3, 0, 0, 0, 0, .null), (4, .iload_n 1, 1, 0, 0, 0, 0, .null), (5, .bipush 10, 2, 0, 0, 0, 0, .null), (7, .if_icmp .ge 25, 3, 0, 0, 0, 0, .null), (10, .aload_n 0, 1, 0, 0, 0, 0, .null), (11, .getfield 15, 3, 1, 1, 7, 1, .null), (14, .iload_n 1, 1, 0, 0, 0, 0, .null), (15, .iload_n 2, 1, 0, 0, 0, 0, .null), (16, .iastore, 1, 0, 0, 0, 0, .null), (17, .aload_n 0, 1, 0, 0, 0, 0, .null), (18, .getfield 18, 3, 1, 2, 7, 1, .null), (21, .iload_n 1, 1, 0, 0, 0, 0, .null), (22, .iload_n 2, 1, 0, 0, 0, 0, .null), (23, .aload_n 0, 1, 0, 0, 0, 0, .null), (24, .iload_n 1, 1, 0, 0, 0, 0, .null), (25, .invokevirtual 43, 3, 0, 6, 1, 1, .null), (28, .invokestatic 47, 3, 4, 7, 2, 0, .null), (31, .iastore, 1, 0, 0, 0, 0, .null)], [(32, .return_, 1, 0, 0, 0, 0, .null)]]
def zc6 : List (List zIn) := [[(0, .iload_n 1, 1, 0, 0, 0, 0, .null), (1, .aload_n 0, 1, 0, 0, 0, 0, .null), (2, .getfield 25, 3, 1, 4, 0, 0, .null), (5, .if_icmp .ge 10, 3, 0, 0, 0, 0, .null), (8, .aload_n 0, 1, 0, 0, 0, 0, .null), (9, .getfield 21, 3, 1, 3, 0, 0, .null), (12, .goto 7, 3, 0, 0, 0, 0, .null), (15, .aload_n 0, 1, 0, 0, 0, 0, .null), (16, .getfield 25, 3, 1, 4, 0, 0, .null), (19, .ireturn, 1, 0, 0, 0, 0, .null)]]
def zc7 : List (List zIn) := [[(0, .iload_n 0, 1, 0, 0, 0, 0, .null), (1, .iconst (-1), 1, 0, 0, 0, 0, .null), (2, .if_icmp .ne 12, 3, 0, 0, 0, 0, .null), (5, .iconst (-1), 1, 0, 0, 0, 0, .null), (6, .bipush 32, 2, 0, 0, 0, 0, .null), (8, .iconst 1, 1, 0, 0, 0, 0, .null), (9, .iload_n 1, 1, 0, 0, 0, 0, .null), (10, .ishl, 1, 0, 0, 0, 0, .null), (11, .isub, 1, 0, 0, 0, 0, .null), (12, .iushr, 1, 0, 0, 0, 0, .null), (13, .ireturn, 1, 0, 0, 0, 0, .null), (14, .iconst 0, 1, 0, 0, 0, 0, .null), (15, .istore_n 2, 1, 0, 0, 0, 0, .null), (16, .iconst 0, 1, 0, 0, 0, 0, .null), (17, .istore_n 3, 1, 0, 0, 0, 0, .null), (18, .iload_n 3, 1, 0, 0, 0, 0, .null), (19, .getstatic 199, 3, 0, 0, 0, 0, .null), (22, .arraylength, 1, 0, 0, 0, 0, .null), (23, .if_icmp .ge 31, 3, 0, 0, 0, 0, .null), (26, .iload_n 3, 1, 0, 0, 0, 0, .null), (27, .iconst 1, 1, 0, 0, 0, 0, .null), (28, .iload_n 1, 1, 0, 0, 0, 0, .null), (29, .ishl, 1, 0, 0, 0, 0, .null), (30, .if_icmp .ge 24, 3, 0, 0, 0, 0, .null)], [(33, .getstatic 199, 3, 0, 0, 0, 0, .null), (36, .iload_n 3, 1, 0, 0, 0, 0, .null), (37, .iaload, 1, 0, 0, 0, 0, .null), (38, .iload_n 0, 1, 0, 0, 0, 0, .null), (39, .if_icmp .ne 9, 3, 0, 0, 0, 0, .null), (42, .iload_n 2, 1, 0, 0, 0, 0, .null), (43, .iconst 1, 1, 0, 0, 0, 0, .null), (44, .iload_n 3, 1, 0, 0, 0, 0, .null), (45, .ishl, 1, 0, 0, 0, 0, .null), (46, .ior, 1, 0, 0, 0, 0, .null), (47, .istore_n 2, 1, 0, 0, 0, 0, .null), (48, .iinc 3 1, 3, 0, 0, 0, 0, .null), (51, .goto (-33), 3, 0, 0, 0, 0, .null), (54, .iload_n 2, 1, 0, 0, 0, 0, .null), (55, .ireturn, 1, 0, 0, 0, 0, .null)]]
def zc8 : List (List zIn) := [[(0, .aload_n 0, 1, 0, 0, 0, 0, .null), (1, .invokespecial 3, 3, 20, 0, 0, 0, .null), (4, .aload_n 0, 1, 0, 0, 0, 0, .null), (5, .sipush 500, 3, 0, 0, 0, 0, .null), (8, .newarray .int, 2, 64, 0, 0, 0, .null), (10, .putfield 9, 3, 2, 0, 7, 1, .null), (13, .aload_n 0, 1, 0, 0, 0, 0, .null), (14, .bipush 10, 2, 0, 0, 0, 0, .null), (16, .newarray .int, 2, 64, 0, 0, 0, .null), (18, .putfield 15, 3, 2, 1, 7, 1, .null), (21, .aload_n 0, 1, 0, 0, 0, 0, .null), (22, .new 18, 3, 1, 5, 0, 0, .null), (25, .dup, 1, 0, 0, 0, 0, .null), (26, .iconst 2, 1, 0, 0, 0, 0, .null), (27, .iconst 2, 1, 0, 0, 0, 0, .null), (28, .invokespecial 20, 3, 5, 1, 2, 0, .null), (31, .putfield 23, 3, 2, 2, 6, 1, .null)], [(34, .aload_n 0, 1, 0, 0, 0, 0, .null), (35, .iconst 5, 1, 0, 0, 0, 0, .null), (36, .newarray .int, 2, 64, 0, 0, 0, .null), (38, .putfield 27, 3, 2, 3, 7, 1, .null), (41, .aload_n 0, 1, 0, 0, 0, 0, .null), (42, .bipush 30, 2, 0, 0, 0, 0, .null), (44, .newarray .int, 2, 64, 0, 0, 0, .null), (46, .putfield 30, 3, 2, 4, 7, 1, .null), (49, .aload_n 0, 1, 0, 0, 0, 0, .null), (50, .bipush 25, 2, 0, 0, 0, 0, .null), (52, .newarray .int, 2, 64, 0, 0, 0, .null), (54, .putfield 33, 3, 2, 5, 7, 1, .null), (57, .return_, 1, 0, 0, 0, 0, .null)]]
def zc9 : List (List zIn) := [[(0, .aload_n 0, 1, 0, 0, 0, 0, .null), (1, .dup, 1, 0, 0, 0, 0, .null), (2, .getfield 35, 3, 0, 4, 0, 0, .null), (5, .iconst 1, 1, 0, 0, 0, 0, .null), (6, .iadd, 1, 0, 0, 0, 0, .null), (7, .putfield 35, 3, 0, 4, 0, 0, .null), (10, .aload_n 0, 1, 0, 0, 0, 0, .null), (11, .getfield 35, 3, 0, 4, 0, 0, .null), (14, .ireturn, 1, 0, 0, 0, 0, .null)]]
def zc10 : List (List zIn) := [[(0, .ldc2_w 268, 3, 0, 0, 0, 0, .long 58319), (3, .lstore_n 1, 1, 0, 0, 0, 0, .null), (4, .iconst 0, 1, 0, 0, 0, 0, .null), (5, .istore_n 3, 1, 0, 0, 0, 0, .null), (6, .iload_n 3, 1, 0, 0, 0, 0, .null), (7, .iconst 4, 1, 0, 0, 0, 0, .null), (8, .if_icmp .gt 22, 3, 0, 0, 0, 0, .null), (11, .lload_n 1, 1, 0, 0, 0, 0, .null), (12, .ldc2_w 270, 3, 0, 0, 0, 0, .long 31), (15, .lmul, 1, 0, 0, 0, 0, .null), (16, .aload_n 0, 1, 0, 0, 0, 0, .null), (17, .iload_n 3, 1, 0, 0, 0, 0, .null), (18, .invokevirtual 272, 3, 0, 11, 1, 0, .null), (21, .i2l, 1, 0, 0, 0, 0, .null), (22, .ladd, 1, 0, 0, 0, 0, .null), (23, .lstore_n 1, 1, 0, 0, 0, 0, .null), (24, .iinc 3 1, 3, 0, 0, 0, 0, .null), (27, .goto (-21), 3, 0, 0, 0, 0, .null), (30, .iconst 0, 1, 0, 0, 0, 0, .null), (31, .istore_n 3, 1, 0, 0, 0, 0, .null)], [(32, .iload_n 3, 1, 0, 0, 0, 0, .null), (33, .aload_n 0, 1, 0, 0, 0, 0, .null), (34, .getfield 31, 3, 0, 3, 0, 0, .null), (37, .if_icmp .ge 16, 3, 0, 0, 0, 0, .null), (40, .aload_n 0, 1, 0, 0, 0, 0, .null), (41, .lload_n 1, 1, 0, 0, 0, 0, .null), (42, .iload_n 3, 1, 0, 0, 0, 0, .null), (43, .invokevirtual 275, 3, 0, 17, 2, 0, .null), (46, .lstore_n 1, 1, 0, 0, 0, 0, .null), (47, .iinc 3 1, 3, 0, 0, 0, 0, .null), (50, .goto (-18), 3, 0, 0, 0, 0, .null), (53, .lload_n 1, 1, 0, 0, 0, 0, .null), (54, .lreturn, 1, 0, 0, 0, 0, .null)]]
def zc11 : List (List zIn) := [[(0, .iload_n 1, 1, 0, 0, 0, 0, .null), (1, .iconst 4, 1, 0, 0, 0, 0, .null), (2, .invokestatic 184, 3, 3, 12, 2, 0, .null), (5, .iload_n 1, 1, 0, 0, 0, 0, .null), (6, .iconst 1, 1, 0, 0, 0, 0, .null), (7, .if_icmp .gt 19, 3, 0, 0, 0, 0, .null), (10, .iload_n 1, 1, 0, 0, 0, 0, .null), (11, .ifCond .ne 10, 3, 0, 0, 0, 0, .null), (14, .aload_n 0, 1, 0, 0, 0, 0, .null), (15, .getfield 31, 3, 0, 3, 0, 0, .null), (18, .goto 7, 3, 0, 0, 0, 0, .null), (21, .aload_n 0, 1, 0, 0, 0, 0, .null), (22, .getfield 35, 3, 0, 4, 0, 0, .null), (25, .ireturn, 1, 0, 0, 0, 0, .null), (26, .iconst 0, 1, 0, 0, 0, 0, .null), (27, .istore_n 2, 1, 0, 0, 0, 0, .null), (28, .iconst 0, 1, 0, 0, 0, 0, .null), (29, .istore_n 3, 1, 0, 0, 0, 0, .null), (30, .iload_n 3, 1, 0, 0, 0, 0, .null), (31, .aload_n 0, 1, 0, 0, 0, 0, .null)], [(32, .getfield 31, 3, 0, 3, 0, 0, .null), (35, .if_icmp .ge 54, 3, 0, 0, 0, 0, .null), (38, .aload_n 0, 1, 0, 0, 0, 0, .null), (39, .iload_n 3, 1, 0, 0, 0, 0, .null), (40, .invokevirtual 51, 3, 0, 13, 1, 0, .null), (43, .astore 4, 2, 0, 0, 0, 0, .null), (45, .iload_n 2, 1, 0, 0, 0, 0, .null), (46, .iload_n 1, 1, 0, 0, 0, 0, .null), (47, .iconst 2, 1, 0, 0, 0, 0, .null), (48, .if_icmp .ne 11, 3, 0, 0, 0, 0, .null), (51, .aload 4, 2, 0, 0, 0, 0, .null), (53, .getfield 103, 3, 4, 5, 0, 0, .null), (56, .goto 25, 3, 0, 0, 0, 0, .null), (59, .iload_n 1, 1, 0, 0, 0, 0, .null), (60, .iconst 3, 1, 0, 0, 0, 0, .null), (61, .if_icmp .ne 15, 3, 0, 0, 0, 0, .null)], [(64, .aload 4, 2, 0, 0, 0, 0, .null), (66, .getfield 55, 3, 4, 0, 6, 1, .null), (69, .iconst 0, 1, 0, 0, 0, 0, .null), (70, .invokevirtual 170, 3, 0, 14, 1, 1, .null), (73, .goto 8, 3, 0, 0, 0, 0, .null), (76, .aload 4, 2, 0, 0, 0, 0, .null), (78, .getfield 110, 3, 4, 4, 0, 0, .null), (81, .iadd, 1, 0, 0, 0, 0, .null), (82, .istore_n 2, 1, 0, 0, 0, 0, .null), (83, .iinc 3 1, 3, 0, 0, 0, 0, .null), (86, .goto (-56), 3, 0, 0, 0, 0, .null), (89, .iload_n 2, 1, 0, 0, 0, 0, .null), (90, .ireturn, 1, 0, 0, 0, 0, .null)]]
def zc12 : List (List zIn) := [[(0, .iload_n 0, 1, 0, 0, 0, 0, .null), (1, .ifCond .lt 8, 3, 0, 0, 0, 0, .null), (4, .iload_n 0, 1, 0, 0, 0, 0, .null), (5, .iload_n 1, 1, 0, 0, 0, 0, .null), (6, .if_icmp .le 14, 3, 0, 0, 0, 0, .null), (9, .new 38, 3, 1000, 319, 42, 1, .null), (12, .dup, 1, 0, 0, 0, 0, .null), (13, .ldc_w 319, 3, 998, 0, 0, 0, .null), (16, .invokespecial 42, 3, 999, 0, 0, 0, .null), (19, .athrow, 1, 0, 0, 0, 0, .null), (20, .return_, 1, 0, 0, 0, 0, .null)]]
def zc13 : List (List zIn) := [[(0, .iload_n 1, 1, 0, 0, 0, 0, .null), (1, .ifCond .lt 21, 3, 0, 0, 0, 0, .null), (4, .iload_n 1, 1, 0, 0, 0, 0, .null), (5, .aload_n 0, 1, 0, 0, 0, 0, .null), (6, .getfield 11, 3, 0, 0, 7, 1, .null), (9, .arraylength, 1, 0, 0, 0, 0, .null), (10, .if_icmp .ge 12, 3, 0, 0, 0, 0, .null), (13, .aload_n 0, 1, 0, 0, 0, 0, .null), (14, .getfield 11, 3, 0, 0, 7, 1, .null), (17, .iload_n 1, 1, 0, 0, 0, 0, .null), (18, .aaload, 1, 0, 0, 0, 0, .null), (19, .goto 4, 3, 0, 0, 0, 0, .null), (22, .aconst_null, 1, 0, 0, 0, 0, .null), (23, .astore_n 2, 1, 0, 0, 0, 0, .null), (24, .aload_n 2, 1, 0, 0, 0, 0, .null), (25, .ifnonnull 14, 3, 0, 0, 0, 0, .null), (28, .new 160, 3, 1002, 313, 164, 1, .null), (31, .dup, 1, 0, 0, 0, 0, .null)], [(32, .ldc_w 313, 3, 998, 0, 0, 0, .null), (35, .invokespecial 164, 3, 999, 0, 0, 0, .null), (38, .athrow, 1, 0, 0, 0, 0, .null), (39, .aload_n 2, 1, 0, 0, 0, 0, .null), (40, .areturn, 1, 0, 0, 0, 0, .null)]]
def zc14 : List (List zIn) := [[(0, .iconst 0, 1, 0, 0, 0, 0, .null), (1, .istore_n 2, 1, 0, 0, 0, 0, .null), (2, .iconst 0, 1, 0, 0, 0, 0, .null), (3, .istore_n 3, 1, 0, 0, 0, 0, .null), (4, .iload_n 3, 1, 0, 0, 0, 0, .null), (5, .aload_n 0, 1, 0, 0, 0, 0, .null), (6, .invokevirtual 88, 3, 0, 15, 0, 1, .null), (9, .if_icmp .ge 21, 3, 0, 0, 0, 0, .null), (12, .aload_n 0, 1, 0, 0, 0, 0, .null), (13, .iload_n 3, 1, 0, 0, 0, 0, .null), (14, .invokevirtual 67, 3, 0, 16, 1, 1, .null), (17, .iload_n 1, 1, 0, 0, 0, 0, .null), (18, .if_icmp .ne 6, 3, 0, 0, 0, 0, .null), (21, .iinc 2 1, 3, 0, 0, 0, 0, .null), (24, .iinc 3 1, 3, 0, 0, 0, 0, .null), (27, .goto (-23), 3, 0, 0, 0, 0, .null), (30, .iload_n 2, 1, 0, 0, 0, 0, .null), (31, .ireturn, 1, 0, 0, 0, 0, .null)]]
def zc15 : List (List zIn) := [[(0, .aload_n 0, 1, 0, 0, 0, 0, .null), (1, .getfield 21, 3, 1, 3, 0, 0, .null), (4, .aload_n 0, 1, 0, 0, 0, 0, .null), (5, .getfield 25, 3, 1, 4, 0, 0, .null), (8, .imul, 1, 0, 0, 0, 0, .null), (9, .ireturn, 1, 0, 0, 0, 0, .null)]]
def zc16 : List (List zIn) := [[(0, .iload_n 1, 1, 0, 0, 0, 0, .null), (1, .ifCond .lt 22, 3, 0, 0, 0, 0, .null), (4, .iload_n 1, 1, 0, 0, 0, 0, .null), (5, .bipush 25, 2, 0, 0, 0, 0, .null), (7, .if_icmp .ge 16, 3, 0, 0, 0, 0, .null), (10, .aload_n 0, 1, 0, 0, 0, 0, .null), (11, .getfield 9, 3, 1, 0, 7, 1, .null), (14, .iload_n 1, 1, 0, 0, 0, 0, .null), (15, .iconst 4, 1, 0, 0, 0, 0, .null), (16, .imul, 1, 0, 0, 0, 0, .null), (17, .iconst 0, 1, 0, 0, 0, 0, .null), (18, .iadd, 1, 0, 0, 0, 0, .null), (19, .iaload, 1, 0, 0, 0, 0, .null), (20, .goto 4, 3, 0, 0, 0, 0, .null), (23, .iconst 0, 1, 0, 0, 0, 0, .null), (24, .ireturn, 1, 0, 0, 0, 0, .null)]]
def zc17 : List (List zIn) := [[(0, .lload_n 1, 1, 0, 0, 0, 0, .null), (1, .lstore 4, 2, 0, 0, 0, 0, .null), (3, .aload_n 0, 1, 0, 0, 0, 0, .null), (4, .iload_n 3, 1, 0, 0, 0, 0, .null), (5, .invokevirtual 51, 3, 0, 13, 1, 0, .null), (8, .getfield 55, 3, 4, 0, 6, 1, .null), (11, .astore 6, 2, 0, 0, 0, 0, .null), (13, .iconst 0, 1, 0, 0, 0, 0, .null), (14, .istore 7, 2, 0, 0, 0, 0, .null), (16, .iload 7, 2, 0, 0, 0, 0, .null), (18, .bipush 10, 2, 0, 0, 0, 0, .null), (20, .if_icmp .gt 26, 3, 0, 0, 0, 0, .null), (23, .lload 4, 2, 0, 0, 0, 0, .null), (25, .ldc2_w 270, 3, 0, 0, 0, 0, .long 31), (28, .lmul, 1, 0, 0, 0, 0, .null), (29, .aload_n 0, 1, 0, 0, 0, 0, .null), (30, .iload_n 3, 1, 0, 0, 0, 0, .null), (31, .iload 7, 2, 0, 0, 0, 0, .null)], [(33, .invokevirtual 279, 3, 0, 18, 2, 0, .null), (36, .i2l, 1, 0, 0, 0, 0, .null), (37, .ladd, 1, 0, 0, 0, 0, .null), (38, .lstore 4, 2, 0, 0, 0, 0, .null), (40, .iinc 7 1, 3, 0, 0, 0, 0, .null), (43, .goto (-27), 3, 0, 0, 0, 0, .null), (46, .iconst 0, 1, 0, 0, 0, 0, .null), (47, .istore 7, 2, 0, 0, 0, 0, .null), (49, .iload 7, 2, 0, 0, 0, 0, .null), (51, .aload 6, 2, 0, 0, 0, 0, .null), (53, .invokevirtual 181, 3, 0, 15, 0, 1, .null), (56, .if_icmp .ge 43, 3, 0, 0, 0, 0, .null), (59, .iconst 0, 1, 0, 0, 0, 0, .null), (60, .istore 8, 2, 0, 0, 0, 0, .null), (62, .iload 8, 2, 0, 0, 0, 0, .null)], [(64, .iconst 3, 1, 0, 0, 0, 0, .null), (65, .if_icmp .gt 28, 3, 0, 0, 0, 0, .null), (68, .lload 4, 2, 0, 0, 0, 0, .null), (70, .ldc2_w 270, 3, 0, 0, 0, 0, .long 31), (73, .lmul, 1, 0, 0, 0, 0, .null), (74, .aload_n 0, 1, 0, 0, 0, 0, .null), (75, .iload_n 3, 1, 0, 0, 0, 0, .null), (76, .iload 7, 2, 0, 0, 0, 0, .null), (78, .iload 8, 2, 0, 0, 0, 0, .null), (80, .invokevirtual 282, 3, 0, 39, 3, 0, .null), (83, .i2l, 1, 0, 0, 0, 0, .null), (84, .ladd, 1, 0, 0, 0, 0, .null), (85, .lstore 4, 2, 0, 0, 0, 0, .null), (87, .iinc 8 1, 3, 0, 0, 0, 0, .null), (90, .goto (-28), 3, 0, 0, 0, 0, .null), (93, .iinc 7 1, 3, 0, 0, 0, 0, .null)], [(96, .goto (-47), 3, 0, 0, 0, 0, .null), (99, .iconst 0, 1, 0, 0, 0, 0, .null), (100, .istore 7, 2, 0, 0, 0, 0, .null), (102, .iload 7, 2, 0, 0, 0, 0, .null), (104, .aload 6, 2, 0, 0, 0, 0, .null), (106, .invokevirtual 256, 3, 0, 4, 0, 1, .null), (109, .if_icmp .ge 61, 3, 0, 0, 0, 0, .null), (112, .iconst 0, 1, 0, 0, 0, 0, .null), (113, .istore 8, 2, 0, 0, 0, 0, .null), (115, .iload 8, 2, 0, 0, 0, 0, .null), (117, .iconst 5, 1, 0, 0, 0, 0, .null), (118, .if_icmp .gt 28, 3, 0, 0, 0, 0, .null), (121, .lload 4, 2, 0, 0, 0, 0, .null), (123, .ldc2_w 270, 3, 0, 0, 0, 0, .long 31), (126, .lmul, 1, 0, 0, 0, 0, .null), (127, .aload_n 0, 1, 0, 0, 0, 0, .null)], [(128, .iload_n 3, 1, 0, 0, 0, 0, .null), (129, .iload 7, 2, 0, 0, 0, 0, .null), (131, .iload 8, 2, 0, 0, 0, 0, .null), (133, .invokevirtual 286, 3, 0, 42, 3, 0, .null), (136, .i2l, 1, 0, 0, 0, 0, .null), (137, .ladd, 1, 0, 0, 0, 0, .null), (138, .lstore 4, 2, 0, 0, 0, 0, .null), (140, .iinc 8 1, 3, 0, 0, 0, 0, .null), (143, .goto (-28), 3, 0, 0, 0, 0, .null), (146, .lload 4, 2, 0, 0, 0, 0, .null), (148, .ldc2_w 270, 3, 0, 0, 0, 0, .long 31), (151, .lmul, 1, 0, 0, 0, 0, .null), (152, .aload_n 0, 1, 0, 0, 0, 0, .null), (153, .iload_n 3, 1, 0, 0, 0, 0, .null), (154, .iload 7, 2, 0, 0, 0, 0, .null), (156, .iconst 0, 1, 0, 0, 0, 0, .null), (157, .invokevirtual 289, 3, 0, 46, 3, 0, .null)], [(160, .i2l, 1, 0, 0, 0, 0, .null), (161, .ladd, 1, 0, 0, 0, 0, .null), (162, .lstore 4, 2, 0, 0, 0, 0, .null), (164, .iinc 7 1, 3, 0, 0, 0, 0, .null), (167, .goto (-65), 3, 0, 0, 0, 0, .null), (170, .lload 4, 2, 0, 0, 0, 0, .null), (172, .ldc2_w 270, 3, 0, 0, 0, 0, .long 31), (175, .lmul, 1, 0, 0, 0, 0, .null), (176, .aload_n 0, 1, 0, 0, 0, 0, .null), (177, .iload_n 3, 1, 0, 0, 0, 0, .null), (178, .iconst 0, 1, 0, 0, 0, 0, .null), (179, .invokevirtual 292, 3, 0, 47, 2, 0, .null), (182, .i2l, 1, 0, 0, 0, 0, .null), (183, .ladd, 1, 0, 0, 0, 0, .null), (184, .lstore 4, 2, 0, 0, 0, 0, .null), (186, .lload 4, 2, 0, 0, 0, 0, .null), (188, .ldc2_w 270, 3, 0, 0, 0, 0, .long 31), (191, .lmul, 1, 0, 0, 0, 0, .null)], [(192, .ldc2_w 295, 3, 0, 0, 0, 0, .double 4634204016564240384), (195, .aload_n 0, 1, 0, 0, 0, 0, .null), (196, .iload_n 3, 1, 0, 0, 0, 0, .null), (197, .iconst 0, 1, 0, 0, 0, 0, .null), (198, .invokevirtual 297, 3, 0, 49, 2, 0, .null), (201, .dmul, 1, 0, 0, 0, 0, .null), (202, .d2l, 1, 0, 0, 0, 0, .null), (203, .ladd, 1, 0, 0, 0, 0, .null), (204, .lstore 4, 2, 0, 0, 0, 0, .null), (206, .lload 4, 2, 0, 0, 0, 0, .null), (208, .ldc2_w 270, 3, 0, 0, 0, 0, .long 31), (211, .lmul, 1, 0, 0, 0, 0, .null), (212, .ldc2_w 295, 3, 0, 0, 0, 0, .double 4634204016564240384), (215, .aload_n 0, 1, 0, 0, 0, 0, .null), (216, .iload_n 3, 1, 0, 0, 0, 0, .null), (217, .iconst 1, 1, 0, 0, 0, 0, .null), (218, .invokevirtual 297, 3, 0, 49, 2, 0, .null), (221, .dmul, 1, 0, 0, 0, 0, .null), (222, .d2l, 1, 0, 0, 0, 0, .null), (223, .ladd, 1, 0, 0, 0, 0, .null)], [(224, .lstore 4, 2, 0, 0, 0, 0, .null), (226, .lload 4, 2, 0, 0, 0, 0, .null), (228, .ldc2_w 270, 3, 0, 0, 0, 0, .long 31), (231, .lmul, 1, 0, 0, 0, 0, .null), (232, .aload_n 0, 1, 0, 0, 0, 0, .null), (233, .iload_n 3, 1, 0, 0, 0, 0, .null), (234, .invokevirtual 301, 3, 0, 55, 1, 0, .null), (237, .i2l, 1, 0, 0, 0, 0, .null), (238, .ladd, 1, 0, 0, 0, 0, .null), (239, .lstore 4, 2, 0, 0, 0, 0, .null), (241, .lload 4, 2, 0, 0, 0, 0, .null), (243, .ldc2_w 270, 3, 0, 0, 0, 0, .long 31), (246, .lmul, 1, 0, 0, 0, 0, .null), (247, .aload_n 0, 1, 0, 0, 0, 0, .null), (248, .iload_n 3, 1, 0, 0, 0, 0, .null), (249, .invokevirtual 304, 3, 0, 56, 1, 0, .null), (252, .i2l, 1, 0, 0, 0, 0, .null), (253, .ladd, 1, 0, 0, 0, 0, .null), (254, .lstore 4, 2, 0, 0, 0, 0, .null)], [(256, .lload 4, 2, 0, 0, 0, 0, .null), (258, .ldc2_w 270, 3, 0, 0, 0, 0, .long 31), (261, .lmul, 1, 0, 0, 0, 0, .null), (262, .aload_n 0, 1, 0, 0, 0, 0, .null), (263, .iload_n 3, 1, 0, 0, 0, 0, .null), (264, .invokevirtual 307, 3, 0, 58, 1, 0, .null), (267, .i2l, 1, 0, 0, 0, 0, .null), (268, .ladd, 1, 0, 0, 0, 0, .null), (269, .lstore 4, 2, 0, 0, 0, 0, .null), (271, .lload 4, 2, 0, 0, 0, 0, .null), (273, .ldc2_w 270, 3, 0, 0, 0, 0, .long 31), (276, .lmul, 1, 0, 0, 0, 0, .null), (277, .aload_n 0, 1, 0, 0, 0, 0, .null), (278, .iload_n 3, 1, 0, 0, 0, 0, .null), (279, .iconst 0, 1, 0, 0, 0, 0, .null), (280, .invokevirtual 310, 3, 0, 61, 2, 0, .null), (283, .i2l, 1, 0, 0, 0, 0, .null), (284, .ladd, 1, 0, 0, 0, 0, .null), (285, .lreturn, 1, 0, 0, 0, 0, .null)]]
def zc18 : List (List zIn) := [[(0, .aload_n 0, 1, 0, 0, 0, 0, .null), (1, .iload_n 1, 1, 0, 0, 0, 0, .null), (2, .invokevirtual 51, 3, 0, 13, 1, 0, .null), (5, .astore_n 3, 1, 0, 0, 0, 0, .null), (6, .iload_n 2, 1, 0, 0, 0, 0, .null), (7, .bipush 10, 2, 0, 0, 0, 0, .null), (9, .invokestatic 184, 3, 3, 12, 2, 0, .null), (12, .iload_n 2, 1, 0, 0, 0, 0, .null), (13, .tableswitch 138 0 9 #[55, 63, 71, 80, 89, 97, 102, 107, 125, 133], 55, 0, 0, 0, 0, .null)], [], [(68, .aload_n 3, 1, 0, 0, 0, 0, .null), (69, .getfield 55, 3, 4, 0, 6, 1, .null), (72, .getfield 154, 3, 1, 3, 0, 0, .null), (75, .ireturn, 1, 0, 0, 0, 0, .null), (76, .aload_n 3, 1, 0, 0, 0, 0, .null), (77, .getfield 55, 3, 4, 0, 6, 1, .null), (80, .getfield 157, 3, 1, 4, 0, 0, .null), (83, .ireturn, 1, 0, 0, 0, 0, .null), (84, .aload_n 3, 1, 0, 0, 0, 0, .null), (85, .getfield 55, 3, 4, 0, 6, 1, .null), (88, .iconst 0, 1, 0, 0, 0, 0, .null), (89, .invokevirtual 170, 3, 0, 14, 1, 1, .null), (92, .ireturn, 1, 0, 0, 0, 0, .null), (93, .aload_n 3, 1, 0, 0, 0, 0, .null), (94, .getfield 55, 3, 4, 0, 6, 1, .null)], [(97, .iconst 1, 1, 0, 0, 0, 0, .null), (98, .invokevirtual 170, 3, 0, 14, 1, 1, .null), (101, .ireturn, 1, 0, 0, 0, 0, .null), (102, .aload_n 3, 1, 0, 0, 0, 0, .null), (103, .getfield 55, 3, 4, 0, 6, 1, .null), (106, .invokevirtual 206, 3, 0, 19, 0, 1, .null), (109, .ireturn, 1, 0, 0, 0, 0, .null), (110, .aload_n 3, 1, 0, 0, 0, 0, .null), (111, .getfield 110, 3, 4, 4, 0, 0, .null), (114, .ireturn, 1, 0, 0, 0, 0, .null), (115, .aload_n 3, 1, 0, 0, 0, 0, .null), (116, .getfield 103, 3, 4, 5, 0, 0, .null), (119, .ireturn, 1, 0, 0, 0, 0, .null), (120, .aload_n 3, 1, 0, 0, 0, 0, .null), (121, .getfield 209, 3, 4, 1, 6, 1, .null), (124, .aload_n 3, 1, 0, 0, 0, 0, .null), (125, .getfield 55, 3, 4, 0, 6, 1, .null)], [(128, .sipush 500, 3, 0, 0, 0, 0, .null), (131, .invokevirtual 96, 3, 0, 22, 2, 2, .null), (134, .getfield 100, 3, 2, 10, 0, 0, .null), (137, .ireturn, 1, 0, 0, 0, 0, .null), (138, .aload_n 3, 1, 0, 0, 0, 0, .null), (139, .getfield 55, 3, 4, 0, 6, 1, .null), (142, .invokevirtual 212, 3, 0, 35, 0, 1, .null), (145, .ireturn, 1, 0, 0, 0, 0, .null), (146, .aload_n 3, 1, 0, 0, 0, 0, .null), (147, .getfield 117, 3, 4, 6, 0, 0, .null), (150, .ireturn, 1, 0, 0, 0, 0, .null), (151, .aload_n 3, 1, 0, 0, 0, 0, .null), (152, .getfield 209, 3, 4, 1, 6, 1, .null), (155, .aload_n 3, 1, 0, 0, 0, 0, .null), (156, .getfield 55, 3, 4, 0, 6, 1, .null), (159, .sipush 500, 3, 0, 0, 0, 0, .null)], [(162, .invokevirtual 96, 3, 0, 22, 2, 2, .null), (165, .invokevirtual 215, 3, 0, 37, 0, 2, .null), (168, .aload_n 3, 1, 0, 0, 0, 0, .null), (169, .getfield 55, 3, 4, 0, 6, 1, .null), (172, .invokevirtual 218, 3, 0, 38, 0, 1, .null), (175, .iand, 1, 0, 0, 0, 0, .null), (176, .ireturn, 1, 0, 0, 0, 0, .null)]]
def zc19 : List (List zIn) := [[(0, .iconst 0, 1, 0, 0, 0, 0, .null), (1, .istore_n 1, 1, 0, 0, 0, 0, .null), (2, .iconst 0, 1, 0, 0, 0, 0, .null), (3, .istore_n 2, 1, 0, 0, 0, 0, .null), (4, .iload_n 2, 1, 0, 0, 0, 0, .null), (5, .aload_n 0, 1, 0, 0, 0, 0, .null), (6, .invokevirtual 31, 3, 0, 4, 0, 1, .null), (9, .if_icmp .ge 20, 3, 0, 0, 0, 0, .null), (12, .aload_n 0, 1, 0, 0, 0, 0, .null), (13, .iload_n 2, 1, 0, 0, 0, 0, .null), (14, .invokevirtual 73, 3, 0, 20, 1, 1, .null), (17, .ifCond .ne 6, 3, 0, 0, 0, 0, .null), (20, .iinc 1 1, 3, 0, 0, 0, 0, .null), (23, .iinc 2 1, 3, 0, 0, 0, 0, .null), (26, .goto (-22), 3, 0, 0, 0, 0, .null), (29, .iload_n 1, 1, 0, 0, 0, 0, .null), (30, .ireturn, 1, 0, 0, 0, 0, .null)]]
def zc20 : List (List zIn) := [[(0, .iload_n 1, 1, 0, 0, 0, 0, .null), (1, .ifCond .lt 21, 3, 0, 0, 0, 0, .null), (4, .iload_n 1, 1, 0, 0, 0, 0, .null), (5, .aload_n 0, 1, 0, 0, 0, 0, .null), (6, .getfield 18, 3, 1, 2, 7, 1, .null), (9, .arraylength, 1, 0, 0, 0, 0, .null), (10, .if_icmp .ge 12, 3, 0, 0, 0, 0, .null), (13, .aload_n 0, 1, 0, 0, 0, 0, .null), (14, .getfield 18, 3, 1, 2, 7, 1, .null), (17, .iload_n 1, 1, 0, 0, 0, 0, .null), (18, .iaload, 1, 0, 0, 0, 0, .null), (19, .goto 4, 3, 0, 0, 0, 0, .null), (22, .iconst 0, 1, 0, 0, 0, 0, .null), (23, .istore_n 2, 1, 0, 0, 0, 0, .null), (24, .aload_n 0, 1, 0, 0, 0, 0, .null), (25, .iload_n 1, 1, 0, 0, 0, 0, .null), (26, .invokevirtual 43, 3, 0, 6, 1, 1, .null), (29, .istore_n 3, 1, 0, 0, 0, 0, .null), (30, .iconst 0, 1, 0, 0, 0, 0, .null), (31, .istore 4, 2, 0, 0, 0, 0, .null)], [(33, .iload 4, 2, 0, 0, 0, 0, .null), (35, .iload_n 3, 1, 0, 0, 0, 0, .null), (36, .if_icmp .ge 66, 3, 0, 0, 0, 0, .null), (39, .iload 4, 2, 0, 0, 0, 0, .null), (41, .getstatic 70, 3, 1, 0, 0, 0, .null), (44, .arraylength, 1, 0, 0, 0, 0, .null), (45, .if_icmp .ge 57, 3, 0, 0, 0, 0, .null), (48, .aload_n 0, 1, 0, 0, 0, 0, .null), (49, .aload_n 0, 1, 0, 0, 0, 0, .null), (50, .iload_n 1, 1, 0, 0, 0, 0, .null), (51, .iload 4, 2, 0, 0, 0, 0, .null), (53, .invokevirtual 51, 3, 0, 21, 2, 1, .null), (56, .invokevirtual 67, 3, 0, 16, 1, 1, .null), (59, .istore 5, 2, 0, 0, 0, 0, .null), (61, .iload 5, 2, 0, 0, 0, 0, .null), (63, .iconst 1, 1, 0, 0, 0, 0, .null)], [(64, .if_icmp .ne 15, 3, 0, 0, 0, 0, .null), (67, .iload_n 2, 1, 0, 0, 0, 0, .null), (68, .getstatic 70, 3, 1, 0, 0, 0, .null), (71, .iload 4, 2, 0, 0, 0, 0, .null), (73, .iaload, 1, 0, 0, 0, 0, .null), (74, .iand, 1, 0, 0, 0, 0, .null), (75, .istore_n 2, 1, 0, 0, 0, 0, .null), (76, .goto 20, 3, 0, 0, 0, 0, .null), (79, .iload 5, 2, 0, 0, 0, 0, .null), (81, .iconst 2, 1, 0, 0, 0, 0, .null), (82, .if_icmp .ne 14, 3, 0, 0, 0, 0, .null), (85, .iload_n 2, 1, 0, 0, 0, 0, .null), (86, .getstatic 70, 3, 1, 0, 0, 0, .null), (89, .iload 4, 2, 0, 0, 0, 0, .null), (91, .iaload, 1, 0, 0, 0, 0, .null), (92, .iconst (-1), 1, 0, 0, 0, 0, .null), (93, .ixor, 1, 0, 0, 0, 0, .null), (94, .iand, 1, 0, 0, 0, 0, .null), (95, .istore_n 2, 1, 0, 0, 0, 0, .null)], [(96, .iinc 4 1, 3, 0, 0, 0, 0, .null), (99, .goto (-66), 3, 0, 0, 0, 0, .null), (102, .iload_n 2, 1, 0, 0, 0, 0, .null), (103, .ireturn, 1, 0, 0, 0, 0, .null)]]
def zc21 : List (List zIn) := [[(0, .iload_n 1, 1, 0, 0, 0, 0, .null), (1, .aload_n 0, 1, 0, 0, 0, 0, .null), (2, .getfield 25, 3, 1, 4, 0, 0, .null), (5, .if_icmp .ge 14, 3, 0, 0, 0, 0, .null), (8, .iload_n 1, 1, 0, 0, 0, 0, .null), (9, .aload_n 0, 1, 0, 0, 0, 0, .null), (10, .getfield 21, 3, 1, 3, 0, 0, .null), (13, .imul, 1, 0, 0, 0, 0, .null), (14, .iload_n 2, 1, 0, 0, 0, 0, .null), (15, .iadd, 1, 0, 0, 0, 0, .null), (16, .goto 16, 3, 0, 0, 0, 0, .null), (19, .iload_n 2, 1, 0, 0, 0, 0, .null), (20, .aload_n 0, 1, 0, 0, 0, 0, .null), (21, .getfield 21, 3, 1, 3, 0, 0, .null), (24, .imul, 1, 0, 0, 0, 0, .null), (25, .iload_n 1, 1, 0, 0, 0, 0, .null), (26, .iadd, 1, 0, 0, 0, 0, .null), (27, .aload_n 0, 1, 0, 0, 0, 0, .null), (28, .getfield 25, 3, 1, 4, 0, 0, .null), (31, .isub, 1, 0, 0, 0, 0, .null)], [(32, .ireturn, 1, 0, 0, 0, 0, .null)]]
def zc22 : List (List zIn) := [[(0, .aload_n 0, 1, 0, 0, 0, 0, .null), (1, .aload_n 1, 1, 0, 0, 0, 0, .null), (2, .iload_n 2, 1, 0, 0, 0, 0, .null), (3, .invokevirtual 36, 3, 0, 23, 2, 2, .null), (6, .ifCond .ne 5, 3, 0, 0, 0, 0, .null), (9, .aload_n 0, 1, 0, 0, 0, 0, .null), (10, .areturn, 1, 0, 0, 0, 0, .null), (11, .aload_n 0, 1, 0, 0, 0, 0, .null), (12, .iconst 0, 1, 0, 0, 0, 0, .null), (13, .putfield 40, 3, 2, 10, 0, 0, .null), (16, .aload_n 0, 1, 0, 0, 0, 0, .null), (17, .iconst 0, 1, 0, 0, 0, 0, .null), (18, .putfield 44, 3, 2, 6, 1, 0, .null), (21, .aload_n 0, 1, 0, 0, 0, 0, .null), (22, .getfield 23, 3, 2, 2, 6, 1, .null), (25, .aload_n 1, 1, 0, 0, 0, 0, .null), (26, .invokevirtual 48, 3, 0, 24, 1, 1, .null), (29, .aload_n 0, 1, 0, 0, 0, 0, .null), (30, .getfield 23, 3, 2, 2, 6, 1, .null)], [(33, .iconst 0, 1, 0, 0, 0, 0, .null), (34, .invokevirtual 52, 3, 0, 25, 1, 1, .null), (37, .pop, 1, 0, 0, 0, 0, .null), (38, .iconst 0, 1, 0, 0, 0, 0, .null), (39, .istore_n 3, 1, 0, 0, 0, 0, .null), (40, .iload_n 3, 1, 0, 0, 0, 0, .null), (41, .aload_n 0, 1, 0, 0, 0, 0, .null), (42, .getfield 56, 3, 2, 8, 0, 0, .null), (45, .if_icmp .ge 32, 3, 0, 0, 0, 0, .null), (48, .iload_n 3, 1, 0, 0, 0, 0, .null), (49, .aload_n 0, 1, 0, 0, 0, 0, .null), (50, .getfield 27, 3, 2, 3, 7, 1, .null), (53, .arraylength, 1, 0, 0, 0, 0, .null), (54, .if_icmp .ge 23, 3, 0, 0, 0, 0, .null), (57, .aload_n 0, 1, 0, 0, 0, 0, .null), (58, .getfield 27, 3, 2, 3, 7, 1, .null), (61, .iload_n 3, 1, 0, 0, 0, 0, .null), (62, .aload_n 0, 1, 0, 0, 0, 0, .null), (63, .getfield 23, 3, 2, 2, 6, 1, .null)], [(66, .iload_n 3, 1, 0, 0, 0, 0, .null), (67, .invokevirtual 59, 3, 0, 20, 1, 1, .null), (70, .iastore, 1, 0, 0, 0, 0, .null), (71, .iinc 3 1, 3, 0, 0, 0, 0, .null), (74, .goto (-34), 3, 0, 0, 0, 0, .null), (77, .iconst 0, 1, 0, 0, 0, 0, .null), (78, .istore_n 3, 1, 0, 0, 0, 0, .null), (79, .iload_n 3, 1, 0, 0, 0, 0, .null), (80, .aload_n 0, 1, 0, 0, 0, 0, .null), (81, .getfield 62, 3, 2, 7, 0, 0, .null), (84, .if_icmp .ge 37, 3, 0, 0, 0, 0, .null), (87, .iload_n 3, 1, 0, 0, 0, 0, .null), (88, .aload_n 0, 1, 0, 0, 0, 0, .null), (89, .getfield 30, 3, 2, 4, 7, 1, .null), (92, .arraylength, 1, 0, 0, 0, 0, .null), (93, .if_icmp .ge 28, 3, 0, 0, 0, 0, .null)], [(96, .aload_n 0, 1, 0, 0, 0, 0, .null), (97, .getfield 30, 3, 2, 4, 7, 1, .null), (100, .iload_n 3, 1, 0, 0, 0, 0, .null), (101, .aload_n 0, 1, 0, 0, 0, 0, .null), (102, .getfield 23, 3, 2, 2, 6, 1, .null), (105, .aload_n 0, 1, 0, 0, 0, 0, .null), (106, .getfield 56, 3, 2, 8, 0, 0, .null), (109, .iload_n 3, 1, 0, 0, 0, 0, .null), (110, .iadd, 1, 0, 0, 0, 0, .null), (111, .invokevirtual 59, 3, 0, 20, 1, 1, .null), (114, .iastore, 1, 0, 0, 0, 0, .null), (115, .iinc 3 1, 3, 0, 0, 0, 0, .null), (118, .goto (-39), 3, 0, 0, 0, 0, .null), (121, .aload_n 0, 1, 0, 0, 0, 0, .null), (122, .iconst 0, 1, 0, 0, 0, 0, .null), (123, .invokevirtual 65, 3, 0, 30, 1, 2, .null), (126, .ifCond .eq 9, 3, 0, 0, 0, 0, .null)], [(129, .aload_n 0, 1, 0, 0, 0, 0, .null), (130, .iconst 0, 1, 0, 0, 0, 0, .null), (131, .iconst 0, 1, 0, 0, 0, 0, .null), (132, .invokestatic 69, 3, 3, 32, 3, 0, .null), (135, .aload_n 0, 1, 0, 0, 0, 0, .null), (136, .areturn, 1, 0, 0, 0, 0, .null)]]
def zc23 : List (List zIn) := [[(0, .aload_n 0, 1, 0, 0, 0, 0, .null), (1, .getfield 62, 3, 2, 7, 0, 0, .null), (4, .aload_n 1, 1, 0, 0, 0, 0, .null), (5, .getfield 73, 3, 1, 3, 0, 0, .null), (8, .if_icmp .ne 22, 3, 0, 0, 0, 0, .null), (11, .aload_n 0, 1, 0, 0, 0, 0, .null), (12, .getfield 56, 3, 2, 8, 0, 0, .null), (15, .aload_n 1, 1, 0, 0, 0, 0, .null), (16, .getfield 74, 3, 1, 4, 0, 0, .null), (19, .if_icmp .ne 11, 3, 0, 0, 0, 0, .null), (22, .aload_n 0, 1, 0, 0, 0, 0, .null), (23, .getfield 75, 3, 2, 9, 0, 0, .null), (26, .iload_n 2, 1, 0, 0, 0, 0, .null), (27, .if_icmp .eq 7, 3, 0, 0, 0, 0, .null), (30, .iconst 1, 1, 0, 0, 0, 0, .null), (31, .goto 4, 3, 0, 0, 0, 0, .null)], [(34, .iconst 0, 1, 0, 0, 0, 0, .null), (35, .istore_n 3, 1, 0, 0, 0, 0, .null), (36, .aload_n 0, 1, 0, 0, 0, 0, .null), (37, .aload_n 1, 1, 0, 0, 0, 0, .null), (38, .getfield 73, 3, 1, 3, 0, 0, .null), (41, .putfield 62, 3, 2, 7, 0, 0, .null), (44, .aload_n 0, 1, 0, 0, 0, 0, .null), (45, .aload_n 1, 1, 0, 0, 0, 0, .null), (46, .getfield 74, 3, 1, 4, 0, 0, .null), (49, .putfield 56, 3, 2, 8, 0, 0, .null), (52, .aload_n 0, 1, 0, 0, 0, 0, .null), (53, .iload_n 2, 1, 0, 0, 0, 0, .null), (54, .putfield 75, 3, 2, 9, 0, 0, .null), (57, .iconst 0, 1, 0, 0, 0, 0, .null), (58, .istore 4, 2, 0, 0, 0, 0, .null), (60, .iload 4, 2, 0, 0, 0, 0, .null), (62, .aload_n 1, 1, 0, 0, 0, 0, .null), (63, .invokevirtual 78, 3, 0, 4, 0, 1, .null)], [(66, .if_icmp .ge 50, 3, 0, 0, 0, 0, .null), (69, .iload 4, 2, 0, 0, 0, 0, .null), (71, .aload_n 0, 1, 0, 0, 0, 0, .null), (72, .getfield 15, 3, 2, 1, 7, 1, .null), (75, .arraylength, 1, 0, 0, 0, 0, .null), (76, .if_icmp .ge 40, 3, 0, 0, 0, 0, .null), (79, .aload_n 1, 1, 0, 0, 0, 0, .null), (80, .iload 4, 2, 0, 0, 0, 0, .null), (82, .invokevirtual 59, 3, 0, 20, 1, 1, .null), (85, .istore 5, 2, 0, 0, 0, 0, .null), (87, .aload_n 0, 1, 0, 0, 0, 0, .null), (88, .getfield 15, 3, 2, 1, 7, 1, .null), (91, .iload 4, 2, 0, 0, 0, 0, .null), (93, .iaload, 1, 0, 0, 0, 0, .null), (94, .iload 5, 2, 0, 0, 0, 0, .null)], [(96, .if_icmp .eq 14, 3, 0, 0, 0, 0, .null), (99, .iconst 1, 1, 0, 0, 0, 0, .null), (100, .istore_n 3, 1, 0, 0, 0, 0, .null), (101, .aload_n 0, 1, 0, 0, 0, 0, .null), (102, .getfield 15, 3, 2, 1, 7, 1, .null), (105, .iload 4, 2, 0, 0, 0, 0, .null), (107, .iload 5, 2, 0, 0, 0, 0, .null), (109, .iastore, 1, 0, 0, 0, 0, .null), (110, .iinc 4 1, 3, 0, 0, 0, 0, .null), (113, .goto (-53), 3, 0, 0, 0, 0, .null), (116, .iload_n 3, 1, 0, 0, 0, 0, .null), (117, .ireturn, 1, 0, 0, 0, 0, .null)]]
def zc24 : List (List zIn) := [[(0, .aload_n 0, 1, 0, 0, 0, 0, .null), (1, .aload_n 1, 1, 0, 0, 0, 0, .null), (2, .getfield 21, 3, 1, 3, 0, 0, .null), (5, .putfield 21, 3, 1, 3, 0, 0, .null), (8, .aload_n 0, 1, 0, 0, 0, 0, .null), (9, .aload_n 1, 1, 0, 0, 0, 0, .null), (10, .getfield 25, 3, 1, 4, 0, 0, .null), (13, .putfield 25, 3, 1, 4, 0, 0, .null), (16, .aload_n 1, 1, 0, 0, 0, 0, .null), (17, .getfield 9, 3, 1, 0, 7, 1, .null), (20, .iconst 0, 1, 0, 0, 0, 0, .null), (21, .aload_n 0, 1, 0, 0, 0, 0, .null), (22, .getfield 9, 3, 1, 0, 7, 1, .null), (25, .iconst 0, 1, 0, 0, 0, 0, .null), (26, .aload_n 0, 1, 0, 0, 0, 0, .null), (27, .getfield 9, 3, 1, 0, 7, 1, .null), (30, .arraylength, 1, 0, 0, 0, 0, .null), (31, .invokestatic 97, 3, 21, 0, 5, 0, .null)], [(34, .aload_n 1, 1, 0, 0, 0, 0, .null), (35, .getfield 15, 3, 1, 1, 7, 1, .null), (38, .iconst 0, 1, 0, 0, 0, 0, .null), (39, .aload_n 0, 1, 0, 0, 0, 0, .null), (40, .getfield 15, 3, 1, 1, 7, 1, .null), (43, .iconst 0, 1, 0, 0, 0, 0, .null), (44, .aload_n 0, 1, 0, 0, 0, 0, .null), (45, .getfield 15, 3, 1, 1, 7, 1, .null), (48, .arraylength, 1, 0, 0, 0, 0, .null), (49, .invokestatic 97, 3, 21, 0, 5, 0, .null), (52, .aload_n 1, 1, 0, 0, 0, 0, .null), (53, .getfield 18, 3, 1, 2, 7, 1, .null), (56, .iconst 0, 1, 0, 0, 0, 0, .null), (57, .aload_n 0, 1, 0, 0, 0, 0, .null), (58, .getfield 18, 3, 1, 2, 7, 1, .null), (61, .iconst 0, 1, 0, 0, 0, 0, .null), (62, .aload_n 0, 1, 0, 0, 0, 0, .null), (63, .getfield 18, 3, 1, 2, 7, 1, .null)], [(66, .arraylength, 1, 0, 0, 0, 0, .null), (67, .invokestatic 97, 3, 21, 0, 5, 0, .null), (70, .return_, 1, 0, 0, 0, 0, .null)]]
def zc25 : List (List zIn) := [[(0, .iconst 0, 1, 0, 0, 0, 0, .null), (1, .istore_n 2, 1, 0, 0, 0, 0, .null), (2, .iconst 1, 1, 0, 0, 0, 0, .null), (3, .istore_n 3, 1, 0, 0, 0, 0, .null), (4, .iload_n 3, 1, 0, 0, 0, 0, .null), (5, .bipush 26, 2, 0, 0, 0, 0, .null), (7, .if_icmp .gt 101, 3, 0, 0, 0, 0, .null), (10, .iload_n 2, 1, 0, 0, 0, 0, .null), (11, .istore 4, 2, 0, 0, 0, 0, .null), (13, .iconst 0, 1, 0, 0, 0, 0, .null), (14, .istore 5, 2, 0, 0, 0, 0, .null), (16, .iload 5, 2, 0, 0, 0, 0, .null), (18, .aload_n 0, 1, 0, 0, 0, 0, .null), (19, .invokevirtual 31, 3, 0, 4, 0, 1, .null), (22, .if_icmp .ge 72, 3, 0, 0, 0, 0, .null), (25, .aload_n 0, 1, 0, 0, 0, 0, .null), (26, .iload 5, 2, 0, 0, 0, 0, .null), (28, .invokevirtual 73, 3, 0, 20, 1, 1, .null), (31, .istore 6, 2, 0, 0, 0, 0, .null)], [(33, .iload 6, 2, 0, 0, 0, 0, .null), (35, .ifCond .ne 5, 3, 0, 0, 0, 0, .null), (38, .iload_n 2, 1, 0, 0, 0, 0, .null), (39, .ireturn, 1, 0, 0, 0, 0, .null), (40, .aload_n 0, 1, 0, 0, 0, 0, .null), (41, .iload 6, 2, 0, 0, 0, 0, .null), (43, .iload 5, 2, 0, 0, 0, 0, .null), (45, .iconst 1, 1, 0, 0, 0, 0, .null), (46, .invokevirtual 76, 3, 0, 26, 3, 1, .null), (49, .istore 7, 2, 0, 0, 0, 0, .null), (51, .aload_n 0, 1, 0, 0, 0, 0, .null), (52, .iload 6, 2, 0, 0, 0, 0, .null), (54, .iload 5, 2, 0, 0, 0, 0, .null), (56, .iconst 2, 1, 0, 0, 0, 0, .null), (57, .invokevirtual 76, 3, 0, 26, 3, 1, .null), (60, .istore 8, 2, 0, 0, 0, 0, .null), (62, .aload_n 0, 1, 0, 0, 0, 0, .null), (63, .iload 5, 2, 0, 0, 0, 0, .null)], [(65, .iload 7, 2, 0, 0, 0, 0, .null), (67, .iload 8, 2, 0, 0, 0, 0, .null), (69, .iload_n 3, 1, 0, 0, 0, 0, .null), (70, .iload_n 1, 1, 0, 0, 0, 0, .null), (71, .invokevirtual 80, 3, 0, 27, 5, 1, .null), (74, .iload_n 2, 1, 0, 0, 0, 0, .null), (75, .iload 7, 2, 0, 0, 0, 0, .null), (77, .invokestatic 83, 3, 3, 29, 1, 0, .null), (80, .iload 8, 2, 0, 0, 0, 0, .null), (82, .invokestatic 83, 3, 3, 29, 1, 0, .null), (85, .iadd, 1, 0, 0, 0, 0, .null), (86, .iadd, 1, 0, 0, 0, 0, .null), (87, .istore_n 2, 1, 0, 0, 0, 0, .null), (88, .iinc 5 1, 3, 0, 0, 0, 0, .null), (91, .goto (-75), 3, 0, 0, 0, 0, .null), (94, .iload_n 2, 1, 0, 0, 0, 0, .null), (95, .iload 4, 2, 0, 0, 0, 0, .null)], [(97, .if_icmp .ne 5, 3, 0, 0, 0, 0, .null), (100, .iload_n 2, 1, 0, 0, 0, 0, .null), (101, .ireturn, 1, 0, 0, 0, 0, .null), (102, .iinc 3 1, 3, 0, 0, 0, 0, .null), (105, .goto (-101), 3, 0, 0, 0, 0, .null), (108, .iload_n 2, 1, 0, 0, 0, 0, .null), (109, .ireturn, 1, 0, 0, 0, 0, .null)]]
def zc26 : List (List zIn) := [[(0, .iconst 0, 1, 0, 0, 0, 0, .null), (1, .istore 4, 2, 0, 0, 0, 0, .null), (3, .iload_n 1, 1, 0, 0, 0, 0, .null), (4, .ifCond .ne 6, 3, 0, 0, 0, 0, .null), (7, .iload 4, 2, 0, 0, 0, 0, .null), (9, .ireturn, 1, 0, 0, 0, 0, .null), (10, .iconst 0, 1, 0, 0, 0, 0, .null), (11, .istore 5, 2, 0, 0, 0, 0, .null), (13, .iload 5, 2, 0, 0, 0, 0, .null), (15, .aload_n 0, 1, 0, 0, 0, 0, .null), (16, .iload_n 2, 1, 0, 0, 0, 0, .null), (17, .invokevirtual 43, 3, 0, 6, 1, 1, .null), (20, .if_icmp .ge 74, 3, 0, 0, 0, 0, .null), (23, .iload 5, 2, 0, 0, 0, 0, .null), (25, .getstatic 70, 3, 1, 0, 0, 0, .null), (28, .arraylength, 1, 0, 0, 0, 0, .null), (29, .if_icmp .ge 65, 3, 0, 0, 0, 0, .null)], [(32, .iload_n 3, 1, 0, 0, 0, 0, .null), (33, .iconst 1, 1, 0, 0, 0, 0, .null), (34, .if_icmp .ne 16, 3, 0, 0, 0, 0, .null), (37, .iload_n 1, 1, 0, 0, 0, 0, .null), (38, .getstatic 70, 3, 1, 0, 0, 0, .null), (41, .iload 5, 2, 0, 0, 0, 0, .null), (43, .iaload, 1, 0, 0, 0, 0, .null), (44, .iconst (-1), 1, 0, 0, 0, 0, .null), (45, .ixor, 1, 0, 0, 0, 0, .null), (46, .iand, 1, 0, 0, 0, 0, .null), (47, .goto 11, 3, 0, 0, 0, 0, .null), (50, .iload_n 1, 1, 0, 0, 0, 0, .null), (51, .getstatic 70, 3, 1, 0, 0, 0, .null), (54, .iload 5, 2, 0, 0, 0, 0, .null), (56, .iaload, 1, 0, 0, 0, 0, .null), (57, .iand, 1, 0, 0, 0, 0, .null), (58, .istore 6, 2, 0, 0, 0, 0, .null), (60, .iload 6, 2, 0, 0, 0, 0, .null), (62, .ifCond .ne 26, 3, 0, 0, 0, 0, .null)], [(65, .aload_n 0, 1, 0, 0, 0, 0, .null), (66, .aload_n 0, 1, 0, 0, 0, 0, .null), (67, .iload_n 2, 1, 0, 0, 0, 0, .null), (68, .iload 5, 2, 0, 0, 0, 0, .null), (70, .invokevirtual 51, 3, 0, 21, 2, 1, .null), (73, .invokevirtual 67, 3, 0, 16, 1, 1, .null), (76, .ifCond .ne 12, 3, 0, 0, 0, 0, .null), (79, .iload 4, 2, 0, 0, 0, 0, .null), (81, .iconst 1, 1, 0, 0, 0, 0, .null), (82, .iload 5, 2, 0, 0, 0, 0, .null), (84, .ishl, 1, 0, 0, 0, 0, .null), (85, .ior, 1, 0, 0, 0, 0, .null), (86, .istore 4, 2, 0, 0, 0, 0, .null), (88, .iinc 5 1, 3, 0, 0, 0, 0, .null), (91, .goto (-78), 3, 0, 0, 0, 0, .null), (94, .iload 4, 2, 0, 0, 0, 0, .null)], [(96, .ireturn, 1, 0, 0, 0, 0, .null)]]
def zc27 : List (List zIn) := [[(0, .iconst 0, 1, 0, 0, 0, 0, .null), (1, .istore 6, 2, 0, 0, 0, 0, .null), (3, .iload 6, 2, 0, 0, 0, 0, .null), (5, .aload_n 0, 1, 0, 0, 0, 0, .null), (6, .iload_n 1, 1, 0, 0, 0, 0, .null), (7, .invokevirtual 43, 3, 0, 6, 1, 1, .null), (10, .if_icmp .ge 64, 3, 0, 0, 0, 0, .null), (13, .iload_n 2, 1, 0, 0, 0, 0, .null), (14, .iload 6, 2, 0, 0, 0, 0, .null), (16, .invokestatic 54, 3, 4, 28, 2, 0, .null), (19, .ifCond .eq 23, 3, 0, 0, 0, 0, .null), (22, .aload_n 0, 1, 0, 0, 0, 0, .null), (23, .aload_n 0, 1, 0, 0, 0, 0, .null), (24, .iload_n 1, 1, 0, 0, 0, 0, .null), (25, .iload 6, 2, 0, 0, 0, 0, .null), (27, .invokevirtual 51, 3, 0, 21, 2, 1, .null), (30, .iconst 1, 1, 0, 0, 0, 0, .null), (31, .iload_n 1, 1, 0, 0, 0, 0, .null)], [(32, .iload 4, 2, 0, 0, 0, 0, .null), (34, .iload 5, 2, 0, 0, 0, 0, .null), (36, .invokevirtual 39, 3, 0, 3, 5, 1, .null), (39, .goto 29, 3, 0, 0, 0, 0, .null), (42, .iload_n 3, 1, 0, 0, 0, 0, .null), (43, .iload 6, 2, 0, 0, 0, 0, .null), (45, .invokestatic 54, 3, 4, 28, 2, 0, .null), (48, .ifCond .eq 20, 3, 0, 0, 0, 0, .null), (51, .aload_n 0, 1, 0, 0, 0, 0, .null), (52, .aload_n 0, 1, 0, 0, 0, 0, .null), (53, .iload_n 1, 1, 0, 0, 0, 0, .null), (54, .iload 6, 2, 0, 0, 0, 0, .null), (56, .invokevirtual 51, 3, 0, 21, 2, 1, .null), (59, .iconst 2, 1, 0, 0, 0, 0, .null), (60, .iload_n 1, 1, 0, 0, 0, 0, .null), (61, .iload 4, 2, 0, 0, 0, 0, .null), (63, .iload 5, 2, 0, 0, 0, 0, .null)], [(65, .invokevirtual 39, 3, 0, 3, 5, 1, .null), (68, .iinc 6 1, 3, 0, 0, 0, 0, .null), (71, .goto (-68), 3, 0, 0, 0, 0, .null), (74, .return_, 1, 0, 0, 0, 0, .null)]]
def zc28 : List (List zIn) := [[(0, .iload_n 0, 1, 0, 0, 0, 0, .null), (1, .iload_n 1, 1, 0, 0, 0, 0, .null), (2, .iushr, 1, 0, 0, 0, 0, .null), (3, .iconst 1, 1, 0, 0, 0, 0, .null), (4, .iand, 1, 0, 0, 0, 0, .null), (5, .iconst 1, 1, 0, 0, 0, 0, .null), (6, .if_icmp .ne 7, 3, 0, 0, 0, 0, .null), (9, .iconst 1, 1, 0, 0, 0, 0, .null), (10, .goto 4, 3, 0, 0, 0, 0, .null), (13, .iconst 0, 1, 0, 0, 0, 0, .null), (14, .ireturn, 1, 0, 0, 0, 0, .null)]]
def zc29 : List (List zIn) := [[(0, .iload_n 0, 1, 0, 0, 0, 0, .null), (1, .iload_n 0, 1, 0, 0, 0, 0, .null), (2, .iconst 1, 1, 0, 0, 0, 0, .null), (3, .iushr, 1, 0, 0, 0, 0, .null), (4, .ldc_w 265, 3, 0, 0, 0, 0, .int 1431655765), (7, .iand, 1, 0, 0, 0, 0, .null), (8, .isub, 1, 0, 0, 0, 0, .null), (9, .istore_n 0, 1, 0, 0, 0, 0, .null), (10, .iload_n 0, 1, 0, 0, 0, 0, .null), (11, .ldc_w 266, 3, 0, 0, 0, 0, .int 858993459), (14, .iand, 1, 0, 0, 0, 0, .null), (15, .iload_n 0, 1, 0, 0, 0, 0, .null), (16, .iconst 2, 1, 0, 0, 0, 0, .null), (17, .iushr, 1, 0, 0, 0, 0, .null), (18, .ldc_w 266, 3, 0, 0, 0, 0, .int 858993459), (21, .iand, 1, 0, 0, 0, 0, .null), (22, .iadd, 1, 0, 0, 0, 0, .null), (23, .istore_n 0, 1, 0, 0, 0, 0, .null), (24, .iload_n 0, 1, 0, 0, 0, 0, .null), (25, .iload_n 0, 1, 0, 0, 0, 0, .null), (26, .iconst 4, 1, 0, 0, 0, 0, .null), (27, .iushr, 1, 0, 0, 0, 0, .null), (28, .iadd, 1, 0, 0, 0, 0, .null), (29, .ldc_w 267, 3, 0, 0, 0, 0, .int 252645135)], [(32, .iand, 1, 0, 0, 0, 0, .null), (33, .istore_n 0, 1, 0, 0, 0, 0, .null), (34, .iload_n 0, 1, 0, 0, 0, 0, .null), (35, .iload_n 0, 1, 0, 0, 0, 0, .null), (36, .bipush 8, 2, 0, 0, 0, 0, .null), (38, .iushr, 1, 0, 0, 0, 0, .null), (39, .iadd, 1, 0, 0, 0, 0, .null), (40, .istore_n 0, 1, 0, 0, 0, 0, .null), (41, .iload_n 0, 1, 0, 0, 0, 0, .null), (42, .iload_n 0, 1, 0, 0, 0, 0, .null), (43, .bipush 16, 2, 0, 0, 0, 0, .null), (45, .iushr, 1, 0, 0, 0, 0, .null), (46, .iadd, 1, 0, 0, 0, 0, .null), (47, .istore_n 0, 1, 0, 0, 0, 0, .null), (48, .iload_n 0, 1, 0, 0, 0, 0, .null), (49, .bipush 63, 2, 0, 0, 0, 0, .null), (51, .iand, 1, 0, 0, 0, 0, .null), (52, .ireturn, 1, 0, 0, 0, 0, .null)]]
def zc30 : List (List zIn) := [[(0, .iload_n 1, 1, 0, 0, 0, 0, .null), (1, .istore_n 2, 1, 0, 0, 0, 0, .null), (2, .iload_n 2, 1, 0, 0, 0, 0, .null), (3, .aload_n 0, 1, 0, 0, 0, 0, .null), (4, .getfield 56, 3, 2, 8, 0, 0, .null), (7, .if_icmp .ge 20, 3, 0, 0, 0, 0, .null), (10, .aload_n 0, 1, 0, 0, 0, 0, .null), (11, .iload_n 1, 1, 0, 0, 0, 0, .null), (12, .iload_n 2, 1, 0, 0, 0, 0, .null), (13, .invokevirtual 86, 3, 0, 31, 2, 2, .null), (16, .ifCond .ne 5, 3, 0, 0, 0, 0, .null), (19, .iconst 0, 1, 0, 0, 0, 0, .null), (20, .ireturn, 1, 0, 0, 0, 0, .null), (21, .iinc 2 1, 3, 0, 0, 0, 0, .null), (24, .goto (-22), 3, 0, 0, 0, 0, .null), (27, .iconst 1, 1, 0, 0, 0, 0, .null), (28, .ireturn, 1, 0, 0, 0, 0, .null)]]
def zc31 : List (List zIn) := [[(0, .iload_n 1, 1, 0, 0, 0, 0, .null), (1, .ifCond .lt 17, 3, 0, 0, 0, 0, .null), (4, .iload_n 1, 1, 0, 0, 0, 0, .null), (5, .iconst 5, 1, 0, 0, 0, 0, .null), (6, .if_icmp .gt 12, 3, 0, 0, 0, 0, .null), (9, .iload_n 2, 1, 0, 0, 0, 0, .null), (10, .ifCond .lt 8, 3, 0, 0, 0, 0, .null), (13, .iload_n 2, 1, 0, 0, 0, 0, .null), (14, .iconst 5, 1, 0, 0, 0, 0, .null), (15, .if_icmp .lt 5, 3, 0, 0, 0, 0, .null), (18, .iconst 0, 1, 0, 0, 0, 0, .null), (19, .ireturn, 1, 0, 0, 0, 0, .null), (20, .aload_n 0, 1, 0, 0, 0, 0, .null), (21, .getfield 27, 3, 2, 3, 7, 1, .null), (24, .iload_n 2, 1, 0, 0, 0, 0, .null), (25, .iaload, 1, 0, 0, 0, 0, .null), (26, .istore_n 3, 1, 0, 0, 0, 0, .null), (27, .iconst 0, 1, 0, 0, 0, 0, .null), (28, .istore 4, 2, 0, 0, 0, 0, .null), (30, .iload 4, 2, 0, 0, 0, 0, .null)], [(32, .aload_n 0, 1, 0, 0, 0, 0, .null), (33, .getfield 62, 3, 2, 7, 0, 0, .null), (36, .if_icmp .ge 72, 3, 0, 0, 0, 0, .null), (39, .iload 4, 2, 0, 0, 0, 0, .null), (41, .iconst 5, 1, 0, 0, 0, 0, .null), (42, .if_icmp .ge 66, 3, 0, 0, 0, 0, .null), (45, .aload_n 0, 1, 0, 0, 0, 0, .null), (46, .getfield 30, 3, 2, 4, 7, 1, .null), (49, .iload_n 1, 1, 0, 0, 0, 0, .null), (50, .iconst 5, 1, 0, 0, 0, 0, .null), (51, .imul, 1, 0, 0, 0, 0, .null), (52, .iload 4, 2, 0, 0, 0, 0, .null), (54, .iadd, 1, 0, 0, 0, 0, .null), (55, .iaload, 1, 0, 0, 0, 0, .null), (56, .istore 5, 2, 0, 0, 0, 0, .null), (58, .iload 5, 2, 0, 0, 0, 0, .null), (60, .getstatic 97, 3, 1, 0, 0, 0, .null), (63, .iload_n 2, 1, 0, 0, 0, 0, .null)], [(64, .iaload, 1, 0, 0, 0, 0, .null), (65, .iand, 1, 0, 0, 0, 0, .null), (66, .ifCond .ne 14, 3, 0, 0, 0, 0, .null), (69, .iload_n 3, 1, 0, 0, 0, 0, .null), (70, .getstatic 97, 3, 1, 0, 0, 0, .null), (73, .iload 4, 2, 0, 0, 0, 0, .null), (75, .iaload, 1, 0, 0, 0, 0, .null), (76, .iconst (-1), 1, 0, 0, 0, 0, .null), (77, .ixor, 1, 0, 0, 0, 0, .null), (78, .iand, 1, 0, 0, 0, 0, .null), (79, .istore_n 3, 1, 0, 0, 0, 0, .null), (80, .iload 5, 2, 0, 0, 0, 0, .null), (82, .getstatic 97, 3, 1, 0, 0, 0, .null), (85, .iload_n 2, 1, 0, 0, 0, 0, .null), (86, .iaload, 1, 0, 0, 0, 0, .null), (87, .iconst (-1), 1, 0, 0, 0, 0, .null), (88, .ixor, 1, 0, 0, 0, 0, .null), (89, .iand, 1, 0, 0, 0, 0, .null), (90, .ifCond .ne 12, 3, 0, 0, 0, 0, .null), (93, .iload_n 3, 1, 0, 0, 0, 0, .null), (94, .getstatic 97, 3, 1, 0, 0, 0, .null)], [(97, .iload 4, 2, 0, 0, 0, 0, .null), (99, .iaload, 1, 0, 0, 0, 0, .null), (100, .iand, 1, 0, 0, 0, 0, .null), (101, .istore_n 3, 1, 0, 0, 0, 0, .null), (102, .iinc 4 1, 3, 0, 0, 0, 0, .null), (105, .goto (-75), 3, 0, 0, 0, 0, .null), (108, .iload_n 3, 1, 0, 0, 0, 0, .null), (109, .ireturn, 1, 0, 0, 0, 0, .null)]]
def zc32 : List (List zIn) := [[(0, .iload_n 1, 1, 0, 0, 0, 0, .null), (1, .aload_n 0, 1, 0, 0, 0, 0, .null), (2, .getfield 56, 3, 2, 8, 0, 0, .null), (5, .if_icmp .ge 8, 3, 0, 0, 0, 0, .null), (8, .iload_n 1, 1, 0, 0, 0, 0, .null), (9, .iconst 5, 1, 0, 0, 0, 0, .null), (10, .if_icmp .lt 9, 3, 0, 0, 0, 0, .null), (13, .aload_n 0, 1, 0, 0, 0, 0, .null), (14, .iload_n 2, 1, 0, 0, 0, 0, .null), (15, .invokevirtual 82, 3, 0, 33, 1, 2, .null), (18, .return_, 1, 0, 0, 0, 0, .null), (19, .aload_n 0, 1, 0, 0, 0, 0, .null), (20, .iload_n 1, 1, 0, 0, 0, 0, .null), (21, .iload_n 1, 1, 0, 0, 0, 0, .null), (22, .invokevirtual 86, 3, 0, 31, 2, 2, .null), (25, .istore_n 3, 1, 0, 0, 0, 0, .null), (26, .iconst 0, 1, 0, 0, 0, 0, .null), (27, .istore 4, 2, 0, 0, 0, 0, .null), (29, .iload 4, 2, 0, 0, 0, 0, .null), (31, .iconst 1, 1, 0, 0, 0, 0, .null)], [(32, .aload_n 0, 1, 0, 0, 0, 0, .null), (33, .getfield 62, 3, 2, 7, 0, 0, .null), (36, .ishl, 1, 0, 0, 0, 0, .null), (37, .if_icmp .ge 65, 3, 0, 0, 0, 0, .null), (40, .aload_n 0, 1, 0, 0, 0, 0, .null), (41, .getfield 40, 3, 2, 10, 0, 0, .null), (44, .aload_n 0, 1, 0, 0, 0, 0, .null), (45, .getfield 75, 3, 2, 9, 0, 0, .null), (48, .if_icmp .lt 4, 3, 0, 0, 0, 0, .null), (51, .return_, 1, 0, 0, 0, 0, .null), (52, .iload_n 3, 1, 0, 0, 0, 0, .null), (53, .iload 4, 2, 0, 0, 0, 0, .null), (55, .invokestatic 90, 3, 4, 28, 2, 0, .null), (58, .ifCond .eq 38, 3, 0, 0, 0, 0, .null), (61, .aload_n 0, 1, 0, 0, 0, 0, .null), (62, .iload_n 1, 1, 0, 0, 0, 0, .null), (63, .iload 4, 2, 0, 0, 0, 0, .null)], [(65, .invokevirtual 94, 3, 0, 34, 2, 2, .null), (68, .aload_n 0, 1, 0, 0, 0, 0, .null), (69, .iload_n 1, 1, 0, 0, 0, 0, .null), (70, .iconst 1, 1, 0, 0, 0, 0, .null), (71, .iadd, 1, 0, 0, 0, 0, .null), (72, .invokevirtual 65, 3, 0, 30, 1, 2, .null), (75, .ifCond .eq 21, 3, 0, 0, 0, 0, .null), (78, .aload_n 0, 1, 0, 0, 0, 0, .null), (79, .iload_n 1, 1, 0, 0, 0, 0, .null), (80, .iconst 1, 1, 0, 0, 0, 0, .null), (81, .iadd, 1, 0, 0, 0, 0, .null), (82, .iload_n 2, 1, 0, 0, 0, 0, .null), (83, .iload 4, 2, 0, 0, 0, 0, .null), (85, .iload_n 1, 1, 0, 0, 0, 0, .null), (86, .aload_n 0, 1, 0, 0, 0, 0, .null), (87, .getfield 62, 3, 2, 7, 0, 0, .null), (90, .imul, 1, 0, 0, 0, 0, .null), (91, .ishl, 1, 0, 0, 0, 0, .null), (92, .ior, 1, 0, 0, 0, 0, .null), (93, .invokestatic 69, 3, 3, 32, 3, 0, .null)], [(96, .iinc 4 1, 3, 0, 0, 0, 0, .null), (99, .goto (-70), 3, 0, 0, 0, 0, .null), (102, .return_, 1, 0, 0, 0, 0, .null)]]
def zc33 : List (List zIn) := [[(0, .aload_n 0, 1, 0, 0, 0, 0, .null), (1, .getfield 40, 3, 2, 10, 0, 0, .null), (4, .ifCond .lt 35, 3, 0, 0, 0, 0, .null), (7, .aload_n 0, 1, 0, 0, 0, 0, .null), (8, .getfield 40, 3, 2, 10, 0, 0, .null), (11, .aload_n 0, 1, 0, 0, 0, 0, .null), (12, .getfield 9, 3, 2, 0, 7, 1, .null), (15, .arraylength, 1, 0, 0, 0, 0, .null), (16, .if_icmp .ge 23, 3, 0, 0, 0, 0, .null), (19, .aload_n 0, 1, 0, 0, 0, 0, .null), (20, .getfield 9, 3, 2, 0, 7, 1, .null), (23, .aload_n 0, 1, 0, 0, 0, 0, .null), (24, .getfield 40, 3, 2, 10, 0, 0, .null), (27, .iload_n 1, 1, 0, 0, 0, 0, .null), (28, .iastore, 1, 0, 0, 0, 0, .null), (29, .aload_n 0, 1, 0, 0, 0, 0, .null), (30, .dup, 1, 0, 0, 0, 0, .null), (31, .getfield 40, 3, 2, 10, 0, 0, .null)], [(34, .iconst 1, 1, 0, 0, 0, 0, .null), (35, .iadd, 1, 0, 0, 0, 0, .null), (36, .putfield 40, 3, 2, 10, 0, 0, .null), (39, .return_, 1, 0, 0, 0, 0, .null)]]
def zc34 : List (List zIn) := [[(0, .iload_n 1, 1, 0, 0, 0, 0, .null), (1, .ifCond .lt 8, 3, 0, 0, 0, 0, .null), (4, .iload_n 1, 1, 0, 0, 0, 0, .null), (5, .iconst 5, 1, 0, 0, 0, 0, .null), (6, .if_icmp .lt 4, 3, 0, 0, 0, 0, .null), (9, .return_, 1, 0, 0, 0, 0, .null), (10, .iconst 0, 1, 0, 0, 0, 0, .null), (11, .istore_n 3, 1, 0, 0, 0, 0, .null), (12, .iload_n 3, 1, 0, 0, 0, 0, .null), (13, .aload_n 0, 1, 0, 0, 0, 0, .null), (14, .getfield 62, 3, 2, 7, 0, 0, .null), (17, .if_icmp .ge 64, 3, 0, 0, 0, 0, .null), (20, .iload_n 3, 1, 0, 0, 0, 0, .null), (21, .iconst 5, 1, 0, 0, 0, 0, .null), (22, .if_icmp .ge 59, 3, 0, 0, 0, 0, .null), (25, .iload_n 2, 1, 0, 0, 0, 0, .null), (26, .iload_n 3, 1, 0, 0, 0, 0, .null), (27, .invokestatic 90, 3, 4, 28, 2, 0, .null), (30, .ifCond .eq 11, 3, 0, 0, 0, 0, .null)], [(33, .getstatic 97, 3, 1, 0, 0, 0, .null), (36, .iload_n 1, 1, 0, 0, 0, 0, .null), (37, .iaload, 1, 0, 0, 0, 0, .null), (38, .goto 10, 3, 0, 0, 0, 0, .null), (41, .getstatic 97, 3, 1, 0, 0, 0, .null), (44, .iload_n 1, 1, 0, 0, 0, 0, .null), (45, .iaload, 1, 0, 0, 0, 0, .null), (46, .iconst (-1), 1, 0, 0, 0, 0, .null), (47, .ixor, 1, 0, 0, 0, 0, .null), (48, .istore 4, 2, 0, 0, 0, 0, .null), (50, .aload_n 0, 1, 0, 0, 0, 0, .null), (51, .getfield 30, 3, 2, 4, 7, 1, .null), (54, .iload_n 1, 1, 0, 0, 0, 0, .null), (55, .iconst 1, 1, 0, 0, 0, 0, .null), (56, .iadd, 1, 0, 0, 0, 0, .null), (57, .iconst 5, 1, 0, 0, 0, 0, .null), (58, .imul, 1, 0, 0, 0, 0, .null), (59, .iload_n 3, 1, 0, 0, 0, 0, .null), (60, .iadd, 1, 0, 0, 0, 0, .null), (61, .aload_n 0, 1, 0, 0, 0, 0, .null), (62, .getfield 30, 3, 2, 4, 7, 1, .null)], [(65, .iload_n 1, 1, 0, 0, 0, 0, .null), (66, .iconst 5, 1, 0, 0, 0, 0, .null), (67, .imul, 1, 0, 0, 0, 0, .null), (68, .iload_n 3, 1, 0, 0, 0, 0, .null), (69, .iadd, 1, 0, 0, 0, 0, .null), (70, .iaload, 1, 0, 0, 0, 0, .null), (71, .iload 4, 2, 0, 0, 0, 0, .null), (73, .iand, 1, 0, 0, 0, 0, .null), (74, .iastore, 1, 0, 0, 0, 0, .null), (75, .iinc 3 1, 3, 0, 0, 0, 0, .null), (78, .goto (-66), 3, 0, 0, 0, 0, .null), (81, .return_, 1, 0, 0, 0, 0, .null)]]
def zc35 : List (List zIn) := [[(0, .iconst 0, 1, 0, 0, 0, 0, .null), (1, .istore_n 1, 1, 0, 0, 0, 0, .null), (2, .iconst 0, 1, 0, 0, 0, 0, .null), (3, .istore_n 2, 1, 0, 0, 0, 0, .null), (4, .iload_n 2, 1, 0, 0, 0, 0, .null), (5, .aload_n 0, 1, 0, 0, 0, 0, .null), (6, .invokevirtual 31, 3, 0, 4, 0, 1, .null), (9, .if_icmp .ge 21, 3, 0, 0, 0, 0, .null), (12, .aload_n 0, 1, 0, 0, 0, 0, .null), (13, .iload_n 2, 1, 0, 0, 0, 0, .null), (14, .invokevirtual 91, 3, 0, 36, 1, 1, .null), (17, .iconst (-1), 1, 0, 0, 0, 0, .null), (18, .if_icmp .ne 6, 3, 0, 0, 0, 0, .null), (21, .iinc 1 1, 3, 0, 0, 0, 0, .null), (24, .iinc 2 1, 3, 0, 0, 0, 0, .null), (27, .goto (-23), 3, 0, 0, 0, 0, .null), (30, .iload_n 1, 1, 0, 0, 0, 0, .null), (31, .ireturn, 1, 0, 0, 0, 0, .null)]]
def zc36 : List (List zIn) := [[(0, .iload_n 1, 1, 0, 0, 0, 0, .null), (1, .ifCond .lt 21, 3, 0, 0, 0, 0, .null), (4, .iload_n 1, 1, 0, 0, 0, 0, .null), (5, .aload_n 0, 1, 0, 0, 0, 0, .null), (6, .getfield 15, 3, 1, 1, 7, 1, .null), (9, .arraylength, 1, 0, 0, 0, 0, .null), (10, .if_icmp .ge 12, 3, 0, 0, 0, 0, .null), (13, .aload_n 0, 1, 0, 0, 0, 0, .null), (14, .getfield 15, 3, 1, 1, 7, 1, .null), (17, .iload_n 1, 1, 0, 0, 0, 0, .null), (18, .iaload, 1, 0, 0, 0, 0, .null), (19, .goto 4, 3, 0, 0, 0, 0, .null), (22, .iconst (-1), 1, 0, 0, 0, 0, .null), (23, .ireturn, 1, 0, 0, 0, 0, .null)]]
def zc37 : List (List zIn) := [[(0, .aload_n 0, 1, 0, 0, 0, 0, .null), (1, .getfield 40, 3, 2, 10, 0, 0, .null), (4, .ifCond .ne 5, 3, 0, 0, 0, 0, .null), (7, .iconst 0, 1, 0, 0, 0, 0, .null), (8, .ireturn, 1, 0, 0, 0, 0, .null), (9, .iconst (-1), 1, 0, 0, 0, 0, .null), (10, .istore_n 1, 1, 0, 0, 0, 0, .null), (11, .iconst 0, 1, 0, 0, 0, 0, .null), (12, .istore_n 2, 1, 0, 0, 0, 0, .null), (13, .iconst 0, 1, 0, 0, 0, 0, .null), (14, .istore_n 3, 1, 0, 0, 0, 0, .null), (15, .iload_n 3, 1, 0, 0, 0, 0, .null), (16, .aload_n 0, 1, 0, 0, 0, 0, .null), (17, .getfield 40, 3, 2, 10, 0, 0, .null), (20, .if_icmp .ge 36, 3, 0, 0, 0, 0, .null), (23, .iload_n 3, 1, 0, 0, 0, 0, .null), (24, .aload_n 0, 1, 0, 0, 0, 0, .null), (25, .getfield 9, 3, 2, 0, 7, 1, .null), (28, .arraylength, 1, 0, 0, 0, 0, .null), (29, .if_icmp .ge 27, 3, 0, 0, 0, 0, .null)], [(32, .iload_n 1, 1, 0, 0, 0, 0, .null), (33, .aload_n 0, 1, 0, 0, 0, 0, .null), (34, .getfield 9, 3, 2, 0, 7, 1, .null), (37, .iload_n 3, 1, 0, 0, 0, 0, .null), (38, .iaload, 1, 0, 0, 0, 0, .null), (39, .iand, 1, 0, 0, 0, 0, .null), (40, .istore_n 1, 1, 0, 0, 0, 0, .null), (41, .iload_n 2, 1, 0, 0, 0, 0, .null), (42, .aload_n 0, 1, 0, 0, 0, 0, .null), (43, .getfield 9, 3, 2, 0, 7, 1, .null), (46, .iload_n 3, 1, 0, 0, 0, 0, .null), (47, .iaload, 1, 0, 0, 0, 0, .null), (48, .ior, 1, 0, 0, 0, 0, .null), (49, .istore_n 2, 1, 0, 0, 0, 0, .null), (50, .iinc 3 1, 3, 0, 0, 0, 0, .null), (53, .goto (-38), 3, 0, 0, 0, 0, .null), (56, .iload_n 1, 1, 0, 0, 0, 0, .null), (57, .iload_n 2, 1, 0, 0, 0, 0, .null), (58, .iconst (-1), 1, 0, 0, 0, 0, .null), (59, .ixor, 1, 0, 0, 0, 0, .null), (60, .ior, 1, 0, 0, 0, 0, .null), (61, .ireturn, 1, 0, 0, 0, 0, .null)]]
def zc38 : List (List zIn) := [[(0, .iconst 0, 1, 0, 0, 0, 0, .null), (1, .istore_n 1, 1, 0, 0, 0, 0, .null), (2, .iconst 0, 1, 0, 0, 0, 0, .null), (3, .istore_n 2, 1, 0, 0, 0, 0, .null), (4, .iload_n 2, 1, 0, 0, 0, 0, .null), (5, .aload_n 0, 1, 0, 0, 0, 0, .null), (6, .invokevirtual 88, 3, 0, 15, 0, 1, .null), (9, .if_icmp .ge 23, 3, 0, 0, 0, 0, .null), (12, .aload_n 0, 1, 0, 0, 0, 0, .null), (13, .iload_n 2, 1, 0, 0, 0, 0, .null), (14, .invokevirtual 67, 3, 0, 16, 1, 1, .null), (17, .ifCond .ne 9, 3, 0, 0, 0, 0, .null), (20, .iload_n 1, 1, 0, 0, 0, 0, .null), (21, .iconst 1, 1, 0, 0, 0, 0, .null), (22, .iload_n 2, 1, 0, 0, 0, 0, .null), (23, .ishl, 1, 0, 0, 0, 0, .null), (24, .ior, 1, 0, 0, 0, 0, .null), (25, .istore_n 1, 1, 0, 0, 0, 0, .null), (26, .iinc 2 1, 3, 0, 0, 0, 0, .null), (29, .goto (-25), 3, 0, 0, 0, 0, .null)], [(32, .iload_n 1, 1, 0, 0, 0, 0, .null), (33, .ireturn, 1, 0, 0, 0, 0, .null)]]
def zc39 : List (List zIn) := [[(0, .aload_n 0, 1, 0, 0, 0, 0, .null), (1, .iload_n 1, 1, 0, 0, 0, 0, .null), (2, .invokevirtual 51, 3, 0, 13, 1, 0, .null), (5, .getfield 55, 3, 4, 0, 6, 1, .null), (8, .astore 4, 2, 0, 0, 0, 0, .null), (10, .aload 4, 2, 0, 0, 0, 0, .null), (12, .iload_n 2, 1, 0, 0, 0, 0, .null), (13, .invokestatic 86, 3, 3, 40, 2, 0, .null), (16, .iload_n 3, 1, 0, 0, 0, 0, .null), (17, .iconst 3, 1, 0, 0, 0, 0, .null), (18, .invokestatic 184, 3, 3, 12, 2, 0, .null), (21, .aload 4, 2, 0, 0, 0, 0, .null), (23, .iload_n 2, 1, 0, 0, 0, 0, .null), (24, .iload_n 3, 1, 0, 0, 0, 0, .null), (25, .invokevirtual 187, 3, 0, 41, 2, 1, .null), (28, .ireturn, 1, 0, 0, 0, 0, .null)]]
def zc40 : List (List zIn) := [[(0, .iload_n 1, 1, 0, 0, 0, 0, .null), (1, .ifCond .lt 11, 3, 0, 0, 0, 0, .null), (4, .iload_n 1, 1, 0, 0, 0, 0, .null), (5, .aload_n 0, 1, 0, 0, 0, 0, .null), (6, .invokevirtual 181, 3, 0, 15, 0, 1, .null), (9, .if_icmp .lt 14, 3, 0, 0, 0, 0, .null), (12, .new 160, 3, 1002, 315, 164, 1, .null), (15, .dup, 1, 0, 0, 0, 0, .null), (16, .ldc_w 315, 3, 998, 0, 0, 0, .null), (19, .invokespecial 164, 3, 999, 0, 0, 0, .null), (22, .athrow, 1, 0, 0, 0, 0, .null), (23, .return_, 1, 0, 0, 0, 0, .null)]]
def zc41 : List (List zIn) := [[(0, .iload_n 1, 1, 0, 0, 0, 0, .null), (1, .ifCond .lt 18, 3, 0, 0, 0, 0, .null), (4, .iload_n 1, 1, 0, 0, 0, 0, .null), (5, .bipush 25, 2, 0, 0, 0, 0, .null), (7, .if_icmp .ge 12, 3, 0, 0, 0, 0, .null), (10, .iload_n 2, 1, 0, 0, 0, 0, .null), (11, .ifCond .lt 8, 3, 0, 0, 0, 0, .null), (14, .iload_n 2, 1, 0, 0, 0, 0, .null), (15, .iconst 3, 1, 0, 0, 0, 0, .null), (16, .if_icmp .le 5, 3, 0, 0, 0, 0, .null), (19, .iconst 0, 1, 0, 0, 0, 0, .null), (20, .ireturn, 1, 0, 0, 0, 0, .null), (21, .aload_n 0, 1, 0, 0, 0, 0, .null), (22, .getfield 9, 3, 1, 0, 7, 1, .null), (25, .iload_n 1, 1, 0, 0, 0, 0, .null), (26, .iconst 4, 1, 0, 0, 0, 0, .null), (27, .imul, 1, 0, 0, 0, 0, .null), (28, .iload_n 2, 1, 0, 0, 0, 0, .null), (29, .iadd, 1, 0, 0, 0, 0, .null), (30, .iaload, 1, 0, 0, 0, 0, .null), (31, .ireturn, 1, 0, 0, 0, 0, .null)]]
def zc42 : List (List zIn) := [[(0, .aload_n 0, 1, 0, 0, 0, 0, .null), (1, .iload_n 1, 1, 0, 0, 0, 0, .null), (2, .invokevirtual 51, 3, 0, 13, 1, 0, .null), (5, .getfield 55, 3, 4, 0, 6, 1, .null), (8, .astore 4, 2, 0, 0, 0, 0, .null), (10, .aload 4, 2, 0, 0, 0, 0, .null), (12, .iload_n 2, 1, 0, 0, 0, 0, .null), (13, .invokestatic 58, 3, 3, 43, 2, 0, .null), (16, .iload_n 3, 1, 0, 0, 0, 0, .null), (17, .iconst 5, 1, 0, 0, 0, 0, .null), (18, .invokestatic 184, 3, 3, 12, 2, 0, .null), (21, .iload_n 3, 1, 0, 0, 0, 0, .null), (22, .tableswitch 77 0 4 #[34, 41, 51, 61, 69], 34, 0, 0, 0, 0, .null)], [(56, .aload 4, 2, 0, 0, 0, 0, .null), (58, .iload_n 2, 1, 0, 0, 0, 0, .null), (59, .invokevirtual 83, 3, 0, 36, 1, 1, .null), (62, .ireturn, 1, 0, 0, 0, 0, .null), (63, .aload 4, 2, 0, 0, 0, 0, .null)], [(65, .iload_n 2, 1, 0, 0, 0, 0, .null), (66, .invokevirtual 83, 3, 0, 36, 1, 1, .null), (69, .invokestatic 191, 3, 3, 44, 1, 0, .null), (72, .ireturn, 1, 0, 0, 0, 0, .null), (73, .aload 4, 2, 0, 0, 0, 0, .null), (75, .iload_n 2, 1, 0, 0, 0, 0, .null), (76, .invokevirtual 75, 3, 0, 20, 1, 1, .null), (79, .invokestatic 78, 3, 3, 29, 1, 0, .null), (82, .ireturn, 1, 0, 0, 0, 0, .null), (83, .aload 4, 2, 0, 0, 0, 0, .null), (85, .iload_n 2, 1, 0, 0, 0, 0, .null), (86, .iconst 1, 1, 0, 0, 0, 0, .null), (87, .invokevirtual 194, 3, 0, 45, 2, 1, .null), (90, .ireturn, 1, 0, 0, 0, 0, .null), (91, .aload 4, 2, 0, 0, 0, 0, .null), (93, .iload_n 2, 1, 0, 0, 0, 0, .null), (94, .iconst 2, 1, 0, 0, 0, 0, .null), (95, .invokevirtual 194, 3, 0, 45, 2, 1, .null)], [(98, .ireturn, 1, 0, 0, 0, 0, .null), (99, .aload 4, 2, 0, 0, 0, 0, .null), (101, .iload_n 2, 1, 0, 0, 0, 0, .null), (102, .invokevirtual 62, 3, 0, 6, 1, 1, .null), (105, .ireturn, 1, 0, 0, 0, 0, .null)]]
def zc43 : List (List zIn) := [[(0, .iload_n 1, 1, 0, 0, 0, 0, .null), (1, .ifCond .lt 11, 3, 0, 0, 0, 0, .null), (4, .iload_n 1, 1, 0, 0, 0, 0, .null), (5, .aload_n 0, 1, 0, 0, 0, 0, .null), (6, .invokevirtual 256, 3, 0, 4, 0, 1, .null), (9, .if_icmp .lt 14, 3, 0, 0, 0, 0, .null), (12, .new 160, 3, 1002, 317, 164, 1, .null), (15, .dup, 1, 0, 0, 0, 0, .null), (16, .ldc_w 317, 3, 998, 0, 0, 0, .null), (19, .invokespecial 164, 3, 999, 0, 0, 0, .null), (22, .athrow, 1, 0, 0, 0, 0, .null), (23, .return_, 1, 0, 0, 0, 0, .null)]]
def zc44 : List (List zIn) := [[(0, .iload_n 0, 1, 0, 0, 0, 0, .null), (1, .ifCond .gt 5, 3, 0, 0, 0, 0, .null), (4, .iload_n 0, 1, 0, 0, 0, 0, .null), (5, .ireturn, 1, 0, 0, 0, 0, .null), (6, .iconst 0, 1, 0, 0, 0, 0, .null), (7, .istore_n 1, 1, 0, 0, 0, 0, .null), (8, .iload_n 0, 1, 0, 0, 0, 0, .null), (9, .istore_n 2, 1, 0, 0, 0, 0, .null), (10, .iload_n 2, 1, 0, 0, 0, 0, .null), (11, .ifCond .le 14, 3, 0, 0, 0, 0, .null), (14, .iinc 1 1, 3, 0, 0, 0, 0, .null), (17, .iload_n 2, 1, 0, 0, 0, 0, .null), (18, .bipush 10, 2, 0, 0, 0, 0, .null), (20, .idiv, 1, 0, 0, 0, 0, .null), (21, .istore_n 2, 1, 0, 0, 0, 0, .null), (22, .goto (-12), 3, 0, 0, 0, 0, .null), (25, .iload_n 1, 1, 0, 0, 0, 0, .null), (26, .ireturn, 1, 0, 0, 0, 0, .null)]]
def zc45 : List (List zIn) := [[(0, .aload_n 0, 1, 0, 0, 0, 0, .null), (1, .aload_n 0, 1, 0, 0, 0, 0, .null), (2, .iload_n 1, 1, 0, 0, 0, 0, .null), (3, .invokevirtual 73, 3, 0, 20, 1, 1, .null), (6, .iload_n 1, 1, 0, 0, 0, 0, .null), (7, .iload_n 2, 1, 0, 0, 0, 0, .null), (8, .invokevirtual 76, 3, 0, 26, 3, 1, .null), (11, .ireturn, 1, 0, 0, 0, 0, .null)]]
def zc46 : List (List zIn) := [[(0, .aload_n 0, 1, 0, 0, 0, 0, .null), (1, .iload_n 1, 1, 0, 0, 0, 0, .null), (2, .invokevirtual 51, 3, 0, 13, 1, 0, .null), (5, .getfield 55, 3, 4, 0, 6, 1, .null), (8, .astore 4, 2, 0, 0, 0, 0, .null), (10, .aload 4, 2, 0, 0, 0, 0, .null), (12, .iload_n 2, 1, 0, 0, 0, 0, .null), (13, .invokestatic 58, 3, 3, 43, 2, 0, .null), (16, .iload_n 3, 1, 0, 0, 0, 0, .null), (17, .ifCond .ge 13, 3, 0, 0, 0, 0, .null), (20, .new 38, 3, 1000, 197, 42, 0, .null), (23, .dup, 1, 0, 0, 0, 0, .null), (24, .ldc 197, 2, 998, 0, 0, 0, .null), (26, .invokespecial 42, 3, 999, 0, 0, 0, .null), (29, .athrow, 1, 0, 0, 0, 0, .null), (30, .aload 4, 2, 0, 0, 0, 0, .null)], [(32, .iload_n 2, 1, 0, 0, 0, 0, .null), (33, .invokevirtual 75, 3, 0, 20, 1, 1, .null), (36, .istore 5, 2, 0, 0, 0, 0, .null), (38, .iconst 0, 1, 0, 0, 0, 0, .null), (39, .istore 6, 2, 0, 0, 0, 0, .null), (41, .iconst 0, 1, 0, 0, 0, 0, .null), (42, .istore 7, 2, 0, 0, 0, 0, .null), (44, .iload 7, 2, 0, 0, 0, 0, .null), (46, .getstatic 199, 3, 0, 0, 0, 0, .null), (49, .arraylength, 1, 0, 0, 0, 0, .null), (50, .if_icmp .ge 31, 3, 0, 0, 0, 0, .null), (53, .iload 5, 2, 0, 0, 0, 0, .null), (55, .iload 7, 2, 0, 0, 0, 0, .null), (57, .invokestatic 203, 3, 3, 28, 2, 0, .null), (60, .ifCond .eq 15, 3, 0, 0, 0, 0, .null), (63, .iload 6, 2, 0, 0, 0, 0, .null)], [(65, .iload_n 3, 1, 0, 0, 0, 0, .null), (66, .if_icmp .ne 6, 3, 0, 0, 0, 0, .null), (69, .iload 7, 2, 0, 0, 0, 0, .null), (71, .ireturn, 1, 0, 0, 0, 0, .null), (72, .iinc 6 1, 3, 0, 0, 0, 0, .null), (75, .iinc 7 1, 3, 0, 0, 0, 0, .null), (78, .goto (-34), 3, 0, 0, 0, 0, .null), (81, .iconst (-1), 1, 0, 0, 0, 0, .null), (82, .ireturn, 1, 0, 0, 0, 0, .null)]]
def zc47 : List (List zIn) := [[(0, .aload_n 0, 1, 0, 0, 0, 0, .null), (1, .iload_n 1, 1, 0, 0, 0, 0, .null), (2, .invokevirtual 51, 3, 0, 13, 1, 0, .null), (5, .astore_n 3, 1, 0, 0, 0, 0, .null), (6, .iload_n 2, 1, 0, 0, 0, 0, .null), (7, .ifCond .lt 10, 3, 0, 0, 0, 0, .null), (10, .iload_n 2, 1, 0, 0, 0, 0, .null), (11, .sipush 500, 3, 0, 0, 0, 0, .null), (14, .if_icmp .lt 13, 3, 0, 0, 0, 0, .null), (17, .new 38, 3, 1000, 239, 42, 0, .null), (20, .dup, 1, 0, 0, 0, 0, .null), (21, .ldc 239, 2, 998, 0, 0, 0, .null), (23, .invokespecial 42, 3, 999, 0, 0, 0, .null), (26, .athrow, 1, 0, 0, 0, 0, .null), (27, .aload_n 3, 1, 0, 0, 0, 0, .null), (28, .getfield 209, 3, 4, 1, 6, 1, .null), (31, .aload_n 3, 1, 0, 0, 0, 0, .null)], [(32, .getfield 55, 3, 4, 0, 6, 1, .null), (35, .sipush 500, 3, 0, 0, 0, 0, .null), (38, .invokevirtual 96, 3, 0, 22, 2, 2, .null), (41, .iload_n 2, 1, 0, 0, 0, 0, .null), (42, .invokevirtual 241, 3, 0, 48, 1, 2, .null), (45, .ireturn, 1, 0, 0, 0, 0, .null)]]
def zc48 : List (List zIn) := [[(0, .iload_n 1, 1, 0, 0, 0, 0, .null), (1, .ifCond .lt 29, 3, 0, 0, 0, 0, .null), (4, .iload_n 1, 1, 0, 0, 0, 0, .null), (5, .aload_n 0, 1, 0, 0, 0, 0, .null), (6, .getfield 40, 3, 2, 10, 0, 0, .null), (9, .if_icmp .ge 21, 3, 0, 0, 0, 0, .null), (12, .iload_n 1, 1, 0, 0, 0, 0, .null), (13, .aload_n 0, 1, 0, 0, 0, 0, .null), (14, .getfield 9, 3, 2, 0, 7, 1, .null), (17, .arraylength, 1, 0, 0, 0, 0, .null), (18, .if_icmp .ge 12, 3, 0, 0, 0, 0, .null), (21, .aload_n 0, 1, 0, 0, 0, 0, .null), (22, .getfield 9, 3, 2, 0, 7, 1, .null), (25, .iload_n 1, 1, 0, 0, 0, 0, .null), (26, .iaload, 1, 0, 0, 0, 0, .null), (27, .goto 4, 3, 0, 0, 0, 0, .null), (30, .iconst (-1), 1, 0, 0, 0, 0, .null), (31, .ireturn, 1, 0, 0, 0, 0, .null)]]
def zc49 : List (List zIn) := [[(0, .aload_n 0, 1, 0, 0, 0, 0, .null), (1, .iload_n 1, 1, 0, 0, 0, 0, .null), (2, .invokevirtual 51, 3, 0, 13, 1, 0, .null), (5, .astore_n 3, 1, 0, 0, 0, 0, .null), (6, .iload_n 2, 1, 0, 0, 0, 0, .null), (7, .iconst 1, 1, 0, 0, 0, 0, .null), (8, .invokestatic 184, 3, 3, 12, 2, 0, .null), (11, .iload_n 2, 1, 0, 0, 0, 0, .null), (12, .ifCond .ne 13, 3, 0, 0, 0, 0, .null), (15, .aload_n 3, 1, 0, 0, 0, 0, .null), (16, .getfield 55, 3, 4, 0, 6, 1, .null), (19, .invokevirtual 248, 3, 0, 50, 0, 1, .null), (22, .goto 25, 3, 0, 0, 0, 0, .null), (25, .aload_n 3, 1, 0, 0, 0, 0, .null), (26, .getfield 209, 3, 4, 1, 6, 1, .null), (29, .aload_n 3, 1, 0, 0, 0, 0, .null), (30, .getfield 55, 3, 4, 0, 6, 1, .null)], [(33, .sipush 500, 3, 0, 0, 0, 0, .null), (36, .invokevirtual 96, 3, 0, 22, 2, 2, .null), (39, .aload_n 3, 1, 0, 0, 0, 0, .null), (40, .getfield 55, 3, 4, 0, 6, 1, .null), (43, .invokevirtual 252, 3, 0, 52, 1, 2, .null), (46, .f2d, 1, 0, 0, 0, 0, .null), (47, .dreturn, 1, 0, 0, 0, 0, .null)]]
def zc50 : List (List zIn) := [[(0, .dconst 0, 1, 0, 0, 0, 0, .null), (1, .dstore_n 1, 1, 0, 0, 0, 0, .null), (2, .iconst 0, 1, 0, 0, 0, 0, .null), (3, .istore_n 3, 1, 0, 0, 0, 0, .null), (4, .iload_n 3, 1, 0, 0, 0, 0, .null), (5, .aload_n 0, 1, 0, 0, 0, 0, .null), (6, .invokevirtual 31, 3, 0, 4, 0, 1, .null), (9, .if_icmp .ge 30, 3, 0, 0, 0, 0, .null), (12, .dload_n 1, 1, 0, 0, 0, 0, .null), (13, .aload_n 0, 1, 0, 0, 0, 0, .null), (14, .iload_n 3, 1, 0, 0, 0, 0, .null), (15, .invokevirtual 73, 3, 0, 20, 1, 1, .null), (18, .invokestatic 83, 3, 3, 29, 1, 0, .null), (21, .i2d, 1, 0, 0, 0, 0, .null), (22, .iconst 1, 1, 0, 0, 0, 0, .null), (23, .aload_n 0, 1, 0, 0, 0, 0, .null), (24, .iload_n 3, 1, 0, 0, 0, 0, .null), (25, .invokevirtual 94, 3, 0, 51, 1, 1, .null), (28, .ishl, 1, 0, 0, 0, 0, .null), (29, .i2d, 1, 0, 0, 0, 0, .null), (30, .ddiv, 1, 0, 0, 0, 0, .null), (31, .dadd, 1, 0, 0, 0, 0, .null)], [(32, .dstore_n 1, 1, 0, 0, 0, 0, .null), (33, .iinc 3 1, 3, 0, 0, 0, 0, .null), (36, .goto (-32), 3, 0, 0, 0, 0, .null), (39, .aload_n 0, 1, 0, 0, 0, 0, .null), (40, .invokevirtual 31, 3, 0, 4, 0, 1, .null), (43, .ifCond .le 13, 3, 0, 0, 0, 0, .null), (46, .dload_n 1, 1, 0, 0, 0, 0, .null), (47, .aload_n 0, 1, 0, 0, 0, 0, .null), (48, .invokevirtual 31, 3, 0, 4, 0, 1, .null), (51, .i2d, 1, 0, 0, 0, 0, .null), (52, .ddiv, 1, 0, 0, 0, 0, .null), (53, .goto 4, 3, 0, 0, 0, 0, .null), (56, .dconst 0, 1, 0, 0, 0, 0, .null), (57, .dreturn, 1, 0, 0, 0, 0, .null)]]
def zc51 : List (List zIn) := [[(0, .iconst 0, 1, 0, 0, 0, 0, .null), (1, .istore_n 2, 1, 0, 0, 0, 0, .null), (2, .iconst 0, 1, 0, 0, 0, 0, .null), (3, .istore_n 3, 1, 0, 0, 0, 0, .null), (4, .iload_n 3, 1, 0, 0, 0, 0, .null), (5, .aload_n 0, 1, 0, 0, 0, 0, .null), (6, .iload_n 1, 1, 0, 0, 0, 0, .null), (7, .invokevirtual 43, 3, 0, 6, 1, 1, .null), (10, .if_icmp .ge 25, 3, 0, 0, 0, 0, .null), (13, .aload_n 0, 1, 0, 0, 0, 0, .null), (14, .aload_n 0, 1, 0, 0, 0, 0, .null), (15, .iload_n 1, 1, 0, 0, 0, 0, .null), (16, .iload_n 3, 1, 0, 0, 0, 0, .null), (17, .invokevirtual 51, 3, 0, 21, 2, 1, .null), (20, .invokevirtual 67, 3, 0, 16, 1, 1, .null), (23, .ifCond .ne 6, 3, 0, 0, 0, 0, .null), (26, .iinc 2 1, 3, 0, 0, 0, 0, .null), (29, .iinc 3 1, 3, 0, 0, 0, 0, .null)], [(32, .goto (-28), 3, 0, 0, 0, 0, .null), (35, .iload_n 2, 1, 0, 0, 0, 0, .null), (36, .ireturn, 1, 0, 0, 0, 0, .null)]]
def zc52 : List (List zIn) := [[(0, .fconst 0, 1, 0, 0, 0, 0, .null), (1, .fstore_n 2, 1, 0, 0, 0, 0, .null), (2, .aload_n 0, 1, 0, 0, 0, 0, .null), (3, .getfield 40, 3, 2, 10, 0, 0, .null), (6, .ifCond .ne 5, 3, 0, 0, 0, 0, .null), (9, .fload_n 2, 1, 0, 0, 0, 0, .null), (10, .freturn, 1, 0, 0, 0, 0, .null), (11, .iconst 0, 1, 0, 0, 0, 0, .null), (12, .istore_n 3, 1, 0, 0, 0, 0, .null), (13, .iload_n 3, 1, 0, 0, 0, 0, .null), (14, .aload_n 1, 1, 0, 0, 0, 0, .null), (15, .invokevirtual 106, 3, 0, 15, 0, 1, .null), (18, .if_icmp .ge 55, 3, 0, 0, 0, 0, .null), (21, .aload_n 1, 1, 0, 0, 0, 0, .null), (22, .iload_n 3, 1, 0, 0, 0, 0, .null), (23, .invokevirtual 109, 3, 0, 16, 1, 1, .null), (26, .ifCond .ne 41, 3, 0, 0, 0, 0, .null), (29, .aload_n 0, 1, 0, 0, 0, 0, .null), (30, .iload_n 3, 1, 0, 0, 0, 0, .null), (31, .invokevirtual 103, 3, 0, 53, 1, 2, .null)], [(34, .i2f, 1, 0, 0, 0, 0, .null), (35, .aload_n 0, 1, 0, 0, 0, 0, .null), (36, .getfield 40, 3, 2, 10, 0, 0, .null), (39, .i2f, 1, 0, 0, 0, 0, .null), (40, .fdiv, 1, 0, 0, 0, 0, .null), (41, .fstore 4, 2, 0, 0, 0, 0, .null), (43, .fconst 1, 1, 0, 0, 0, 0, .null), (44, .fload 4, 2, 0, 0, 0, 0, .null), (46, .fsub, 1, 0, 0, 0, 0, .null), (47, .fstore 5, 2, 0, 0, 0, 0, .null), (49, .fload_n 2, 1, 0, 0, 0, 0, .null), (50, .fload 4, 2, 0, 0, 0, 0, .null), (52, .fload 5, 2, 0, 0, 0, 0, .null), (54, .fcmp .g, 1, 0, 0, 0, 0, .null), (55, .ifCond .gt 8, 3, 0, 0, 0, 0, .null), (58, .fload 4, 2, 0, 0, 0, 0, .null), (60, .goto 5, 3, 0, 0, 0, 0, .null), (63, .fload 5, 2, 0, 0, 0, 0, .null)], [(65, .fadd, 1, 0, 0, 0, 0, .null), (66, .fstore_n 2, 1, 0, 0, 0, 0, .null), (67, .iinc 3 1, 3, 0, 0, 0, 0, .null), (70, .goto (-57), 3, 0, 0, 0, 0, .null), (73, .fload_n 2, 1, 0, 0, 0, 0, .null), (74, .freturn, 1, 0, 0, 0, 0, .null)]]
def zc53 : List (List zIn) := [[(0, .aload_n 0, 1, 0, 0, 0, 0, .null), (1, .getfield 44, 3, 2, 6, 1, 0, .null), (4, .ifCond .ne 7, 3, 0, 0, 0, 0, .null), (7, .aload_n 0, 1, 0, 0, 0, 0, .null), (8, .invokevirtual 100, 3, 0, 54, 0, 2, .null), (11, .iload_n 1, 1, 0, 0, 0, 0, .null), (12, .ifCond .lt 21, 3, 0, 0, 0, 0, .null), (15, .iload_n 1, 1, 0, 0, 0, 0, .null), (16, .aload_n 0, 1, 0, 0, 0, 0, .null), (17, .getfield 33, 3, 2, 5, 7, 1, .null), (20, .arraylength, 1, 0, 0, 0, 0, .null), (21, .if_icmp .ge 12, 3, 0, 0, 0, 0, .null), (24, .aload_n 0, 1, 0, 0, 0, 0, .null), (25, .getfield 33, 3, 2, 5, 7, 1, .null), (28, .iload_n 1, 1, 0, 0, 0, 0, .null), (29, .iaload, 1, 0, 0, 0, 0, .null), (30, .goto 4, 3, 0, 0, 0, 0, .null)], [(33, .iconst 0, 1, 0, 0, 0, 0, .null), (34, .ireturn, 1, 0, 0, 0, 0, .null)]]
def zc54 : List (List zIn) := [[(0, .iconst 0, 1, 0, 0, 0, 0, .null), (1, .istore_n 1, 1, 0, 0, 0, 0, .null), (2, .iload_n 1, 1, 0, 0, 0, 0, .null), (3, .aload_n 0, 1, 0, 0, 0, 0, .null), (4, .getfield 62, 3, 2, 7, 0, 0, .null), (7, .aload_n 0, 1, 0, 0, 0, 0, .null), (8, .getfield 56, 3, 2, 8, 0, 0, .null), (11, .imul, 1, 0, 0, 0, 0, .null), (12, .if_icmp .ge 65, 3, 0, 0, 0, 0, .null), (15, .iload_n 1, 1, 0, 0, 0, 0, .null), (16, .aload_n 0, 1, 0, 0, 0, 0, .null), (17, .getfield 33, 3, 2, 5, 7, 1, .null), (20, .arraylength, 1, 0, 0, 0, 0, .null), (21, .if_icmp .ge 56, 3, 0, 0, 0, 0, .null), (24, .iconst 0, 1, 0, 0, 0, 0, .null), (25, .istore_n 2, 1, 0, 0, 0, 0, .null), (26, .iconst 0, 1, 0, 0, 0, 0, .null), (27, .istore_n 3, 1, 0, 0, 0, 0, .null), (28, .iload_n 3, 1, 0, 0, 0, 0, .null), (29, .aload_n 0, 1, 0, 0, 0, 0, .null), (30, .getfield 40, 3, 2, 10, 0, 0, .null)], [(33, .if_icmp .ge 31, 3, 0, 0, 0, 0, .null), (36, .iload_n 3, 1, 0, 0, 0, 0, .null), (37, .aload_n 0, 1, 0, 0, 0, 0, .null), (38, .getfield 9, 3, 2, 0, 7, 1, .null), (41, .arraylength, 1, 0, 0, 0, 0, .null), (42, .if_icmp .ge 22, 3, 0, 0, 0, 0, .null), (45, .iload_n 2, 1, 0, 0, 0, 0, .null), (46, .aload_n 0, 1, 0, 0, 0, 0, .null), (47, .getfield 9, 3, 2, 0, 7, 1, .null), (50, .iload_n 3, 1, 0, 0, 0, 0, .null), (51, .iaload, 1, 0, 0, 0, 0, .null), (52, .iload_n 1, 1, 0, 0, 0, 0, .null), (53, .iushr, 1, 0, 0, 0, 0, .null), (54, .iconst 1, 1, 0, 0, 0, 0, .null), (55, .iand, 1, 0, 0, 0, 0, .null), (56, .iadd, 1, 0, 0, 0, 0, .null), (57, .istore_n 2, 1, 0, 0, 0, 0, .null), (58, .iinc 3 1, 3, 0, 0, 0, 0, .null), (61, .goto (-33), 3, 0, 0, 0, 0, .null)], [(64, .aload_n 0, 1, 0, 0, 0, 0, .null), (65, .getfield 33, 3, 2, 5, 7, 1, .null), (68, .iload_n 1, 1, 0, 0, 0, 0, .null), (69, .iload_n 2, 1, 0, 0, 0, 0, .null), (70, .iastore, 1, 0, 0, 0, 0, .null), (71, .iinc 1 1, 3, 0, 0, 0, 0, .null), (74, .goto (-72), 3, 0, 0, 0, 0, .null), (77, .aload_n 0, 1, 0, 0, 0, 0, .null), (78, .iconst 1, 1, 0, 0, 0, 0, .null), (79, .putfield 44, 3, 2, 6, 1, 0, .null), (82, .return_, 1, 0, 0, 0, 0, .null)]]
def zc55 : List (List zIn) := [[(0, .aload_n 0, 1, 0, 0, 0, 0, .null), (1, .iload_n 1, 1, 0, 0, 0, 0, .null), (2, .invokevirtual 51, 3, 0, 13, 1, 0, .null), (5, .getfield 55, 3, 4, 0, 6, 1, .null), (8, .astore_n 2, 1, 0, 0, 0, 0, .null), (9, .iconst (-1), 1, 0, 0, 0, 0, .null), (10, .istore_n 3, 1, 0, 0, 0, 0, .null), (11, .iconst 0, 1, 0, 0, 0, 0, .null), (12, .istore 4, 2, 0, 0, 0, 0, .null), (14, .iconst 0, 1, 0, 0, 0, 0, .null), (15, .istore 5, 2, 0, 0, 0, 0, .null), (17, .iload 5, 2, 0, 0, 0, 0, .null), (19, .aload_n 2, 1, 0, 0, 0, 0, .null), (20, .invokevirtual 256, 3, 0, 4, 0, 1, .null), (23, .if_icmp .ge 46, 3, 0, 0, 0, 0, .null), (26, .aload_n 2, 1, 0, 0, 0, 0, .null), (27, .iload 5, 2, 0, 0, 0, 0, .null), (29, .iconst 1, 1, 0, 0, 0, 0, .null), (30, .invokevirtual 194, 3, 0, 45, 2, 1, .null)], [(33, .invokestatic 78, 3, 3, 29, 1, 0, .null), (36, .aload_n 2, 1, 0, 0, 0, 0, .null), (37, .iload 5, 2, 0, 0, 0, 0, .null), (39, .iconst 2, 1, 0, 0, 0, 0, .null), (40, .invokevirtual 194, 3, 0, 45, 2, 1, .null), (43, .invokestatic 78, 3, 3, 29, 1, 0, .null), (46, .iadd, 1, 0, 0, 0, 0, .null), (47, .istore 6, 2, 0, 0, 0, 0, .null), (49, .iload 6, 2, 0, 0, 0, 0, .null), (51, .iload 4, 2, 0, 0, 0, 0, .null), (53, .if_icmp .le 10, 3, 0, 0, 0, 0, .null), (56, .iload 5, 2, 0, 0, 0, 0, .null), (58, .istore_n 3, 1, 0, 0, 0, 0, .null), (59, .iload 6, 2, 0, 0, 0, 0, .null), (61, .istore 4, 2, 0, 0, 0, 0, .null), (63, .iinc 5 1, 3, 0, 0, 0, 0, .null)], [(66, .goto (-49), 3, 0, 0, 0, 0, .null), (69, .iload_n 3, 1, 0, 0, 0, 0, .null), (70, .ireturn, 1, 0, 0, 0, 0, .null)]]
def zc56 : List (List zIn) := [[(0, .aload_n 0, 1, 0, 0, 0, 0, .null), (1, .iload_n 1, 1, 0, 0, 0, 0, .null), (2, .invokevirtual 51, 3, 0, 13, 1, 0, .null), (5, .astore_n 2, 1, 0, 0, 0, 0, .null), (6, .aload_n 2, 1, 0, 0, 0, 0, .null), (7, .getfield 209, 3, 4, 1, 6, 1, .null), (10, .aload_n 2, 1, 0, 0, 0, 0, .null), (11, .getfield 55, 3, 4, 0, 6, 1, .null), (14, .sipush 500, 3, 0, 0, 0, 0, .null), (17, .invokevirtual 96, 3, 0, 22, 2, 2, .null), (20, .astore_n 3, 1, 0, 0, 0, 0, .null), (21, .iconst (-1), 1, 0, 0, 0, 0, .null), (22, .istore 4, 2, 0, 0, 0, 0, .null), (24, .dconst 1, 1, 0, 0, 0, 0, .null), (25, .dstore 5, 2, 0, 0, 0, 0, .null), (27, .aload_n 3, 1, 0, 0, 0, 0, .null), (28, .getfield 100, 3, 2, 10, 0, 0, .null), (31, .ifCond .ne 5, 3, 0, 0, 0, 0, .null)], [(34, .iconst (-1), 1, 0, 0, 0, 0, .null), (35, .ireturn, 1, 0, 0, 0, 0, .null), (36, .iconst 0, 1, 0, 0, 0, 0, .null), (37, .istore 7, 2, 0, 0, 0, 0, .null), (39, .iload 7, 2, 0, 0, 0, 0, .null), (41, .aload_n 2, 1, 0, 0, 0, 0, .null), (42, .getfield 55, 3, 4, 0, 6, 1, .null), (45, .invokevirtual 181, 3, 0, 15, 0, 1, .null), (48, .if_icmp .ge 66, 3, 0, 0, 0, 0, .null), (51, .aload_n 2, 1, 0, 0, 0, 0, .null), (52, .getfield 55, 3, 4, 0, 6, 1, .null), (55, .iload 7, 2, 0, 0, 0, 0, .null), (57, .invokevirtual 135, 3, 0, 16, 1, 1, .null), (60, .ifCond .ne 48, 3, 0, 0, 0, 0, .null), (63, .aload_n 3, 1, 0, 0, 0, 0, .null)], [(64, .iload 7, 2, 0, 0, 0, 0, .null), (66, .invokevirtual 244, 3, 0, 57, 1, 2, .null), (69, .ldc2_w 259, 3, 0, 0, 0, 0, .double 4602678819172646912), (72, .dsub, 1, 0, 0, 0, 0, .null), (73, .dstore 8, 2, 0, 0, 0, 0, .null), (75, .dload 8, 2, 0, 0, 0, 0, .null), (77, .dconst 0, 1, 0, 0, 0, 0, .null), (78, .dcmp .g, 1, 0, 0, 0, 0, .null), (79, .ifCond .ge 9, 3, 0, 0, 0, 0, .null), (82, .dload 8, 2, 0, 0, 0, 0, .null), (84, .dneg, 1, 0, 0, 0, 0, .null), (85, .goto 5, 3, 0, 0, 0, 0, .null), (88, .dload 8, 2, 0, 0, 0, 0, .null), (90, .dstore 10, 2, 0, 0, 0, 0, .null), (92, .dload 10, 2, 0, 0, 0, 0, .null), (94, .dload 5, 2, 0, 0, 0, 0, .null)], [(96, .dcmp .g, 1, 0, 0, 0, 0, .null), (97, .ifCond .ge 11, 3, 0, 0, 0, 0, .null), (100, .iload 7, 2, 0, 0, 0, 0, .null), (102, .istore 4, 2, 0, 0, 0, 0, .null), (104, .dload 10, 2, 0, 0, 0, 0, .null), (106, .dstore 5, 2, 0, 0, 0, 0, .null), (108, .iinc 7 1, 3, 0, 0, 0, 0, .null), (111, .goto (-72), 3, 0, 0, 0, 0, .null), (114, .iload 4, 2, 0, 0, 0, 0, .null), (116, .ireturn, 1, 0, 0, 0, 0, .null)]]
def zc57 : List (List zIn) := [[(0, .aload_n 0, 1, 0, 0, 0, 0, .null), (1, .getfield 40, 3, 2, 10, 0, 0, .null), (4, .ifCond .ne 7, 3, 0, 0, 0, 0, .null), (7, .dconst 0, 1, 0, 0, 0, 0, .null), (8, .goto 15, 3, 0, 0, 0, 0, .null), (11, .aload_n 0, 1, 0, 0, 0, 0, .null), (12, .iload_n 1, 1, 0, 0, 0, 0, .null), (13, .invokevirtual 103, 3, 0, 53, 1, 2, .null), (16, .i2d, 1, 0, 0, 0, 0, .null), (17, .aload_n 0, 1, 0, 0, 0, 0, .null), (18, .getfield 40, 3, 2, 10, 0, 0, .null), (21, .i2d, 1, 0, 0, 0, 0, .null), (22, .ddiv, 1, 0, 0, 0, 0, .null), (23, .dreturn, 1, 0, 0, 0, 0, .null)]]
def zc58 : List (List zIn) := [[(0, .aload_n 0, 1, 0, 0, 0, 0, .null), (1, .iload_n 1, 1, 0, 0, 0, 0, .null), (2, .invokevirtual 51, 3, 0, 13, 1, 0, .null), (5, .astore_n 2, 1, 0, 0, 0, 0, .null), (6, .aload_n 2, 1, 0, 0, 0, 0, .null), (7, .getfield 209, 3, 4, 1, 6, 1, .null), (10, .aload_n 2, 1, 0, 0, 0, 0, .null), (11, .getfield 55, 3, 4, 0, 6, 1, .null), (14, .sipush 500, 3, 0, 0, 0, 0, .null), (17, .invokevirtual 96, 3, 0, 22, 2, 2, .null), (20, .invokevirtual 261, 3, 0, 59, 0, 2, .null), (23, .ireturn, 1, 0, 0, 0, 0, .null)]]
def zc59 : List (List zIn) := [[(0, .aload_n 0, 1, 0, 0, 0, 0, .null), (1, .getfield 40, 3, 2, 10, 0, 0, .null), (4, .iconst 1, 1, 0, 0, 0, 0, .null), (5, .if_icmp .gt 16, 3, 0, 0, 0, 0, .null), (8, .aload_n 0, 1, 0, 0, 0, 0, .null), (9, .getfield 40, 3, 2, 10, 0, 0, .null), (12, .ifCond .ne 7, 3, 0, 0, 0, 0, .null), (15, .iconst (-1), 1, 0, 0, 0, 0, .null), (16, .goto 4, 3, 0, 0, 0, 0, .null), (19, .iconst 0, 1, 0, 0, 0, 0, .null), (20, .ireturn, 1, 0, 0, 0, 0, .null), (21, .aload_n 0, 1, 0, 0, 0, 0, .null), (22, .iconst 0, 1, 0, 0, 0, 0, .null), (23, .invokevirtual 112, 3, 0, 60, 1, 2, .null), (26, .ifCond .eq 5, 3, 0, 0, 0, 0, .null), (29, .iconst 1, 1, 0, 0, 0, 0, .null), (30, .ireturn, 1, 0, 0, 0, 0, .null), (31, .iconst 0, 1, 0, 0, 0, 0, .null)], [(32, .istore_n 1, 1, 0, 0, 0, 0, .null), (33, .iload_n 1, 1, 0, 0, 0, 0, .null), (34, .aload_n 0, 1, 0, 0, 0, 0, .null), (35, .getfield 62, 3, 2, 7, 0, 0, .null), (38, .aload_n 0, 1, 0, 0, 0, 0, .null), (39, .getfield 56, 3, 2, 8, 0, 0, .null), (42, .imul, 1, 0, 0, 0, 0, .null), (43, .if_icmp .ge 21, 3, 0, 0, 0, 0, .null), (46, .aload_n 0, 1, 0, 0, 0, 0, .null), (47, .iconst 1, 1, 0, 0, 0, 0, .null), (48, .iload_n 1, 1, 0, 0, 0, 0, .null), (49, .ishl, 1, 0, 0, 0, 0, .null), (50, .invokevirtual 112, 3, 0, 60, 1, 2, .null), (53, .ifCond .eq 5, 3, 0, 0, 0, 0, .null), (56, .iconst 2, 1, 0, 0, 0, 0, .null), (57, .ireturn, 1, 0, 0, 0, 0, .null), (58, .iinc 1 1, 3, 0, 0, 0, 0, .null), (61, .goto (-28), 3, 0, 0, 0, 0, .null)], [(64, .iconst (-1), 1, 0, 0, 0, 0, .null), (65, .ireturn, 1, 0, 0, 0, 0, .null)]]
def zc60 : List (List zIn) := [[(0, .iconst (-1), 1, 0, 0, 0, 0, .null), (1, .istore_n 2, 1, 0, 0, 0, 0, .null), (2, .iconst 1, 1, 0, 0, 0, 0, .null), (3, .istore_n 3, 1, 0, 0, 0, 0, .null), (4, .iload_n 3, 1, 0, 0, 0, 0, .null), (5, .aload_n 0, 1, 0, 0, 0, 0, .null), (6, .getfield 40, 3, 2, 10, 0, 0, .null), (9, .if_icmp .ge 49, 3, 0, 0, 0, 0, .null), (12, .iload_n 3, 1, 0, 0, 0, 0, .null), (13, .aload_n 0, 1, 0, 0, 0, 0, .null), (14, .getfield 9, 3, 2, 0, 7, 1, .null), (17, .arraylength, 1, 0, 0, 0, 0, .null), (18, .if_icmp .ge 40, 3, 0, 0, 0, 0, .null), (21, .iload_n 2, 1, 0, 0, 0, 0, .null), (22, .ifCond .eq 36, 3, 0, 0, 0, 0, .null), (25, .aload_n 0, 1, 0, 0, 0, 0, .null), (26, .getfield 9, 3, 2, 0, 7, 1, .null), (29, .iload_n 3, 1, 0, 0, 0, 0, .null), (30, .iaload, 1, 0, 0, 0, 0, .null), (31, .aload_n 0, 1, 0, 0, 0, 0, .null)], [(32, .getfield 9, 3, 2, 0, 7, 1, .null), (35, .iconst 0, 1, 0, 0, 0, 0, .null), (36, .iaload, 1, 0, 0, 0, 0, .null), (37, .ixor, 1, 0, 0, 0, 0, .null), (38, .istore 4, 2, 0, 0, 0, 0, .null), (40, .iload 4, 2, 0, 0, 0, 0, .null), (42, .iload_n 1, 1, 0, 0, 0, 0, .null), (43, .iand, 1, 0, 0, 0, 0, .null), (44, .ifCond .ne 8, 3, 0, 0, 0, 0, .null), (47, .iload_n 2, 1, 0, 0, 0, 0, .null), (48, .iload 4, 2, 0, 0, 0, 0, .null), (50, .iand, 1, 0, 0, 0, 0, .null), (51, .istore_n 2, 1, 0, 0, 0, 0, .null), (52, .iinc 3 1, 3, 0, 0, 0, 0, .null), (55, .goto (-51), 3, 0, 0, 0, 0, .null), (58, .iload_n 2, 1, 0, 0, 0, 0, .null), (59, .ifCond .eq 7, 3, 0, 0, 0, 0, .null), (62, .iconst 1, 1, 0, 0, 0, 0, .null), (63, .goto 4, 3, 0, 0, 0, 0, .null)], [(66, .iconst 0, 1, 0, 0, 0, 0, .null), (67, .ireturn, 1, 0, 0, 0, 0, .null)]]
def zc61 : List (List zIn) := [[(0, .aload_n 0, 1, 0, 0, 0, 0, .null), (1, .iload_n 1, 1, 0, 0, 0, 0, .null), (2, .invokevirtual 51, 3, 0, 13, 1, 0, .null), (5, .getfield 55, 3, 4, 0, 6, 1, .null), (8, .astore_n 3, 1, 0, 0, 0, 0, .null), (9, .aload_n 0, 1, 0, 0, 0, 0, .null), (10, .iload_n 2, 1, 0, 0, 0, 0, .null), (11, .invokevirtual 51, 3, 0, 13, 1, 0, .null), (14, .getfield 55, 3, 4, 0, 6, 1, .null), (17, .astore 4, 2, 0, 0, 0, 0, .null), (19, .iconst 0, 1, 0, 0, 0, 0, .null), (20, .istore 5, 2, 0, 0, 0, 0, .null), (22, .iload 5, 2, 0, 0, 0, 0, .null), (24, .bipush 8, 2, 0, 0, 0, 0, .null), (26, .if_icmp .ge 23, 3, 0, 0, 0, 0, .null), (29, .aload_n 3, 1, 0, 0, 0, 0, .null), (30, .aload 4, 2, 0, 0, 0, 0, .null)], [(32, .iload 5, 2, 0, 0, 0, 0, .null), (34, .invokevirtual 264, 3, 0, 62, 2, 1, .null), (37, .ifCond .eq 6, 3, 0, 0, 0, 0, .null), (40, .iload 5, 2, 0, 0, 0, 0, .null), (42, .ireturn, 1, 0, 0, 0, 0, .null), (43, .iinc 5 1, 3, 0, 0, 0, 0, .null), (46, .goto (-24), 3, 0, 0, 0, 0, .null), (49, .iconst (-1), 1, 0, 0, 0, 0, .null), (50, .ireturn, 1, 0, 0, 0, 0, .null)]]
def zc62 : List (List zIn) := [[(0, .iload_n 2, 1, 0, 0, 0, 0, .null), (1, .iconst 4, 1, 0, 0, 0, 0, .null), (2, .iand, 1, 0, 0, 0, 0, .null), (3, .ifCond .eq 7, 3, 0, 0, 0, 0, .null), (6, .iconst 1, 1, 0, 0, 0, 0, .null), (7, .goto 4, 3, 0, 0, 0, 0, .null), (10, .iconst 0, 1, 0, 0, 0, 0, .null), (11, .istore_n 3, 1, 0, 0, 0, 0, .null), (12, .aload_n 1, 1, 0, 0, 0, 0, .null), (13, .getfield 21, 3, 1, 3, 0, 0, .null), (16, .iload_n 3, 1, 0, 0, 0, 0, .null), (17, .ifCond .eq 10, 3, 0, 0, 0, 0, .null), (20, .aload_n 0, 1, 0, 0, 0, 0, .null), (21, .getfield 25, 3, 1, 4, 0, 0, .null), (24, .goto 7, 3, 0, 0, 0, 0, .null), (27, .aload_n 0, 1, 0, 0, 0, 0, .null), (28, .getfield 21, 3, 1, 3, 0, 0, .null), (31, .if_icmp .ne 25, 3, 0, 0, 0, 0, .null)], [(34, .aload_n 1, 1, 0, 0, 0, 0, .null), (35, .getfield 25, 3, 1, 4, 0, 0, .null), (38, .iload_n 3, 1, 0, 0, 0, 0, .null), (39, .ifCond .eq 10, 3, 0, 0, 0, 0, .null), (42, .aload_n 0, 1, 0, 0, 0, 0, .null), (43, .getfield 21, 3, 1, 3, 0, 0, .null), (46, .goto 7, 3, 0, 0, 0, 0, .null), (49, .aload_n 0, 1, 0, 0, 0, 0, .null), (50, .getfield 25, 3, 1, 4, 0, 0, .null), (53, .if_icmp .eq 5, 3, 0, 0, 0, 0, .null), (56, .iconst 0, 1, 0, 0, 0, 0, .null), (57, .ireturn, 1, 0, 0, 0, 0, .null), (58, .iconst 0, 1, 0, 0, 0, 0, .null), (59, .istore 4, 2, 0, 0, 0, 0, .null), (61, .iload 4, 2, 0, 0, 0, 0, .null), (63, .aload_n 0, 1, 0, 0, 0, 0, .null)], [(64, .invokevirtual 31, 3, 0, 4, 0, 1, .null), (67, .if_icmp .ge 114, 3, 0, 0, 0, 0, .null), (70, .iload 4, 2, 0, 0, 0, 0, .null), (72, .istore 5, 2, 0, 0, 0, 0, .null), (74, .iconst 0, 1, 0, 0, 0, 0, .null), (75, .istore 6, 2, 0, 0, 0, 0, .null), (77, .iload_n 2, 1, 0, 0, 0, 0, .null), (78, .iconst 1, 1, 0, 0, 0, 0, .null), (79, .iand, 1, 0, 0, 0, 0, .null), (80, .ifCond .eq 21, 3, 0, 0, 0, 0, .null), (83, .aload_n 0, 1, 0, 0, 0, 0, .null), (84, .iload 5, 2, 0, 0, 0, 0, .null), (86, .iconst 1, 1, 0, 0, 0, 0, .null), (87, .invokevirtual 110, 3, 0, 63, 2, 1, .null), (90, .istore 6, 2, 0, 0, 0, 0, .null), (92, .aload_n 0, 1, 0, 0, 0, 0, .null), (93, .iload 5, 2, 0, 0, 0, 0, .null), (95, .iconst 1, 1, 0, 0, 0, 0, .null)], [(96, .invokevirtual 107, 3, 0, 64, 2, 1, .null), (99, .istore 5, 2, 0, 0, 0, 0, .null), (101, .iload_n 2, 1, 0, 0, 0, 0, .null), (102, .iconst 2, 1, 0, 0, 0, 0, .null), (103, .iand, 1, 0, 0, 0, 0, .null), (104, .ifCond .eq 24, 3, 0, 0, 0, 0, .null), (107, .iload 6, 2, 0, 0, 0, 0, .null), (109, .ifCond .ne 7, 3, 0, 0, 0, 0, .null), (112, .iconst 1, 1, 0, 0, 0, 0, .null), (113, .goto 4, 3, 0, 0, 0, 0, .null), (116, .iconst 0, 1, 0, 0, 0, 0, .null), (117, .istore 6, 2, 0, 0, 0, 0, .null), (119, .aload_n 0, 1, 0, 0, 0, 0, .null), (120, .iload 5, 2, 0, 0, 0, 0, .null), (122, .iconst 0, 1, 0, 0, 0, 0, .null), (123, .invokevirtual 107, 3, 0, 64, 2, 1, .null), (126, .istore 5, 2, 0, 0, 0, 0, .null)], [(128, .iload_n 3, 1, 0, 0, 0, 0, .null), (129, .ifCond .eq 12, 3, 0, 0, 0, 0, .null), (132, .aload_n 0, 1, 0, 0, 0, 0, .null), (133, .iload 5, 2, 0, 0, 0, 0, .null), (135, .iconst 2, 1, 0, 0, 0, 0, .null), (136, .invokevirtual 107, 3, 0, 64, 2, 1, .null), (139, .istore 5, 2, 0, 0, 0, 0, .null), (141, .aload_n 1, 1, 0, 0, 0, 0, .null), (142, .iload 5, 2, 0, 0, 0, 0, .null), (144, .invokevirtual 91, 3, 0, 36, 1, 1, .null), (147, .iload 6, 2, 0, 0, 0, 0, .null), (149, .ifCond .eq 15, 3, 0, 0, 0, 0, .null), (152, .aload_n 0, 1, 0, 0, 0, 0, .null), (153, .iload 4, 2, 0, 0, 0, 0, .null), (155, .invokevirtual 91, 3, 0, 36, 1, 1, .null), (158, .invokestatic 113, 3, 4, 65, 1, 0, .null)], [(161, .goto 9, 3, 0, 0, 0, 0, .null), (164, .aload_n 0, 1, 0, 0, 0, 0, .null), (165, .iload 4, 2, 0, 0, 0, 0, .null), (167, .invokevirtual 91, 3, 0, 36, 1, 1, .null), (170, .if_icmp .eq 5, 3, 0, 0, 0, 0, .null), (173, .iconst 0, 1, 0, 0, 0, 0, .null), (174, .ireturn, 1, 0, 0, 0, 0, .null), (175, .iinc 4 1, 3, 0, 0, 0, 0, .null), (178, .goto (-117), 3, 0, 0, 0, 0, .null), (181, .iconst 1, 1, 0, 0, 0, 0, .null), (182, .ireturn, 1, 0, 0, 0, 0, .null)]]
def zc63 : List (List zIn) := [[(0, .iload_n 2, 1, 0, 0, 0, 0, .null), (1, .ifCond .eq 16, 3, 0, 0, 0, 0, .null), (4, .iload_n 2, 1, 0, 0, 0, 0, .null), (5, .iconst 1, 1, 0, 0, 0, 0, .null), (6, .if_icmp .ne 15, 3, 0, 0, 0, 0, .null), (9, .iload_n 1, 1, 0, 0, 0, 0, .null), (10, .aload_n 0, 1, 0, 0, 0, 0, .null), (11, .getfield 25, 3, 1, 4, 0, 0, .null), (14, .if_icmp .ge 7, 3, 0, 0, 0, 0, .null), (17, .iconst 1, 1, 0, 0, 0, 0, .null), (18, .goto 4, 3, 0, 0, 0, 0, .null), (21, .iconst 0, 1, 0, 0, 0, 0, .null), (22, .ireturn, 1, 0, 0, 0, 0, .null)]]
def zc64 : List (List zIn) := [[(0, .iload_n 2, 1, 0, 0, 0, 0, .null), (1, .iconst 2, 1, 0, 0, 0, 0, .null), (2, .if_icmp .ne 27, 3, 0, 0, 0, 0, .null), (5, .iload_n 1, 1, 0, 0, 0, 0, .null), (6, .aload_n 0, 1, 0, 0, 0, 0, .null), (7, .getfield 25, 3, 1, 4, 0, 0, .null), (10, .if_icmp .ge 12, 3, 0, 0, 0, 0, .null), (13, .aload_n 0, 1, 0, 0, 0, 0, .null), (14, .getfield 21, 3, 1, 3, 0, 0, .null), (17, .iload_n 1, 1, 0, 0, 0, 0, .null), (18, .iadd, 1, 0, 0, 0, 0, .null), (19, .goto 9, 3, 0, 0, 0, 0, .null), (22, .iload_n 1, 1, 0, 0, 0, 0, .null), (23, .aload_n 0, 1, 0, 0, 0, 0, .null), (24, .getfield 25, 3, 1, 4, 0, 0, .null), (27, .isub, 1, 0, 0, 0, 0, .null), (28, .ireturn, 1, 0, 0, 0, 0, .null), (29, .iload_n 1, 1, 0, 0, 0, 0, .null), (30, .aload_n 0, 1, 0, 0, 0, 0, .null), (31, .getfield 25, 3, 1, 4, 0, 0, .null)], [(34, .if_icmp .lt 22, 3, 0, 0, 0, 0, .null), (37, .aload_n 0, 1, 0, 0, 0, 0, .null), (38, .getfield 25, 3, 1, 4, 0, 0, .null), (41, .aload_n 0, 1, 0, 0, 0, 0, .null), (42, .getfield 21, 3, 1, 3, 0, 0, .null), (45, .iadd, 1, 0, 0, 0, 0, .null), (46, .iconst 1, 1, 0, 0, 0, 0, .null), (47, .isub, 1, 0, 0, 0, 0, .null), (48, .iload_n 1, 1, 0, 0, 0, 0, .null), (49, .aload_n 0, 1, 0, 0, 0, 0, .null), (50, .getfield 25, 3, 1, 4, 0, 0, .null), (53, .isub, 1, 0, 0, 0, 0, .null), (54, .isub, 1, 0, 0, 0, 0, .null), (55, .ireturn, 1, 0, 0, 0, 0, .null), (56, .iload_n 2, 1, 0, 0, 0, 0, .null), (57, .ifCond .ne 14, 3, 0, 0, 0, 0, .null), (60, .aload_n 0, 1, 0, 0, 0, 0, .null), (61, .getfield 25, 3, 1, 4, 0, 0, .null)], [(64, .iconst 1, 1, 0, 0, 0, 0, .null), (65, .isub, 1, 0, 0, 0, 0, .null), (66, .iload_n 1, 1, 0, 0, 0, 0, .null), (67, .isub, 1, 0, 0, 0, 0, .null), (68, .goto 4, 3, 0, 0, 0, 0, .null), (71, .iload_n 1, 1, 0, 0, 0, 0, .null), (72, .ireturn, 1, 0, 0, 0, 0, .null)]]
def zc65 : List (List zIn) := [[(0, .iload_n 0, 1, 0, 0, 0, 0, .null), (1, .ifCond .gt 5, 3, 0, 0, 0, 0, .null), (4, .iload_n 0, 1, 0, 0, 0, 0, .null), (5, .ireturn, 1, 0, 0, 0, 0, .null), (6, .iconst 0, 1, 0, 0, 0, 0, .null), (7, .istore_n 1, 1, 0, 0, 0, 0, .null), (8, .iload_n 0, 1, 0, 0, 0, 0, .null), (9, .istore_n 2, 1, 0, 0, 0, 0, .null), (10, .iload_n 2, 1, 0, 0, 0, 0, .null), (11, .ifCond .le 21, 3, 0, 0, 0, 0, .null), (14, .iload_n 1, 1, 0, 0, 0, 0, .null), (15, .bipush 10, 2, 0, 0, 0, 0, .null), (17, .imul, 1, 0, 0, 0, 0, .null), (18, .iload_n 2, 1, 0, 0, 0, 0, .null), (19, .bipush 10, 2, 0, 0, 0, 0, .null), (21, .irem, 1, 0, 0, 0, 0, .null), (22, .iadd, 1, 0, 0, 0, 0, .null), (23, .istore_n 1, 1, 0, 0, 0, 0, .null), (24, .iload_n 2, 1, 0, 0, 0, 0, .null), (25, .bipush 10, 2, 0, 0, 0, 0, .null), (27, .idiv, 1, 0, 0, 0, 0, .null), (28, .istore_n 2, 1, 0, 0, 0, 0, .null), (29, .goto (-19), 3, 0, 0, 0, 0, .null)], [(32, .iload_n 1, 1, 0, 0, 0, 0, .null), (33, .ireturn, 1, 0, 0, 0, 0, .null)]]
def zc66 : List (List zIn) := [[(0, .aload_n 0, 1, 0, 0, 0, 0, .null), (1, .invokespecial 1, 3, 20, 0, 0, 0, .null), (4, .return_, 1, 0, 0, 0, 0, .null)]]
def zc67 : List (List zIn) := [[(0, .aload_n 3, 1, 0, 0, 0, 0, .null), (1, .aload_n 0, 1, 0, 0, 0, 0, .null), (2, .iload_n 1, 1, 0, 0, 0, 0, .null), (3, .iload_n 2, 1, 0, 0, 0, 0, .null), (4, .invokevirtual 7, 3, 0, 68, 2, 0, .null), (7, .i2l, 1, 0, 0, 0, 0, .null), (8, .putfield 13, 3, 3, 0, 3, 0, .null), (11, .goto 11, 3, 0, 0, 0, 0, .null), (14, .astore 4, 2, 0, 0, 0, 0, .null), (16, .iconst 1, 1, 0, 0, 0, 0, .null), (17, .ireturn, 1, 0, 0, 0, 0, .null), (18, .astore 4, 2, 0, 0, 0, 0, .null), (20, .iconst 2, 1, 0, 0, 0, 0, .null), (21, .ireturn, 1, 0, 0, 0, 0, .null), (22, .iconst 0, 1, 0, 0, 0, 0, .null), (23, .ireturn, 1, 0, 0, 0, 0, .null)]]
def zc68 : List (List zIn) := [[(0, .iload_n 1, 1, 0, 0, 0, 0, .null), (1, .iconst 2, 1, 0, 0, 0, 0, .null), (2, .if_icmp .lt 18, 3, 0, 0, 0, 0, .null), (5, .iload_n 1, 1, 0, 0, 0, 0, .null), (6, .iconst 5, 1, 0, 0, 0, 0, .null), (7, .if_icmp .gt 13, 3, 0, 0, 0, 0, .null), (10, .iload_n 2, 1, 0, 0, 0, 0, .null), (11, .iconst 2, 1, 0, 0, 0, 0, .null), (12, .if_icmp .lt 8, 3, 0, 0, 0, 0, .null), (15, .iload_n 2, 1, 0, 0, 0, 0, .null), (16, .iconst 5, 1, 0, 0, 0, 0, .null), (17, .if_icmp .le 13, 3, 0, 0, 0, 0, .null), (20, .new 38, 3, 1000, 40, 42, 0, .null), (23, .dup, 1, 0, 0, 0, 0, .null), (24, .ldc 40, 2, 998, 0, 0, 0, .null), (26, .invokespecial 42, 3, 999, 0, 0, 0, .null), (29, .athrow, 1, 0, 0, 0, 0, .null), (30, .aload_n 0, 1, 0, 0, 0, 0, .null), (31, .getfield 31, 3, 0, 3, 0, 0, .null)], [(34, .iconst 3, 1, 0, 0, 0, 0, .null), (35, .if_icmp .lt 13, 3, 0, 0, 0, 0, .null), (38, .new 45, 3, 1001, 47, 49, 0, .null), (41, .dup, 1, 0, 0, 0, 0, .null), (42, .ldc 47, 2, 998, 0, 0, 0, .null), (44, .invokespecial 49, 3, 999, 0, 0, 0, .null), (47, .athrow, 1, 0, 0, 0, 0, .null), (48, .aload_n 0, 1, 0, 0, 0, 0, .null), (49, .getfield 11, 3, 0, 0, 7, 1, .null), (52, .aload_n 0, 1, 0, 0, 0, 0, .null), (53, .getfield 31, 3, 0, 3, 0, 0, .null), (56, .new 9, 3, 4, 7, 0, 0, .null), (59, .dup, 1, 0, 0, 0, 0, .null), (60, .iload_n 1, 1, 0, 0, 0, 0, .null), (61, .iload_n 2, 1, 0, 0, 0, 0, .null), (62, .invokespecial 50, 3, 5, 69, 2, 0, .null)], [(65, .aastore, 1, 0, 0, 0, 0, .null), (66, .aload_n 0, 1, 0, 0, 0, 0, .null), (67, .dup, 1, 0, 0, 0, 0, .null), (68, .getfield 31, 3, 0, 3, 0, 0, .null), (71, .iconst 1, 1, 0, 0, 0, 0, .null), (72, .iadd, 1, 0, 0, 0, 0, .null), (73, .putfield 31, 3, 0, 3, 0, 0, .null), (76, .aload_n 0, 1, 0, 0, 0, 0, .null), (77, .getfield 31, 3, 0, 3, 0, 0, .null), (80, .iconst 1, 1, 0, 0, 0, 0, .null), (81, .isub, 1, 0, 0, 0, 0, .null), (82, .ireturn, 1, 0, 0, 0, 0, .null)]]
def zc69 : List (List zIn) := [[(0, .aload_n 0, 1, 0, 0, 0, 0, .null), (1, .invokespecial 3, 3, 20, 0, 0, 0, .null), (4, .aload_n 0, 1, 0, 0, 0, 0, .null), (5, .new 9, 3, 2, 11, 0, 0, .null), (8, .dup, 1, 0, 0, 0, 0, .null), (9, .invokespecial 11, 3, 6, 8, 0, 0, .null), (12, .putfield 12, 3, 4, 1, 6, 1, .null), (15, .aload_n 0, 1, 0, 0, 0, 0, .null), (16, .sipush 600, 3, 0, 0, 0, 0, .null), (19, .newarray .int, 2, 64, 0, 0, 0, .null), (21, .putfield 18, 3, 4, 2, 7, 1, .null), (24, .aload_n 0, 1, 0, 0, 0, 0, .null), (25, .bipush 6, 2, 0, 0, 0, 0, .null), (27, .newarray .int, 2, 64, 0, 0, 0, .null), (29, .putfield 22, 3, 4, 3, 7, 1, .null)], [(32, .aload_n 0, 1, 0, 0, 0, 0, .null), (33, .new 25, 3, 1, 5, 0, 0, .null), (36, .dup, 1, 0, 0, 0, 0, .null), (37, .iload_n 1, 1, 0, 0, 0, 0, .null), (38, .iload_n 2, 1, 0, 0, 0, 0, .null), (39, .invokespecial 27, 3, 5, 1, 2, 0, .null), (42, .putfield 30, 3, 4, 0, 6, 1, .null), (45, .return_, 1, 0, 0, 0, 0, .null)]]
def zc70 : List (List zIn) := [[(0, .aload 4, 2, 0, 0, 0, 0, .null), (2, .aload_n 0, 1, 0, 0, 0, 0, .null), (3, .iload_n 1, 1, 0, 0, 0, 0, .null), (4, .iload_n 2, 1, 0, 0, 0, 0, .null), (5, .iload_n 3, 1, 0, 0, 0, 0, .null), (6, .invokevirtual 23, 3, 0, 71, 3, 0, .null), (9, .i2l, 1, 0, 0, 0, 0, .null), (10, .putfield 13, 3, 3, 0, 3, 0, .null), (13, .goto 11, 3, 0, 0, 0, 0, .null), (16, .astore 5, 2, 0, 0, 0, 0, .null), (18, .iconst 1, 1, 0, 0, 0, 0, .null), (19, .ireturn, 1, 0, 0, 0, 0, .null), (20, .astore 5, 2, 0, 0, 0, 0, .null), (22, .iconst 2, 1, 0, 0, 0, 0, .null), (23, .ireturn, 1, 0, 0, 0, 0, .null), (24, .iconst 0, 1, 0, 0, 0, 0, .null), (25, .ireturn, 1, 0, 0, 0, 0, .null)]]
def zc71 : List (List zIn) := [[(0, .aload_n 0, 1, 0, 0, 0, 0, .null), (1, .iload_n 1, 1, 0, 0, 0, 0, .null), (2, .invokevirtual 51, 3, 0, 13, 1, 0, .null), (5, .getfield 55, 3, 4, 0, 6, 1, .null), (8, .astore 4, 2, 0, 0, 0, 0, .null), (10, .aload 4, 2, 0, 0, 0, 0, .null), (12, .iload_n 2, 1, 0, 0, 0, 0, .null), (13, .invokestatic 58, 3, 3, 43, 2, 0, .null), (16, .iload_n 3, 1, 0, 0, 0, 0, .null), (17, .aload 4, 2, 0, 0, 0, 0, .null), (19, .iload_n 2, 1, 0, 0, 0, 0, .null), (20, .invokevirtual 62, 3, 0, 6, 1, 1, .null), (23, .invokestatic 66, 3, 3, 72, 2, 0, .null), (26, .ifCond .ne 13, 3, 0, 0, 0, 0, .null), (29, .new 38, 3, 1000, 70, 42, 0, .null)], [(32, .dup, 1, 0, 0, 0, 0, .null), (33, .ldc 70, 2, 998, 0, 0, 0, .null), (35, .invokespecial 42, 3, 999, 0, 0, 0, .null), (38, .athrow, 1, 0, 0, 0, 0, .null), (39, .aload 4, 2, 0, 0, 0, 0, .null), (41, .iload_n 2, 1, 0, 0, 0, 0, .null), (42, .iload_n 3, 1, 0, 0, 0, 0, .null), (43, .invokevirtual 72, 3, 0, 5, 2, 1, .null), (46, .aload 4, 2, 0, 0, 0, 0, .null), (48, .iload_n 2, 1, 0, 0, 0, 0, .null), (49, .invokevirtual 75, 3, 0, 20, 1, 1, .null), (52, .invokestatic 78, 3, 3, 29, 1, 0, .null), (55, .ireturn, 1, 0, 0, 0, 0, .null)]]
def zc72 : List (List zIn) := [[(0, .iload_n 0, 1, 0, 0, 0, 0, .null), (1, .ifCond .gt 13, 3, 0, 0, 0, 0, .null), (4, .iload_n 0, 1, 0, 0, 0, 0, .null), (5, .ifCond .ne 7, 3, 0, 0, 0, 0, .null), (8, .iconst 1, 1, 0, 0, 0, 0, .null), (9, .goto 4, 3, 0, 0, 0, 0, .null), (12, .iconst 0, 1, 0, 0, 0, 0, .null), (13, .ireturn, 1, 0, 0, 0, 0, .null), (14, .iconst (-1), 1, 0, 0, 0, 0, .null), (15, .istore_n 2, 1, 0, 0, 0, 0, .null), (16, .iload_n 0, 1, 0, 0, 0, 0, .null), (17, .istore_n 3, 1, 0, 0, 0, 0, .null), (18, .iload_n 3, 1, 0, 0, 0, 0, .null), (19, .ifCond .le 29, 3, 0, 0, 0, 0, .null), (22, .iload_n 3, 1, 0, 0, 0, 0, .null), (23, .bipush 10, 2, 0, 0, 0, 0, .null), (25, .irem, 1, 0, 0, 0, 0, .null), (26, .ifCond .ne 5, 3, 0, 0, 0, 0, .null), (29, .iconst 0, 1, 0, 0, 0, 0, .null), (30, .ireturn, 1, 0, 0, 0, 0, .null), (31, .iload_n 2, 1, 0, 0, 0, 0, .null)], [(32, .iload_n 3, 1, 0, 0, 0, 0, .null), (33, .bipush 10, 2, 0, 0, 0, 0, .null), (35, .irem, 1, 0, 0, 0, 0, .null), (36, .iconst 1, 1, 0, 0, 0, 0, .null), (37, .iadd, 1, 0, 0, 0, 0, .null), (38, .iadd, 1, 0, 0, 0, 0, .null), (39, .istore_n 2, 1, 0, 0, 0, 0, .null), (40, .iload_n 3, 1, 0, 0, 0, 0, .null), (41, .bipush 10, 2, 0, 0, 0, 0, .null), (43, .idiv, 1, 0, 0, 0, 0, .null), (44, .istore_n 3, 1, 0, 0, 0, 0, .null), (45, .goto (-27), 3, 0, 0, 0, 0, .null), (48, .iload_n 2, 1, 0, 0, 0, 0, .null), (49, .iload_n 1, 1, 0, 0, 0, 0, .null), (50, .if_icmp .gt 7, 3, 0, 0, 0, 0, .null), (53, .iconst 1, 1, 0, 0, 0, 0, .null), (54, .goto 4, 3, 0, 0, 0, 0, .null), (57, .iconst 0, 1, 0, 0, 0, 0, .null), (58, .ireturn, 1, 0, 0, 0, 0, .null)]]
def zc73 : List (List zIn) := [[(0, .aload_n 3, 1, 0, 0, 0, 0, .null), (1, .aload_n 0, 1, 0, 0, 0, 0, .null), (2, .iload_n 1, 1, 0, 0, 0, 0, .null), (3, .iload_n 2, 1, 0, 0, 0, 0, .null), (4, .invokevirtual 29, 3, 0, 74, 2, 0, .null), (7, .i2l, 1, 0, 0, 0, 0, .null), (8, .putfield 13, 3, 3, 0, 3, 0, .null), (11, .goto 7, 3, 0, 0, 0, 0, .null), (14, .astore 4, 2, 0, 0, 0, 0, .null), (16, .iconst 1, 1, 0, 0, 0, 0, .null), (17, .ireturn, 1, 0, 0, 0, 0, .null), (18, .iconst 0, 1, 0, 0, 0, 0, .null), (19, .ireturn, 1, 0, 0, 0, 0, .null)]]
def zc74 : List (List zIn) := [[(0, .aload_n 0, 1, 0, 0, 0, 0, .null), (1, .iload_n 1, 1, 0, 0, 0, 0, .null), (2, .invokevirtual 51, 3, 0, 13, 1, 0, .null), (5, .getfield 55, 3, 4, 0, 6, 1, .null), (8, .astore_n 3, 1, 0, 0, 0, 0, .null), (9, .aload_n 3, 1, 0, 0, 0, 0, .null), (10, .iload_n 2, 1, 0, 0, 0, 0, .null), (11, .invokestatic 58, 3, 3, 43, 2, 0, .null), (14, .aload_n 3, 1, 0, 0, 0, 0, .null), (15, .iload_n 2, 1, 0, 0, 0, 0, .null), (16, .invokevirtual 83, 3, 0, 36, 1, 1, .null), (19, .istore 4, 2, 0, 0, 0, 0, .null), (21, .aload_n 3, 1, 0, 0, 0, 0, .null), (22, .iload_n 2, 1, 0, 0, 0, 0, .null), (23, .iconst (-1), 1, 0, 0, 0, 0, .null), (24, .invokevirtual 72, 3, 0, 5, 2, 1, .null), (27, .iload 4, 2, 0, 0, 0, 0, .null), (29, .ireturn, 1, 0, 0, 0, 0, .null)]]
def zc75 : List (List zIn) := [[(0, .aload 4, 2, 0, 0, 0, 0, .null), (2, .aload_n 0, 1, 0, 0, 0, 0, .null), (3, .iload_n 1, 1, 0, 0, 0, 0, .null), (4, .iload_n 2, 1, 0, 0, 0, 0, .null), (5, .iload_n 3, 1, 0, 0, 0, 0, .null), (6, .invokevirtual 32, 3, 0, 76, 3, 0, .null), (9, .ifCond .eq 7, 3, 0, 0, 0, 0, .null), (12, .lconst 1, 1, 0, 0, 0, 0, .null), (13, .goto 4, 3, 0, 0, 0, 0, .null), (16, .lconst 0, 1, 0, 0, 0, 0, .null), (17, .putfield 13, 3, 3, 0, 3, 0, .null), (20, .goto 11, 3, 0, 0, 0, 0, .null), (23, .astore 5, 2, 0, 0, 0, 0, .null), (25, .iconst 1, 1, 0, 0, 0, 0, .null), (26, .ireturn, 1, 0, 0, 0, 0, .null), (27, .astore 5, 2, 0, 0, 0, 0, .null), (29, .iconst 2, 1, 0, 0, 0, 0, .null), (30, .ireturn, 1, 0, 0, 0, 0, .null), (31, .iconst 0, 1, 0, 0, 0, 0, .null)], [(32, .ireturn, 1, 0, 0, 0, 0, .null)]]
def zc76 : List (List zIn) := [[(0, .aload_n 0, 1, 0, 0, 0, 0, .null), (1, .iload_n 1, 1, 0, 0, 0, 0, .null), (2, .invokevirtual 51, 3, 0, 13, 1, 0, .null), (5, .astore 4, 2, 0, 0, 0, 0, .null), (7, .aload 4, 2, 0, 0, 0, 0, .null), (9, .getfield 55, 3, 4, 0, 6, 1, .null), (12, .iload_n 2, 1, 0, 0, 0, 0, .null), (13, .invokestatic 86, 3, 3, 40, 2, 0, .null), (16, .aload 4, 2, 0, 0, 0, 0, .null), (18, .getfield 55, 3, 4, 0, 6, 1, .null), (21, .iload_n 2, 1, 0, 0, 0, 0, .null), (22, .invokestatic 89, 3, 3, 77, 2, 0, .null), (25, .aload_n 0, 1, 0, 0, 0, 0, .null), (26, .aload 4, 2, 0, 0, 0, 0, .null), (28, .getfield 55, 3, 4, 0, 6, 1, .null), (31, .iload_n 2, 1, 0, 0, 0, 0, .null)], [(32, .iload_n 3, 1, 0, 0, 0, 0, .null), (33, .invokevirtual 92, 3, 0, 78, 3, 0, .null), (36, .aload_n 0, 1, 0, 0, 0, 0, .null), (37, .getfield 27, 3, 0, 2, 6, 1, .null), (40, .aload_n 0, 1, 0, 0, 0, 0, .null), (41, .getfield 20, 3, 0, 1, 6, 1, .null), (44, .iconst 1, 1, 0, 0, 0, 0, .null), (45, .invokevirtual 96, 3, 0, 22, 2, 2, .null), (48, .getfield 100, 3, 2, 10, 0, 0, .null), (51, .ifCond .ne 16, 3, 0, 0, 0, 0, .null), (54, .aload 4, 2, 0, 0, 0, 0, .null), (56, .dup, 1, 0, 0, 0, 0, .null), (57, .getfield 103, 3, 4, 5, 0, 0, .null), (60, .iconst 1, 1, 0, 0, 0, 0, .null), (61, .iadd, 1, 0, 0, 0, 0, .null), (62, .putfield 103, 3, 4, 5, 0, 0, .null)], [(65, .iconst 0, 1, 0, 0, 0, 0, .null), (66, .ireturn, 1, 0, 0, 0, 0, .null), (67, .aload 4, 2, 0, 0, 0, 0, .null), (69, .getfield 55, 3, 4, 0, 6, 1, .null), (72, .iload_n 2, 1, 0, 0, 0, 0, .null), (73, .iload_n 3, 1, 0, 0, 0, 0, .null), (74, .invokestatic 106, 3, 3, 79, 1, 0, .null), (77, .iconst (-1), 1, 0, 0, 0, 0, .null), (78, .iconst 0, 1, 0, 0, 0, 0, .null), (79, .aload 4, 2, 0, 0, 0, 0, .null), (81, .getfield 110, 3, 4, 4, 0, 0, .null), (84, .invokevirtual 113, 3, 0, 3, 5, 1, .null), (87, .iconst 1, 1, 0, 0, 0, 0, .null), (88, .ireturn, 1, 0, 0, 0, 0, .null)]]
def zc77 : List (List zIn) := [[(0, .aload_n 0, 1, 0, 0, 0, 0, .null), (1, .iload_n 1, 1, 0, 0, 0, 0, .null), (2, .invokevirtual 135, 3, 0, 16, 1, 1, .null), (5, .ifCond .eq 14, 3, 0, 0, 0, 0, .null), (8, .new 45, 3, 1001, 321, 49, 1, .null), (11, .dup, 1, 0, 0, 0, 0, .null), (12, .ldc_w 321, 3, 998, 0, 0, 0, .null), (15, .invokespecial 49, 3, 999, 0, 0, 0, .null), (18, .athrow, 1, 0, 0, 0, 0, .null), (19, .return_, 1, 0, 0, 0, 0, .null)]]
def zc78 : List (List zIn) := [[(0, .aload_n 0, 1, 0, 0, 0, 0, .null), (1, .getfield 20, 3, 0, 1, 6, 1, .null), (4, .aload_n 1, 1, 0, 0, 0, 0, .null), (5, .invokevirtual 147, 3, 0, 24, 1, 1, .null), (8, .aload_n 0, 1, 0, 0, 0, 0, .null), (9, .getfield 20, 3, 0, 1, 6, 1, .null), (12, .iload_n 2, 1, 0, 0, 0, 0, .null), (13, .iload_n 3, 1, 0, 0, 0, 0, .null), (14, .invokestatic 106, 3, 3, 79, 1, 0, .null), (17, .iconst (-1), 1, 0, 0, 0, 0, .null), (18, .iconst 0, 1, 0, 0, 0, 0, .null), (19, .iconst 0, 1, 0, 0, 0, 0, .null), (20, .invokevirtual 113, 3, 0, 3, 5, 1, .null), (23, .return_, 1, 0, 0, 0, 0, .null)]]
def zc79 : List (List zIn) := [[(0, .iload_n 0, 1, 0, 0, 0, 0, .null), (1, .ifCond .eq 7, 3, 0, 0, 0, 0, .null), (4, .iconst 1, 1, 0, 0, 0, 0, .null), (5, .goto 4, 3, 0, 0, 0, 0, .null), (8, .iconst 2, 1, 0, 0, 0, 0, .null), (9, .ireturn, 1, 0, 0, 0, 0, .null)]]
def zc80 : List (List zIn) := [[(0, .aload_n 2, 1, 0, 0, 0, 0, .null), (1, .aload_n 0, 1, 0, 0, 0, 0, .null), (2, .iload_n 1, 1, 0, 0, 0, 0, .null), (3, .invokevirtual 36, 3, 0, 81, 1, 0, .null), (6, .i2l, 1, 0, 0, 0, 0, .null), (7, .putfield 13, 3, 3, 0, 3, 0, .null), (10, .goto 6, 3, 0, 0, 0, 0, .null), (13, .astore_n 3, 1, 0, 0, 0, 0, .null), (14, .iconst 1, 1, 0, 0, 0, 0, .null), (15, .ireturn, 1, 0, 0, 0, 0, .null), (16, .iconst 0, 1, 0, 0, 0, 0, .null), (17, .ireturn, 1, 0, 0, 0, 0, .null)]]
def zc81 : List (List zIn) := [[(0, .aload_n 0, 1, 0, 0, 0, 0, .null), (1, .iload_n 1, 1, 0, 0, 0, 0, .null), (2, .invokevirtual 51, 3, 0, 13, 1, 0, .null), (5, .astore_n 2, 1, 0, 0, 0, 0, .null), (6, .aload_n 2, 1, 0, 0, 0, 0, .null), (7, .dup, 1, 0, 0, 0, 0, .null), (8, .getfield 117, 3, 4, 6, 0, 0, .null), (11, .iconst 1, 1, 0, 0, 0, 0, .null), (12, .iadd, 1, 0, 0, 0, 0, .null), (13, .putfield 117, 3, 4, 6, 0, 0, .null), (16, .aload_n 2, 1, 0, 0, 0, 0, .null), (17, .getfield 55, 3, 4, 0, 6, 1, .null), (20, .aload_n 2, 1, 0, 0, 0, 0, .null), (21, .getfield 110, 3, 4, 4, 0, 0, .null), (24, .invokevirtual 120, 3, 0, 25, 1, 1, .null), (27, .ireturn, 1, 0, 0, 0, 0, .null)]]
def zc82 : List (List zIn) := [[(0, .aload 4, 2, 0, 0, 0, 0, .null), (2, .aload_n 0, 1, 0, 0, 0, 0, .null), (3, .iload_n 1, 1, 0, 0, 0, 0, .null), (4, .iload_n 2, 1, 0, 0, 0, 0, .null), (5, .iload_n 3, 1, 0, 0, 0, 0, .null), (6, .invokevirtual 40, 3, 0, 83, 3, 0, .null), (9, .i2l, 1, 0, 0, 0, 0, .null), (10, .putfield 13, 3, 3, 0, 3, 0, .null), (13, .goto 11, 3, 0, 0, 0, 0, .null), (16, .astore 5, 2, 0, 0, 0, 0, .null), (18, .iconst 1, 1, 0, 0, 0, 0, .null), (19, .ireturn, 1, 0, 0, 0, 0, .null), (20, .astore 5, 2, 0, 0, 0, 0, .null), (22, .iconst 2, 1, 0, 0, 0, 0, .null), (23, .ireturn, 1, 0, 0, 0, 0, .null), (24, .iconst 0, 1, 0, 0, 0, 0, .null), (25, .ireturn, 1, 0, 0, 0, 0, .null)]]
def zc83 : List (List zIn) := [[(0, .aload_n 0, 1, 0, 0, 0, 0, .null), (1, .iload_n 1, 1, 0, 0, 0, 0, .null), (2, .invokevirtual 51, 3, 0, 13, 1, 0, .null), (5, .astore 4, 2, 0, 0, 0, 0, .null), (7, .aload 4, 2, 0, 0, 0, 0, .null), (9, .getfield 55, 3, 4, 0, 6, 1, .null), (12, .iload_n 2, 1, 0, 0, 0, 0, .null), (13, .invokestatic 86, 3, 3, 40, 2, 0, .null), (16, .aload 4, 2, 0, 0, 0, 0, .null), (18, .getfield 55, 3, 4, 0, 6, 1, .null), (21, .iload_n 2, 1, 0, 0, 0, 0, .null), (22, .invokestatic 89, 3, 3, 77, 2, 0, .null), (25, .aload 4, 2, 0, 0, 0, 0, .null), (27, .getfield 110, 3, 4, 4, 0, 0, .null), (30, .bipush 6, 2, 0, 0, 0, 0, .null)], [(32, .if_icmp .lt 13, 3, 0, 0, 0, 0, .null), (35, .new 45, 3, 1001, 123, 49, 0, .null), (38, .dup, 1, 0, 0, 0, 0, .null), (39, .ldc 123, 2, 998, 0, 0, 0, .null), (41, .invokespecial 49, 3, 999, 0, 0, 0, .null), (44, .athrow, 1, 0, 0, 0, 0, .null), (45, .aload 4, 2, 0, 0, 0, 0, .null), (47, .iload_n 2, 1, 0, 0, 0, 0, .null), (48, .invokevirtual 125, 3, 0, 84, 1, 4, .null), (51, .aload 4, 2, 0, 0, 0, 0, .null), (53, .getfield 55, 3, 4, 0, 6, 1, .null), (56, .iload_n 2, 1, 0, 0, 0, 0, .null), (57, .iload_n 3, 1, 0, 0, 0, 0, .null), (58, .invokestatic 106, 3, 3, 79, 1, 0, .null), (61, .iconst (-1), 1, 0, 0, 0, 0, .null), (62, .iconst 0, 1, 0, 0, 0, 0, .null), (63, .aload 4, 2, 0, 0, 0, 0, .null)], [(65, .getfield 110, 3, 4, 4, 0, 0, .null), (68, .invokevirtual 113, 3, 0, 3, 5, 1, .null), (71, .aload 4, 2, 0, 0, 0, 0, .null), (73, .getfield 110, 3, 4, 4, 0, 0, .null), (76, .ireturn, 1, 0, 0, 0, 0, .null)]]
def zc84 : List (List zIn) := [[(0, .aload_n 0, 1, 0, 0, 0, 0, .null), (1, .getfield 34, 3, 4, 4, 0, 0, .null), (4, .ifCond .lt 68, 3, 0, 0, 0, 0, .null), (7, .aload_n 0, 1, 0, 0, 0, 0, .null), (8, .getfield 34, 3, 4, 4, 0, 0, .null), (11, .bipush 6, 2, 0, 0, 0, 0, .null), (13, .if_icmp .ge 59, 3, 0, 0, 0, 0, .null), (16, .aload_n 0, 1, 0, 0, 0, 0, .null), (17, .getfield 30, 3, 4, 0, 6, 1, .null), (20, .getfield 38, 3, 1, 0, 7, 1, .null), (23, .iconst 0, 1, 0, 0, 0, 0, .null), (24, .aload_n 0, 1, 0, 0, 0, 0, .null), (25, .getfield 18, 3, 4, 2, 7, 1, .null), (28, .aload_n 0, 1, 0, 0, 0, 0, .null), (29, .getfield 34, 3, 4, 4, 0, 0, .null)], [(32, .aload_n 0, 1, 0, 0, 0, 0, .null), (33, .getfield 30, 3, 4, 0, 6, 1, .null), (36, .getfield 38, 3, 1, 0, 7, 1, .null), (39, .arraylength, 1, 0, 0, 0, 0, .null), (40, .imul, 1, 0, 0, 0, 0, .null), (41, .aload_n 0, 1, 0, 0, 0, 0, .null), (42, .getfield 30, 3, 4, 0, 6, 1, .null), (45, .getfield 38, 3, 1, 0, 7, 1, .null), (48, .arraylength, 1, 0, 0, 0, 0, .null), (49, .invokestatic 41, 3, 21, 0, 5, 0, .null), (52, .aload_n 0, 1, 0, 0, 0, 0, .null), (53, .getfield 22, 3, 4, 3, 7, 1, .null), (56, .aload_n 0, 1, 0, 0, 0, 0, .null), (57, .getfield 34, 3, 4, 4, 0, 0, .null), (60, .iload_n 1, 1, 0, 0, 0, 0, .null), (61, .iastore, 1, 0, 0, 0, 0, .null), (62, .aload_n 0, 1, 0, 0, 0, 0, .null), (63, .dup, 1, 0, 0, 0, 0, .null)], [(64, .getfield 34, 3, 4, 4, 0, 0, .null), (67, .iconst 1, 1, 0, 0, 0, 0, .null), (68, .iadd, 1, 0, 0, 0, 0, .null), (69, .putfield 34, 3, 4, 4, 0, 0, .null), (72, .return_, 1, 0, 0, 0, 0, .null)]]
def zc85 : List (List zIn) := [[(0, .aload_n 3, 1, 0, 0, 0, 0, .null), (1, .aload_n 0, 1, 0, 0, 0, 0, .null), (2, .iload_n 1, 1, 0, 0, 0, 0, .null), (3, .iload_n 2, 1, 0, 0, 0, 0, .null), (4, .invokevirtual 44, 3, 0, 86, 2, 0, .null), (7, .i2l, 1, 0, 0, 0, 0, .null), (8, .putfield 13, 3, 3, 0, 3, 0, .null), (11, .goto 11, 3, 0, 0, 0, 0, .null), (14, .astore 4, 2, 0, 0, 0, 0, .null), (16, .iconst 1, 1, 0, 0, 0, 0, .null), (17, .ireturn, 1, 0, 0, 0, 0, .null), (18, .astore 4, 2, 0, 0, 0, 0, .null), (20, .iconst 2, 1, 0, 0, 0, 0, .null), (21, .ireturn, 1, 0, 0, 0, 0, .null), (22, .iconst 0, 1, 0, 0, 0, 0, .null), (23, .ireturn, 1, 0, 0, 0, 0, .null)]]
def zc86 : List (List zIn) := [[(0, .aload_n 0, 1, 0, 0, 0, 0, .null), (1, .iload_n 1, 1, 0, 0, 0, 0, .null), (2, .invokevirtual 51, 3, 0, 13, 1, 0, .null), (5, .astore_n 3, 1, 0, 0, 0, 0, .null), (6, .aload_n 3, 1, 0, 0, 0, 0, .null), (7, .getfield 110, 3, 4, 4, 0, 0, .null), (10, .ifCond .gt 13, 3, 0, 0, 0, 0, .null), (13, .new 45, 3, 1001, 129, 49, 0, .null), (16, .dup, 1, 0, 0, 0, 0, .null), (17, .ldc 129, 2, 998, 0, 0, 0, .null), (19, .invokespecial 49, 3, 999, 0, 0, 0, .null), (22, .athrow, 1, 0, 0, 0, 0, .null), (23, .aload_n 3, 1, 0, 0, 0, 0, .null), (24, .invokevirtual 131, 3, 0, 87, 0, 4, .null), (27, .istore 4, 2, 0, 0, 0, 0, .null), (29, .iconst 3, 1, 0, 0, 0, 0, .null), (30, .aload_n 3, 1, 0, 0, 0, 0, .null), (31, .getfield 55, 3, 4, 0, 6, 1, .null)], [(34, .iload 4, 2, 0, 0, 0, 0, .null), (36, .invokevirtual 135, 3, 0, 16, 1, 1, .null), (39, .isub, 1, 0, 0, 0, 0, .null), (40, .istore 5, 2, 0, 0, 0, 0, .null), (42, .aload_n 3, 1, 0, 0, 0, 0, .null), (43, .invokevirtual 138, 3, 0, 88, 0, 4, .null), (46, .iload_n 2, 1, 0, 0, 0, 0, .null), (47, .ifCond .eq 21, 3, 0, 0, 0, 0, .null), (50, .aload_n 3, 1, 0, 0, 0, 0, .null), (51, .getfield 55, 3, 4, 0, 6, 1, .null), (54, .iload 4, 2, 0, 0, 0, 0, .null), (56, .iload 5, 2, 0, 0, 0, 0, .null), (58, .bipush (-2), 2, 0, 0, 0, 0, .null), (60, .iconst 0, 1, 0, 0, 0, 0, .null), (61, .aload_n 3, 1, 0, 0, 0, 0, .null), (62, .getfield 110, 3, 4, 4, 0, 0, .null)], [(65, .invokevirtual 113, 3, 0, 3, 5, 1, .null), (68, .iload 4, 2, 0, 0, 0, 0, .null), (70, .ireturn, 1, 0, 0, 0, 0, .null)]]
def zc87 : List (List zIn) := [[(0, .aload_n 0, 1, 0, 0, 0, 0, .null), (1, .getfield 34, 3, 4, 4, 0, 0, .null), (4, .ifCond .le 29, 3, 0, 0, 0, 0, .null), (7, .aload_n 0, 1, 0, 0, 0, 0, .null), (8, .getfield 34, 3, 4, 4, 0, 0, .null), (11, .aload_n 0, 1, 0, 0, 0, 0, .null), (12, .getfield 22, 3, 4, 3, 7, 1, .null), (15, .arraylength, 1, 0, 0, 0, 0, .null), (16, .if_icmp .gt 17, 3, 0, 0, 0, 0, .null), (19, .aload_n 0, 1, 0, 0, 0, 0, .null), (20, .getfield 22, 3, 4, 3, 7, 1, .null), (23, .aload_n 0, 1, 0, 0, 0, 0, .null), (24, .getfield 34, 3, 4, 4, 0, 0, .null), (27, .iconst 1, 1, 0, 0, 0, 0, .null), (28, .isub, 1, 0, 0, 0, 0, .null), (29, .iaload, 1, 0, 0, 0, 0, .null), (30, .goto 4, 3, 0, 0, 0, 0, .null)], [(33, .iconst (-1), 1, 0, 0, 0, 0, .null), (34, .ireturn, 1, 0, 0, 0, 0, .null)]]
def zc88 : List (List zIn) := [[(0, .aload_n 0, 1, 0, 0, 0, 0, .null), (1, .getfield 34, 3, 4, 4, 0, 0, .null), (4, .ifCond .le 58, 3, 0, 0, 0, 0, .null), (7, .aload_n 0, 1, 0, 0, 0, 0, .null), (8, .getfield 34, 3, 4, 4, 0, 0, .null), (11, .bipush 6, 2, 0, 0, 0, 0, .null), (13, .if_icmp .gt 49, 3, 0, 0, 0, 0, .null), (16, .aload_n 0, 1, 0, 0, 0, 0, .null), (17, .dup, 1, 0, 0, 0, 0, .null), (18, .getfield 34, 3, 4, 4, 0, 0, .null), (21, .iconst 1, 1, 0, 0, 0, 0, .null), (22, .isub, 1, 0, 0, 0, 0, .null), (23, .putfield 34, 3, 4, 4, 0, 0, .null), (26, .aload_n 0, 1, 0, 0, 0, 0, .null), (27, .getfield 18, 3, 4, 2, 7, 1, .null), (30, .aload_n 0, 1, 0, 0, 0, 0, .null), (31, .getfield 34, 3, 4, 4, 0, 0, .null)], [(34, .aload_n 0, 1, 0, 0, 0, 0, .null), (35, .getfield 30, 3, 4, 0, 6, 1, .null), (38, .getfield 38, 3, 1, 0, 7, 1, .null), (41, .arraylength, 1, 0, 0, 0, 0, .null), (42, .imul, 1, 0, 0, 0, 0, .null), (43, .aload_n 0, 1, 0, 0, 0, 0, .null), (44, .getfield 30, 3, 4, 0, 6, 1, .null), (47, .getfield 38, 3, 1, 0, 7, 1, .null), (50, .iconst 0, 1, 0, 0, 0, 0, .null), (51, .aload_n 0, 1, 0, 0, 0, 0, .null), (52, .getfield 30, 3, 4, 0, 6, 1, .null), (55, .getfield 38, 3, 1, 0, 7, 1, .null), (58, .arraylength, 1, 0, 0, 0, 0, .null), (59, .invokestatic 41, 3, 21, 0, 5, 0, .null), (62, .return_, 1, 0, 0, 0, 0, .null)]]
def zc89 : List (List zIn) := [[(0, .aload_n 3, 1, 0, 0, 0, 0, .null), (1, .aload_n 0, 1, 0, 0, 0, 0, .null), (2, .iload_n 1, 1, 0, 0, 0, 0, .null), (3, .iload_n 2, 1, 0, 0, 0, 0, .null), (4, .invokevirtual 48, 3, 0, 90, 2, 0, .null), (7, .i2l, 1, 0, 0, 0, 0, .null), (8, .putfield 13, 3, 3, 0, 3, 0, .null), (11, .goto 15, 3, 0, 0, 0, 0, .null), (14, .astore 4, 2, 0, 0, 0, 0, .null), (16, .iconst 1, 1, 0, 0, 0, 0, .null), (17, .ireturn, 1, 0, 0, 0, 0, .null), (18, .astore 4, 2, 0, 0, 0, 0, .null), (20, .iconst 2, 1, 0, 0, 0, 0, .null), (21, .ireturn, 1, 0, 0, 0, 0, .null), (22, .astore 4, 2, 0, 0, 0, 0, .null), (24, .iconst 3, 1, 0, 0, 0, 0, .null), (25, .ireturn, 1, 0, 0, 0, 0, .null), (26, .iconst 0, 1, 0, 0, 0, 0, .null), (27, .ireturn, 1, 0, 0, 0, 0, .null)]]
def zc90 : List (List zIn) := [[(0, .aload_n 0, 1, 0, 0, 0, 0, .null), (1, .iload_n 1, 1, 0, 0, 0, 0, .null), (2, .invokevirtual 51, 3, 0, 13, 1, 0, .null), (5, .astore_n 3, 1, 0, 0, 0, 0, .null), (6, .iload_n 2, 1, 0, 0, 0, 0, .null), (7, .ifCond .lt 8, 3, 0, 0, 0, 0, .null), (10, .iload_n 2, 1, 0, 0, 0, 0, .null), (11, .iconst 2, 1, 0, 0, 0, 0, .null), (12, .if_icmp .le 13, 3, 0, 0, 0, 0, .null), (15, .new 38, 3, 1000, 141, 42, 0, .null), (18, .dup, 1, 0, 0, 0, 0, .null), (19, .ldc 141, 2, 998, 0, 0, 0, .null), (21, .invokespecial 42, 3, 999, 0, 0, 0, .null), (24, .athrow, 1, 0, 0, 0, 0, .null), (25, .aload_n 3, 1, 0, 0, 0, 0, .null), (26, .invokestatic 143, 3, 3, 91, 1, 0, .null), (29, .aload_n 0, 1, 0, 0, 0, 0, .null), (30, .getfield 20, 3, 0, 1, 6, 1, .null)], [(33, .aload_n 3, 1, 0, 0, 0, 0, .null), (34, .getfield 55, 3, 4, 0, 6, 1, .null), (37, .invokevirtual 147, 3, 0, 24, 1, 1, .null), (40, .aload_n 3, 1, 0, 0, 0, 0, .null), (41, .getfield 55, 3, 4, 0, 6, 1, .null), (44, .aload_n 0, 1, 0, 0, 0, 0, .null), (45, .getfield 20, 3, 0, 1, 6, 1, .null), (48, .iload_n 2, 1, 0, 0, 0, 0, .null), (49, .invokevirtual 151, 3, 0, 92, 2, 1, .null), (52, .aload_n 3, 1, 0, 0, 0, 0, .null), (53, .getfield 55, 3, 4, 0, 6, 1, .null), (56, .getfield 154, 3, 1, 3, 0, 0, .null), (59, .ireturn, 1, 0, 0, 0, 0, .null)]]
def zc91 : List (List zIn) := [[(0, .aload_n 0, 1, 0, 0, 0, 0, .null), (1, .getfield 110, 3, 4, 4, 0, 0, .null), (4, .ifCond .le 14, 3, 0, 0, 0, 0, .null), (7, .new 45, 3, 1001, 323, 49, 1, .null), (10, .dup, 1, 0, 0, 0, 0, .null), (11, .ldc_w 323, 3, 998, 0, 0, 0, .null), (14, .invokespecial 49, 3, 999, 0, 0, 0, .null), (17, .athrow, 1, 0, 0, 0, 0, .null), (18, .return_, 1, 0, 0, 0, 0, .null)]]
def zc92 : List (List zIn) := [[(0, .aload_n 0, 1, 0, 0, 0, 0, .null), (1, .iload_n 2, 1, 0, 0, 0, 0, .null), (2, .iconst 2, 1, 0, 0, 0, 0, .null), (3, .if_icmp .ne 10, 3, 0, 0, 0, 0, .null), (6, .aload_n 1, 1, 0, 0, 0, 0, .null), (7, .getfield 25, 3, 1, 4, 0, 0, .null), (10, .goto 7, 3, 0, 0, 0, 0, .null), (13, .aload_n 1, 1, 0, 0, 0, 0, .null), (14, .getfield 21, 3, 1, 3, 0, 0, .null), (17, .putfield 21, 3, 1, 3, 0, 0, .null), (20, .aload_n 0, 1, 0, 0, 0, 0, .null), (21, .iload_n 2, 1, 0, 0, 0, 0, .null), (22, .iconst 2, 1, 0, 0, 0, 0, .null), (23, .if_icmp .ne 10, 3, 0, 0, 0, 0, .null), (26, .aload_n 1, 1, 0, 0, 0, 0, .null), (27, .getfield 21, 3, 1, 3, 0, 0, .null), (30, .goto 7, 3, 0, 0, 0, 0, .null)], [(33, .aload_n 1, 1, 0, 0, 0, 0, .null), (34, .getfield 25, 3, 1, 4, 0, 0, .null), (37, .putfield 25, 3, 1, 4, 0, 0, .null), (40, .iconst 0, 1, 0, 0, 0, 0, .null), (41, .istore_n 3, 1, 0, 0, 0, 0, .null), (42, .iload_n 3, 1, 0, 0, 0, 0, .null), (43, .aload_n 1, 1, 0, 0, 0, 0, .null), (44, .getfield 25, 3, 1, 4, 0, 0, .null), (47, .if_icmp .ge 36, 3, 0, 0, 0, 0, .null), (50, .iconst 0, 1, 0, 0, 0, 0, .null), (51, .istore 4, 2, 0, 0, 0, 0, .null), (53, .iload 4, 2, 0, 0, 0, 0, .null), (55, .aload_n 1, 1, 0, 0, 0, 0, .null), (56, .getfield 21, 3, 1, 3, 0, 0, .null), (59, .if_icmp .ge 18, 3, 0, 0, 0, 0, .null), (62, .aload_n 0, 1, 0, 0, 0, 0, .null), (63, .aload_n 1, 1, 0, 0, 0, 0, .null)], [(64, .iload_n 3, 1, 0, 0, 0, 0, .null), (65, .iload 4, 2, 0, 0, 0, 0, .null), (67, .iload_n 2, 1, 0, 0, 0, 0, .null), (68, .invokevirtual 103, 3, 0, 93, 4, 1, .null), (71, .iinc 4 1, 3, 0, 0, 0, 0, .null), (74, .goto (-21), 3, 0, 0, 0, 0, .null), (77, .iinc 3 1, 3, 0, 0, 0, 0, .null), (80, .goto (-38), 3, 0, 0, 0, 0, .null), (83, .iconst 0, 1, 0, 0, 0, 0, .null), (84, .istore_n 3, 1, 0, 0, 0, 0, .null), (85, .iload_n 3, 1, 0, 0, 0, 0, .null), (86, .aload_n 1, 1, 0, 0, 0, 0, .null), (87, .invokevirtual 31, 3, 0, 4, 0, 1, .null), (90, .if_icmp .ge 45, 3, 0, 0, 0, 0, .null), (93, .aload_n 1, 1, 0, 0, 0, 0, .null), (94, .iload_n 3, 1, 0, 0, 0, 0, .null), (95, .invokevirtual 91, 3, 0, 36, 1, 1, .null)], [(98, .istore 4, 2, 0, 0, 0, 0, .null), (100, .aload_n 0, 1, 0, 0, 0, 0, .null), (101, .aload_n 1, 1, 0, 0, 0, 0, .null), (102, .iload_n 3, 1, 0, 0, 0, 0, .null), (103, .iload_n 2, 1, 0, 0, 0, 0, .null), (104, .invokevirtual 107, 3, 0, 64, 2, 1, .null), (107, .aload_n 1, 1, 0, 0, 0, 0, .null), (108, .iload_n 3, 1, 0, 0, 0, 0, .null), (109, .iload_n 2, 1, 0, 0, 0, 0, .null), (110, .invokevirtual 110, 3, 0, 63, 2, 1, .null), (113, .ifCond .eq 11, 3, 0, 0, 0, 0, .null), (116, .iload 4, 2, 0, 0, 0, 0, .null), (118, .invokestatic 113, 3, 4, 65, 1, 0, .null), (121, .goto 5, 3, 0, 0, 0, 0, .null), (124, .iload 4, 2, 0, 0, 0, 0, .null), (126, .invokevirtual 35, 3, 0, 5, 2, 1, .null)], [(129, .iinc 3 1, 3, 0, 0, 0, 0, .null), (132, .goto (-47), 3, 0, 0, 0, 0, .null), (135, .return_, 1, 0, 0, 0, 0, .null)]]
def zc93 : List (List zIn) := [[(0, .iload 4, 2, 0, 0, 0, 0, .null), (2, .iconst 2, 1, 0, 0, 0, 0, .null), (3, .if_icmp .ne 7, 3, 0, 0, 0, 0, .null), (6, .iload_n 3, 1, 0, 0, 0, 0, .null), (7, .goto 20, 3, 0, 0, 0, 0, .null), (10, .iload 4, 2, 0, 0, 0, 0, .null), (12, .ifCond .ne 14, 3, 0, 0, 0, 0, .null), (15, .aload_n 0, 1, 0, 0, 0, 0, .null), (16, .getfield 25, 3, 1, 4, 0, 0, .null), (19, .iconst 1, 1, 0, 0, 0, 0, .null), (20, .isub, 1, 0, 0, 0, 0, .null), (21, .iload_n 2, 1, 0, 0, 0, 0, .null), (22, .isub, 1, 0, 0, 0, 0, .null), (23, .goto 4, 3, 0, 0, 0, 0, .null), (26, .iload_n 2, 1, 0, 0, 0, 0, .null), (27, .istore 5, 2, 0, 0, 0, 0, .null), (29, .iload 4, 2, 0, 0, 0, 0, .null), (31, .iconst 2, 1, 0, 0, 0, 0, .null)], [(32, .if_icmp .ne 7, 3, 0, 0, 0, 0, .null), (35, .iload_n 2, 1, 0, 0, 0, 0, .null), (36, .goto 11, 3, 0, 0, 0, 0, .null), (39, .aload_n 0, 1, 0, 0, 0, 0, .null), (40, .getfield 21, 3, 1, 3, 0, 0, .null), (43, .iconst 1, 1, 0, 0, 0, 0, .null), (44, .isub, 1, 0, 0, 0, 0, .null), (45, .iload_n 3, 1, 0, 0, 0, 0, .null), (46, .isub, 1, 0, 0, 0, 0, .null), (47, .istore 6, 2, 0, 0, 0, 0, .null), (49, .aload_n 1, 1, 0, 0, 0, 0, .null), (50, .iload_n 2, 1, 0, 0, 0, 0, .null), (51, .iload_n 3, 1, 0, 0, 0, 0, .null), (52, .invokevirtual 51, 3, 0, 21, 2, 1, .null), (55, .istore 7, 2, 0, 0, 0, 0, .null), (57, .aload_n 1, 1, 0, 0, 0, 0, .null), (58, .iload 7, 2, 0, 0, 0, 0, .null), (60, .iconst 1, 1, 0, 0, 0, 0, .null), (61, .invokevirtual 116, 3, 0, 41, 2, 1, .null)], [(64, .istore 8, 2, 0, 0, 0, 0, .null), (66, .iload 8, 2, 0, 0, 0, 0, .null), (68, .ifCond .ge 8, 3, 0, 0, 0, 0, .null), (71, .iload 8, 2, 0, 0, 0, 0, .null), (73, .goto 11, 3, 0, 0, 0, 0, .null), (76, .aload_n 1, 1, 0, 0, 0, 0, .null), (77, .iload 8, 2, 0, 0, 0, 0, .null), (79, .iload 4, 2, 0, 0, 0, 0, .null), (81, .invokevirtual 107, 3, 0, 64, 2, 1, .null), (84, .istore 9, 2, 0, 0, 0, 0, .null), (86, .aload_n 0, 1, 0, 0, 0, 0, .null), (87, .aload_n 0, 1, 0, 0, 0, 0, .null), (88, .iload 5, 2, 0, 0, 0, 0, .null), (90, .iload 6, 2, 0, 0, 0, 0, .null), (92, .invokevirtual 51, 3, 0, 21, 2, 1, .null), (95, .aload_n 1, 1, 0, 0, 0, 0, .null)], [(96, .iload 7, 2, 0, 0, 0, 0, .null), (98, .invokevirtual 67, 3, 0, 16, 1, 1, .null), (101, .iload 9, 2, 0, 0, 0, 0, .null), (103, .aload_n 1, 1, 0, 0, 0, 0, .null), (104, .iload 7, 2, 0, 0, 0, 0, .null), (106, .iconst 2, 1, 0, 0, 0, 0, .null), (107, .invokevirtual 116, 3, 0, 41, 2, 1, .null), (110, .aload_n 1, 1, 0, 0, 0, 0, .null), (111, .iload 7, 2, 0, 0, 0, 0, .null), (113, .iconst 3, 1, 0, 0, 0, 0, .null), (114, .invokevirtual 116, 3, 0, 41, 2, 1, .null), (117, .invokevirtual 39, 3, 0, 3, 5, 1, .null), (120, .return_, 1, 0, 0, 0, 0, .null)]]
def zc94 : List (List zIn) := [[(0, .aload 4, 2, 0, 0, 0, 0, .null), (2, .aload_n 0, 1, 0, 0, 0, 0, .null), (3, .iload_n 1, 1, 0, 0, 0, 0, .null), (4, .iload_n 2, 1, 0, 0, 0, 0, .null), (5, .iload_n 3, 1, 0, 0, 0, 0, .null), (6, .invokevirtual 51, 3, 0, 95, 3, 0, .null), (9, .i2l, 1, 0, 0, 0, 0, .null), (10, .putfield 13, 3, 3, 0, 3, 0, .null), (13, .goto 15, 3, 0, 0, 0, 0, .null), (16, .astore 5, 2, 0, 0, 0, 0, .null), (18, .iconst 1, 1, 0, 0, 0, 0, .null), (19, .ireturn, 1, 0, 0, 0, 0, .null), (20, .astore 5, 2, 0, 0, 0, 0, .null), (22, .iconst 2, 1, 0, 0, 0, 0, .null), (23, .ireturn, 1, 0, 0, 0, 0, .null), (24, .astore 5, 2, 0, 0, 0, 0, .null), (26, .iconst 3, 1, 0, 0, 0, 0, .null), (27, .ireturn, 1, 0, 0, 0, 0, .null), (28, .iconst 0, 1, 0, 0, 0, 0, .null), (29, .ireturn, 1, 0, 0, 0, 0, .null)]]
def zc95 : List (List zIn) := [[(0, .aload_n 0, 1, 0, 0, 0, 0, .null), (1, .iload_n 1, 1, 0, 0, 0, 0, .null), (2, .invokevirtual 51, 3, 0, 13, 1, 0, .null), (5, .astore 4, 2, 0, 0, 0, 0, .null), (7, .iload_n 2, 1, 0, 0, 0, 0, .null), (8, .ifCond .lt 15, 3, 0, 0, 0, 0, .null), (11, .iload_n 2, 1, 0, 0, 0, 0, .null), (12, .aload 4, 2, 0, 0, 0, 0, .null), (14, .getfield 55, 3, 4, 0, 6, 1, .null), (17, .getfield 157, 3, 1, 4, 0, 0, .null), (20, .if_icmp .lt 13, 3, 0, 0, 0, 0, .null), (23, .new 160, 3, 1002, 162, 164, 0, .null), (26, .dup, 1, 0, 0, 0, 0, .null), (27, .ldc 162, 2, 998, 0, 0, 0, .null), (29, .invokespecial 164, 3, 999, 0, 0, 0, .null)], [(32, .athrow, 1, 0, 0, 0, 0, .null), (33, .iload_n 3, 1, 0, 0, 0, 0, .null), (34, .ifCond .lt 17, 3, 0, 0, 0, 0, .null), (37, .iload_n 3, 1, 0, 0, 0, 0, .null), (38, .iconst 1, 1, 0, 0, 0, 0, .null), (39, .aload 4, 2, 0, 0, 0, 0, .null), (41, .getfield 55, 3, 4, 0, 6, 1, .null), (44, .getfield 154, 3, 1, 3, 0, 0, .null), (47, .ishl, 1, 0, 0, 0, 0, .null), (48, .if_icmp .lt 13, 3, 0, 0, 0, 0, .null), (51, .new 38, 3, 1000, 165, 42, 0, .null), (54, .dup, 1, 0, 0, 0, 0, .null), (55, .ldc 165, 2, 998, 0, 0, 0, .null), (57, .invokespecial 42, 3, 999, 0, 0, 0, .null), (60, .athrow, 1, 0, 0, 0, 0, .null), (61, .aload 4, 2, 0, 0, 0, 0, .null), (63, .invokestatic 143, 3, 3, 91, 1, 0, .null)], [(66, .aload 4, 2, 0, 0, 0, 0, .null), (68, .getfield 55, 3, 4, 0, 6, 1, .null), (71, .iload_n 2, 1, 0, 0, 0, 0, .null), (72, .iload_n 3, 1, 0, 0, 0, 0, .null), (73, .invokevirtual 167, 3, 0, 96, 2, 1, .null), (76, .aload 4, 2, 0, 0, 0, 0, .null), (78, .getfield 55, 3, 4, 0, 6, 1, .null), (81, .iconst 1, 1, 0, 0, 0, 0, .null), (82, .invokevirtual 170, 3, 0, 14, 1, 1, .null), (85, .ireturn, 1, 0, 0, 0, 0, .null)]]
def zc96 : List (List zIn) := [[(0, .iconst 0, 1, 0, 0, 0, 0, .null), (1, .istore_n 3, 1, 0, 0, 0, 0, .null), (2, .iload_n 3, 1, 0, 0, 0, 0, .null), (3, .aload_n 0, 1, 0, 0, 0, 0, .null), (4, .getfield 21, 3, 1, 3, 0, 0, .null), (7, .if_icmp .ge 35, 3, 0, 0, 0, 0, .null), (10, .aload_n 0, 1, 0, 0, 0, 0, .null), (11, .aload_n 0, 1, 0, 0, 0, 0, .null), (12, .iload_n 1, 1, 0, 0, 0, 0, .null), (13, .iload_n 3, 1, 0, 0, 0, 0, .null), (14, .invokevirtual 51, 3, 0, 21, 2, 1, .null), (17, .iload_n 2, 1, 0, 0, 0, 0, .null), (18, .iload_n 3, 1, 0, 0, 0, 0, .null), (19, .invokestatic 54, 3, 4, 28, 2, 0, .null), (22, .ifCond .eq 7, 3, 0, 0, 0, 0, .null), (25, .iconst 1, 1, 0, 0, 0, 0, .null), (26, .goto 4, 3, 0, 0, 0, 0, .null), (29, .iconst 2, 1, 0, 0, 0, 0, .null), (30, .iconst (-1), 1, 0, 0, 0, 0, .null), (31, .iconst 0, 1, 0, 0, 0, 0, .null)], [(32, .iconst 0, 1, 0, 0, 0, 0, .null), (33, .invokevirtual 39, 3, 0, 3, 5, 1, .null), (36, .iinc 3 1, 3, 0, 0, 0, 0, .null), (39, .goto (-37), 3, 0, 0, 0, 0, .null), (42, .return_, 1, 0, 0, 0, 0, .null)]]
def zc97 : List (List zIn) := [[(0, .aload_n 2, 1, 0, 0, 0, 0, .null), (1, .aload_n 0, 1, 0, 0, 0, 0, .null), (2, .iload_n 1, 1, 0, 0, 0, 0, .null), (3, .invokevirtual 54, 3, 0, 98, 1, 0, .null), (6, .i2l, 1, 0, 0, 0, 0, .null), (7, .putfield 13, 3, 3, 0, 3, 0, .null), (10, .goto 9, 3, 0, 0, 0, 0, .null), (13, .astore_n 3, 1, 0, 0, 0, 0, .null), (14, .iconst 1, 1, 0, 0, 0, 0, .null), (15, .ireturn, 1, 0, 0, 0, 0, .null), (16, .astore_n 3, 1, 0, 0, 0, 0, .null), (17, .iconst 2, 1, 0, 0, 0, 0, .null), (18, .ireturn, 1, 0, 0, 0, 0, .null), (19, .iconst 0, 1, 0, 0, 0, 0, .null), (20, .ireturn, 1, 0, 0, 0, 0, .null)]]
def zc98 : List (List zIn) := [[(0, .aload_n 0, 1, 0, 0, 0, 0, .null), (1, .iload_n 1, 1, 0, 0, 0, 0, .null), (2, .invokevirtual 51, 3, 0, 13, 1, 0, .null), (5, .astore_n 2, 1, 0, 0, 0, 0, .null), (6, .aload_n 2, 1, 0, 0, 0, 0, .null), (7, .invokestatic 143, 3, 3, 91, 1, 0, .null), (10, .aload_n 2, 1, 0, 0, 0, 0, .null), (11, .getfield 55, 3, 4, 0, 6, 1, .null), (14, .iconst 0, 1, 0, 0, 0, 0, .null), (15, .invokevirtual 170, 3, 0, 14, 1, 1, .null), (18, .ifCond .le 13, 3, 0, 0, 0, 0, .null), (21, .new 45, 3, 1001, 173, 49, 0, .null), (24, .dup, 1, 0, 0, 0, 0, .null), (25, .ldc 173, 2, 998, 0, 0, 0, .null), (27, .invokespecial 49, 3, 999, 0, 0, 0, .null), (30, .athrow, 1, 0, 0, 0, 0, .null), (31, .aload_n 2, 1, 0, 0, 0, 0, .null)], [(32, .getfield 55, 3, 4, 0, 6, 1, .null), (35, .invokevirtual 175, 3, 0, 99, 0, 1, .null), (38, .istore_n 3, 1, 0, 0, 0, 0, .null), (39, .aload_n 2, 1, 0, 0, 0, 0, .null), (40, .getfield 55, 3, 4, 0, 6, 1, .null), (43, .invokevirtual 178, 3, 0, 2, 0, 1, .null), (46, .iload_n 3, 1, 0, 0, 0, 0, .null), (47, .ireturn, 1, 0, 0, 0, 0, .null)]]
def zc99 : List (List zIn) := [[(0, .iconst 0, 1, 0, 0, 0, 0, .null), (1, .istore_n 1, 1, 0, 0, 0, 0, .null), (2, .iconst 0, 1, 0, 0, 0, 0, .null), (3, .istore_n 2, 1, 0, 0, 0, 0, .null), (4, .iload_n 2, 1, 0, 0, 0, 0, .null), (5, .aload_n 0, 1, 0, 0, 0, 0, .null), (6, .invokevirtual 31, 3, 0, 4, 0, 1, .null), (9, .if_icmp .ge 31, 3, 0, 0, 0, 0, .null), (12, .aload_n 0, 1, 0, 0, 0, 0, .null), (13, .iload_n 2, 1, 0, 0, 0, 0, .null), (14, .invokevirtual 58, 3, 0, 100, 1, 1, .null), (17, .invokestatic 61, 3, 4, 101, 1, 0, .null), (20, .istore_n 3, 1, 0, 0, 0, 0, .null), (21, .aload_n 0, 1, 0, 0, 0, 0, .null), (22, .iload_n 2, 1, 0, 0, 0, 0, .null), (23, .iload_n 3, 1, 0, 0, 0, 0, .null), (24, .invokevirtual 35, 3, 0, 5, 2, 1, .null), (27, .iload_n 1, 1, 0, 0, 0, 0, .null), (28, .iload_n 3, 1, 0, 0, 0, 0, .null), (29, .invokestatic 64, 3, 4, 44, 1, 0, .null)], [(32, .iadd, 1, 0, 0, 0, 0, .null), (33, .istore_n 1, 1, 0, 0, 0, 0, .null), (34, .iinc 2 1, 3, 0, 0, 0, 0, .null), (37, .goto (-33), 3, 0, 0, 0, 0, .null), (40, .iload_n 1, 1, 0, 0, 0, 0, .null), (41, .ireturn, 1, 0, 0, 0, 0, .null)]]
def zc100 : List (List zIn) := [[(0, .iconst 0, 1, 0, 0, 0, 0, .null), (1, .istore_n 2, 1, 0, 0, 0, 0, .null), (2, .iconst 0, 1, 0, 0, 0, 0, .null), (3, .istore_n 3, 1, 0, 0, 0, 0, .null), (4, .iload_n 3, 1, 0, 0, 0, 0, .null), (5, .aload_n 0, 1, 0, 0, 0, 0, .null), (6, .iload_n 1, 1, 0, 0, 0, 0, .null), (7, .invokevirtual 43, 3, 0, 6, 1, 1, .null), (10, .if_icmp .ge 29, 3, 0, 0, 0, 0, .null), (13, .aload_n 0, 1, 0, 0, 0, 0, .null), (14, .aload_n 0, 1, 0, 0, 0, 0, .null), (15, .iload_n 1, 1, 0, 0, 0, 0, .null), (16, .iload_n 3, 1, 0, 0, 0, 0, .null), (17, .invokevirtual 51, 3, 0, 21, 2, 1, .null), (20, .invokevirtual 67, 3, 0, 16, 1, 1, .null), (23, .iconst 1, 1, 0, 0, 0, 0, .null), (24, .if_icmp .ne 9, 3, 0, 0, 0, 0, .null), (27, .iload_n 2, 1, 0, 0, 0, 0, .null), (28, .iconst 1, 1, 0, 0, 0, 0, .null), (29, .iload_n 3, 1, 0, 0, 0, 0, .null), (30, .ishl, 1, 0, 0, 0, 0, .null), (31, .ior, 1, 0, 0, 0, 0, .null)], [(32, .istore_n 2, 1, 0, 0, 0, 0, .null), (33, .iinc 3 1, 3, 0, 0, 0, 0, .null), (36, .goto (-32), 3, 0, 0, 0, 0, .null), (39, .iload_n 2, 1, 0, 0, 0, 0, .null), (40, .ireturn, 1, 0, 0, 0, 0, .null)]]
def zc101 : List (List zIn) := [[(0, .iload_n 0, 1, 0, 0, 0, 0, .null), (1, .ifCond .lt 19, 3, 0, 0, 0, 0, .null), (4, .iload_n 0, 1, 0, 0, 0, 0, .null), (5, .getstatic 199, 3, 0, 0, 0, 0, .null), (8, .arraylength, 1, 0, 0, 0, 0, .null), (9, .if_icmp .ge 11, 3, 0, 0, 0, 0, .null), (12, .getstatic 199, 3, 0, 0, 0, 0, .null), (15, .iload_n 0, 1, 0, 0, 0, 0, .null), (16, .iaload, 1, 0, 0, 0, 0, .null), (17, .goto 4, 3, 0, 0, 0, 0, .null), (20, .iconst 0, 1, 0, 0, 0, 0, .null), (21, .ireturn, 1, 0, 0, 0, 0, .null)]]
def zc102 : List (List zIn) := [[(0, .aload_n 2, 1, 0, 0, 0, 0, .null), (1, .aload_n 0, 1, 0, 0, 0, 0, .null), (2, .iload_n 1, 1, 0, 0, 0, 0, .null), (3, .invokevirtual 57, 3, 0, 103, 1, 0, .null), (6, .i2l, 1, 0, 0, 0, 0, .null), (7, .putfield 13, 3, 3, 0, 3, 0, .null), (10, .goto 6, 3, 0, 0, 0, 0, .null), (13, .astore_n 3, 1, 0, 0, 0, 0, .null), (14, .iconst 1, 1, 0, 0, 0, 0, .null), (15, .ireturn, 1, 0, 0, 0, 0, .null), (16, .iconst 0, 1, 0, 0, 0, 0, .null), (17, .ireturn, 1, 0, 0, 0, 0, .null)]]
def zc103 : List (List zIn) := [[(0, .aload_n 0, 1, 0, 0, 0, 0, .null), (1, .iload_n 1, 1, 0, 0, 0, 0, .null), (2, .invokevirtual 51, 3, 0, 13, 1, 0, .null), (5, .astore_n 2, 1, 0, 0, 0, 0, .null), (6, .aload_n 2, 1, 0, 0, 0, 0, .null), (7, .getfield 55, 3, 4, 0, 6, 1, .null), (10, .invokevirtual 181, 3, 0, 15, 0, 1, .null), (13, .aload_n 2, 1, 0, 0, 0, 0, .null), (14, .getfield 55, 3, 4, 0, 6, 1, .null), (17, .iconst 0, 1, 0, 0, 0, 0, .null), (18, .invokevirtual 170, 3, 0, 14, 1, 1, .null), (21, .isub, 1, 0, 0, 0, 0, .null), (22, .istore_n 3, 1, 0, 0, 0, 0, .null), (23, .aload_n 2, 1, 0, 0, 0, 0, .null), (24, .getfield 55, 3, 4, 0, 6, 1, .null), (27, .invokevirtual 178, 3, 0, 2, 0, 1, .null), (30, .aload_n 2, 1, 0, 0, 0, 0, .null), (31, .iconst 0, 1, 0, 0, 0, 0, .null)], [(32, .putfield 110, 3, 4, 4, 0, 0, .null), (35, .iload_n 3, 1, 0, 0, 0, 0, .null), (36, .ireturn, 1, 0, 0, 0, 0, .null)]]
def zc104 : List (List zIn) := [[(0, .aload 4, 2, 0, 0, 0, 0, .null), (2, .aload_n 0, 1, 0, 0, 0, 0, .null), (3, .iload_n 1, 1, 0, 0, 0, 0, .null), (4, .iload_n 2, 1, 0, 0, 0, 0, .null), (5, .iload_n 3, 1, 0, 0, 0, 0, .null), (6, .invokevirtual 60, 3, 0, 39, 3, 0, .null), (9, .i2l, 1, 0, 0, 0, 0, .null), (10, .putfield 13, 3, 3, 0, 3, 0, .null), (13, .goto 11, 3, 0, 0, 0, 0, .null), (16, .astore 5, 2, 0, 0, 0, 0, .null), (18, .iconst 1, 1, 0, 0, 0, 0, .null), (19, .ireturn, 1, 0, 0, 0, 0, .null), (20, .astore 5, 2, 0, 0, 0, 0, .null), (22, .iconst 2, 1, 0, 0, 0, 0, .null), (23, .ireturn, 1, 0, 0, 0, 0, .null), (24, .iconst 0, 1, 0, 0, 0, 0, .null), (25, .ireturn, 1, 0, 0, 0, 0, .null)]]
def zc105 : List (List zIn) := [[(0, .aload 4, 2, 0, 0, 0, 0, .null), (2, .aload_n 0, 1, 0, 0, 0, 0, .null), (3, .iload_n 1, 1, 0, 0, 0, 0, .null), (4, .iload_n 2, 1, 0, 0, 0, 0, .null), (5, .iload_n 3, 1, 0, 0, 0, 0, .null), (6, .invokevirtual 63, 3, 0, 42, 3, 0, .null), (9, .i2l, 1, 0, 0, 0, 0, .null), (10, .putfield 13, 3, 3, 0, 3, 0, .null), (13, .goto 11, 3, 0, 0, 0, 0, .null), (16, .astore 5, 2, 0, 0, 0, 0, .null), (18, .iconst 1, 1, 0, 0, 0, 0, .null), (19, .ireturn, 1, 0, 0, 0, 0, .null), (20, .astore 5, 2, 0, 0, 0, 0, .null), (22, .iconst 2, 1, 0, 0, 0, 0, .null), (23, .ireturn, 1, 0, 0, 0, 0, .null), (24, .iconst 0, 1, 0, 0, 0, 0, .null), (25, .ireturn, 1, 0, 0, 0, 0, .null)]]
def zc106 : List (List zIn) := [[(0, .aload 4, 2, 0, 0, 0, 0, .null), (2, .aload_n 0, 1, 0, 0, 0, 0, .null), (3, .iload_n 1, 1, 0, 0, 0, 0, .null), (4, .iload_n 2, 1, 0, 0, 0, 0, .null), (5, .iload_n 3, 1, 0, 0, 0, 0, .null), (6, .invokevirtual 66, 3, 0, 46, 3, 0, .null), (9, .i2l, 1, 0, 0, 0, 0, .null), (10, .putfield 13, 3, 3, 0, 3, 0, .null), (13, .goto 11, 3, 0, 0, 0, 0, .null), (16, .astore 5, 2, 0, 0, 0, 0, .null), (18, .iconst 1, 1, 0, 0, 0, 0, .null), (19, .ireturn, 1, 0, 0, 0, 0, .null), (20, .astore 5, 2, 0, 0, 0, 0, .null), (22, .iconst 2, 1, 0, 0, 0, 0, .null), (23, .ireturn, 1, 0, 0, 0, 0, .null), (24, .iconst 0, 1, 0, 0, 0, 0, .null), (25, .ireturn, 1, 0, 0, 0, 0, .null)]]
def zc107 : List (List zIn) := [[(0, .aload_n 3, 1, 0, 0, 0, 0, .null), (1, .aload_n 0, 1, 0, 0, 0, 0, .null), (2, .iload_n 1, 1, 0, 0, 0, 0, .null), (3, .iload_n 2, 1, 0, 0, 0, 0, .null), (4, .invokevirtual 69, 3, 0, 18, 2, 0, .null), (7, .i2l, 1, 0, 0, 0, 0, .null), (8, .putfield 13, 3, 3, 0, 3, 0, .null), (11, .goto 11, 3, 0, 0, 0, 0, .null), (14, .astore 4, 2, 0, 0, 0, 0, .null), (16, .iconst 1, 1, 0, 0, 0, 0, .null), (17, .ireturn, 1, 0, 0, 0, 0, .null), (18, .astore 4, 2, 0, 0, 0, 0, .null), (20, .iconst 2, 1, 0, 0, 0, 0, .null), (21, .ireturn, 1, 0, 0, 0, 0, .null), (22, .iconst 0, 1, 0, 0, 0, 0, .null), (23, .ireturn, 1, 0, 0, 0, 0, .null)]]
def zc108 : List (List zIn) := [[(0, .aload_n 2, 1, 0, 0, 0, 0, .null), (1, .aload_n 0, 1, 0, 0, 0, 0, .null), (2, .iload_n 1, 1, 0, 0, 0, 0, .null), (3, .invokevirtual 72, 3, 0, 109, 1, 0, .null), (6, .putfield 76, 3, 3, 2, 6, 0, .null), (9, .goto 6, 3, 0, 0, 0, 0, .null), (12, .astore_n 3, 1, 0, 0, 0, 0, .null), (13, .iconst 1, 1, 0, 0, 0, 0, .null), (14, .ireturn, 1, 0, 0, 0, 0, .null), (15, .iconst 0, 1, 0, 0, 0, 0, .null), (16, .ireturn, 1, 0, 0, 0, 0, .null)]]
def zc109 : List (List zIn) := [[(0, .aload_n 0, 1, 0, 0, 0, 0, .null), (1, .iload_n 1, 1, 0, 0, 0, 0, .null), (2, .invokevirtual 51, 3, 0, 13, 1, 0, .null), (5, .getfield 55, 3, 4, 0, 6, 1, .null), (8, .astore_n 2, 1, 0, 0, 0, 0, .null), (9, .new 221, 3, 5, 4, 0, 0, .null), (12, .dup, 1, 0, 0, 0, 0, .null), (13, .invokespecial 223, 3, 5, 110, 0, 0, .null), (16, .astore_n 3, 1, 0, 0, 0, 0, .null), (17, .iconst 0, 1, 0, 0, 0, 0, .null), (18, .istore 4, 2, 0, 0, 0, 0, .null), (20, .iload 4, 2, 0, 0, 0, 0, .null), (22, .aload_n 2, 1, 0, 0, 0, 0, .null), (23, .getfield 157, 3, 1, 4, 0, 0, .null), (26, .if_icmp .ge 59, 3, 0, 0, 0, 0, .null), (29, .iload 4, 2, 0, 0, 0, 0, .null), (31, .ifCond .le 10, 3, 0, 0, 0, 0, .null)], [(34, .aload_n 3, 1, 0, 0, 0, 0, .null), (35, .bipush 47, 2, 0, 0, 0, 0, .null), (37, .invokevirtual 224, 3, 0, 112, 1, 5, .null), (40, .pop, 1, 0, 0, 0, 0, .null), (41, .iconst 0, 1, 0, 0, 0, 0, .null), (42, .istore 5, 2, 0, 0, 0, 0, .null), (44, .iload 5, 2, 0, 0, 0, 0, .null), (46, .aload_n 2, 1, 0, 0, 0, 0, .null), (47, .getfield 154, 3, 1, 3, 0, 0, .null), (50, .if_icmp .ge 29, 3, 0, 0, 0, 0, .null), (53, .aload_n 3, 1, 0, 0, 0, 0, .null), (54, .aload_n 2, 1, 0, 0, 0, 0, .null), (55, .aload_n 2, 1, 0, 0, 0, 0, .null), (56, .iload 4, 2, 0, 0, 0, 0, .null), (58, .iload 5, 2, 0, 0, 0, 0, .null), (60, .invokevirtual 228, 3, 0, 21, 2, 1, .null), (63, .invokevirtual 135, 3, 0, 16, 1, 1, .null)], [(66, .invokestatic 231, 3, 3, 123, 1, 0, .null), (69, .invokevirtual 224, 3, 0, 112, 1, 5, .null), (72, .pop, 1, 0, 0, 0, 0, .null), (73, .iinc 5 1, 3, 0, 0, 0, 0, .null), (76, .goto (-32), 3, 0, 0, 0, 0, .null), (79, .iinc 4 1, 3, 0, 0, 0, 0, .null), (82, .goto (-62), 3, 0, 0, 0, 0, .null), (85, .aload_n 3, 1, 0, 0, 0, 0, .null), (86, .invokevirtual 235, 3, 0, 124, 0, 5, .null), (89, .areturn, 1, 0, 0, 0, 0, .null)]]
def zc110 : List (List zIn) := [[(0, .aload_n 0, 1, 0, 0, 0, 0, .null), (1, .bipush 16, 2, 0, 0, 0, 0, .null), (3, .invokespecial 1, 3, 5, 111, 1, 0, .null), (6, .return_, 1, 0, 0, 0, 0, .null)]]
def zc111 : List (List zIn) := [[(0, .aload_n 0, 1, 0, 0, 0, 0, .null), (1, .invokespecial 3, 3, 20, 0, 0, 0, .null), (4, .getstatic 18, 3, 2, 0, 0, 0, .null), (7, .ifCond .eq 18, 3, 0, 0, 0, 0, .null), (10, .aload_n 0, 1, 0, 0, 0, 0, .null), (11, .iload_n 1, 1, 0, 0, 0, 0, .null), (12, .newarray .byte, 2, 65, 0, 0, 0, .null), (14, .putfield 15, 3, 5, 0, 7, 0, .null), (17, .aload_n 0, 1, 0, 0, 0, 0, .null), (18, .iconst 0, 1, 0, 0, 0, 0, .null), (19, .putfield 22, 3, 5, 1, 2, 0, .null), (22, .goto 16, 3, 0, 0, 0, 0, .null), (25, .aload_n 0, 1, 0, 0, 0, 0, .null), (26, .iload_n 1, 1, 0, 0, 0, 0, .null), (27, .invokestatic 26, 3, 999, 0, 0, 0, .null), (30, .putfield 15, 3, 5, 0, 7, 0, .null)], [(33, .aload_n 0, 1, 0, 0, 0, 0, .null), (34, .iconst 1, 1, 0, 0, 0, 0, .null), (35, .putfield 22, 3, 5, 1, 2, 0, .null), (38, .return_, 1, 0, 0, 0, 0, .null)]]
def zc112 : List (List zIn) := [[(0, .aload_n 0, 1, 0, 0, 0, 0, .null), (1, .iload_n 1, 1, 0, 0, 0, 0, .null), (2, .invokespecial 50, 3, 7, 113, 1, 5, .null), (5, .pop, 1, 0, 0, 0, 0, .null), (6, .aload_n 0, 1, 0, 0, 0, 0, .null), (7, .areturn, 1, 0, 0, 0, 0, .null)]]
def zc113 : List (List zIn) := [[(0, .aload_n 0, 1, 0, 0, 0, 0, .null), (1, .aload_n 0, 1, 0, 0, 0, 0, .null), (2, .getfield 79, 3, 5, 3, 0, 0, .null), (5, .iconst 1, 1, 0, 0, 0, 0, .null), (6, .iadd, 1, 0, 0, 0, 0, .null), (7, .invokevirtual 100, 3, 0, 114, 1, 5, .null), (10, .aload_n 0, 1, 0, 0, 0, 0, .null), (11, .invokevirtual 83, 3, 0, 120, 0, 5, .null), (14, .ifCond .eq 31, 3, 0, 0, 0, 0, .null), (17, .iload_n 1, 1, 0, 0, 0, 0, .null), (18, .invokestatic 191, 3, 3, 121, 1, 0, .null), (21, .ifCond .eq 24, 3, 0, 0, 0, 0, .null), (24, .aload_n 0, 1, 0, 0, 0, 0, .null), (25, .getfield 15, 3, 5, 0, 7, 0, .null), (28, .aload_n 0, 1, 0, 0, 0, 0, .null), (29, .dup, 1, 0, 0, 0, 0, .null), (30, .getfield 79, 3, 5, 3, 0, 0, .null)], [(33, .dup_x1, 1, 0, 0, 0, 0, .null), (34, .iconst 1, 1, 0, 0, 0, 0, .null), (35, .iadd, 1, 0, 0, 0, 0, .null), (36, .putfield 79, 3, 5, 3, 0, 0, .null), (39, .iload_n 1, 1, 0, 0, 0, 0, .null), (40, .i2b, 1, 0, 0, 0, 0, .null), (41, .bastore, 1, 0, 0, 0, 0, .null), (42, .goto 33, 3, 0, 0, 0, 0, .null), (45, .aload_n 0, 1, 0, 0, 0, 0, .null), (46, .invokevirtual 83, 3, 0, 120, 0, 5, .null), (49, .ifCond .eq 7, 3, 0, 0, 0, 0, .null), (52, .aload_n 0, 1, 0, 0, 0, 0, .null), (53, .invokevirtual 195, 3, 999, 0, 0, 0, .null), (56, .aload_n 0, 1, 0, 0, 0, 0, .null), (57, .getfield 15, 3, 5, 0, 7, 0, .null), (60, .aload_n 0, 1, 0, 0, 0, 0, .null), (61, .dup, 1, 0, 0, 0, 0, .null), (62, .getfield 79, 3, 5, 3, 0, 0, .null)], [(65, .dup_x1, 1, 0, 0, 0, 0, .null), (66, .iconst 1, 1, 0, 0, 0, 0, .null), (67, .iadd, 1, 0, 0, 0, 0, .null), (68, .putfield 79, 3, 5, 3, 0, 0, .null), (71, .iload_n 1, 1, 0, 0, 0, 0, .null), (72, .invokestatic 197, 3, 999, 0, 0, 0, .null), (75, .aload_n 0, 1, 0, 0, 0, 0, .null), (76, .areturn, 1, 0, 0, 0, 0, .null)]]
def zc114 : List (List zIn) := [[(0, .aload_n 0, 1, 0, 0, 0, 0, .null), (1, .getfield 15, 3, 5, 0, 7, 0, .null), (4, .arraylength, 1, 0, 0, 0, 0, .null), (5, .aload_n 0, 1, 0, 0, 0, 0, .null), (6, .getfield 22, 3, 5, 1, 2, 0, .null), (9, .ishr, 1, 0, 0, 0, 0, .null), (10, .istore_n 2, 1, 0, 0, 0, 0, .null), (11, .iload_n 1, 1, 0, 0, 0, 0, .null), (12, .iload_n 2, 1, 0, 0, 0, 0, .null), (13, .isub, 1, 0, 0, 0, 0, .null), (14, .ifCond .le 24, 3, 0, 0, 0, 0, .null), (17, .aload_n 0, 1, 0, 0, 0, 0, .null), (18, .aload_n 0, 1, 0, 0, 0, 0, .null), (19, .getfield 15, 3, 5, 0, 7, 0, .null), (22, .aload_n 0, 1, 0, 0, 0, 0, .null), (23, .iload_n 1, 1, 0, 0, 0, 0, .null), (24, .invokevirtual 104, 3, 0, 115, 1, 5, .null), (27, .aload_n 0, 1, 0, 0, 0, 0, .null), (28, .getfield 22, 3, 5, 1, 2, 0, .null), (31, .ishl, 1, 0, 0, 0, 0, .null)], [(32, .invokestatic 108, 3, 3, 118, 2, 0, .null), (35, .putfield 15, 3, 5, 0, 7, 0, .null), (38, .return_, 1, 0, 0, 0, 0, .null)]]
def zc115 : List (List zIn) := [[(0, .aload_n 0, 1, 0, 0, 0, 0, .null), (1, .getfield 15, 3, 5, 0, 7, 0, .null), (4, .arraylength, 1, 0, 0, 0, 0, .null), (5, .istore_n 2, 1, 0, 0, 0, 0, .null), (6, .iload_n 1, 1, 0, 0, 0, 0, .null), (7, .aload_n 0, 1, 0, 0, 0, 0, .null), (8, .getfield 22, 3, 5, 1, 2, 0, .null), (11, .ishl, 1, 0, 0, 0, 0, .null), (12, .istore_n 3, 1, 0, 0, 0, 0, .null), (13, .iload_n 3, 1, 0, 0, 0, 0, .null), (14, .iload_n 2, 1, 0, 0, 0, 0, .null), (15, .isub, 1, 0, 0, 0, 0, .null), (16, .istore 4, 2, 0, 0, 0, 0, .null), (18, .iload_n 2, 1, 0, 0, 0, 0, .null), (19, .iload 4, 2, 0, 0, 0, 0, .null), (21, .iload_n 2, 1, 0, 0, 0, 0, .null), (22, .iconst 2, 1, 0, 0, 0, 0, .null), (23, .aload_n 0, 1, 0, 0, 0, 0, .null), (24, .getfield 22, 3, 5, 1, 2, 0, .null), (27, .ishl, 1, 0, 0, 0, 0, .null), (28, .iadd, 1, 0, 0, 0, 0, .null), (29, .invokestatic 114, 3, 3, 116, 3, 0, .null)], [(32, .istore 5, 2, 0, 0, 0, 0, .null), (34, .iload 5, 2, 0, 0, 0, 0, .null), (36, .ldc 39, 2, 0, 0, 0, 0, .int 2147483647), (38, .if_icmp .ne 13, 3, 0, 0, 0, 0, .null), (41, .new 120, 3, 999, 0, 0, 0, .null), (44, .dup, 1, 0, 0, 0, 0, .null), (45, .ldc 122, 2, 999, 0, 0, 0, .null), (47, .invokespecial 124, 3, 999, 0, 0, 0, .null), (50, .athrow, 1, 0, 0, 0, 0, .null), (51, .iload 5, 2, 0, 0, 0, 0, .null), (53, .aload_n 0, 1, 0, 0, 0, 0, .null), (54, .getfield 22, 3, 5, 1, 2, 0, .null), (57, .ishr, 1, 0, 0, 0, 0, .null), (58, .ireturn, 1, 0, 0, 0, 0, .null)]]
def zc116 : List (List zIn) := [[(0, .iload_n 0, 1, 0, 0, 0, 0, .null), (1, .iload_n 1, 1, 0, 0, 0, 0, .null), (2, .iload_n 2, 1, 0, 0, 0, 0, .null), (3, .invokestatic 194, 3, 3, 117, 2, 0, .null), (6, .iadd, 1, 0, 0, 0, 0, .null), (7, .istore_n 3, 1, 0, 0, 0, 0, .null), (8, .iconst 0, 1, 0, 0, 0, 0, .null), (9, .iload_n 3, 1, 0, 0, 0, 0, .null), (10, .if_icmp .ge 11, 3, 0, 0, 0, 0, .null), (13, .iload_n 3, 1, 0, 0, 0, 0, .null), (14, .ldc 200, 2, 0, 0, 0, 0, .int 2147483639), (16, .if_icmp .gt 5, 3, 0, 0, 0, 0, .null), (19, .iload_n 3, 1, 0, 0, 0, 0, .null), (20, .ireturn, 1, 0, 0, 0, 0, .null), (21, .iload_n 0, 1, 0, 0, 0, 0, .null), (22, .iload_n 1, 1, 0, 0, 0, 0, .null), (23, .invokestatic 201, 3, 999, 0, 0, 0, .null), (26, .ireturn, 1, 0, 0, 0, 0, .null)]]
def zc117 : List (List zIn) := [[(0, .iload_n 0, 1, 0, 0, 0, 0, .null), (1, .iload_n 1, 1, 0, 0, 0, 0, .null), (2, .if_icmp .lt 7, 3, 0, 0, 0, 0, .null), (5, .iload_n 0, 1, 0, 0, 0, 0, .null), (6, .goto 4, 3, 0, 0, 0, 0, .null), (9, .iload_n 1, 1, 0, 0, 0, 0, .null), (10, .ireturn, 1, 0, 0, 0, 0, .null)]]
def zc118 : List (List zIn) := [[(0, .iload_n 1, 1, 0, 0, 0, 0, .null), (1, .aload_n 0, 1, 0, 0, 0, 0, .null), (2, .arraylength, 1, 0, 0, 0, 0, .null), (3, .if_icmp .ne 11, 3, 0, 0, 0, 0, .null), (6, .aload_n 0, 1, 0, 0, 0, 0, .null), (7, .invokevirtual 310, 3, 999, 0, 0, 0, .null), (10, .checkcast 311, 3, 999, 0, 0, 0, .null), (13, .areturn, 1, 0, 0, 0, 0, .null), (14, .iload_n 1, 1, 0, 0, 0, 0, .null), (15, .newarray .byte, 2, 65, 0, 0, 0, .null), (17, .astore_n 2, 1, 0, 0, 0, 0, .null), (18, .aload_n 0, 1, 0, 0, 0, 0, .null), (19, .iconst 0, 1, 0, 0, 0, 0, .null), (20, .aload_n 2, 1, 0, 0, 0, 0, .null), (21, .iconst 0, 1, 0, 0, 0, 0, .null), (22, .aload_n 0, 1, 0, 0, 0, 0, .null), (23, .arraylength, 1, 0, 0, 0, 0, .null), (24, .iload_n 1, 1, 0, 0, 0, 0, .null), (25, .invokestatic 304, 3, 3, 119, 2, 0, .null), (28, .invokestatic 150, 3, 21, 0, 5, 0, .null), (31, .aload_n 2, 1, 0, 0, 0, 0, .null)], [(32, .areturn, 1, 0, 0, 0, 0, .null)]]
def zc119 : List (List zIn) := [[(0, .iload_n 0, 1, 0, 0, 0, 0, .null), (1, .iload_n 1, 1, 0, 0, 0, 0, .null), (2, .if_icmp .gt 7, 3, 0, 0, 0, 0, .null), (5, .iload_n 0, 1, 0, 0, 0, 0, .null), (6, .goto 4, 3, 0, 0, 0, 0, .null), (9, .iload_n 1, 1, 0, 0, 0, 0, .null), (10, .ireturn, 1, 0, 0, 0, 0, .null)]]
def zc120 : List (List zIn) := [[(0, .getstatic 18, 3, 2, 0, 0, 0, .null), (3, .ifCond .eq 14, 3, 0, 0, 0, 0, .null), (6, .aload_n 0, 1, 0, 0, 0, 0, .null), (7, .getfield 22, 3, 5, 1, 2, 0, .null), (10, .ifCond .ne 7, 3, 0, 0, 0, 0, .null), (13, .iconst 1, 1, 0, 0, 0, 0, .null), (14, .goto 4, 3, 0, 0, 0, 0, .null), (17, .iconst 0, 1, 0, 0, 0, 0, .null), (18, .ireturn, 1, 0, 0, 0, 0, .null)]]
def zc121 : List (List zIn) := [[(0, .iload_n 0, 1, 0, 0, 0, 0, .null), (1, .sipush 255, 3, 0, 0, 0, 0, .null), (4, .if_icmp .gt 7, 3, 0, 0, 0, 0, .null), (7, .iconst 1, 1, 0, 0, 0, 0, .null), (8, .goto 4, 3, 0, 0, 0, 0, .null), (11, .iconst 0, 1, 0, 0, 0, 0, .null), (12, .ireturn, 1, 0, 0, 0, 0, .null)]]
def zc122 : List (List zIn) := [[(0, .iload_n 0, 1, 0, 0, 0, 0, .null), (1, .ifCond .lt 8, 3, 0, 0, 0, 0, .null), (4, .iload_n 0, 1, 0, 0, 0, 0, .null), (5, .iload_n 1, 1, 0, 0, 0, 0, .null), (6, .if_icmp .lt 10, 3, 0, 0, 0, 0, .null), (9, .aload_n 2, 1, 0, 0, 0, 0, .null), (10, .iload_n 0, 1, 0, 0, 0, 0, .null), (11, .iload_n 1, 1, 0, 0, 0, 0, .null), (12, .invokestatic 95, 3, 999, 0, 0, 0, .null), (15, .athrow, 1, 0, 0, 0, 0, .null), (16, .iload_n 0, 1, 0, 0, 0, 0, .null), (17, .ireturn, 1, 0, 0, 0, 0, .null)]]
def zc123 : List (List zIn) := [[(0, .iload_n 0, 1, 0, 0, 0, 0, .null), (1, .iconst 1, 1, 0, 0, 0, 0, .null), (2, .if_icmp .ne 8, 3, 0, 0, 0, 0, .null), (5, .bipush 35, 2, 0, 0, 0, 0, .null), (7, .goto 15, 3, 0, 0, 0, 0, .null), (10, .iload_n 0, 1, 0, 0, 0, 0, .null), (11, .iconst 2, 1, 0, 0, 0, 0, .null), (12, .if_icmp .ne 8, 3, 0, 0, 0, 0, .null), (15, .bipush 46, 2, 0, 0, 0, 0, .null), (17, .goto 5, 3, 0, 0, 0, 0, .null), (20, .bipush 63, 2, 0, 0, 0, 0, .null), (22, .ireturn, 1, 0, 0, 0, 0, .null)]]
def zc124 : List (List zIn) := [[(0, .new 18, 3, 6, 4, 0, 0, .null), (3, .dup, 1, 0, 0, 0, 0, .null), (4, .aload_n 0, 1, 0, 0, 0, 0, .null), (5, .invokespecial 137, 3, 5, 125, 1, 0, .null), (8, .areturn, 1, 0, 0, 0, 0, .null)]]
def zc125 : List (List zIn) := [[(0, .aload_n 0, 1, 0, 0, 0, 0, .null), (1, .aload_n 1, 1, 0, 0, 0, 0, .null), (2, .aconst_null, 1, 0, 0, 0, 0, .null), (3, .invokespecial 489, 3, 5, 126, 2, 0, .null), (6, .return_, 1, 0, 0, 0, 0, .null)]]
def zc126 : List (List zIn) := [[(0, .aload_n 0, 1, 0, 0, 0, 0, .null), (1, .invokespecial 1, 3, 20, 0, 0, 0, .null), (4, .aload_n 1, 1, 0, 0, 0, 0, .null), (5, .invokevirtual 552, 3, 0, 127, 0, 5, .null), (8, .astore_n 3, 1, 0, 0, 0, 0, .null), (9, .aload_n 1, 1, 0, 0, 0, 0, .null), (10, .invokevirtual 549, 3, 2, 128, 0, 5, .null), (13, .istore 4, 2, 0, 0, 0, 0, .null), (15, .aload_n 1, 1, 0, 0, 0, 0, .null), (16, .invokevirtual 1047, 3, 0, 120, 0, 5, .null), (19, .ifCond .eq 22, 3, 0, 0, 0, 0, .null), (22, .aload_n 0, 1, 0, 0, 0, 0, .null), (23, .iconst 0, 1, 0, 0, 0, 0, .null), (24, .putfield 15, 3, 6, 1, 2, 1, .null), (27, .aload_n 0, 1, 0, 0, 0, 0, .null), (28, .aload_n 3, 1, 0, 0, 0, 0, .null), (29, .iconst 0, 1, 0, 0, 0, 0, .null), (30, .iload 4, 2, 0, 0, 0, 0, .null)], [(32, .invokestatic 54, 3, 3, 130, 3, 0, .null), (35, .putfield 9, 3, 6, 0, 7, 1, .null), (38, .goto 59, 3, 0, 0, 0, 0, .null), (41, .getstatic 38, 3, 2, 0, 0, 0, .null), (44, .ifCond .eq 35, 3, 0, 0, 0, 0, .null), (47, .aload_n 1, 1, 0, 0, 0, 0, .null), (48, .getfield 1048, 3, 5, 2, 1, 0, .null), (51, .ifCond .eq 28, 3, 0, 0, 0, 0, .null), (54, .aload_n 0, 1, 0, 0, 0, 0, .null), (55, .aload_n 3, 1, 0, 0, 0, 0, .null), (56, .iconst 0, 1, 0, 0, 0, 0, .null), (57, .iload 4, 2, 0, 0, 0, 0, .null), (59, .invokestatic 1051, 3, 999, 0, 0, 0, .null), (62, .putfield 9, 3, 6, 0, 7, 1, .null)], [(65, .aload_n 0, 1, 0, 0, 0, 0, .null), (66, .aload_n 0, 1, 0, 0, 0, 0, .null), (67, .getfield 9, 3, 6, 0, 7, 1, .null), (70, .iload 4, 2, 0, 0, 0, 0, .null), (72, .invokestatic 47, 3, 999, 0, 0, 0, .null), (75, .putfield 15, 3, 6, 1, 2, 1, .null), (78, .return_, 1, 0, 0, 0, 0, .null), (79, .aload_n 0, 1, 0, 0, 0, 0, .null), (80, .iconst 1, 1, 0, 0, 0, 0, .null), (81, .putfield 15, 3, 6, 1, 2, 1, .null), (84, .aload_n 0, 1, 0, 0, 0, 0, .null), (85, .aload_n 3, 1, 0, 0, 0, 0, .null), (86, .iconst 0, 1, 0, 0, 0, 0, .null), (87, .iload 4, 2, 0, 0, 0, 0, .null), (89, .iconst 1, 1, 0, 0, 0, 0, .null), (90, .ishl, 1, 0, 0, 0, 0, .null), (91, .invokestatic 54, 3, 3, 130, 3, 0, .null), (94, .putfield 9, 3, 6, 0, 7, 1, .null)], [(97, .return_, 1, 0, 0, 0, 0, .null)]]
def zc127 : List (List zIn) := [[(0, .aload_n 0, 1, 0, 0, 0, 0, .null), (1, .getfield 15, 3, 5, 0, 7, 0, .null), (4, .areturn, 1, 0, 0, 0, 0, .null)]]
def zc128 : List (List zIn) := [[(0, .aload_n 0, 1, 0, 0, 0, 0, .null), (1, .invokespecial 343, 3, 7, 129, 0, 5, .null), (4, .ireturn, 1, 0, 0, 0, 0, .null)]]
def zc129 : List (List zIn) := [[(0, .aload_n 0, 1, 0, 0, 0, 0, .null), (1, .getfield 79, 3, 5, 3, 0, 0, .null), (4, .ireturn, 1, 0, 0, 0, 0, .null)]]
def zc130 : List (List zIn) := [[(0, .iload_n 1, 1, 0, 0, 0, 0, .null), (1, .ifCond .ne 9, 3, 0, 0, 0, 0, .null), (4, .iload_n 2, 1, 0, 0, 0, 0, .null), (5, .aload_n 0, 1, 0, 0, 0, 0, .null), (6, .arraylength, 1, 0, 0, 0, 0, .null), (7, .if_icmp .eq 10, 3, 0, 0, 0, 0, .null), (10, .aload_n 0, 1, 0, 0, 0, 0, .null), (11, .iload_n 1, 1, 0, 0, 0, 0, .null), (12, .iload_n 2, 1, 0, 0, 0, 0, .null), (13, .invokestatic 339, 3, 3, 131, 3, 0, .null), (16, .areturn, 1, 0, 0, 0, 0, .null), (17, .aload_n 0, 1, 0, 0, 0, 0, .null), (18, .invokevirtual 310, 3, 999, 0, 0, 0, .null), (21, .checkcast 311, 3, 999, 0, 0, 0, .null), (24, .areturn, 1, 0, 0, 0, 0, .null)]]
def zc131 : List (List zIn) := [[(0, .iload_n 1, 1, 0, 0, 0, 0, .null), (1, .iload_n 2, 1, 0, 0, 0, 0, .null), (2, .invokestatic 343, 3, 3, 132, 2, 0, .null), (5, .iload_n 2, 1, 0, 0, 0, 0, .null), (6, .iload_n 1, 1, 0, 0, 0, 0, .null), (7, .isub, 1, 0, 0, 0, 0, .null), (8, .istore_n 3, 1, 0, 0, 0, 0, .null), (9, .iload_n 3, 1, 0, 0, 0, 0, .null), (10, .newarray .byte, 2, 65, 0, 0, 0, .null), (12, .astore 4, 2, 0, 0, 0, 0, .null), (14, .aload_n 0, 1, 0, 0, 0, 0, .null), (15, .iload_n 1, 1, 0, 0, 0, 0, .null), (16, .aload 4, 2, 0, 0, 0, 0, .null), (18, .iconst 0, 1, 0, 0, 0, 0, .null), (19, .aload_n 0, 1, 0, 0, 0, 0, .null), (20, .arraylength, 1, 0, 0, 0, 0, .null), (21, .iload_n 1, 1, 0, 0, 0, 0, .null), (22, .isub, 1, 0, 0, 0, 0, .null), (23, .iload_n 3, 1, 0, 0, 0, 0, .null), (24, .invokestatic 304, 3, 3, 119, 2, 0, .null), (27, .invokestatic 150, 3, 21, 0, 5, 0, .null), (30, .aload 4, 2, 0, 0, 0, 0, .null)], [(32, .areturn, 1, 0, 0, 0, 0, .null)]]
def zc132 : List (List zIn) := [[(0, .iload_n 1, 1, 0, 0, 0, 0, .null), (1, .iload_n 0, 1, 0, 0, 0, 0, .null), (2, .if_icmp .ge 35, 3, 0, 0, 0, 0, .null), (5, .new 43, 3, 999, 0, 0, 0, .null), (8, .dup, 1, 0, 0, 0, 0, .null), (9, .new 45, 3, 5, 4, 0, 0, .null), (12, .dup, 1, 0, 0, 0, 0, .null), (13, .invokespecial 47, 3, 5, 110, 0, 0, .null), (16, .iload_n 0, 1, 0, 0, 0, 0, .null), (17, .invokevirtual 54, 3, 999, 0, 0, 0, .null), (20, .ldc_w 337, 3, 998, 0, 0, 0, .null), (23, .invokevirtual 50, 3, 999, 0, 0, 0, .null), (26, .iload_n 1, 1, 0, 0, 0, 0, .null), (27, .invokevirtual 54, 3, 999, 0, 0, 0, .null), (30, .invokevirtual 61, 3, 0, 124, 0, 5, .null)], [(33, .invokespecial 65, 3, 999, 0, 0, 0, .null), (36, .athrow, 1, 0, 0, 0, 0, .null), (37, .return_, 1, 0, 0, 0, 0, .null)]]
def zc133 : List (List zIn) := [[(0, .aload_n 0, 1, 0, 0, 0, 0, .null), (1, .getfield 9, 3, 6, 0, 7, 1, .null), (4, .arraylength, 1, 0, 0, 0, 0, .null), (5, .aload_n 0, 1, 0, 0, 0, 0, .null), (6, .invokevirtual 335, 3, 0, 134, 0, 6, .null), (9, .ishr, 1, 0, 0, 0, 0, .null), (10, .ireturn, 1, 0, 0, 0, 0, .null)]]
def zc134 : List (List zIn) := [[(0, .getstatic 38, 3, 2, 0, 0, 0, .null), (3, .ifCond .eq 10, 3, 0, 0, 0, 0, .null), (6, .aload_n 0, 1, 0, 0, 0, 0, .null), (7, .getfield 15, 3, 6, 1, 2, 1, .null), (10, .goto 4, 3, 0, 0, 0, 0, .null), (13, .iconst 1, 1, 0, 0, 0, 0, .null), (14, .ireturn, 1, 0, 0, 0, 0, .null)]]
def zc135 : List (List zIn) := [[(0, .aload_n 3, 1, 0, 0, 0, 0, .null), (1, .aload_n 0, 1, 0, 0, 0, 0, .null), (2, .iload_n 1, 1, 0, 0, 0, 0, .null), (3, .iload_n 2, 1, 0, 0, 0, 0, .null), (4, .invokevirtual 80, 3, 0, 47, 2, 0, .null), (7, .i2l, 1, 0, 0, 0, 0, .null), (8, .putfield 13, 3, 3, 0, 3, 0, .null), (11, .goto 11, 3, 0, 0, 0, 0, .null), (14, .astore 4, 2, 0, 0, 0, 0, .null), (16, .iconst 1, 1, 0, 0, 0, 0, .null), (17, .ireturn, 1, 0, 0, 0, 0, .null), (18, .astore 4, 2, 0, 0, 0, 0, .null), (20, .iconst 2, 1, 0, 0, 0, 0, .null), (21, .ireturn, 1, 0, 0, 0, 0, .null), (22, .iconst 0, 1, 0, 0, 0, 0, .null), (23, .ireturn, 1, 0, 0, 0, 0, .null)]]
def zc136 : List (List zIn) := [[(0, .aload_n 3, 1, 0, 0, 0, 0, .null), (1, .aload_n 0, 1, 0, 0, 0, 0, .null), (2, .iload_n 1, 1, 0, 0, 0, 0, .null), (3, .iload_n 2, 1, 0, 0, 0, 0, .null), (4, .invokevirtual 83, 3, 0, 137, 2, 0, .null), (7, .putfield 87, 3, 3, 1, 4, 0, .null), (10, .goto 7, 3, 0, 0, 0, 0, .null), (13, .astore 4, 2, 0, 0, 0, 0, .null), (15, .iconst 1, 1, 0, 0, 0, 0, .null), (16, .ireturn, 1, 0, 0, 0, 0, .null), (17, .iconst 0, 1, 0, 0, 0, 0, .null), (18, .ireturn, 1, 0, 0, 0, 0, .null)]]
def zc137 : List (List zIn) := [[(0, .aload_n 0, 1, 0, 0, 0, 0, .null), (1, .iload_n 1, 1, 0, 0, 0, 0, .null), (2, .invokevirtual 51, 3, 0, 13, 1, 0, .null), (5, .astore_n 3, 1, 0, 0, 0, 0, .null), (6, .aload_n 3, 1, 0, 0, 0, 0, .null), (7, .getfield 55, 3, 4, 0, 6, 1, .null), (10, .iload_n 2, 1, 0, 0, 0, 0, .null), (11, .invokestatic 86, 3, 3, 40, 2, 0, .null), (14, .aload_n 3, 1, 0, 0, 0, 0, .null), (15, .getfield 209, 3, 4, 1, 6, 1, .null), (18, .aload_n 3, 1, 0, 0, 0, 0, .null), (19, .getfield 55, 3, 4, 0, 6, 1, .null), (22, .sipush 500, 3, 0, 0, 0, 0, .null), (25, .invokevirtual 96, 3, 0, 22, 2, 2, .null), (28, .iload_n 2, 1, 0, 0, 0, 0, .null), (29, .invokevirtual 244, 3, 0, 57, 1, 2, .null)], [(32, .dreturn, 1, 0, 0, 0, 0, .null)]]
def zc138 : List (List zIn) := [[(0, .aload_n 3, 1, 0, 0, 0, 0, .null), (1, .aload_n 0, 1, 0, 0, 0, 0, .null), (2, .iload_n 1, 1, 0, 0, 0, 0, .null), (3, .iload_n 2, 1, 0, 0, 0, 0, .null), (4, .invokevirtual 91, 3, 0, 49, 2, 0, .null), (7, .putfield 87, 3, 3, 1, 4, 0, .null), (10, .goto 11, 3, 0, 0, 0, 0, .null), (13, .astore 4, 2, 0, 0, 0, 0, .null), (15, .iconst 1, 1, 0, 0, 0, 0, .null), (16, .ireturn, 1, 0, 0, 0, 0, .null), (17, .astore 4, 2, 0, 0, 0, 0, .null), (19, .iconst 2, 1, 0, 0, 0, 0, .null), (20, .ireturn, 1, 0, 0, 0, 0, .null), (21, .iconst 0, 1, 0, 0, 0, 0, .null), (22, .ireturn, 1, 0, 0, 0, 0, .null)]]
def zc139 : List (List zIn) := [[(0, .aload_n 2, 1, 0, 0, 0, 0, .null), (1, .aload_n 0, 1, 0, 0, 0, 0, .null), (2, .iload_n 1, 1, 0, 0, 0, 0, .null), (3, .invokevirtual 94, 3, 0, 11, 1, 0, .null), (6, .i2l, 1, 0, 0, 0, 0, .null), (7, .putfield 13, 3, 3, 0, 3, 0, .null), (10, .goto 6, 3, 0, 0, 0, 0, .null), (13, .astore_n 3, 1, 0, 0, 0, 0, .null), (14, .iconst 1, 1, 0, 0, 0, 0, .null), (15, .ireturn, 1, 0, 0, 0, 0, .null), (16, .iconst 0, 1, 0, 0, 0, 0, .null), (17, .ireturn, 1, 0, 0, 0, 0, .null)]]
def zc140 : List (List zIn) := [[(0, .aload_n 2, 1, 0, 0, 0, 0, .null), (1, .aload_n 0, 1, 0, 0, 0, 0, .null), (2, .iload_n 1, 1, 0, 0, 0, 0, .null), (3, .invokevirtual 97, 3, 0, 55, 1, 0, .null), (6, .i2l, 1, 0, 0, 0, 0, .null), (7, .putfield 13, 3, 3, 0, 3, 0, .null), (10, .goto 6, 3, 0, 0, 0, 0, .null), (13, .astore_n 3, 1, 0, 0, 0, 0, .null), (14, .iconst 1, 1, 0, 0, 0, 0, .null), (15, .ireturn, 1, 0, 0, 0, 0, .null), (16, .iconst 0, 1, 0, 0, 0, 0, .null), (17, .ireturn, 1, 0, 0, 0, 0, .null)]]
def zc141 : List (List zIn) := [[(0, .aload_n 2, 1, 0, 0, 0, 0, .null), (1, .aload_n 0, 1, 0, 0, 0, 0, .null), (2, .iload_n 1, 1, 0, 0, 0, 0, .null), (3, .invokevirtual 100, 3, 0, 56, 1, 0, .null), (6, .i2l, 1, 0, 0, 0, 0, .null), (7, .putfield 13, 3, 3, 0, 3, 0, .null), (10, .goto 6, 3, 0, 0, 0, 0, .null), (13, .astore_n 3, 1, 0, 0, 0, 0, .null), (14, .iconst 1, 1, 0, 0, 0, 0, .null), (15, .ireturn, 1, 0, 0, 0, 0, .null), (16, .iconst 0, 1, 0, 0, 0, 0, .null), (17, .ireturn, 1, 0, 0, 0, 0, .null)]]
def zc142 : List (List zIn) := [[(0, .aload 5, 2, 0, 0, 0, 0, .null), (2, .aload_n 0, 1, 0, 0, 0, 0, .null), (3, .iload_n 1, 1, 0, 0, 0, 0, .null), (4, .iload_n 2, 1, 0, 0, 0, 0, .null), (5, .iload_n 3, 1, 0, 0, 0, 0, .null), (6, .iload 4, 2, 0, 0, 0, 0, .null), (8, .invokevirtual 103, 3, 0, 143, 4, 0, .null), (11, .i2l, 1, 0, 0, 0, 0, .null), (12, .putfield 13, 3, 3, 0, 3, 0, .null), (15, .goto 15, 3, 0, 0, 0, 0, .null), (18, .astore 6, 2, 0, 0, 0, 0, .null), (20, .iconst 1, 1, 0, 0, 0, 0, .null), (21, .ireturn, 1, 0, 0, 0, 0, .null), (22, .astore 6, 2, 0, 0, 0, 0, .null), (24, .iconst 2, 1, 0, 0, 0, 0, .null), (25, .ireturn, 1, 0, 0, 0, 0, .null), (26, .astore 6, 2, 0, 0, 0, 0, .null), (28, .iconst 3, 1, 0, 0, 0, 0, .null), (29, .ireturn, 1, 0, 0, 0, 0, .null), (30, .iconst 0, 1, 0, 0, 0, 0, .null), (31, .ireturn, 1, 0, 0, 0, 0, .null)]]
def zc143 : List (List zIn) := [[(0, .aload_n 0, 1, 0, 0, 0, 0, .null), (1, .iload_n 1, 1, 0, 0, 0, 0, .null), (2, .invokevirtual 51, 3, 0, 13, 1, 0, .null), (5, .getfield 55, 3, 4, 0, 6, 1, .null), (8, .astore 5, 2, 0, 0, 0, 0, .null), (10, .aload 5, 2, 0, 0, 0, 0, .null), (12, .iload_n 2, 1, 0, 0, 0, 0, .null), (13, .invokestatic 86, 3, 3, 40, 2, 0, .null), (16, .iload 4, 2, 0, 0, 0, 0, .null), (18, .iconst 2, 1, 0, 0, 0, 0, .null), (19, .invokestatic 184, 3, 3, 12, 2, 0, .null), (22, .aload 5, 2, 0, 0, 0, 0, .null), (24, .iload_n 2, 1, 0, 0, 0, 0, .null), (25, .invokestatic 89, 3, 3, 77, 2, 0, .null), (28, .aload_n 0, 1, 0, 0, 0, 0, .null), (29, .aload 5, 2, 0, 0, 0, 0, .null), (31, .iload_n 2, 1, 0, 0, 0, 0, .null)], [(32, .iload_n 3, 1, 0, 0, 0, 0, .null), (33, .invokevirtual 92, 3, 0, 78, 3, 0, .null), (36, .iload 4, 2, 0, 0, 0, 0, .null), (38, .iconst 2, 1, 0, 0, 0, 0, .null), (39, .if_icmp .ne 21, 3, 0, 0, 0, 0, .null), (42, .aload_n 0, 1, 0, 0, 0, 0, .null), (43, .getfield 27, 3, 0, 2, 6, 1, .null), (46, .aload_n 0, 1, 0, 0, 0, 0, .null), (47, .getfield 20, 3, 0, 1, 6, 1, .null), (50, .sipush 500, 3, 0, 0, 0, 0, .null), (53, .invokevirtual 96, 3, 0, 22, 2, 2, .null), (56, .getfield 100, 3, 2, 10, 0, 0, .null), (59, .ireturn, 1, 0, 0, 0, 0, .null), (60, .aload_n 0, 1, 0, 0, 0, 0, .null), (61, .getfield 20, 3, 0, 1, 6, 1, .null)], [(64, .iconst 0, 1, 0, 0, 0, 0, .null), (65, .invokevirtual 120, 3, 0, 25, 1, 1, .null), (68, .istore 6, 2, 0, 0, 0, 0, .null), (70, .iload 4, 2, 0, 0, 0, 0, .null), (72, .ifCond .ne 6, 3, 0, 0, 0, 0, .null), (75, .iload 6, 2, 0, 0, 0, 0, .null), (77, .ireturn, 1, 0, 0, 0, 0, .null), (78, .aload_n 0, 1, 0, 0, 0, 0, .null), (79, .getfield 20, 3, 0, 1, 6, 1, .null), (82, .invokevirtual 206, 3, 0, 19, 0, 1, .null), (85, .ifCond .le 7, 3, 0, 0, 0, 0, .null), (88, .iconst 1, 1, 0, 0, 0, 0, .null), (89, .goto 4, 3, 0, 0, 0, 0, .null), (92, .iconst 0, 1, 0, 0, 0, 0, .null), (93, .ireturn, 1, 0, 0, 0, 0, .null)]]
def zc144 : List (List zIn) := [[(0, .aload_n 2, 1, 0, 0, 0, 0, .null), (1, .aload_n 0, 1, 0, 0, 0, 0, .null), (2, .iload_n 1, 1, 0, 0, 0, 0, .null), (3, .invokevirtual 107, 3, 0, 58, 1, 0, .null), (6, .i2l, 1, 0, 0, 0, 0, .null), (7, .putfield 13, 3, 3, 0, 3, 0, .null), (10, .goto 6, 3, 0, 0, 0, 0, .null), (13, .astore_n 3, 1, 0, 0, 0, 0, .null), (14, .iconst 1, 1, 0, 0, 0, 0, .null), (15, .ireturn, 1, 0, 0, 0, 0, .null), (16, .iconst 0, 1, 0, 0, 0, 0, .null), (17, .ireturn, 1, 0, 0, 0, 0, .null)]]
def zc145 : List (List zIn) := [[(0, .aload_n 3, 1, 0, 0, 0, 0, .null), (1, .aload_n 0, 1, 0, 0, 0, 0, .null), (2, .iload_n 1, 1, 0, 0, 0, 0, .null), (3, .iload_n 2, 1, 0, 0, 0, 0, .null), (4, .invokevirtual 110, 3, 0, 61, 2, 0, .null), (7, .i2l, 1, 0, 0, 0, 0, .null), (8, .putfield 13, 3, 3, 0, 3, 0, .null), (11, .goto 7, 3, 0, 0, 0, 0, .null), (14, .astore 4, 2, 0, 0, 0, 0, .null), (16, .iconst 1, 1, 0, 0, 0, 0, .null), (17, .ireturn, 1, 0, 0, 0, 0, .null), (18, .iconst 0, 1, 0, 0, 0, 0, .null), (19, .ireturn, 1, 0, 0, 0, 0, .null)]]
def zc146 : List (List zIn) := [[(0, .aload_n 0, 1, 0, 0, 0, 0, .null), (1, .invokespecial 1, 3, 20, 0, 0, 0, .null), (4, .aload_n 0, 1, 0, 0, 0, 0, .null), (5, .new 7, 3, 8, 3, 0, 0, .null), (8, .dup, 1, 0, 0, 0, 0, .null), (9, .invokespecial 9, 3, 5, 147, 0, 0, .null), (12, .putfield 10, 3, 7, 1, 6, 1, .null), (15, .return_, 1, 0, 0, 0, 0, .null)]]
def zc147 : List (List zIn) := [[(0, .aload_n 0, 1, 0, 0, 0, 0, .null), (1, .invokespecial 1, 3, 5, 148, 0, 0, .null), (4, .aload_n 0, 1, 0, 0, 0, 0, .null), (5, .getstatic 39, 3, 3, 0, 0, 0, .null), (8, .putfield 9, 3, 8, 0, 7, 0, .null), (11, .return_, 1, 0, 0, 0, 0, .null)]]
def zc148 : List (List zIn) := [[(0, .aload_n 0, 1, 0, 0, 0, 0, .null), (1, .invokespecial 1, 3, 5, 149, 0, 0, .null), (4, .aload_n 0, 1, 0, 0, 0, 0, .null), (5, .iconst 0, 1, 0, 0, 0, 0, .null), (6, .putfield 7, 3, 8, 2, 0, 0, .null), (9, .return_, 1, 0, 0, 0, 0, .null)]]
def zc149 : List (List zIn) := [[(0, .aload_n 0, 1, 0, 0, 0, 0, .null), (1, .invokespecial 1, 3, 20, 0, 0, 0, .null), (4, .return_, 1, 0, 0, 0, 0, .null)]]
def zc150 : List (List zIn) := [[(0, .aload_n 0, 1, 0, 0, 0, 0, .null), (1, .iconst 0, 1, 0, 0, 0, 0, .null), (2, .putfield 16, 3, 7, 0, 0, 0, .null), (5, .iload_n 1, 1, 0, 0, 0, 0, .null), (6, .iconst 2, 1, 0, 0, 0, 0, .null), (7, .iconst 5, 1, 0, 0, 0, 0, .null), (8, .invokestatic 30, 3, 3, 151, 3, 0, .null), (11, .ifCond .eq 12, 3, 0, 0, 0, 0, .null), (14, .iload_n 2, 1, 0, 0, 0, 0, .null), (15, .iconst 2, 1, 0, 0, 0, 0, .null), (16, .iconst 5, 1, 0, 0, 0, 0, .null), (17, .invokestatic 30, 3, 3, 151, 3, 0, .null), (20, .ifCond .ne 9, 3, 0, 0, 0, 0, .null), (23, .aload_n 0, 1, 0, 0, 0, 0, .null), (24, .iconst 1, 1, 0, 0, 0, 0, .null), (25, .invokevirtual 50, 3, 0, 152, 1, 7, .null), (28, .ireturn, 1, 0, 0, 0, 0, .null), (29, .aload_n 0, 1, 0, 0, 0, 0, .null), (30, .getfield 10, 3, 7, 1, 6, 1, .null)], [(33, .invokeinterface 24 1, 5, 8, 153, 0, 8, .null), (38, .iconst 3, 1, 0, 0, 0, 0, .null), (39, .if_icmp .ne 9, 3, 0, 0, 0, 0, .null), (42, .aload_n 0, 1, 0, 0, 0, 0, .null), (43, .iconst 2, 1, 0, 0, 0, 0, .null), (44, .invokevirtual 50, 3, 0, 152, 1, 7, .null), (47, .ireturn, 1, 0, 0, 0, 0, .null), (48, .aload_n 0, 1, 0, 0, 0, 0, .null), (49, .getfield 10, 3, 7, 1, 6, 1, .null), (52, .new 42, 3, 9, 7, 0, 0, .null), (55, .dup, 1, 0, 0, 0, 0, .null), (56, .iload_n 1, 1, 0, 0, 0, 0, .null), (57, .iload_n 2, 1, 0, 0, 0, 0, .null), (58, .invokespecial 54, 3, 5, 154, 2, 0, .null), (61, .invokeinterface 57 2, 5, 8, 157, 1, 8, .null)], [(66, .pop, 1, 0, 0, 0, 0, .null), (67, .aload_n 0, 1, 0, 0, 0, 0, .null), (68, .getfield 10, 3, 7, 1, 6, 1, .null), (71, .invokeinterface 24 1, 5, 8, 153, 0, 8, .null), (76, .iconst 1, 1, 0, 0, 0, 0, .null), (77, .isub, 1, 0, 0, 0, 0, .null), (78, .ireturn, 1, 0, 0, 0, 0, .null)]]
def zc151 : List (List zIn) := [[(0, .iload_n 0, 1, 0, 0, 0, 0, .null), (1, .iload_n 1, 1, 0, 0, 0, 0, .null), (2, .if_icmp .lt 12, 3, 0, 0, 0, 0, .null), (5, .iload_n 0, 1, 0, 0, 0, 0, .null), (6, .iload_n 2, 1, 0, 0, 0, 0, .null), (7, .if_icmp .gt 7, 3, 0, 0, 0, 0, .null), (10, .iconst 1, 1, 0, 0, 0, 0, .null), (11, .goto 4, 3, 0, 0, 0, 0, .null), (14, .iconst 0, 1, 0, 0, 0, 0, .null), (15, .ireturn, 1, 0, 0, 0, 0, .null)]]
def zc152 : List (List zIn) := [[(0, .aload_n 0, 1, 0, 0, 0, 0, .null), (1, .iload_n 1, 1, 0, 0, 0, 0, .null), (2, .putfield 16, 3, 7, 0, 0, 0, .null), (5, .iconst 0, 1, 0, 0, 0, 0, .null), (6, .ireturn, 1, 0, 0, 0, 0, .null)]]
def zc153 : List (List zIn) := [[(0, .aload_n 0, 1, 0, 0, 0, 0, .null), (1, .getfield 48, 3, 8, 1, 0, 0, .null), (4, .ireturn, 1, 0, 0, 0, 0, .null)]]
def zc154 : List (List zIn) := [[(0, .aload_n 0, 1, 0, 0, 0, 0, .null), (1, .invokespecial 3, 3, 20, 0, 0, 0, .null), (4, .aload_n 0, 1, 0, 0, 0, 0, .null), (5, .new 9, 3, 8, 3, 0, 0, .null), (8, .dup, 1, 0, 0, 0, 0, .null), (9, .invokespecial 11, 3, 5, 147, 0, 0, .null), (12, .putfield 12, 3, 9, 4, 6, 0, .null), (15, .aload_n 0, 1, 0, 0, 0, 0, .null), (16, .iload_n 1, 1, 0, 0, 0, 0, .null), (17, .putfield 18, 3, 9, 0, 0, 0, .null), (20, .aload_n 0, 1, 0, 0, 0, 0, .null), (21, .iload_n 2, 1, 0, 0, 0, 0, .null), (22, .putfield 22, 3, 9, 1, 0, 0, .null), (25, .aload_n 0, 1, 0, 0, 0, 0, .null), (26, .iload_n 1, 1, 0, 0, 0, 0, .null), (27, .iload_n 2, 1, 0, 0, 0, 0, .null), (28, .iadd, 1, 0, 0, 0, 0, .null), (29, .newarray .int, 2, 64, 0, 0, 0, .null), (31, .putfield 25, 3, 9, 3, 7, 0, .null)], [(34, .iconst 0, 1, 0, 0, 0, 0, .null), (35, .istore_n 3, 1, 0, 0, 0, 0, .null), (36, .iload_n 3, 1, 0, 0, 0, 0, .null), (37, .aload_n 0, 1, 0, 0, 0, 0, .null), (38, .getfield 25, 3, 9, 3, 7, 0, .null), (41, .arraylength, 1, 0, 0, 0, 0, .null), (42, .if_icmp .ge 16, 3, 0, 0, 0, 0, .null), (45, .aload_n 0, 1, 0, 0, 0, 0, .null), (46, .getfield 25, 3, 9, 3, 7, 0, .null), (49, .iload_n 3, 1, 0, 0, 0, 0, .null), (50, .iconst (-1), 1, 0, 0, 0, 0, .null), (51, .iastore, 1, 0, 0, 0, 0, .null), (52, .iinc 3 1, 3, 0, 0, 0, 0, .null), (55, .goto (-19), 3, 0, 0, 0, 0, .null), (58, .aload_n 0, 1, 0, 0, 0, 0, .null), (59, .invokevirtual 29, 3, 0, 155, 0, 9, .null), (62, .return_, 1, 0, 0, 0, 0, .null)]]
def zc155 : List (List zIn) := [[(0, .aload_n 0, 1, 0, 0, 0, 0, .null), (1, .iconst 4, 1, 0, 0, 0, 0, .null), (2, .aload_n 0, 1, 0, 0, 0, 0, .null), (3, .invokevirtual 32, 3, 0, 156, 0, 9, .null), (6, .multianewarray 36 2, 4, 2, 0, 0, 0, .null), (10, .putfield 38, 3, 9, 2, 7, 0, .null), (13, .iconst 0, 1, 0, 0, 0, 0, .null), (14, .istore_n 1, 1, 0, 0, 0, 0, .null), (15, .iload_n 1, 1, 0, 0, 0, 0, .null), (16, .aload_n 0, 1, 0, 0, 0, 0, .null), (17, .invokevirtual 32, 3, 0, 156, 0, 9, .null), (20, .if_icmp .ge 18, 3, 0, 0, 0, 0, .null), (23, .aload_n 0, 1, 0, 0, 0, 0, .null), (24, .getfield 38, 3, 9, 2, 7, 0, .null), (27, .iconst 1, 1, 0, 0, 0, 0, .null), (28, .aaload, 1, 0, 0, 0, 0, .null), (29, .iload_n 1, 1, 0, 0, 0, 0, .null), (30, .iconst (-1), 1, 0, 0, 0, 0, .null), (31, .iastore, 1, 0, 0, 0, 0, .null)], [(32, .iinc 1 1, 3, 0, 0, 0, 0, .null), (35, .goto (-20), 3, 0, 0, 0, 0, .null), (38, .return_, 1, 0, 0, 0, 0, .null)]]
def zc156 : List (List zIn) := [[(0, .aload_n 0, 1, 0, 0, 0, 0, .null), (1, .getfield 18, 3, 9, 0, 0, 0, .null), (4, .aload_n 0, 1, 0, 0, 0, 0, .null), (5, .getfield 22, 3, 9, 1, 0, 0, .null), (8, .imul, 1, 0, 0, 0, 0, .null), (9, .ireturn, 1, 0, 0, 0, 0, .null)]]
def zc157 : List (List zIn) := [[(0, .aload_n 0, 1, 0, 0, 0, 0, .null), (1, .dup, 1, 0, 0, 0, 0, .null), (2, .getfield 63, 3, 8, 2, 0, 0, .null), (5, .iconst 1, 1, 0, 0, 0, 0, .null), (6, .iadd, 1, 0, 0, 0, 0, .null), (7, .putfield 63, 3, 8, 2, 0, 0, .null), (10, .aload_n 0, 1, 0, 0, 0, 0, .null), (11, .aload_n 1, 1, 0, 0, 0, 0, .null), (12, .aload_n 0, 1, 0, 0, 0, 0, .null), (13, .getfield 9, 3, 8, 0, 7, 0, .null), (16, .aload_n 0, 1, 0, 0, 0, 0, .null), (17, .getfield 48, 3, 8, 1, 0, 0, .null), (20, .invokevirtual 131, 3, 0, 158, 3, 8, .null), (23, .iconst 1, 1, 0, 0, 0, 0, .null), (24, .ireturn, 1, 0, 0, 0, 0, .null)]]
def zc158 : List (List zIn) := [[(0, .iload_n 3, 1, 0, 0, 0, 0, .null), (1, .aload_n 2, 1, 0, 0, 0, 0, .null), (2, .arraylength, 1, 0, 0, 0, 0, .null), (3, .if_icmp .ne 8, 3, 0, 0, 0, 0, .null), (6, .aload_n 0, 1, 0, 0, 0, 0, .null), (7, .invokevirtual 129, 3, 0, 159, 0, 8, .null), (10, .astore_n 2, 1, 0, 0, 0, 0, .null), (11, .aload_n 2, 1, 0, 0, 0, 0, .null), (12, .iload_n 3, 1, 0, 0, 0, 0, .null), (13, .aload_n 1, 1, 0, 0, 0, 0, .null), (14, .aastore, 1, 0, 0, 0, 0, .null), (15, .aload_n 0, 1, 0, 0, 0, 0, .null), (16, .iload_n 3, 1, 0, 0, 0, 0, .null), (17, .iconst 1, 1, 0, 0, 0, 0, .null), (18, .iadd, 1, 0, 0, 0, 0, .null), (19, .putfield 48, 3, 8, 1, 0, 0, .null), (22, .return_, 1, 0, 0, 0, 0, .null)]]
def zc159 : List (List zIn) := [[(0, .aload_n 0, 1, 0, 0, 0, 0, .null), (1, .aload_n 0, 1, 0, 0, 0, 0, .null), (2, .getfield 48, 3, 8, 1, 0, 0, .null), (5, .iconst 1, 1, 0, 0, 0, 0, .null), (6, .iadd, 1, 0, 0, 0, 0, .null), (7, .invokevirtual 69, 3, 0, 160, 1, 8, .null), (10, .areturn, 1, 0, 0, 0, 0, .null)]]
def zc160 : List (List zIn) := [[(0, .aload_n 0, 1, 0, 0, 0, 0, .null), (1, .getfield 9, 3, 8, 0, 7, 0, .null), (4, .arraylength, 1, 0, 0, 0, 0, .null), (5, .istore_n 2, 1, 0, 0, 0, 0, .null), (6, .iload_n 2, 1, 0, 0, 0, 0, .null), (7, .ifCond .gt 13, 3, 0, 0, 0, 0, .null), (10, .aload_n 0, 1, 0, 0, 0, 0, .null), (11, .getfield 9, 3, 8, 0, 7, 0, .null), (14, .getstatic 39, 3, 3, 0, 0, 0, .null), (17, .if_acmp .eq 28, 3, 0, 0, 0, 0, .null), (20, .iload_n 2, 1, 0, 0, 0, 0, .null), (21, .iload_n 1, 1, 0, 0, 0, 0, .null), (22, .iload_n 2, 1, 0, 0, 0, 0, .null), (23, .isub, 1, 0, 0, 0, 0, .null), (24, .iload_n 2, 1, 0, 0, 0, 0, .null), (25, .iconst 1, 1, 0, 0, 0, 0, .null), (26, .ishr, 1, 0, 0, 0, 0, .null), (27, .invokestatic 73, 3, 3, 116, 3, 0, .null), (30, .istore_n 3, 1, 0, 0, 0, 0, .null), (31, .aload_n 0, 1, 0, 0, 0, 0, .null)], [(32, .aload_n 0, 1, 0, 0, 0, 0, .null), (33, .getfield 9, 3, 8, 0, 7, 0, .null), (36, .iload_n 3, 1, 0, 0, 0, 0, .null), (37, .invokestatic 66, 3, 999, 0, 0, 0, .null), (40, .dup_x1, 1, 0, 0, 0, 0, .null), (41, .putfield 9, 3, 8, 0, 7, 0, .null), (44, .areturn, 1, 0, 0, 0, 0, .null), (45, .aload_n 0, 1, 0, 0, 0, 0, .null), (46, .bipush 10, 2, 0, 0, 0, 0, .null), (48, .iload_n 1, 1, 0, 0, 0, 0, .null), (49, .invokestatic 79, 3, 3, 117, 2, 0, .null), (52, .anewarray 7, 3, 69, 0, 0, 0, .null), (55, .dup_x1, 1, 0, 0, 0, 0, .null), (56, .putfield 9, 3, 8, 0, 7, 0, .null), (59, .areturn, 1, 0, 0, 0, 0, .null)]]
def zc161 : List (List zIn) := [[(0, .aload_n 0, 1, 0, 0, 0, 0, .null), (1, .iconst 0, 1, 0, 0, 0, 0, .null), (2, .putfield 16, 3, 7, 0, 0, 0, .null), (5, .aload_n 0, 1, 0, 0, 0, 0, .null), (6, .iload_n 1, 1, 0, 0, 0, 0, .null), (7, .iload_n 2, 1, 0, 0, 0, 0, .null), (8, .invokevirtual 64, 3, 0, 162, 2, 7, .null), (11, .ifCond .ne 9, 3, 0, 0, 0, 0, .null), (14, .aload_n 0, 1, 0, 0, 0, 0, .null), (15, .iconst 1, 1, 0, 0, 0, 0, .null), (16, .invokevirtual 50, 3, 0, 152, 1, 7, .null), (19, .ireturn, 1, 0, 0, 0, 0, .null), (20, .aload_n 0, 1, 0, 0, 0, 0, .null), (21, .getfield 10, 3, 7, 1, 6, 1, .null), (24, .iload_n 1, 1, 0, 0, 0, 0, .null), (25, .invokeinterface 38 2, 5, 8, 164, 1, 8, .null), (30, .checkcast 42, 3, 9, 0, 0, 0, .null)], [(33, .astore 4, 2, 0, 0, 0, 0, .null), (35, .iload_n 3, 1, 0, 0, 0, 0, .null), (36, .aload 4, 2, 0, 0, 0, 0, .null), (38, .iload_n 2, 1, 0, 0, 0, 0, .null), (39, .invokevirtual 67, 3, 0, 168, 1, 9, .null), (42, .invokestatic 70, 3, 3, 169, 2, 0, .null), (45, .ifCond .ne 9, 3, 0, 0, 0, 0, .null), (48, .aload_n 0, 1, 0, 0, 0, 0, .null), (49, .iconst 2, 1, 0, 0, 0, 0, .null), (50, .invokevirtual 50, 3, 0, 152, 1, 7, .null), (53, .ireturn, 1, 0, 0, 0, 0, .null), (54, .aload 4, 2, 0, 0, 0, 0, .null), (56, .getfield 73, 3, 9, 3, 7, 0, .null), (59, .iload_n 2, 1, 0, 0, 0, 0, .null), (60, .iload_n 3, 1, 0, 0, 0, 0, .null), (61, .iastore, 1, 0, 0, 0, 0, .null), (62, .aload 4, 2, 0, 0, 0, 0, .null)], [(64, .iload_n 2, 1, 0, 0, 0, 0, .null), (65, .invokevirtual 77, 3, 0, 171, 1, 9, .null), (68, .ireturn, 1, 0, 0, 0, 0, .null)]]
def zc162 : List (List zIn) := [[(0, .aload_n 0, 1, 0, 0, 0, 0, .null), (1, .iload_n 1, 1, 0, 0, 0, 0, .null), (2, .invokevirtual 34, 3, 0, 163, 1, 7, .null), (5, .ifCond .eq 33, 3, 0, 0, 0, 0, .null), (8, .iload_n 2, 1, 0, 0, 0, 0, .null), (9, .iconst 0, 1, 0, 0, 0, 0, .null), (10, .aload_n 0, 1, 0, 0, 0, 0, .null), (11, .getfield 10, 3, 7, 1, 6, 1, .null), (14, .iload_n 1, 1, 0, 0, 0, 0, .null), (15, .invokeinterface 38 2, 5, 8, 164, 1, 8, .null), (20, .checkcast 42, 3, 9, 0, 0, 0, .null), (23, .invokevirtual 47, 3, 0, 167, 0, 9, .null), (26, .iconst 1, 1, 0, 0, 0, 0, .null), (27, .isub, 1, 0, 0, 0, 0, .null), (28, .invokestatic 30, 3, 3, 151, 3, 0, .null), (31, .ifCond .eq 7, 3, 0, 0, 0, 0, .null)], [(34, .iconst 1, 1, 0, 0, 0, 0, .null), (35, .goto 4, 3, 0, 0, 0, 0, .null), (38, .iconst 0, 1, 0, 0, 0, 0, .null), (39, .ireturn, 1, 0, 0, 0, 0, .null)]]
def zc163 : List (List zIn) := [[(0, .iload_n 1, 1, 0, 0, 0, 0, .null), (1, .iconst 0, 1, 0, 0, 0, 0, .null), (2, .aload_n 0, 1, 0, 0, 0, 0, .null), (3, .getfield 10, 3, 7, 1, 6, 1, .null), (6, .invokeinterface 24 1, 5, 8, 153, 0, 8, .null), (11, .iconst 1, 1, 0, 0, 0, 0, .null), (12, .isub, 1, 0, 0, 0, 0, .null), (13, .invokestatic 30, 3, 3, 151, 3, 0, .null), (16, .ireturn, 1, 0, 0, 0, 0, .null)]]
def zc164 : List (List zIn) := [[(0, .iload_n 1, 1, 0, 0, 0, 0, .null), (1, .aload_n 0, 1, 0, 0, 0, 0, .null), (2, .getfield 48, 3, 8, 1, 0, 0, .null), (5, .invokestatic 118, 3, 3, 165, 2, 0, .null), (8, .pop, 1, 0, 0, 0, 0, .null), (9, .aload_n 0, 1, 0, 0, 0, 0, .null), (10, .iload_n 1, 1, 0, 0, 0, 0, .null), (11, .invokevirtual 123, 3, 0, 166, 1, 8, .null), (14, .areturn, 1, 0, 0, 0, 0, .null)]]
def zc165 : List (List zIn) := [[(0, .iload_n 0, 1, 0, 0, 0, 0, .null), (1, .iload_n 1, 1, 0, 0, 0, 0, .null), (2, .aconst_null, 1, 0, 0, 0, 0, .null), (3, .invokestatic 105, 3, 3, 122, 3, 0, .null), (6, .ireturn, 1, 0, 0, 0, 0, .null)]]
def zc166 : List (List zIn) := [[(0, .aload_n 0, 1, 0, 0, 0, 0, .null), (1, .getfield 9, 3, 8, 0, 7, 0, .null), (4, .iload_n 1, 1, 0, 0, 0, 0, .null), (5, .aaload, 1, 0, 0, 0, 0, .null), (6, .areturn, 1, 0, 0, 0, 0, .null)]]
def zc167 : List (List zIn) := [[(0, .aload_n 0, 1, 0, 0, 0, 0, .null), (1, .getfield 18, 3, 9, 0, 0, 0, .null), (4, .aload_n 0, 1, 0, 0, 0, 0, .null), (5, .getfield 22, 3, 9, 1, 0, 0, .null), (8, .iadd, 1, 0, 0, 0, 0, .null), (9, .ireturn, 1, 0, 0, 0, 0, .null)]]
def zc168 : List (List zIn) := [[(0, .iload_n 1, 1, 0, 0, 0, 0, .null), (1, .aload_n 0, 1, 0, 0, 0, 0, .null), (2, .getfield 22, 3, 9, 1, 0, 0, .null), (5, .if_icmp .ge 10, 3, 0, 0, 0, 0, .null), (8, .aload_n 0, 1, 0, 0, 0, 0, .null), (9, .getfield 18, 3, 9, 0, 0, 0, .null), (12, .goto 7, 3, 0, 0, 0, 0, .null), (15, .aload_n 0, 1, 0, 0, 0, 0, .null), (16, .getfield 22, 3, 9, 1, 0, 0, .null), (19, .ireturn, 1, 0, 0, 0, 0, .null)]]
def zc169 : List (List zIn) := [[(0, .iload_n 0, 1, 0, 0, 0, 0, .null), (1, .ifCond .ge 5, 3, 0, 0, 0, 0, .null), (4, .iconst 0, 1, 0, 0, 0, 0, .null), (5, .ireturn, 1, 0, 0, 0, 0, .null), (6, .iload_n 0, 1, 0, 0, 0, 0, .null), (7, .invokestatic 61, 3, 3, 170, 1, 0, .null), (10, .iconst 1, 1, 0, 0, 0, 0, .null), (11, .isub, 1, 0, 0, 0, 0, .null), (12, .istore_n 2, 1, 0, 0, 0, 0, .null), (13, .iload_n 0, 1, 0, 0, 0, 0, .null), (14, .istore_n 3, 1, 0, 0, 0, 0, .null), (15, .iload_n 3, 1, 0, 0, 0, 0, .null), (16, .ifCond .le 27, 3, 0, 0, 0, 0, .null), (19, .iload_n 3, 1, 0, 0, 0, 0, .null), (20, .bipush 10, 2, 0, 0, 0, 0, .null), (22, .irem, 1, 0, 0, 0, 0, .null), (23, .ifCond .ne 5, 3, 0, 0, 0, 0, .null), (26, .iconst 0, 1, 0, 0, 0, 0, .null), (27, .ireturn, 1, 0, 0, 0, 0, .null), (28, .iload_n 2, 1, 0, 0, 0, 0, .null), (29, .iload_n 3, 1, 0, 0, 0, 0, .null), (30, .bipush 10, 2, 0, 0, 0, 0, .null)], [(32, .irem, 1, 0, 0, 0, 0, .null), (33, .iadd, 1, 0, 0, 0, 0, .null), (34, .istore_n 2, 1, 0, 0, 0, 0, .null), (35, .iload_n 3, 1, 0, 0, 0, 0, .null), (36, .bipush 10, 2, 0, 0, 0, 0, .null), (38, .idiv, 1, 0, 0, 0, 0, .null), (39, .istore_n 3, 1, 0, 0, 0, 0, .null), (40, .goto (-25), 3, 0, 0, 0, 0, .null), (43, .iload_n 0, 1, 0, 0, 0, 0, .null), (44, .ifCond .eq 8, 3, 0, 0, 0, 0, .null), (47, .iload_n 2, 1, 0, 0, 0, 0, .null), (48, .iload_n 1, 1, 0, 0, 0, 0, .null), (49, .if_icmp .gt 7, 3, 0, 0, 0, 0, .null), (52, .iconst 1, 1, 0, 0, 0, 0, .null), (53, .goto 4, 3, 0, 0, 0, 0, .null), (56, .iconst 0, 1, 0, 0, 0, 0, .null), (57, .ireturn, 1, 0, 0, 0, 0, .null)]]
def zc170 : List (List zIn) := [[(0, .iconst 0, 1, 0, 0, 0, 0, .null), (1, .istore_n 1, 1, 0, 0, 0, 0, .null), (2, .iload_n 0, 1, 0, 0, 0, 0, .null), (3, .istore_n 2, 1, 0, 0, 0, 0, .null), (4, .iload_n 2, 1, 0, 0, 0, 0, .null), (5, .ifCond .le 14, 3, 0, 0, 0, 0, .null), (8, .iinc 1 1, 3, 0, 0, 0, 0, .null), (11, .iload_n 2, 1, 0, 0, 0, 0, .null), (12, .bipush 10, 2, 0, 0, 0, 0, .null), (14, .idiv, 1, 0, 0, 0, 0, .null), (15, .istore_n 2, 1, 0, 0, 0, 0, .null), (16, .goto (-12), 3, 0, 0, 0, 0, .null), (19, .iload_n 1, 1, 0, 0, 0, 0, .null), (20, .ireturn, 1, 0, 0, 0, 0, .null)]]
def zc171 : List (List zIn) := [[(0, .iconst 0, 1, 0, 0, 0, 0, .null), (1, .istore_n 2, 1, 0, 0, 0, 0, .null), (2, .iconst 0, 1, 0, 0, 0, 0, .null), (3, .istore_n 3, 1, 0, 0, 0, 0, .null), (4, .iload_n 3, 1, 0, 0, 0, 0, .null), (5, .iconst 1, 1, 0, 0, 0, 0, .null), (6, .aload_n 0, 1, 0, 0, 0, 0, .null), (7, .iload_n 1, 1, 0, 0, 0, 0, .null), (8, .invokevirtual 54, 3, 0, 168, 1, 9, .null), (11, .ishl, 1, 0, 0, 0, 0, .null), (12, .if_icmp .ge 26, 3, 0, 0, 0, 0, .null), (15, .iload_n 2, 1, 0, 0, 0, 0, .null), (16, .aload_n 0, 1, 0, 0, 0, 0, .null), (17, .iload_n 1, 1, 0, 0, 0, 0, .null), (18, .iload_n 3, 1, 0, 0, 0, 0, .null), (19, .invokevirtual 72, 3, 0, 172, 2, 9, .null), (22, .ifCond .eq 7, 3, 0, 0, 0, 0, .null), (25, .iconst 1, 1, 0, 0, 0, 0, .null), (26, .goto 4, 3, 0, 0, 0, 0, .null), (29, .iconst 0, 1, 0, 0, 0, 0, .null), (30, .iadd, 1, 0, 0, 0, 0, .null), (31, .istore_n 2, 1, 0, 0, 0, 0, .null)], [(32, .iinc 3 1, 3, 0, 0, 0, 0, .null), (35, .goto (-31), 3, 0, 0, 0, 0, .null), (38, .iload_n 2, 1, 0, 0, 0, 0, .null), (39, .ireturn, 1, 0, 0, 0, 0, .null)]]
def zc172 : List (List zIn) := [[(0, .iconst 0, 1, 0, 0, 0, 0, .null), (1, .istore_n 3, 1, 0, 0, 0, 0, .null), (2, .iload_n 3, 1, 0, 0, 0, 0, .null), (3, .aload_n 0, 1, 0, 0, 0, 0, .null), (4, .iload_n 1, 1, 0, 0, 0, 0, .null), (5, .invokevirtual 54, 3, 0, 168, 1, 9, .null), (8, .if_icmp .ge 51, 3, 0, 0, 0, 0, .null), (11, .aload_n 0, 1, 0, 0, 0, 0, .null), (12, .aload_n 0, 1, 0, 0, 0, 0, .null), (13, .iload_n 1, 1, 0, 0, 0, 0, .null), (14, .iload_n 3, 1, 0, 0, 0, 0, .null), (15, .invokevirtual 58, 3, 0, 173, 2, 9, .null), (18, .invokevirtual 62, 3, 0, 174, 1, 9, .null), (21, .istore 4, 2, 0, 0, 0, 0, .null), (23, .iload 4, 2, 0, 0, 0, 0, .null), (25, .iconst 1, 1, 0, 0, 0, 0, .null), (26, .if_icmp .ne 11, 3, 0, 0, 0, 0, .null), (29, .iload_n 2, 1, 0, 0, 0, 0, .null), (30, .iload_n 3, 1, 0, 0, 0, 0, .null), (31, .invokestatic 65, 3, 4, 175, 2, 0, .null)], [(34, .ifCond .eq 17, 3, 0, 0, 0, 0, .null), (37, .iload 4, 2, 0, 0, 0, 0, .null), (39, .iconst 2, 1, 0, 0, 0, 0, .null), (40, .if_icmp .ne 13, 3, 0, 0, 0, 0, .null), (43, .iload_n 2, 1, 0, 0, 0, 0, .null), (44, .iload_n 3, 1, 0, 0, 0, 0, .null), (45, .invokestatic 65, 3, 4, 175, 2, 0, .null), (48, .ifCond .eq 5, 3, 0, 0, 0, 0, .null), (51, .iconst 0, 1, 0, 0, 0, 0, .null), (52, .ireturn, 1, 0, 0, 0, 0, .null), (53, .iinc 3 1, 3, 0, 0, 0, 0, .null), (56, .goto (-54), 3, 0, 0, 0, 0, .null), (59, .aload_n 0, 1, 0, 0, 0, 0, .null), (60, .getfield 25, 3, 9, 3, 7, 0, .null), (63, .iload_n 1, 1, 0, 0, 0, 0, .null)], [(64, .iaload, 1, 0, 0, 0, 0, .null), (65, .iconst (-1), 1, 0, 0, 0, 0, .null), (66, .if_icmp .eq 21, 3, 0, 0, 0, 0, .null), (69, .iload_n 2, 1, 0, 0, 0, 0, .null), (70, .aload_n 0, 1, 0, 0, 0, 0, .null), (71, .iload_n 1, 1, 0, 0, 0, 0, .null), (72, .invokevirtual 54, 3, 0, 168, 1, 9, .null), (75, .invokestatic 69, 3, 4, 176, 2, 0, .null), (78, .aload_n 0, 1, 0, 0, 0, 0, .null), (79, .getfield 25, 3, 9, 3, 7, 0, .null), (82, .iload_n 1, 1, 0, 0, 0, 0, .null), (83, .iaload, 1, 0, 0, 0, 0, .null), (84, .if_icmp .ne 7, 3, 0, 0, 0, 0, .null), (87, .iconst 1, 1, 0, 0, 0, 0, .null), (88, .goto 4, 3, 0, 0, 0, 0, .null), (91, .iconst 0, 1, 0, 0, 0, 0, .null), (92, .ireturn, 1, 0, 0, 0, 0, .null)]]
def zc173 : List (List zIn) := [[(0, .iload_n 1, 1, 0, 0, 0, 0, .null), (1, .aload_n 0, 1, 0, 0, 0, 0, .null), (2, .getfield 22, 3, 9, 1, 0, 0, .null), (5, .if_icmp .ge 14, 3, 0, 0, 0, 0, .null), (8, .aload_n 0, 1, 0, 0, 0, 0, .null), (9, .getfield 18, 3, 9, 0, 0, 0, .null), (12, .iload_n 1, 1, 0, 0, 0, 0, .null), (13, .imul, 1, 0, 0, 0, 0, .null), (14, .iload_n 2, 1, 0, 0, 0, 0, .null), (15, .iadd, 1, 0, 0, 0, 0, .null), (16, .goto 16, 3, 0, 0, 0, 0, .null), (19, .aload_n 0, 1, 0, 0, 0, 0, .null), (20, .getfield 18, 3, 9, 0, 0, 0, .null), (23, .iload_n 2, 1, 0, 0, 0, 0, .null), (24, .imul, 1, 0, 0, 0, 0, .null), (25, .iload_n 1, 1, 0, 0, 0, 0, .null), (26, .iadd, 1, 0, 0, 0, 0, .null), (27, .aload_n 0, 1, 0, 0, 0, 0, .null), (28, .getfield 22, 3, 9, 1, 0, 0, .null), (31, .isub, 1, 0, 0, 0, 0, .null)], [(32, .ireturn, 1, 0, 0, 0, 0, .null)]]
def zc174 : List (List zIn) := [[(0, .aload_n 0, 1, 0, 0, 0, 0, .null), (1, .getfield 38, 3, 9, 2, 7, 0, .null), (4, .iconst 0, 1, 0, 0, 0, 0, .null), (5, .aaload, 1, 0, 0, 0, 0, .null), (6, .iload_n 1, 1, 0, 0, 0, 0, .null), (7, .iaload, 1, 0, 0, 0, 0, .null), (8, .ireturn, 1, 0, 0, 0, 0, .null)]]
def zc175 : List (List zIn) := [[(0, .iload_n 0, 1, 0, 0, 0, 0, .null), (1, .iload_n 1, 1, 0, 0, 0, 0, .null), (2, .ishr, 1, 0, 0, 0, 0, .null), (3, .iconst 1, 1, 0, 0, 0, 0, .null), (4, .iand, 1, 0, 0, 0, 0, .null), (5, .iconst 1, 1, 0, 0, 0, 0, .null), (6, .if_icmp .ne 7, 3, 0, 0, 0, 0, .null), (9, .iconst 1, 1, 0, 0, 0, 0, .null), (10, .goto 4, 3, 0, 0, 0, 0, .null), (13, .iconst 0, 1, 0, 0, 0, 0, .null), (14, .ireturn, 1, 0, 0, 0, 0, .null)]]
def zc176 : List (List zIn) := [[(0, .iconst 0, 1, 0, 0, 0, 0, .null), (1, .istore_n 2, 1, 0, 0, 0, 0, .null), (2, .iconst 0, 1, 0, 0, 0, 0, .null), (3, .istore_n 3, 1, 0, 0, 0, 0, .null), (4, .iconst 0, 1, 0, 0, 0, 0, .null), (5, .istore 4, 2, 0, 0, 0, 0, .null), (7, .iload 4, 2, 0, 0, 0, 0, .null), (9, .iload_n 1, 1, 0, 0, 0, 0, .null), (10, .if_icmp .gt 47, 3, 0, 0, 0, 0, .null), (13, .iload 4, 2, 0, 0, 0, 0, .null), (15, .iload_n 1, 1, 0, 0, 0, 0, .null), (16, .if_icmp .ge 18, 3, 0, 0, 0, 0, .null), (19, .iload_n 0, 1, 0, 0, 0, 0, .null), (20, .iload 4, 2, 0, 0, 0, 0, .null), (22, .invokestatic 20, 3, 3, 175, 2, 0, .null), (25, .ifCond .eq 9, 3, 0, 0, 0, 0, .null), (28, .iinc 3 1, 3, 0, 0, 0, 0, .null), (31, .goto 20, 3, 0, 0, 0, 0, .null)], [(34, .iload_n 3, 1, 0, 0, 0, 0, .null), (35, .ifCond .le 12, 3, 0, 0, 0, 0, .null), (38, .bipush 10, 2, 0, 0, 0, 0, .null), (40, .iload_n 2, 1, 0, 0, 0, 0, .null), (41, .imul, 1, 0, 0, 0, 0, .null), (42, .iload_n 3, 1, 0, 0, 0, 0, .null), (43, .iadd, 1, 0, 0, 0, 0, .null), (44, .goto 4, 3, 0, 0, 0, 0, .null), (47, .iload_n 2, 1, 0, 0, 0, 0, .null), (48, .istore_n 2, 1, 0, 0, 0, 0, .null), (49, .iconst 0, 1, 0, 0, 0, 0, .null), (50, .istore_n 3, 1, 0, 0, 0, 0, .null), (51, .iinc 4 1, 3, 0, 0, 0, 0, .null), (54, .goto (-47), 3, 0, 0, 0, 0, .null), (57, .iload_n 2, 1, 0, 0, 0, 0, .null), (58, .ireturn, 1, 0, 0, 0, 0, .null)]]
def zc177 : List (List zIn) := [[(0, .aload_n 0, 1, 0, 0, 0, 0, .null), (1, .iconst 0, 1, 0, 0, 0, 0, .null), (2, .putfield 16, 3, 7, 0, 0, 0, .null), (5, .aload_n 0, 1, 0, 0, 0, 0, .null), (6, .iload_n 1, 1, 0, 0, 0, 0, .null), (7, .iload_n 2, 1, 0, 0, 0, 0, .null), (8, .invokevirtual 64, 3, 0, 162, 2, 7, .null), (11, .ifCond .ne 9, 3, 0, 0, 0, 0, .null), (14, .aload_n 0, 1, 0, 0, 0, 0, .null), (15, .iconst 1, 1, 0, 0, 0, 0, .null), (16, .invokevirtual 50, 3, 0, 152, 1, 7, .null), (19, .ireturn, 1, 0, 0, 0, 0, .null), (20, .aload_n 0, 1, 0, 0, 0, 0, .null), (21, .getfield 10, 3, 7, 1, 6, 1, .null), (24, .iload_n 1, 1, 0, 0, 0, 0, .null), (25, .invokeinterface 38 2, 5, 8, 164, 1, 8, .null), (30, .checkcast 42, 3, 9, 0, 0, 0, .null)], [(33, .getfield 73, 3, 9, 3, 7, 0, .null), (36, .iload_n 2, 1, 0, 0, 0, 0, .null), (37, .iaload, 1, 0, 0, 0, 0, .null), (38, .istore_n 3, 1, 0, 0, 0, 0, .null), (39, .aload_n 0, 1, 0, 0, 0, 0, .null), (40, .getfield 10, 3, 7, 1, 6, 1, .null), (43, .iload_n 1, 1, 0, 0, 0, 0, .null), (44, .invokeinterface 38 2, 5, 8, 164, 1, 8, .null), (49, .checkcast 42, 3, 9, 0, 0, 0, .null), (52, .getfield 73, 3, 9, 3, 7, 0, .null), (55, .iload_n 2, 1, 0, 0, 0, 0, .null), (56, .iconst (-1), 1, 0, 0, 0, 0, .null), (57, .iastore, 1, 0, 0, 0, 0, .null), (58, .iload_n 3, 1, 0, 0, 0, 0, .null), (59, .ireturn, 1, 0, 0, 0, 0, .null)]]
def zc178 : List (List zIn) := [[(0, .aload_n 0, 1, 0, 0, 0, 0, .null), (1, .iconst 0, 1, 0, 0, 0, 0, .null), (2, .putfield 16, 3, 7, 0, 0, 0, .null), (5, .aload_n 0, 1, 0, 0, 0, 0, .null), (6, .iload_n 1, 1, 0, 0, 0, 0, .null), (7, .iload_n 2, 1, 0, 0, 0, 0, .null), (8, .invokevirtual 80, 3, 0, 179, 2, 7, .null), (11, .ifCond .ne 17, 3, 0, 0, 0, 0, .null), (14, .aload_n 0, 1, 0, 0, 0, 0, .null), (15, .iconst 1, 1, 0, 0, 0, 0, .null), (16, .invokevirtual 50, 3, 0, 152, 1, 7, .null), (19, .ifCond .le 7, 3, 0, 0, 0, 0, .null), (22, .iconst 1, 1, 0, 0, 0, 0, .null), (23, .goto 4, 3, 0, 0, 0, 0, .null), (26, .iconst 0, 1, 0, 0, 0, 0, .null), (27, .ireturn, 1, 0, 0, 0, 0, .null), (28, .aload_n 0, 1, 0, 0, 0, 0, .null), (29, .getfield 10, 3, 7, 1, 6, 1, .null)], [(32, .iload_n 1, 1, 0, 0, 0, 0, .null), (33, .invokeinterface 38 2, 5, 8, 164, 1, 8, .null), (38, .checkcast 42, 3, 9, 0, 0, 0, .null), (41, .astore 4, 2, 0, 0, 0, 0, .null), (43, .aload 4, 2, 0, 0, 0, 0, .null), (45, .iload_n 2, 1, 0, 0, 0, 0, .null), (46, .invokevirtual 83, 3, 0, 174, 1, 9, .null), (49, .ifCond .eq 17, 3, 0, 0, 0, 0, .null), (52, .aload_n 0, 1, 0, 0, 0, 0, .null), (53, .iconst 2, 1, 0, 0, 0, 0, .null), (54, .invokevirtual 50, 3, 0, 152, 1, 7, .null), (57, .ifCond .le 7, 3, 0, 0, 0, 0, .null), (60, .iconst 1, 1, 0, 0, 0, 0, .null), (61, .goto 4, 3, 0, 0, 0, 0, .null)], [(64, .iconst 0, 1, 0, 0, 0, 0, .null), (65, .ireturn, 1, 0, 0, 0, 0, .null), (66, .aload 4, 2, 0, 0, 0, 0, .null), (68, .iload_n 2, 1, 0, 0, 0, 0, .null), (69, .iload_n 3, 1, 0, 0, 0, 0, .null), (70, .ifCond .eq 7, 3, 0, 0, 0, 0, .null), (73, .iconst 1, 1, 0, 0, 0, 0, .null), (74, .goto 4, 3, 0, 0, 0, 0, .null), (77, .iconst 2, 1, 0, 0, 0, 0, .null), (78, .iconst (-1), 1, 0, 0, 0, 0, .null), (79, .iconst 0, 1, 0, 0, 0, 0, .null), (80, .invokevirtual 86, 3, 0, 180, 4, 9, .null), (83, .aload 4, 2, 0, 0, 0, 0, .null), (85, .invokevirtual 90, 3, 0, 181, 0, 9, .null), (88, .ifCond .le 5, 3, 0, 0, 0, 0, .null), (91, .iconst 1, 1, 0, 0, 0, 0, .null), (92, .ireturn, 1, 0, 0, 0, 0, .null), (93, .aload 4, 2, 0, 0, 0, 0, .null), (95, .iload_n 2, 1, 0, 0, 0, 0, .null)], [(96, .iconst 0, 1, 0, 0, 0, 0, .null), (97, .iconst (-1), 1, 0, 0, 0, 0, .null), (98, .iconst 0, 1, 0, 0, 0, 0, .null), (99, .invokevirtual 86, 3, 0, 180, 4, 9, .null), (102, .aload 4, 2, 0, 0, 0, 0, .null), (104, .dup, 1, 0, 0, 0, 0, .null), (105, .getfield 93, 3, 9, 5, 0, 0, .null), (108, .iconst 1, 1, 0, 0, 0, 0, .null), (109, .iadd, 1, 0, 0, 0, 0, .null), (110, .putfield 93, 3, 9, 5, 0, 0, .null), (113, .iconst 0, 1, 0, 0, 0, 0, .null), (114, .ireturn, 1, 0, 0, 0, 0, .null)]]
def zc179 : List (List zIn) := [[(0, .aload_n 0, 1, 0, 0, 0, 0, .null), (1, .iload_n 1, 1, 0, 0, 0, 0, .null), (2, .invokevirtual 34, 3, 0, 163, 1, 7, .null), (5, .ifCond .eq 33, 3, 0, 0, 0, 0, .null), (8, .iload_n 2, 1, 0, 0, 0, 0, .null), (9, .iconst 0, 1, 0, 0, 0, 0, .null), (10, .aload_n 0, 1, 0, 0, 0, 0, .null), (11, .getfield 10, 3, 7, 1, 6, 1, .null), (14, .iload_n 1, 1, 0, 0, 0, 0, .null), (15, .invokeinterface 38 2, 5, 8, 164, 1, 8, .null), (20, .checkcast 42, 3, 9, 0, 0, 0, .null), (23, .invokevirtual 44, 3, 0, 156, 0, 9, .null), (26, .iconst 1, 1, 0, 0, 0, 0, .null), (27, .isub, 1, 0, 0, 0, 0, .null), (28, .invokestatic 30, 3, 3, 151, 3, 0, .null), (31, .ifCond .eq 7, 3, 0, 0, 0, 0, .null)], [(34, .iconst 1, 1, 0, 0, 0, 0, .null), (35, .goto 4, 3, 0, 0, 0, 0, .null), (38, .iconst 0, 1, 0, 0, 0, 0, .null), (39, .ireturn, 1, 0, 0, 0, 0, .null)]]
def zc180 : List (List zIn) := [[(0, .aload_n 0, 1, 0, 0, 0, 0, .null), (1, .getfield 38, 3, 9, 2, 7, 0, .null), (4, .iconst 0, 1, 0, 0, 0, 0, .null), (5, .aaload, 1, 0, 0, 0, 0, .null), (6, .iload_n 1, 1, 0, 0, 0, 0, .null), (7, .iload_n 2, 1, 0, 0, 0, 0, .null), (8, .iastore, 1, 0, 0, 0, 0, .null), (9, .aload_n 0, 1, 0, 0, 0, 0, .null), (10, .getfield 38, 3, 9, 2, 7, 0, .null), (13, .iconst 1, 1, 0, 0, 0, 0, .null), (14, .aaload, 1, 0, 0, 0, 0, .null), (15, .iload_n 1, 1, 0, 0, 0, 0, .null), (16, .iload_n 3, 1, 0, 0, 0, 0, .null), (17, .iastore, 1, 0, 0, 0, 0, .null), (18, .aload_n 0, 1, 0, 0, 0, 0, .null), (19, .getfield 38, 3, 9, 2, 7, 0, .null), (22, .iconst 2, 1, 0, 0, 0, 0, .null), (23, .aaload, 1, 0, 0, 0, 0, .null), (24, .iload_n 1, 1, 0, 0, 0, 0, .null), (25, .iload 4, 2, 0, 0, 0, 0, .null), (27, .iastore, 1, 0, 0, 0, 0, .null), (28, .aload_n 0, 1, 0, 0, 0, 0, .null), (29, .getfield 38, 3, 9, 2, 7, 0, .null)], [(32, .iconst 3, 1, 0, 0, 0, 0, .null), (33, .aaload, 1, 0, 0, 0, 0, .null), (34, .iload_n 1, 1, 0, 0, 0, 0, .null), (35, .iload_n 2, 1, 0, 0, 0, 0, .null), (36, .ifCond .ne 7, 3, 0, 0, 0, 0, .null), (39, .iconst 0, 1, 0, 0, 0, 0, .null), (40, .goto 12, 3, 0, 0, 0, 0, .null), (43, .aload_n 0, 1, 0, 0, 0, 0, .null), (44, .getfield 12, 3, 9, 4, 6, 0, .null), (47, .invokeinterface 75 1, 5, 8, 153, 0, 8, .null), (52, .iastore, 1, 0, 0, 0, 0, .null), (53, .return_, 1, 0, 0, 0, 0, .null)]]
def zc181 : List (List zIn) := [[(0, .aload_n 0, 1, 0, 0, 0, 0, .null), (1, .invokevirtual 111, 3, 0, 182, 0, 9, .null), (4, .arraylength, 1, 0, 0, 0, 0, .null), (5, .ireturn, 1, 0, 0, 0, 0, .null)]]
def zc182 : List (List zIn) := [[(0, .sipush 501, 3, 0, 0, 0, 0, .null), (3, .newarray .int, 2, 64, 0, 0, 0, .null), (5, .astore_n 1, 1, 0, 0, 0, 0, .null), (6, .aload_n 0, 1, 0, 0, 0, 0, .null), (7, .getfield 22, 3, 9, 1, 0, 0, .null), (10, .anewarray 96, 3, 66, 0, 0, 0, .null), (13, .astore_n 2, 1, 0, 0, 0, 0, .null), (14, .iconst 0, 1, 0, 0, 0, 0, .null), (15, .istore_n 3, 1, 0, 0, 0, 0, .null), (16, .iload_n 3, 1, 0, 0, 0, 0, .null), (17, .aload_n 0, 1, 0, 0, 0, 0, .null), (18, .getfield 22, 3, 9, 1, 0, 0, .null), (21, .if_icmp .ge 17, 3, 0, 0, 0, 0, .null), (24, .aload_n 2, 1, 0, 0, 0, 0, .null), (25, .iload_n 3, 1, 0, 0, 0, 0, .null), (26, .aload_n 0, 1, 0, 0, 0, 0, .null), (27, .iload_n 3, 1, 0, 0, 0, 0, .null), (28, .invokevirtual 97, 3, 0, 183, 1, 9, .null), (31, .aastore, 1, 0, 0, 0, 0, .null)], [(32, .iinc 3 1, 3, 0, 0, 0, 0, .null), (35, .goto (-19), 3, 0, 0, 0, 0, .null), (38, .aload_n 0, 1, 0, 0, 0, 0, .null), (39, .getfield 18, 3, 9, 0, 0, 0, .null), (42, .aload_n 0, 1, 0, 0, 0, 0, .null), (43, .getfield 22, 3, 9, 1, 0, 0, .null), (46, .iconst 2, 1, 0, 0, 0, 0, .null), (47, .multianewarray 101 3, 4, 3, 0, 0, 0, .null), (51, .astore_n 3, 1, 0, 0, 0, 0, .null), (52, .aload_n 0, 1, 0, 0, 0, 0, .null), (53, .getfield 22, 3, 9, 1, 0, 0, .null), (56, .iconst 1, 1, 0, 0, 0, 0, .null), (57, .iadd, 1, 0, 0, 0, 0, .null), (58, .aload_n 0, 1, 0, 0, 0, 0, .null), (59, .getfield 18, 3, 9, 0, 0, 0, .null), (62, .multianewarray 36 2, 4, 2, 0, 0, 0, .null)], [(66, .astore 4, 2, 0, 0, 0, 0, .null), (68, .iconst 0, 1, 0, 0, 0, 0, .null), (69, .istore 5, 2, 0, 0, 0, 0, .null), (71, .iload 5, 2, 0, 0, 0, 0, .null), (73, .aload_n 0, 1, 0, 0, 0, 0, .null), (74, .getfield 18, 3, 9, 0, 0, 0, .null), (77, .if_icmp .ge 122, 3, 0, 0, 0, 0, .null), (80, .aload_n 0, 1, 0, 0, 0, 0, .null), (81, .aload_n 0, 1, 0, 0, 0, 0, .null), (82, .getfield 22, 3, 9, 1, 0, 0, .null), (85, .iload 5, 2, 0, 0, 0, 0, .null), (87, .iadd, 1, 0, 0, 0, 0, .null), (88, .invokevirtual 97, 3, 0, 183, 1, 9, .null), (91, .astore 6, 2, 0, 0, 0, 0, .null), (93, .iconst 0, 1, 0, 0, 0, 0, .null), (94, .istore 7, 2, 0, 0, 0, 0, .null)], [(96, .iload 7, 2, 0, 0, 0, 0, .null), (98, .aload 6, 2, 0, 0, 0, 0, .null), (100, .arraylength, 1, 0, 0, 0, 0, .null), (101, .if_icmp .ge 92, 3, 0, 0, 0, 0, .null), (104, .aload_n 0, 1, 0, 0, 0, 0, .null), (105, .aload_n 2, 1, 0, 0, 0, 0, .null), (106, .aload 6, 2, 0, 0, 0, 0, .null), (108, .iload 7, 2, 0, 0, 0, 0, .null), (110, .iaload, 1, 0, 0, 0, 0, .null), (111, .iload 5, 2, 0, 0, 0, 0, .null), (113, .invokevirtual 103, 3, 0, 184, 3, 9, .null), (116, .ifCond .ne 6, 3, 0, 0, 0, 0, .null), (119, .goto 68, 3, 0, 0, 0, 0, .null), (122, .aload 4, 2, 0, 0, 0, 0, .null), (124, .iconst 0, 1, 0, 0, 0, 0, .null), (125, .aaload, 1, 0, 0, 0, 0, .null), (126, .iload 5, 2, 0, 0, 0, 0, .null)], [(128, .dup2, 1, 0, 0, 0, 0, .null), (129, .iaload, 1, 0, 0, 0, 0, .null), (130, .iconst 1, 1, 0, 0, 0, 0, .null), (131, .iload 7, 2, 0, 0, 0, 0, .null), (133, .ishl, 1, 0, 0, 0, 0, .null), (134, .ior, 1, 0, 0, 0, 0, .null), (135, .iastore, 1, 0, 0, 0, 0, .null), (136, .iconst 0, 1, 0, 0, 0, 0, .null), (137, .istore 8, 2, 0, 0, 0, 0, .null), (139, .iload 8, 2, 0, 0, 0, 0, .null), (141, .aload_n 0, 1, 0, 0, 0, 0, .null), (142, .getfield 22, 3, 9, 1, 0, 0, .null), (145, .if_icmp .ge 42, 3, 0, 0, 0, 0, .null), (148, .aload_n 3, 1, 0, 0, 0, 0, .null), (149, .iload 5, 2, 0, 0, 0, 0, .null), (151, .aaload, 1, 0, 0, 0, 0, .null), (152, .iload 8, 2, 0, 0, 0, 0, .null), (154, .aaload, 1, 0, 0, 0, 0, .null), (155, .aload 6, 2, 0, 0, 0, 0, .null), (157, .iload 7, 2, 0, 0, 0, 0, .null), (159, .iaload, 1, 0, 0, 0, 0, .null)], [(160, .iload 8, 2, 0, 0, 0, 0, .null), (162, .invokestatic 65, 3, 4, 175, 2, 0, .null), (165, .ifCond .eq 7, 3, 0, 0, 0, 0, .null), (168, .iconst 1, 1, 0, 0, 0, 0, .null), (169, .goto 4, 3, 0, 0, 0, 0, .null), (172, .iconst 0, 1, 0, 0, 0, 0, .null), (173, .dup2, 1, 0, 0, 0, 0, .null), (174, .iaload, 1, 0, 0, 0, 0, .null), (175, .iconst 1, 1, 0, 0, 0, 0, .null), (176, .iload 7, 2, 0, 0, 0, 0, .null), (178, .ishl, 1, 0, 0, 0, 0, .null), (179, .ior, 1, 0, 0, 0, 0, .null), (180, .iastore, 1, 0, 0, 0, 0, .null), (181, .iinc 8 1, 3, 0, 0, 0, 0, .null), (184, .goto (-45), 3, 0, 0, 0, 0, .null), (187, .iinc 7 1, 3, 0, 0, 0, 0, .null), (190, .goto (-94), 3, 0, 0, 0, 0, .null)], [(193, .iinc 5 1, 3, 0, 0, 0, 0, .null), (196, .goto (-125), 3, 0, 0, 0, 0, .null), (199, .aload_n 0, 1, 0, 0, 0, 0, .null), (200, .aload_n 1, 1, 0, 0, 0, 0, .null), (201, .aload_n 2, 1, 0, 0, 0, 0, .null), (202, .aload_n 3, 1, 0, 0, 0, 0, .null), (203, .aload 4, 2, 0, 0, 0, 0, .null), (205, .iconst 0, 1, 0, 0, 0, 0, .null), (206, .iconst 0, 1, 0, 0, 0, 0, .null), (207, .invokevirtual 107, 3, 0, 185, 6, 9, .null), (210, .aload_n 1, 1, 0, 0, 0, 0, .null), (211, .sipush 500, 3, 0, 0, 0, 0, .null), (214, .iaload, 1, 0, 0, 0, 0, .null), (215, .newarray .int, 2, 64, 0, 0, 0, .null), (217, .astore 5, 2, 0, 0, 0, 0, .null), (219, .aload_n 1, 1, 0, 0, 0, 0, .null), (220, .iconst 0, 1, 0, 0, 0, 0, .null), (221, .aload 5, 2, 0, 0, 0, 0, .null), (223, .iconst 0, 1, 0, 0, 0, 0, .null)], [(224, .aload 5, 2, 0, 0, 0, 0, .null), (226, .arraylength, 1, 0, 0, 0, 0, .null), (227, .invokestatic 41, 3, 21, 0, 5, 0, .null), (230, .aload 5, 2, 0, 0, 0, 0, .null), (232, .areturn, 1, 0, 0, 0, 0, .null)]]
def zc183 : List (List zIn) := [[(0, .aload_n 0, 1, 0, 0, 0, 0, .null), (1, .iload_n 1, 1, 0, 0, 0, 0, .null), (2, .invokevirtual 83, 3, 0, 171, 1, 9, .null), (5, .newarray .int, 2, 64, 0, 0, 0, .null), (7, .astore_n 2, 1, 0, 0, 0, 0, .null), (8, .iconst 0, 1, 0, 0, 0, 0, .null), (9, .istore_n 3, 1, 0, 0, 0, 0, .null), (10, .iconst 0, 1, 0, 0, 0, 0, .null), (11, .istore 4, 2, 0, 0, 0, 0, .null), (13, .iload_n 3, 1, 0, 0, 0, 0, .null), (14, .iconst 1, 1, 0, 0, 0, 0, .null), (15, .aload_n 0, 1, 0, 0, 0, 0, .null), (16, .iload_n 1, 1, 0, 0, 0, 0, .null), (17, .invokevirtual 54, 3, 0, 168, 1, 9, .null), (20, .ishl, 1, 0, 0, 0, 0, .null), (21, .if_icmp .ge 26, 3, 0, 0, 0, 0, .null), (24, .aload_n 0, 1, 0, 0, 0, 0, .null), (25, .iload_n 1, 1, 0, 0, 0, 0, .null), (26, .iload_n 3, 1, 0, 0, 0, 0, .null), (27, .invokevirtual 72, 3, 0, 172, 2, 9, .null), (30, .ifCond .eq 11, 3, 0, 0, 0, 0, .null)], [(33, .aload_n 2, 1, 0, 0, 0, 0, .null), (34, .iload 4, 2, 0, 0, 0, 0, .null), (36, .iinc 4 1, 3, 0, 0, 0, 0, .null), (39, .iload_n 3, 1, 0, 0, 0, 0, .null), (40, .iastore, 1, 0, 0, 0, 0, .null), (41, .iinc 3 1, 3, 0, 0, 0, 0, .null), (44, .goto (-31), 3, 0, 0, 0, 0, .null), (47, .aload_n 2, 1, 0, 0, 0, 0, .null), (48, .areturn, 1, 0, 0, 0, 0, .null)]]
def zc184 : List (List zIn) := [[(0, .iconst 0, 1, 0, 0, 0, 0, .null), (1, .istore 4, 2, 0, 0, 0, 0, .null), (3, .iload 4, 2, 0, 0, 0, 0, .null), (5, .aload_n 0, 1, 0, 0, 0, 0, .null), (6, .getfield 22, 3, 9, 1, 0, 0, .null), (9, .if_icmp .ge 78, 3, 0, 0, 0, 0, .null), (12, .iconst 0, 1, 0, 0, 0, 0, .null), (13, .istore 5, 2, 0, 0, 0, 0, .null), (15, .aload_n 1, 1, 0, 0, 0, 0, .null), (16, .iload 4, 2, 0, 0, 0, 0, .null), (18, .aaload, 1, 0, 0, 0, 0, .null), (19, .astore 6, 2, 0, 0, 0, 0, .null), (21, .aload 6, 2, 0, 0, 0, 0, .null), (23, .arraylength, 1, 0, 0, 0, 0, .null), (24, .istore 7, 2, 0, 0, 0, 0, .null), (26, .iconst 0, 1, 0, 0, 0, 0, .null), (27, .istore 8, 2, 0, 0, 0, 0, .null), (29, .iload 8, 2, 0, 0, 0, 0, .null), (31, .iload 7, 2, 0, 0, 0, 0, .null)], [(33, .if_icmp .ge 41, 3, 0, 0, 0, 0, .null), (36, .aload 6, 2, 0, 0, 0, 0, .null), (38, .iload 8, 2, 0, 0, 0, 0, .null), (40, .iaload, 1, 0, 0, 0, 0, .null), (41, .istore 9, 2, 0, 0, 0, 0, .null), (43, .iload 5, 2, 0, 0, 0, 0, .null), (45, .iload 9, 2, 0, 0, 0, 0, .null), (47, .iload_n 3, 1, 0, 0, 0, 0, .null), (48, .invokestatic 65, 3, 4, 175, 2, 0, .null), (51, .iload_n 2, 1, 0, 0, 0, 0, .null), (52, .iload 4, 2, 0, 0, 0, 0, .null), (54, .invokestatic 65, 3, 4, 175, 2, 0, .null), (57, .if_icmp .ne 7, 3, 0, 0, 0, 0, .null), (60, .iconst 1, 1, 0, 0, 0, 0, .null), (61, .goto 4, 3, 0, 0, 0, 0, .null)], [(64, .iconst 0, 1, 0, 0, 0, 0, .null), (65, .ior, 1, 0, 0, 0, 0, .null), (66, .istore 5, 2, 0, 0, 0, 0, .null), (68, .iinc 8 1, 3, 0, 0, 0, 0, .null), (71, .goto (-42), 3, 0, 0, 0, 0, .null), (74, .iload 5, 2, 0, 0, 0, 0, .null), (76, .ifCond .ne 5, 3, 0, 0, 0, 0, .null), (79, .iconst 0, 1, 0, 0, 0, 0, .null), (80, .ireturn, 1, 0, 0, 0, 0, .null), (81, .iinc 4 1, 3, 0, 0, 0, 0, .null), (84, .goto (-81), 3, 0, 0, 0, 0, .null), (87, .iconst 1, 1, 0, 0, 0, 0, .null), (88, .ireturn, 1, 0, 0, 0, 0, .null)]]
def zc185 : List (List zIn) := [[(0, .aload_n 1, 1, 0, 0, 0, 0, .null), (1, .sipush 500, 3, 0, 0, 0, 0, .null), (4, .iaload, 1, 0, 0, 0, 0, .null), (5, .sipush 500, 3, 0, 0, 0, 0, .null), (8, .if_icmp .ne 4, 3, 0, 0, 0, 0, .null), (11, .return_, 1, 0, 0, 0, 0, .null), (12, .iload 5, 2, 0, 0, 0, 0, .null), (14, .aload_n 0, 1, 0, 0, 0, 0, .null), (15, .getfield 22, 3, 9, 1, 0, 0, .null), (18, .if_icmp .ne 22, 3, 0, 0, 0, 0, .null), (21, .aload_n 1, 1, 0, 0, 0, 0, .null), (22, .aload_n 1, 1, 0, 0, 0, 0, .null), (23, .sipush 500, 3, 0, 0, 0, 0, .null), (26, .iaload, 1, 0, 0, 0, 0, .null), (27, .iload 6, 2, 0, 0, 0, 0, .null), (29, .iastore, 1, 0, 0, 0, 0, .null), (30, .aload_n 1, 1, 0, 0, 0, 0, .null), (31, .sipush 500, 3, 0, 0, 0, 0, .null)], [(34, .dup2, 1, 0, 0, 0, 0, .null), (35, .iaload, 1, 0, 0, 0, 0, .null), (36, .iconst 1, 1, 0, 0, 0, 0, .null), (37, .iadd, 1, 0, 0, 0, 0, .null), (38, .iastore, 1, 0, 0, 0, 0, .null), (39, .return_, 1, 0, 0, 0, 0, .null), (40, .aload_n 2, 1, 0, 0, 0, 0, .null), (41, .iload 5, 2, 0, 0, 0, 0, .null), (43, .aaload, 1, 0, 0, 0, 0, .null), (44, .astore 7, 2, 0, 0, 0, 0, .null), (46, .aload 7, 2, 0, 0, 0, 0, .null), (48, .arraylength, 1, 0, 0, 0, 0, .null), (49, .istore 8, 2, 0, 0, 0, 0, .null), (51, .iconst 0, 1, 0, 0, 0, 0, .null), (52, .istore 9, 2, 0, 0, 0, 0, .null), (54, .iload 9, 2, 0, 0, 0, 0, .null), (56, .iload 8, 2, 0, 0, 0, 0, .null), (58, .if_icmp .ge 135, 3, 0, 0, 0, 0, .null), (61, .aload 7, 2, 0, 0, 0, 0, .null), (63, .iload 9, 2, 0, 0, 0, 0, .null)], [(65, .iaload, 1, 0, 0, 0, 0, .null), (66, .istore 10, 2, 0, 0, 0, 0, .null), (68, .iconst 1, 1, 0, 0, 0, 0, .null), (69, .istore 11, 2, 0, 0, 0, 0, .null), (71, .iconst 0, 1, 0, 0, 0, 0, .null), (72, .istore 12, 2, 0, 0, 0, 0, .null), (74, .iload 12, 2, 0, 0, 0, 0, .null), (76, .aload_n 0, 1, 0, 0, 0, 0, .null), (77, .getfield 18, 3, 9, 0, 0, 0, .null), (80, .if_icmp .ge 76, 3, 0, 0, 0, 0, .null), (83, .iload 11, 2, 0, 0, 0, 0, .null), (85, .ifCond .eq 71, 3, 0, 0, 0, 0, .null), (88, .aload 4, 2, 0, 0, 0, 0, .null), (90, .iload 5, 2, 0, 0, 0, 0, .null), (92, .iconst 1, 1, 0, 0, 0, 0, .null), (93, .iadd, 1, 0, 0, 0, 0, .null), (94, .aaload, 1, 0, 0, 0, 0, .null), (95, .iload 12, 2, 0, 0, 0, 0, .null)], [(97, .aload 4, 2, 0, 0, 0, 0, .null), (99, .iload 5, 2, 0, 0, 0, 0, .null), (101, .aaload, 1, 0, 0, 0, 0, .null), (102, .iload 12, 2, 0, 0, 0, 0, .null), (104, .iaload, 1, 0, 0, 0, 0, .null), (105, .aload_n 3, 1, 0, 0, 0, 0, .null), (106, .iload 12, 2, 0, 0, 0, 0, .null), (108, .aaload, 1, 0, 0, 0, 0, .null), (109, .iload 5, 2, 0, 0, 0, 0, .null), (111, .aaload, 1, 0, 0, 0, 0, .null), (112, .iload 10, 2, 0, 0, 0, 0, .null), (114, .iload 12, 2, 0, 0, 0, 0, .null), (116, .invokestatic 65, 3, 4, 175, 2, 0, .null), (119, .ifCond .eq 7, 3, 0, 0, 0, 0, .null), (122, .iconst 1, 1, 0, 0, 0, 0, .null), (123, .goto 4, 3, 0, 0, 0, 0, .null), (126, .iconst 0, 1, 0, 0, 0, 0, .null), (127, .iaload, 1, 0, 0, 0, 0, .null)], [(128, .iand, 1, 0, 0, 0, 0, .null), (129, .iastore, 1, 0, 0, 0, 0, .null), (130, .aload 4, 2, 0, 0, 0, 0, .null), (132, .iload 5, 2, 0, 0, 0, 0, .null), (134, .iconst 1, 1, 0, 0, 0, 0, .null), (135, .iadd, 1, 0, 0, 0, 0, .null), (136, .aaload, 1, 0, 0, 0, 0, .null), (137, .iload 12, 2, 0, 0, 0, 0, .null), (139, .iaload, 1, 0, 0, 0, 0, .null), (140, .ifCond .eq 7, 3, 0, 0, 0, 0, .null), (143, .iconst 1, 1, 0, 0, 0, 0, .null), (144, .goto 4, 3, 0, 0, 0, 0, .null), (147, .iconst 0, 1, 0, 0, 0, 0, .null), (148, .istore 11, 2, 0, 0, 0, 0, .null), (150, .iinc 12 1, 3, 0, 0, 0, 0, .null), (153, .goto (-79), 3, 0, 0, 0, 0, .null), (156, .iload 11, 2, 0, 0, 0, 0, .null), (158, .ifCond .eq 29, 3, 0, 0, 0, 0, .null)], [(161, .aload_n 0, 1, 0, 0, 0, 0, .null), (162, .aload_n 1, 1, 0, 0, 0, 0, .null), (163, .aload_n 2, 1, 0, 0, 0, 0, .null), (164, .aload_n 3, 1, 0, 0, 0, 0, .null), (165, .aload 4, 2, 0, 0, 0, 0, .null), (167, .iload 5, 2, 0, 0, 0, 0, .null), (169, .iconst 1, 1, 0, 0, 0, 0, .null), (170, .iadd, 1, 0, 0, 0, 0, .null), (171, .iload 6, 2, 0, 0, 0, 0, .null), (173, .iload 10, 2, 0, 0, 0, 0, .null), (175, .aload_n 0, 1, 0, 0, 0, 0, .null), (176, .getfield 18, 3, 9, 0, 0, 0, .null), (179, .iload 5, 2, 0, 0, 0, 0, .null), (181, .imul, 1, 0, 0, 0, 0, .null), (182, .ishl, 1, 0, 0, 0, 0, .null), (183, .ior, 1, 0, 0, 0, 0, .null), (184, .invokevirtual 107, 3, 0, 185, 6, 9, .null), (187, .iinc 9 1, 3, 0, 0, 0, 0, .null), (190, .goto (-136), 3, 0, 0, 0, 0, .null)], [(193, .return_, 1, 0, 0, 0, 0, .null)]]
def zc186 : List (List zIn) := [[(0, .aload_n 0, 1, 0, 0, 0, 0, .null), (1, .iconst 0, 1, 0, 0, 0, 0, .null), (2, .putfield 16, 3, 7, 0, 0, 0, .null), (5, .aload_n 0, 1, 0, 0, 0, 0, .null), (6, .iload_n 1, 1, 0, 0, 0, 0, .null), (7, .invokevirtual 34, 3, 0, 163, 1, 7, .null), (10, .ifCond .ne 9, 3, 0, 0, 0, 0, .null), (13, .aload_n 0, 1, 0, 0, 0, 0, .null), (14, .iconst 1, 1, 0, 0, 0, 0, .null), (15, .invokevirtual 50, 3, 0, 152, 1, 7, .null), (18, .ireturn, 1, 0, 0, 0, 0, .null), (19, .aload_n 0, 1, 0, 0, 0, 0, .null), (20, .getfield 10, 3, 7, 1, 6, 1, .null), (23, .iload_n 1, 1, 0, 0, 0, 0, .null), (24, .invokeinterface 38 2, 5, 8, 164, 1, 8, .null), (29, .checkcast 42, 3, 9, 0, 0, 0, .null)], [(32, .dup, 1, 0, 0, 0, 0, .null), (33, .getfield 96, 3, 9, 6, 0, 0, .null), (36, .iconst 1, 1, 0, 0, 0, 0, .null), (37, .iadd, 1, 0, 0, 0, 0, .null), (38, .putfield 96, 3, 9, 6, 0, 0, .null), (41, .aload_n 0, 1, 0, 0, 0, 0, .null), (42, .getfield 10, 3, 7, 1, 6, 1, .null), (45, .iload_n 1, 1, 0, 0, 0, 0, .null), (46, .invokeinterface 38 2, 5, 8, 164, 1, 8, .null), (51, .checkcast 42, 3, 9, 0, 0, 0, .null), (54, .invokevirtual 99, 3, 0, 187, 0, 9, .null), (57, .ireturn, 1, 0, 0, 0, 0, .null)]]
def zc187 : List (List zIn) := [[(0, .iconst 0, 1, 0, 0, 0, 0, .null), (1, .istore_n 1, 1, 0, 0, 0, 0, .null), (2, .iconst 1, 1, 0, 0, 0, 0, .null), (3, .istore_n 2, 1, 0, 0, 0, 0, .null), (4, .iconst 0, 1, 0, 0, 0, 0, .null), (5, .istore_n 3, 1, 0, 0, 0, 0, .null), (6, .iconst 0, 1, 0, 0, 0, 0, .null), (7, .istore 4, 2, 0, 0, 0, 0, .null), (9, .iload 4, 2, 0, 0, 0, 0, .null), (11, .aload_n 0, 1, 0, 0, 0, 0, .null), (12, .invokevirtual 80, 3, 0, 167, 0, 9, .null), (15, .if_icmp .ge 114, 3, 0, 0, 0, 0, .null), (18, .aload_n 0, 1, 0, 0, 0, 0, .null), (19, .iload 4, 2, 0, 0, 0, 0, .null), (21, .invokevirtual 83, 3, 0, 171, 1, 9, .null), (24, .ifCond .ne 7, 3, 0, 0, 0, 0, .null), (27, .iload_n 1, 1, 0, 0, 0, 0, .null), (28, .iload_n 3, 1, 0, 0, 0, 0, .null), (29, .iadd, 1, 0, 0, 0, 0, .null), (30, .ireturn, 1, 0, 0, 0, 0, .null), (31, .aload_n 0, 1, 0, 0, 0, 0, .null)], [(32, .iload 4, 2, 0, 0, 0, 0, .null), (34, .iconst 1, 1, 0, 0, 0, 0, .null), (35, .invokevirtual 86, 3, 0, 188, 2, 9, .null), (38, .istore 5, 2, 0, 0, 0, 0, .null), (40, .aload_n 0, 1, 0, 0, 0, 0, .null), (41, .iload 4, 2, 0, 0, 0, 0, .null), (43, .iconst 0, 1, 0, 0, 0, 0, .null), (44, .invokevirtual 86, 3, 0, 188, 2, 9, .null), (47, .istore 6, 2, 0, 0, 0, 0, .null), (49, .iconst 0, 1, 0, 0, 0, 0, .null), (50, .istore 7, 2, 0, 0, 0, 0, .null), (52, .iload 7, 2, 0, 0, 0, 0, .null), (54, .aload_n 0, 1, 0, 0, 0, 0, .null), (55, .iload 4, 2, 0, 0, 0, 0, .null), (57, .invokevirtual 54, 3, 0, 168, 1, 9, .null), (60, .if_icmp .ge 52, 3, 0, 0, 0, 0, .null), (63, .iload 5, 2, 0, 0, 0, 0, .null)], [(65, .iload 6, 2, 0, 0, 0, 0, .null), (67, .ior, 1, 0, 0, 0, 0, .null), (68, .iload 7, 2, 0, 0, 0, 0, .null), (70, .invokestatic 65, 3, 4, 175, 2, 0, .null), (73, .ifCond .eq 33, 3, 0, 0, 0, 0, .null), (76, .aload_n 0, 1, 0, 0, 0, 0, .null), (77, .aload_n 0, 1, 0, 0, 0, 0, .null), (78, .iload 4, 2, 0, 0, 0, 0, .null), (80, .iload 7, 2, 0, 0, 0, 0, .null), (82, .invokevirtual 58, 3, 0, 173, 2, 9, .null), (85, .iload 5, 2, 0, 0, 0, 0, .null), (87, .iload 7, 2, 0, 0, 0, 0, .null), (89, .invokestatic 65, 3, 4, 175, 2, 0, .null), (92, .ifCond .eq 7, 3, 0, 0, 0, 0, .null), (95, .iconst 1, 1, 0, 0, 0, 0, .null)], [(96, .goto 4, 3, 0, 0, 0, 0, .null), (99, .iconst 2, 1, 0, 0, 0, 0, .null), (100, .iload 4, 2, 0, 0, 0, 0, .null), (102, .iload_n 2, 1, 0, 0, 0, 0, .null), (103, .invokevirtual 90, 3, 0, 180, 4, 9, .null), (106, .iinc 7 1, 3, 0, 0, 0, 0, .null), (109, .goto (-57), 3, 0, 0, 0, 0, .null), (112, .iload_n 3, 1, 0, 0, 0, 0, .null), (113, .iload 5, 2, 0, 0, 0, 0, .null), (115, .iload 6, 2, 0, 0, 0, 0, .null), (117, .ior, 1, 0, 0, 0, 0, .null), (118, .invokestatic 94, 3, 4, 189, 1, 0, .null), (121, .iadd, 1, 0, 0, 0, 0, .null), (122, .istore_n 3, 1, 0, 0, 0, 0, .null), (123, .iinc 4 1, 3, 0, 0, 0, 0, .null), (126, .goto (-117), 3, 0, 0, 0, 0, .null)], [(129, .iload_n 1, 1, 0, 0, 0, 0, .null), (130, .iload_n 3, 1, 0, 0, 0, 0, .null), (131, .iadd, 1, 0, 0, 0, 0, .null), (132, .istore_n 1, 1, 0, 0, 0, 0, .null), (133, .iload_n 3, 1, 0, 0, 0, 0, .null), (134, .ifCond .ne 5, 3, 0, 0, 0, 0, .null), (137, .iload_n 1, 1, 0, 0, 0, 0, .null), (138, .ireturn, 1, 0, 0, 0, 0, .null), (139, .iinc 2 1, 3, 0, 0, 0, 0, .null), (142, .goto (-138), 3, 0, 0, 0, 0, .null)]]
def zc188 : List (List zIn) := [[(0, .iconst 1, 1, 0, 0, 0, 0, .null), (1, .aload_n 0, 1, 0, 0, 0, 0, .null), (2, .iload_n 1, 1, 0, 0, 0, 0, .null), (3, .invokevirtual 54, 3, 0, 168, 1, 9, .null), (6, .ishl, 1, 0, 0, 0, 0, .null), (7, .iconst 1, 1, 0, 0, 0, 0, .null), (8, .isub, 1, 0, 0, 0, 0, .null), (9, .istore_n 3, 1, 0, 0, 0, 0, .null), (10, .iload_n 3, 1, 0, 0, 0, 0, .null), (11, .istore 4, 2, 0, 0, 0, 0, .null), (13, .iconst 0, 1, 0, 0, 0, 0, .null), (14, .istore 5, 2, 0, 0, 0, 0, .null), (16, .iconst 0, 1, 0, 0, 0, 0, .null), (17, .istore 6, 2, 0, 0, 0, 0, .null), (19, .iload 6, 2, 0, 0, 0, 0, .null), (21, .iload_n 3, 1, 0, 0, 0, 0, .null), (22, .if_icmp .gt 45, 3, 0, 0, 0, 0, .null), (25, .aload_n 0, 1, 0, 0, 0, 0, .null), (26, .iload_n 1, 1, 0, 0, 0, 0, .null), (27, .iload 6, 2, 0, 0, 0, 0, .null), (29, .invokevirtual 72, 3, 0, 172, 2, 9, .null)], [(32, .ifCond .ne 6, 3, 0, 0, 0, 0, .null), (35, .goto 26, 3, 0, 0, 0, 0, .null), (38, .iconst 1, 1, 0, 0, 0, 0, .null), (39, .istore 5, 2, 0, 0, 0, 0, .null), (41, .iload 4, 2, 0, 0, 0, 0, .null), (43, .iload_n 2, 1, 0, 0, 0, 0, .null), (44, .ifCond .eq 8, 3, 0, 0, 0, 0, .null), (47, .iload 6, 2, 0, 0, 0, 0, .null), (49, .goto 9, 3, 0, 0, 0, 0, .null), (52, .iload_n 3, 1, 0, 0, 0, 0, .null), (53, .iload 6, 2, 0, 0, 0, 0, .null), (55, .iconst (-1), 1, 0, 0, 0, 0, .null), (56, .ixor, 1, 0, 0, 0, 0, .null), (57, .iand, 1, 0, 0, 0, 0, .null), (58, .iand, 1, 0, 0, 0, 0, .null), (59, .istore 4, 2, 0, 0, 0, 0, .null), (61, .iinc 6 1, 3, 0, 0, 0, 0, .null)], [(64, .goto (-45), 3, 0, 0, 0, 0, .null), (67, .iconst 0, 1, 0, 0, 0, 0, .null), (68, .istore 6, 2, 0, 0, 0, 0, .null), (70, .iload 6, 2, 0, 0, 0, 0, .null), (72, .aload_n 0, 1, 0, 0, 0, 0, .null), (73, .iload_n 1, 1, 0, 0, 0, 0, .null), (74, .invokevirtual 54, 3, 0, 168, 1, 9, .null), (77, .if_icmp .ge 34, 3, 0, 0, 0, 0, .null), (80, .aload_n 0, 1, 0, 0, 0, 0, .null), (81, .aload_n 0, 1, 0, 0, 0, 0, .null), (82, .iload_n 1, 1, 0, 0, 0, 0, .null), (83, .iload 6, 2, 0, 0, 0, 0, .null), (85, .invokevirtual 58, 3, 0, 173, 2, 9, .null), (88, .invokevirtual 62, 3, 0, 174, 1, 9, .null), (91, .ifCond .eq 14, 3, 0, 0, 0, 0, .null), (94, .iload 4, 2, 0, 0, 0, 0, .null)], [(96, .iconst 1, 1, 0, 0, 0, 0, .null), (97, .iload 6, 2, 0, 0, 0, 0, .null), (99, .ishl, 1, 0, 0, 0, 0, .null), (100, .iconst (-1), 1, 0, 0, 0, 0, .null), (101, .ixor, 1, 0, 0, 0, 0, .null), (102, .iand, 1, 0, 0, 0, 0, .null), (103, .istore 4, 2, 0, 0, 0, 0, .null), (105, .iinc 6 1, 3, 0, 0, 0, 0, .null), (108, .goto (-38), 3, 0, 0, 0, 0, .null), (111, .iload 5, 2, 0, 0, 0, 0, .null), (113, .ifCond .eq 8, 3, 0, 0, 0, 0, .null), (116, .iload 4, 2, 0, 0, 0, 0, .null), (118, .goto 4, 3, 0, 0, 0, 0, .null), (121, .iconst 0, 1, 0, 0, 0, 0, .null), (122, .ireturn, 1, 0, 0, 0, 0, .null)]]
def zc189 : List (List zIn) := [[(0, .iconst 0, 1, 0, 0, 0, 0, .null), (1, .istore_n 1, 1, 0, 0, 0, 0, .null), (2, .iload_n 0, 1, 0, 0, 0, 0, .null), (3, .istore_n 2, 1, 0, 0, 0, 0, .null), (4, .iload_n 2, 1, 0, 0, 0, 0, .null), (5, .ifCond .le 16, 3, 0, 0, 0, 0, .null), (8, .iload_n 1, 1, 0, 0, 0, 0, .null), (9, .iload_n 2, 1, 0, 0, 0, 0, .null), (10, .iconst 2, 1, 0, 0, 0, 0, .null), (11, .irem, 1, 0, 0, 0, 0, .null), (12, .iadd, 1, 0, 0, 0, 0, .null), (13, .istore_n 1, 1, 0, 0, 0, 0, .null), (14, .iload_n 2, 1, 0, 0, 0, 0, .null), (15, .iconst 2, 1, 0, 0, 0, 0, .null), (16, .idiv, 1, 0, 0, 0, 0, .null), (17, .istore_n 2, 1, 0, 0, 0, 0, .null), (18, .goto (-14), 3, 0, 0, 0, 0, .null), (21, .iload_n 1, 1, 0, 0, 0, 0, .null), (22, .ireturn, 1, 0, 0, 0, 0, .null)]]
def zc190 : List (List zIn) := [[(0, .aload_n 0, 1, 0, 0, 0, 0, .null), (1, .iconst 0, 1, 0, 0, 0, 0, .null), (2, .putfield 16, 3, 7, 0, 0, 0, .null), (5, .aload_n 0, 1, 0, 0, 0, 0, .null), (6, .iload_n 1, 1, 0, 0, 0, 0, .null), (7, .iload_n 2, 1, 0, 0, 0, 0, .null), (8, .invokevirtual 80, 3, 0, 179, 2, 7, .null), (11, .ifCond .ne 9, 3, 0, 0, 0, 0, .null), (14, .aload_n 0, 1, 0, 0, 0, 0, .null), (15, .iconst 1, 1, 0, 0, 0, 0, .null), (16, .invokevirtual 50, 3, 0, 152, 1, 7, .null), (19, .ireturn, 1, 0, 0, 0, 0, .null), (20, .aload_n 0, 1, 0, 0, 0, 0, .null), (21, .getfield 10, 3, 7, 1, 6, 1, .null), (24, .iload_n 1, 1, 0, 0, 0, 0, .null), (25, .invokeinterface 38 2, 5, 8, 164, 1, 8, .null), (30, .checkcast 42, 3, 9, 0, 0, 0, .null)], [(33, .astore 4, 2, 0, 0, 0, 0, .null), (35, .aload 4, 2, 0, 0, 0, 0, .null), (37, .iload_n 2, 1, 0, 0, 0, 0, .null), (38, .invokevirtual 83, 3, 0, 174, 1, 9, .null), (41, .ifCond .ne 18, 3, 0, 0, 0, 0, .null), (44, .aload 4, 2, 0, 0, 0, 0, .null), (46, .getfield 102, 3, 9, 4, 6, 0, .null), (49, .invokeinterface 24 1, 5, 8, 153, 0, 8, .null), (54, .bipush 6, 2, 0, 0, 0, 0, .null), (56, .if_icmp .ne 9, 3, 0, 0, 0, 0, .null), (59, .aload_n 0, 1, 0, 0, 0, 0, .null), (60, .iconst 2, 1, 0, 0, 0, 0, .null), (61, .invokevirtual 50, 3, 0, 152, 1, 7, .null)], [(64, .ireturn, 1, 0, 0, 0, 0, .null), (65, .aload 4, 2, 0, 0, 0, 0, .null), (67, .getfield 102, 3, 9, 4, 6, 0, .null), (70, .new 105, 3, 10, 3, 0, 0, .null), (73, .dup, 1, 0, 0, 0, 0, .null), (74, .aload 4, 2, 0, 0, 0, 0, .null), (76, .getfield 107, 3, 9, 2, 7, 0, .null), (79, .invokestatic 111, 3, 3, 191, 1, 0, .null), (82, .iload_n 2, 1, 0, 0, 0, 0, .null), (83, .iload_n 3, 1, 0, 0, 0, 0, .null), (84, .invokespecial 115, 3, 5, 192, 3, 0, .null), (87, .invokeinterface 57 2, 5, 8, 157, 1, 8, .null), (92, .pop, 1, 0, 0, 0, 0, .null), (93, .aload 4, 2, 0, 0, 0, 0, .null), (95, .iload_n 2, 1, 0, 0, 0, 0, .null)], [(96, .iload_n 3, 1, 0, 0, 0, 0, .null), (97, .ifCond .eq 7, 3, 0, 0, 0, 0, .null), (100, .iconst 1, 1, 0, 0, 0, 0, .null), (101, .goto 4, 3, 0, 0, 0, 0, .null), (104, .iconst 2, 1, 0, 0, 0, 0, .null), (105, .iconst (-1), 1, 0, 0, 0, 0, .null), (106, .iconst 0, 1, 0, 0, 0, 0, .null), (107, .invokevirtual 86, 3, 0, 180, 4, 9, .null), (110, .aload 4, 2, 0, 0, 0, 0, .null), (112, .getfield 102, 3, 9, 4, 6, 0, .null), (115, .invokeinterface 24 1, 5, 8, 153, 0, 8, .null), (120, .ireturn, 1, 0, 0, 0, 0, .null)]]
def zc191 : List (List zIn) := [[(0, .iconst 4, 1, 0, 0, 0, 0, .null), (1, .aload_n 0, 1, 0, 0, 0, 0, .null), (2, .iconst 0, 1, 0, 0, 0, 0, .null), (3, .aaload, 1, 0, 0, 0, 0, .null), (4, .arraylength, 1, 0, 0, 0, 0, .null), (5, .multianewarray 36 2, 4, 2, 0, 0, 0, .null), (9, .astore_n 1, 1, 0, 0, 0, 0, .null), (10, .iconst 0, 1, 0, 0, 0, 0, .null), (11, .istore_n 2, 1, 0, 0, 0, 0, .null), (12, .iload_n 2, 1, 0, 0, 0, 0, .null), (13, .iconst 4, 1, 0, 0, 0, 0, .null), (14, .if_icmp .ge 24, 3, 0, 0, 0, 0, .null), (17, .aload_n 0, 1, 0, 0, 0, 0, .null), (18, .iload_n 2, 1, 0, 0, 0, 0, .null), (19, .aaload, 1, 0, 0, 0, 0, .null), (20, .iconst 0, 1, 0, 0, 0, 0, .null), (21, .aload_n 1, 1, 0, 0, 0, 0, .null), (22, .iload_n 2, 1, 0, 0, 0, 0, .null), (23, .aaload, 1, 0, 0, 0, 0, .null), (24, .iconst 0, 1, 0, 0, 0, 0, .null), (25, .aload_n 1, 1, 0, 0, 0, 0, .null), (26, .iload_n 2, 1, 0, 0, 0, 0, .null), (27, .aaload, 1, 0, 0, 0, 0, .null), (28, .arraylength, 1, 0, 0, 0, 0, .null), (29, .invokestatic 41, 3, 21, 0, 5, 0, .null)], [(32, .iinc 2 1, 3, 0, 0, 0, 0, .null), (35, .goto (-23), 3, 0, 0, 0, 0, .null), (38, .aload_n 1, 1, 0, 0, 0, 0, .null), (39, .areturn, 1, 0, 0, 0, 0, .null)]]
def zc192 : List (List zIn) := [[(0, .aload_n 0, 1, 0, 0, 0, 0, .null), (1, .invokespecial 1, 3, 20, 0, 0, 0, .null), (4, .aload_n 0, 1, 0, 0, 0, 0, .null), (5, .aload_n 1, 1, 0, 0, 0, 0, .null), (6, .putfield 7, 3, 10, 0, 7, 1, .null), (9, .aload_n 0, 1, 0, 0, 0, 0, .null), (10, .iload_n 2, 1, 0, 0, 0, 0, .null), (11, .putfield 13, 3, 10, 1, 0, 1, .null), (14, .aload_n 0, 1, 0, 0, 0, 0, .null), (15, .iload_n 3, 1, 0, 0, 0, 0, .null), (16, .putfield 17, 3, 10, 2, 1, 1, .null), (19, .return_, 1, 0, 0, 0, 0, .null)]]
def zc193 : List (List zIn) := [[(0, .aload_n 0, 1, 0, 0, 0, 0, .null), (1, .iconst 0, 1, 0, 0, 0, 0, .null), (2, .putfield 16, 3, 7, 0, 0, 0, .null), (5, .aload_n 0, 1, 0, 0, 0, 0, .null), (6, .iload_n 1, 1, 0, 0, 0, 0, .null), (7, .invokevirtual 34, 3, 0, 163, 1, 7, .null), (10, .ifCond .ne 9, 3, 0, 0, 0, 0, .null), (13, .aload_n 0, 1, 0, 0, 0, 0, .null), (14, .iconst 1, 1, 0, 0, 0, 0, .null), (15, .invokevirtual 50, 3, 0, 152, 1, 7, .null), (18, .ireturn, 1, 0, 0, 0, 0, .null), (19, .aload_n 0, 1, 0, 0, 0, 0, .null), (20, .getfield 10, 3, 7, 1, 6, 1, .null), (23, .iload_n 1, 1, 0, 0, 0, 0, .null), (24, .invokeinterface 38 2, 5, 8, 164, 1, 8, .null), (29, .checkcast 42, 3, 9, 0, 0, 0, .null)], [(32, .astore_n 3, 1, 0, 0, 0, 0, .null), (33, .aload_n 3, 1, 0, 0, 0, 0, .null), (34, .getfield 102, 3, 9, 4, 6, 0, .null), (37, .invokeinterface 24 1, 5, 8, 153, 0, 8, .null), (42, .ifCond .ne 9, 3, 0, 0, 0, 0, .null), (45, .aload_n 0, 1, 0, 0, 0, 0, .null), (46, .iconst 2, 1, 0, 0, 0, 0, .null), (47, .invokevirtual 50, 3, 0, 152, 1, 7, .null), (50, .ireturn, 1, 0, 0, 0, 0, .null), (51, .aload_n 3, 1, 0, 0, 0, 0, .null), (52, .getfield 102, 3, 9, 4, 6, 0, .null), (55, .aload_n 3, 1, 0, 0, 0, 0, .null), (56, .getfield 102, 3, 9, 4, 6, 0, .null), (59, .invokeinterface 24 1, 5, 8, 153, 0, 8, .null)], [(64, .iconst 1, 1, 0, 0, 0, 0, .null), (65, .isub, 1, 0, 0, 0, 0, .null), (66, .invokeinterface 118 2, 5, 8, 194, 1, 8, .null), (71, .checkcast 105, 3, 10, 0, 0, 0, .null), (74, .astore 4, 2, 0, 0, 0, 0, .null), (76, .aload_n 3, 1, 0, 0, 0, 0, .null), (77, .aload 4, 2, 0, 0, 0, 0, .null), (79, .getfield 121, 3, 10, 0, 7, 1, .null), (82, .putfield 107, 3, 9, 2, 7, 0, .null), (85, .iload_n 2, 1, 0, 0, 0, 0, .null), (86, .ifCond .eq 28, 3, 0, 0, 0, 0, .null), (89, .aload_n 3, 1, 0, 0, 0, 0, .null), (90, .aload 4, 2, 0, 0, 0, 0, .null), (92, .getfield 122, 3, 10, 1, 0, 1, .null), (95, .aload 4, 2, 0, 0, 0, 0, .null)], [(97, .getfield 125, 3, 10, 2, 1, 1, .null), (100, .ifCond .eq 7, 3, 0, 0, 0, 0, .null), (103, .iconst 2, 1, 0, 0, 0, 0, .null), (104, .goto 4, 3, 0, 0, 0, 0, .null), (107, .iconst 1, 1, 0, 0, 0, 0, .null), (108, .bipush (-2), 2, 0, 0, 0, 0, .null), (110, .iconst 0, 1, 0, 0, 0, 0, .null), (111, .invokevirtual 86, 3, 0, 180, 4, 9, .null), (114, .aload 4, 2, 0, 0, 0, 0, .null), (116, .getfield 122, 3, 10, 1, 0, 1, .null), (119, .ireturn, 1, 0, 0, 0, 0, .null)]]
def zc194 : List (List zIn) := [[(0, .iload_n 1, 1, 0, 0, 0, 0, .null), (1, .aload_n 0, 1, 0, 0, 0, 0, .null), (2, .getfield 48, 3, 8, 1, 0, 0, .null), (5, .invokestatic 118, 3, 3, 165, 2, 0, .null), (8, .pop, 1, 0, 0, 0, 0, .null), (9, .aload_n 0, 1, 0, 0, 0, 0, .null), (10, .getfield 9, 3, 8, 0, 7, 0, .null), (13, .astore_n 2, 1, 0, 0, 0, 0, .null), (14, .aload_n 2, 1, 0, 0, 0, 0, .null), (15, .iload_n 1, 1, 0, 0, 0, 0, .null), (16, .aaload, 1, 0, 0, 0, 0, .null), (17, .astore_n 3, 1, 0, 0, 0, 0, .null), (18, .aload_n 0, 1, 0, 0, 0, 0, .null), (19, .aload_n 2, 1, 0, 0, 0, 0, .null), (20, .iload_n 1, 1, 0, 0, 0, 0, .null), (21, .invokevirtual 144, 3, 0, 195, 2, 8, .null), (24, .aload_n 3, 1, 0, 0, 0, 0, .null), (25, .areturn, 1, 0, 0, 0, 0, .null)]]
def zc195 : List (List zIn) := [[(0, .aload_n 0, 1, 0, 0, 0, 0, .null), (1, .dup, 1, 0, 0, 0, 0, .null), (2, .getfield 63, 3, 8, 2, 0, 0, .null), (5, .iconst 1, 1, 0, 0, 0, 0, .null), (6, .iadd, 1, 0, 0, 0, 0, .null), (7, .putfield 63, 3, 8, 2, 0, 0, .null), (10, .aload_n 0, 1, 0, 0, 0, 0, .null), (11, .getfield 48, 3, 8, 1, 0, 0, .null), (14, .iconst 1, 1, 0, 0, 0, 0, .null), (15, .isub, 1, 0, 0, 0, 0, .null), (16, .dup, 1, 0, 0, 0, 0, .null), (17, .istore_n 3, 1, 0, 0, 0, 0, .null), (18, .iload_n 2, 1, 0, 0, 0, 0, .null), (19, .if_icmp .le 15, 3, 0, 0, 0, 0, .null), (22, .aload_n 1, 1, 0, 0, 0, 0, .null), (23, .iload_n 2, 1, 0, 0, 0, 0, .null), (24, .iconst 1, 1, 0, 0, 0, 0, .null), (25, .iadd, 1, 0, 0, 0, 0, .null), (26, .aload_n 1, 1, 0, 0, 0, 0, .null), (27, .iload_n 2, 1, 0, 0, 0, 0, .null), (28, .iload_n 3, 1, 0, 0, 0, 0, .null), (29, .iload_n 2, 1, 0, 0, 0, 0, .null), (30, .isub, 1, 0, 0, 0, 0, .null), (31, .invokestatic 112, 3, 21, 0, 5, 0, .null)], [(34, .aload_n 1, 1, 0, 0, 0, 0, .null), (35, .aload_n 0, 1, 0, 0, 0, 0, .null), (36, .iload_n 3, 1, 0, 0, 0, 0, .null), (37, .dup_x1, 1, 0, 0, 0, 0, .null), (38, .putfield 48, 3, 8, 1, 0, 0, .null), (41, .aconst_null, 1, 0, 0, 0, 0, .null), (42, .aastore, 1, 0, 0, 0, 0, .null), (43, .return_, 1, 0, 0, 0, 0, .null)]]
def zc196 : List (List zIn) := [[(0, .aload_n 0, 1, 0, 0, 0, 0, .null), (1, .iconst 0, 1, 0, 0, 0, 0, .null), (2, .putfield 16, 3, 7, 0, 0, 0, .null), (5, .aload_n 0, 1, 0, 0, 0, 0, .null), (6, .iload_n 1, 1, 0, 0, 0, 0, .null), (7, .invokevirtual 34, 3, 0, 163, 1, 7, .null), (10, .ifCond .ne 9, 3, 0, 0, 0, 0, .null), (13, .aload_n 0, 1, 0, 0, 0, 0, .null), (14, .iconst 1, 1, 0, 0, 0, 0, .null), (15, .invokevirtual 50, 3, 0, 152, 1, 7, .null), (18, .ireturn, 1, 0, 0, 0, 0, .null), (19, .iload_n 2, 1, 0, 0, 0, 0, .null), (20, .iconst 0, 1, 0, 0, 0, 0, .null), (21, .iconst 2, 1, 0, 0, 0, 0, .null), (22, .invokestatic 30, 3, 3, 151, 3, 0, .null), (25, .ifCond .ne 9, 3, 0, 0, 0, 0, .null), (28, .aload_n 0, 1, 0, 0, 0, 0, .null), (29, .iconst 2, 1, 0, 0, 0, 0, .null), (30, .invokevirtual 50, 3, 0, 152, 1, 7, .null)], [(33, .ireturn, 1, 0, 0, 0, 0, .null), (34, .aload_n 0, 1, 0, 0, 0, 0, .null), (35, .getfield 10, 3, 7, 1, 6, 1, .null), (38, .iload_n 1, 1, 0, 0, 0, 0, .null), (39, .invokeinterface 38 2, 5, 8, 164, 1, 8, .null), (44, .checkcast 42, 3, 9, 0, 0, 0, .null), (47, .astore_n 3, 1, 0, 0, 0, 0, .null), (48, .aload_n 3, 1, 0, 0, 0, 0, .null), (49, .getfield 102, 3, 9, 4, 6, 0, .null), (52, .invokeinterface 24 1, 5, 8, 153, 0, 8, .null), (57, .ifCond .le 9, 3, 0, 0, 0, 0, .null), (60, .aload_n 0, 1, 0, 0, 0, 0, .null), (61, .iconst 3, 1, 0, 0, 0, 0, .null), (62, .invokevirtual 50, 3, 0, 152, 1, 7, .null)], [(65, .ireturn, 1, 0, 0, 0, 0, .null), (66, .aload_n 3, 1, 0, 0, 0, 0, .null), (67, .iload_n 2, 1, 0, 0, 0, 0, .null), (68, .invokevirtual 129, 3, 0, 197, 1, 9, .null), (71, .aload_n 3, 1, 0, 0, 0, 0, .null), (72, .getfield 133, 3, 9, 0, 0, 0, .null), (75, .ireturn, 1, 0, 0, 0, 0, .null)]]
def zc197 : List (List zIn) := [[(0, .aload_n 0, 1, 0, 0, 0, 0, .null), (1, .invokevirtual 115, 3, 0, 198, 0, 9, .null), (4, .astore_n 2, 1, 0, 0, 0, 0, .null), (5, .iload_n 1, 1, 0, 0, 0, 0, .null), (6, .iconst 2, 1, 0, 0, 0, 0, .null), (7, .if_icmp .ne 19, 3, 0, 0, 0, 0, .null), (10, .aload_n 0, 1, 0, 0, 0, 0, .null), (11, .aload_n 2, 1, 0, 0, 0, 0, .null), (12, .getfield 22, 3, 9, 1, 0, 0, .null), (15, .putfield 18, 3, 9, 0, 0, 0, .null), (18, .aload_n 0, 1, 0, 0, 0, 0, .null), (19, .aload_n 2, 1, 0, 0, 0, 0, .null), (20, .getfield 18, 3, 9, 0, 0, 0, .null), (23, .putfield 22, 3, 9, 1, 0, 0, .null), (26, .iconst 0, 1, 0, 0, 0, 0, .null), (27, .istore_n 3, 1, 0, 0, 0, 0, .null), (28, .iload_n 3, 1, 0, 0, 0, 0, .null), (29, .aload_n 0, 1, 0, 0, 0, 0, .null), (30, .invokevirtual 80, 3, 0, 167, 0, 9, .null)], [(33, .if_icmp .ge 67, 3, 0, 0, 0, 0, .null), (36, .iload_n 3, 1, 0, 0, 0, 0, .null), (37, .aload_n 2, 1, 0, 0, 0, 0, .null), (38, .getfield 22, 3, 9, 1, 0, 0, .null), (41, .if_icmp .ge 7, 3, 0, 0, 0, 0, .null), (44, .iconst 1, 1, 0, 0, 0, 0, .null), (45, .goto 4, 3, 0, 0, 0, 0, .null), (48, .iconst 0, 1, 0, 0, 0, 0, .null), (49, .istore 4, 2, 0, 0, 0, 0, .null), (51, .aload_n 0, 1, 0, 0, 0, 0, .null), (52, .getfield 25, 3, 9, 3, 7, 0, .null), (55, .aload_n 2, 1, 0, 0, 0, 0, .null), (56, .iload_n 3, 1, 0, 0, 0, 0, .null), (57, .iload_n 1, 1, 0, 0, 0, 0, .null), (58, .invokestatic 118, 3, 3, 199, 3, 0, .null), (61, .iload_n 1, 1, 0, 0, 0, 0, .null), (62, .ifCond .eq 13, 3, 0, 0, 0, 0, .null)], [(65, .iload_n 1, 1, 0, 0, 0, 0, .null), (66, .iconst 1, 1, 0, 0, 0, 0, .null), (67, .if_icmp .ne 20, 3, 0, 0, 0, 0, .null), (70, .iload 4, 2, 0, 0, 0, 0, .null), (72, .ifCond .eq 15, 3, 0, 0, 0, 0, .null), (75, .aload_n 2, 1, 0, 0, 0, 0, .null), (76, .getfield 25, 3, 9, 3, 7, 0, .null), (79, .iload_n 3, 1, 0, 0, 0, 0, .null), (80, .iaload, 1, 0, 0, 0, 0, .null), (81, .invokestatic 122, 3, 4, 200, 1, 0, .null), (84, .goto 9, 3, 0, 0, 0, 0, .null), (87, .aload_n 2, 1, 0, 0, 0, 0, .null), (88, .getfield 25, 3, 9, 3, 7, 0, .null), (91, .iload_n 3, 1, 0, 0, 0, 0, .null), (92, .iaload, 1, 0, 0, 0, 0, .null), (93, .iastore, 1, 0, 0, 0, 0, .null), (94, .iinc 3 1, 3, 0, 0, 0, 0, .null)], [(97, .goto (-69), 3, 0, 0, 0, 0, .null), (100, .iconst 0, 1, 0, 0, 0, 0, .null), (101, .istore_n 3, 1, 0, 0, 0, 0, .null), (102, .iload_n 3, 1, 0, 0, 0, 0, .null), (103, .aload_n 0, 1, 0, 0, 0, 0, .null), (104, .invokevirtual 32, 3, 0, 156, 0, 9, .null), (107, .if_icmp .ge 163, 3, 0, 0, 0, 0, .null), (110, .iload_n 3, 1, 0, 0, 0, 0, .null), (111, .aload_n 2, 1, 0, 0, 0, 0, .null), (112, .getfield 18, 3, 9, 0, 0, 0, .null), (115, .idiv, 1, 0, 0, 0, 0, .null), (116, .istore 4, 2, 0, 0, 0, 0, .null), (118, .iload_n 3, 1, 0, 0, 0, 0, .null), (119, .aload_n 2, 1, 0, 0, 0, 0, .null), (120, .getfield 18, 3, 9, 0, 0, 0, .null), (123, .irem, 1, 0, 0, 0, 0, .null), (124, .istore 5, 2, 0, 0, 0, 0, .null), (126, .iload_n 1, 1, 0, 0, 0, 0, .null), (127, .ifCond .ne 30, 3, 0, 0, 0, 0, .null)], [(130, .aload_n 2, 1, 0, 0, 0, 0, .null), (131, .getfield 18, 3, 9, 0, 0, 0, .null), (134, .aload_n 2, 1, 0, 0, 0, 0, .null), (135, .getfield 22, 3, 9, 1, 0, 0, .null), (138, .iconst 1, 1, 0, 0, 0, 0, .null), (139, .isub, 1, 0, 0, 0, 0, .null), (140, .iload 4, 2, 0, 0, 0, 0, .null), (142, .isub, 1, 0, 0, 0, 0, .null), (143, .imul, 1, 0, 0, 0, 0, .null), (144, .aload_n 2, 1, 0, 0, 0, 0, .null), (145, .getfield 18, 3, 9, 0, 0, 0, .null), (148, .iadd, 1, 0, 0, 0, 0, .null), (149, .iconst 1, 1, 0, 0, 0, 0, .null), (150, .isub, 1, 0, 0, 0, 0, .null), (151, .iload 5, 2, 0, 0, 0, 0, .null), (153, .isub, 1, 0, 0, 0, 0, .null), (154, .goto 38, 3, 0, 0, 0, 0, .null), (157, .iload_n 1, 1, 0, 0, 0, 0, .null), (158, .iconst 1, 1, 0, 0, 0, 0, .null), (159, .if_icmp .ne 23, 3, 0, 0, 0, 0, .null)], [(162, .aload_n 2, 1, 0, 0, 0, 0, .null), (163, .getfield 18, 3, 9, 0, 0, 0, .null), (166, .iload 4, 2, 0, 0, 0, 0, .null), (168, .imul, 1, 0, 0, 0, 0, .null), (169, .aload_n 2, 1, 0, 0, 0, 0, .null), (170, .getfield 18, 3, 9, 0, 0, 0, .null), (173, .iadd, 1, 0, 0, 0, 0, .null), (174, .iconst 1, 1, 0, 0, 0, 0, .null), (175, .isub, 1, 0, 0, 0, 0, .null), (176, .iload 5, 2, 0, 0, 0, 0, .null), (178, .isub, 1, 0, 0, 0, 0, .null), (179, .goto 13, 3, 0, 0, 0, 0, .null), (182, .aload_n 0, 1, 0, 0, 0, 0, .null), (183, .getfield 18, 3, 9, 0, 0, 0, .null), (186, .iload 5, 2, 0, 0, 0, 0, .null), (188, .imul, 1, 0, 0, 0, 0, .null), (189, .iload 4, 2, 0, 0, 0, 0, .null), (191, .iadd, 1, 0, 0, 0, 0, .null)], [(192, .istore 6, 2, 0, 0, 0, 0, .null), (194, .iconst 0, 1, 0, 0, 0, 0, .null), (195, .istore 7, 2, 0, 0, 0, 0, .null), (197, .iload 7, 2, 0, 0, 0, 0, .null), (199, .iconst 4, 1, 0, 0, 0, 0, .null), (200, .if_icmp .ge 28, 3, 0, 0, 0, 0, .null), (203, .aload_n 0, 1, 0, 0, 0, 0, .null), (204, .getfield 38, 3, 9, 2, 7, 0, .null), (207, .iload 7, 2, 0, 0, 0, 0, .null), (209, .aaload, 1, 0, 0, 0, 0, .null), (210, .iload 6, 2, 0, 0, 0, 0, .null), (212, .aload_n 2, 1, 0, 0, 0, 0, .null), (213, .getfield 38, 3, 9, 2, 7, 0, .null), (216, .iload 7, 2, 0, 0, 0, 0, .null), (218, .aaload, 1, 0, 0, 0, 0, .null), (219, .iload_n 3, 1, 0, 0, 0, 0, .null), (220, .iaload, 1, 0, 0, 0, 0, .null), (221, .iastore, 1, 0, 0, 0, 0, .null), (222, .iinc 7 1, 3, 0, 0, 0, 0, .null)], [(225, .goto (-28), 3, 0, 0, 0, 0, .null), (228, .aload_n 2, 1, 0, 0, 0, 0, .null), (229, .getfield 38, 3, 9, 2, 7, 0, .null), (232, .iconst 1, 1, 0, 0, 0, 0, .null), (233, .aaload, 1, 0, 0, 0, 0, .null), (234, .iload_n 3, 1, 0, 0, 0, 0, .null), (235, .iaload, 1, 0, 0, 0, 0, .null), (236, .istore 7, 2, 0, 0, 0, 0, .null), (238, .aload_n 0, 1, 0, 0, 0, 0, .null), (239, .getfield 38, 3, 9, 2, 7, 0, .null), (242, .iconst 1, 1, 0, 0, 0, 0, .null), (243, .aaload, 1, 0, 0, 0, 0, .null), (244, .iload 6, 2, 0, 0, 0, 0, .null), (246, .iload 7, 2, 0, 0, 0, 0, .null), (248, .ifCond .ge 8, 3, 0, 0, 0, 0, .null), (251, .iload 7, 2, 0, 0, 0, 0, .null), (253, .goto 10, 3, 0, 0, 0, 0, .null)], [(256, .aload_n 2, 1, 0, 0, 0, 0, .null), (257, .iload 7, 2, 0, 0, 0, 0, .null), (259, .iload_n 1, 1, 0, 0, 0, 0, .null), (260, .invokestatic 118, 3, 3, 199, 3, 0, .null), (263, .iastore, 1, 0, 0, 0, 0, .null), (264, .iinc 3 1, 3, 0, 0, 0, 0, .null), (267, .goto (-165), 3, 0, 0, 0, 0, .null), (270, .return_, 1, 0, 0, 0, 0, .null)]]
def zc198 : List (List zIn) := [[(0, .new 13, 3, 9, 7, 0, 0, .null), (3, .dup, 1, 0, 0, 0, 0, .null), (4, .aload_n 0, 1, 0, 0, 0, 0, .null), (5, .getfield 18, 3, 9, 0, 0, 0, .null), (8, .aload_n 0, 1, 0, 0, 0, 0, .null), (9, .getfield 22, 3, 9, 1, 0, 0, .null), (12, .invokespecial 47, 3, 5, 154, 2, 0, .null), (15, .astore_n 1, 1, 0, 0, 0, 0, .null), (16, .aload_n 1, 1, 0, 0, 0, 0, .null), (17, .aload_n 0, 1, 0, 0, 0, 0, .null), (18, .getfield 38, 3, 9, 2, 7, 0, .null), (21, .invokestatic 50, 3, 3, 191, 1, 0, .null), (24, .putfield 38, 3, 9, 2, 7, 0, .null), (27, .aload_n 0, 1, 0, 0, 0, 0, .null), (28, .getfield 25, 3, 9, 3, 7, 0, .null), (31, .iconst 0, 1, 0, 0, 0, 0, .null)], [(32, .aload_n 1, 1, 0, 0, 0, 0, .null), (33, .getfield 25, 3, 9, 3, 7, 0, .null), (36, .iconst 0, 1, 0, 0, 0, 0, .null), (37, .aload_n 0, 1, 0, 0, 0, 0, .null), (38, .getfield 25, 3, 9, 3, 7, 0, .null), (41, .arraylength, 1, 0, 0, 0, 0, .null), (42, .invokestatic 41, 3, 21, 0, 5, 0, .null), (45, .aload_n 1, 1, 0, 0, 0, 0, .null), (46, .areturn, 1, 0, 0, 0, 0, .null)]]
def zc199 : List (List zIn) := [[(0, .iload_n 1, 1, 0, 0, 0, 0, .null), (1, .aload_n 0, 1, 0, 0, 0, 0, .null), (2, .getfield 22, 3, 9, 1, 0, 0, .null), (5, .if_icmp .ge 7, 3, 0, 0, 0, 0, .null), (8, .iconst 1, 1, 0, 0, 0, 0, .null), (9, .goto 4, 3, 0, 0, 0, 0, .null), (12, .iconst 0, 1, 0, 0, 0, 0, .null), (13, .istore_n 3, 1, 0, 0, 0, 0, .null), (14, .iload_n 3, 1, 0, 0, 0, 0, .null), (15, .ifCond .eq 7, 3, 0, 0, 0, 0, .null), (18, .iload_n 1, 1, 0, 0, 0, 0, .null), (19, .goto 9, 3, 0, 0, 0, 0, .null), (22, .iload_n 1, 1, 0, 0, 0, 0, .null), (23, .aload_n 0, 1, 0, 0, 0, 0, .null), (24, .getfield 22, 3, 9, 1, 0, 0, .null), (27, .isub, 1, 0, 0, 0, 0, .null), (28, .istore 4, 2, 0, 0, 0, 0, .null), (30, .iload_n 2, 1, 0, 0, 0, 0, .null), (31, .iconst 2, 1, 0, 0, 0, 0, .null)], [(32, .if_icmp .ne 19, 3, 0, 0, 0, 0, .null), (35, .iload_n 3, 1, 0, 0, 0, 0, .null), (36, .ifCond .eq 12, 3, 0, 0, 0, 0, .null), (39, .aload_n 0, 1, 0, 0, 0, 0, .null), (40, .getfield 18, 3, 9, 0, 0, 0, .null), (43, .iload_n 1, 1, 0, 0, 0, 0, .null), (44, .iadd, 1, 0, 0, 0, 0, .null), (45, .goto 5, 3, 0, 0, 0, 0, .null), (48, .iload 4, 2, 0, 0, 0, 0, .null), (50, .ireturn, 1, 0, 0, 0, 0, .null), (51, .iload_n 3, 1, 0, 0, 0, 0, .null), (52, .ifCond .eq 20, 3, 0, 0, 0, 0, .null), (55, .iload_n 2, 1, 0, 0, 0, 0, .null), (56, .ifCond .ne 14, 3, 0, 0, 0, 0, .null), (59, .aload_n 0, 1, 0, 0, 0, 0, .null), (60, .getfield 22, 3, 9, 1, 0, 0, .null), (63, .iconst 1, 1, 0, 0, 0, 0, .null)], [(64, .isub, 1, 0, 0, 0, 0, .null), (65, .iload_n 1, 1, 0, 0, 0, 0, .null), (66, .isub, 1, 0, 0, 0, 0, .null), (67, .goto 4, 3, 0, 0, 0, 0, .null), (70, .iload_n 1, 1, 0, 0, 0, 0, .null), (71, .ireturn, 1, 0, 0, 0, 0, .null), (72, .aload_n 0, 1, 0, 0, 0, 0, .null), (73, .getfield 22, 3, 9, 1, 0, 0, .null), (76, .aload_n 0, 1, 0, 0, 0, 0, .null), (77, .getfield 18, 3, 9, 0, 0, 0, .null), (80, .iadd, 1, 0, 0, 0, 0, .null), (81, .iconst 1, 1, 0, 0, 0, 0, .null), (82, .isub, 1, 0, 0, 0, 0, .null), (83, .iload 4, 2, 0, 0, 0, 0, .null), (85, .isub, 1, 0, 0, 0, 0, .null), (86, .ireturn, 1, 0, 0, 0, 0, .null)]]
def zc200 : List (List zIn) := [[(0, .iconst 0, 1, 0, 0, 0, 0, .null), (1, .istore_n 1, 1, 0, 0, 0, 0, .null), (2, .iload_n 0, 1, 0, 0, 0, 0, .null), (3, .istore_n 2, 1, 0, 0, 0, 0, .null), (4, .iload_n 2, 1, 0, 0, 0, 0, .null), (5, .ifCond .le 21, 3, 0, 0, 0, 0, .null), (8, .bipush 10, 2, 0, 0, 0, 0, .null), (10, .iload_n 1, 1, 0, 0, 0, 0, .null), (11, .imul, 1, 0, 0, 0, 0, .null), (12, .iload_n 2, 1, 0, 0, 0, 0, .null), (13, .bipush 10, 2, 0, 0, 0, 0, .null), (15, .irem, 1, 0, 0, 0, 0, .null), (16, .iadd, 1, 0, 0, 0, 0, .null), (17, .istore_n 1, 1, 0, 0, 0, 0, .null), (18, .iload_n 2, 1, 0, 0, 0, 0, .null), (19, .bipush 10, 2, 0, 0, 0, 0, .null), (21, .idiv, 1, 0, 0, 0, 0, .null), (22, .istore_n 2, 1, 0, 0, 0, 0, .null), (23, .goto (-19), 3, 0, 0, 0, 0, .null), (26, .iload_n 0, 1, 0, 0, 0, 0, .null), (27, .ifCond .ge 7, 3, 0, 0, 0, 0, .null), (30, .iload_n 0, 1, 0, 0, 0, 0, .null), (31, .goto 4, 3, 0, 0, 0, 0, .null)], [(34, .iload_n 1, 1, 0, 0, 0, 0, .null), (35, .ireturn, 1, 0, 0, 0, 0, .null)]]
def zc201 : List (List zIn) := [[(0, .aload_n 0, 1, 0, 0, 0, 0, .null), (1, .iconst 0, 1, 0, 0, 0, 0, .null), (2, .putfield 16, 3, 7, 0, 0, 0, .null), (5, .aload_n 0, 1, 0, 0, 0, 0, .null), (6, .iload_n 1, 1, 0, 0, 0, 0, .null), (7, .invokevirtual 34, 3, 0, 163, 1, 7, .null), (10, .ifCond .eq 29, 3, 0, 0, 0, 0, .null), (13, .iload_n 2, 1, 0, 0, 0, 0, .null), (14, .iconst 0, 1, 0, 0, 0, 0, .null), (15, .aload_n 0, 1, 0, 0, 0, 0, .null), (16, .getfield 10, 3, 7, 1, 6, 1, .null), (19, .iload_n 1, 1, 0, 0, 0, 0, .null), (20, .invokeinterface 38 2, 5, 8, 164, 1, 8, .null), (25, .checkcast 42, 3, 9, 0, 0, 0, .null), (28, .getfield 136, 3, 9, 1, 0, 0, .null), (31, .iconst 1, 1, 0, 0, 0, 0, .null)], [(32, .isub, 1, 0, 0, 0, 0, .null), (33, .invokestatic 30, 3, 3, 151, 3, 0, .null), (36, .ifCond .ne 9, 3, 0, 0, 0, 0, .null), (39, .aload_n 0, 1, 0, 0, 0, 0, .null), (40, .iconst 1, 1, 0, 0, 0, 0, .null), (41, .invokevirtual 50, 3, 0, 152, 1, 7, .null), (44, .ireturn, 1, 0, 0, 0, 0, .null), (45, .aload_n 0, 1, 0, 0, 0, 0, .null), (46, .getfield 10, 3, 7, 1, 6, 1, .null), (49, .iload_n 1, 1, 0, 0, 0, 0, .null), (50, .invokeinterface 38 2, 5, 8, 164, 1, 8, .null), (55, .checkcast 42, 3, 9, 0, 0, 0, .null), (58, .astore 4, 2, 0, 0, 0, 0, .null), (60, .iload_n 3, 1, 0, 0, 0, 0, .null), (61, .iconst 0, 1, 0, 0, 0, 0, .null), (62, .iconst 1, 1, 0, 0, 0, 0, .null), (63, .aload 4, 2, 0, 0, 0, 0, .null)], [(65, .getfield 133, 3, 9, 0, 0, 0, .null), (68, .ishl, 1, 0, 0, 0, 0, .null), (69, .iconst 1, 1, 0, 0, 0, 0, .null), (70, .isub, 1, 0, 0, 0, 0, .null), (71, .invokestatic 30, 3, 3, 151, 3, 0, .null), (74, .ifCond .ne 9, 3, 0, 0, 0, 0, .null), (77, .aload_n 0, 1, 0, 0, 0, 0, .null), (78, .iconst 2, 1, 0, 0, 0, 0, .null), (79, .invokevirtual 50, 3, 0, 152, 1, 7, .null), (82, .ireturn, 1, 0, 0, 0, 0, .null), (83, .aload 4, 2, 0, 0, 0, 0, .null), (85, .getfield 102, 3, 9, 4, 6, 0, .null), (88, .invokeinterface 24 1, 5, 8, 153, 0, 8, .null), (93, .ifCond .le 9, 3, 0, 0, 0, 0, .null)], [(96, .aload_n 0, 1, 0, 0, 0, 0, .null), (97, .iconst 3, 1, 0, 0, 0, 0, .null), (98, .invokevirtual 50, 3, 0, 152, 1, 7, .null), (101, .ireturn, 1, 0, 0, 0, 0, .null), (102, .iconst 0, 1, 0, 0, 0, 0, .null), (103, .istore 5, 2, 0, 0, 0, 0, .null), (105, .iload 5, 2, 0, 0, 0, 0, .null), (107, .aload 4, 2, 0, 0, 0, 0, .null), (109, .getfield 133, 3, 9, 0, 0, 0, .null), (112, .if_icmp .ge 38, 3, 0, 0, 0, 0, .null), (115, .aload 4, 2, 0, 0, 0, 0, .null), (117, .aload 4, 2, 0, 0, 0, 0, .null), (119, .iload_n 2, 1, 0, 0, 0, 0, .null), (120, .iload 5, 2, 0, 0, 0, 0, .null), (122, .invokevirtual 139, 3, 0, 173, 2, 9, .null), (125, .iload_n 3, 1, 0, 0, 0, 0, .null), (126, .iload 5, 2, 0, 0, 0, 0, .null)], [(128, .invokestatic 20, 3, 3, 175, 2, 0, .null), (131, .ifCond .eq 7, 3, 0, 0, 0, 0, .null), (134, .iconst 1, 1, 0, 0, 0, 0, .null), (135, .goto 4, 3, 0, 0, 0, 0, .null), (138, .iconst 2, 1, 0, 0, 0, 0, .null), (139, .iconst (-1), 1, 0, 0, 0, 0, .null), (140, .iconst 0, 1, 0, 0, 0, 0, .null), (141, .invokevirtual 86, 3, 0, 180, 4, 9, .null), (144, .iinc 5 1, 3, 0, 0, 0, 0, .null), (147, .goto (-42), 3, 0, 0, 0, 0, .null), (150, .aload 4, 2, 0, 0, 0, 0, .null), (152, .iconst 1, 1, 0, 0, 0, 0, .null), (153, .invokevirtual 143, 3, 0, 202, 1, 9, .null), (156, .ireturn, 1, 0, 0, 0, 0, .null)]]
def zc202 : List (List zIn) := [[(0, .iconst 0, 1, 0, 0, 0, 0, .null), (1, .istore_n 2, 1, 0, 0, 0, 0, .null), (2, .aload_n 0, 1, 0, 0, 0, 0, .null), (3, .getfield 38, 3, 9, 2, 7, 0, .null), (6, .iconst 0, 1, 0, 0, 0, 0, .null), (7, .aaload, 1, 0, 0, 0, 0, .null), (8, .astore_n 3, 1, 0, 0, 0, 0, .null), (9, .aload_n 3, 1, 0, 0, 0, 0, .null), (10, .arraylength, 1, 0, 0, 0, 0, .null), (11, .istore 4, 2, 0, 0, 0, 0, .null), (13, .iconst 0, 1, 0, 0, 0, 0, .null), (14, .istore 5, 2, 0, 0, 0, 0, .null), (16, .iload 5, 2, 0, 0, 0, 0, .null), (18, .iload 4, 2, 0, 0, 0, 0, .null), (20, .if_icmp .ge 29, 3, 0, 0, 0, 0, .null), (23, .aload_n 3, 1, 0, 0, 0, 0, .null), (24, .iload 5, 2, 0, 0, 0, 0, .null), (26, .iaload, 1, 0, 0, 0, 0, .null), (27, .istore 6, 2, 0, 0, 0, 0, .null), (29, .iload_n 2, 1, 0, 0, 0, 0, .null), (30, .iload 6, 2, 0, 0, 0, 0, .null)], [(32, .iload_n 1, 1, 0, 0, 0, 0, .null), (33, .if_icmp .ne 7, 3, 0, 0, 0, 0, .null), (36, .iconst 1, 1, 0, 0, 0, 0, .null), (37, .goto 4, 3, 0, 0, 0, 0, .null), (40, .iconst 0, 1, 0, 0, 0, 0, .null), (41, .iadd, 1, 0, 0, 0, 0, .null), (42, .istore_n 2, 1, 0, 0, 0, 0, .null), (43, .iinc 5 1, 3, 0, 0, 0, 0, .null), (46, .goto (-30), 3, 0, 0, 0, 0, .null), (49, .iload_n 2, 1, 0, 0, 0, 0, .null), (50, .ireturn, 1, 0, 0, 0, 0, .null)]]
def zc203 : List (List zIn) := [[(0, .aload_n 0, 1, 0, 0, 0, 0, .null), (1, .iconst 0, 1, 0, 0, 0, 0, .null), (2, .putfield 16, 3, 7, 0, 0, 0, .null), (5, .aload_n 0, 1, 0, 0, 0, 0, .null), (6, .iload_n 1, 1, 0, 0, 0, 0, .null), (7, .invokevirtual 34, 3, 0, 163, 1, 7, .null), (10, .ifCond .ne 9, 3, 0, 0, 0, 0, .null), (13, .aload_n 0, 1, 0, 0, 0, 0, .null), (14, .iconst 1, 1, 0, 0, 0, 0, .null), (15, .invokevirtual 50, 3, 0, 152, 1, 7, .null), (18, .ireturn, 1, 0, 0, 0, 0, .null), (19, .aload_n 0, 1, 0, 0, 0, 0, .null), (20, .getfield 10, 3, 7, 1, 6, 1, .null), (23, .iload_n 1, 1, 0, 0, 0, 0, .null), (24, .invokeinterface 38 2, 5, 8, 164, 1, 8, .null), (29, .checkcast 42, 3, 9, 0, 0, 0, .null)], [(32, .astore_n 2, 1, 0, 0, 0, 0, .null), (33, .aload_n 2, 1, 0, 0, 0, 0, .null), (34, .getfield 102, 3, 9, 4, 6, 0, .null), (37, .invokeinterface 24 1, 5, 8, 153, 0, 8, .null), (42, .ifCond .gt 11, 3, 0, 0, 0, 0, .null), (45, .aload_n 2, 1, 0, 0, 0, 0, .null), (46, .iconst 0, 1, 0, 0, 0, 0, .null), (47, .invokevirtual 143, 3, 0, 202, 1, 9, .null), (50, .ifCond .le 9, 3, 0, 0, 0, 0, .null), (53, .aload_n 0, 1, 0, 0, 0, 0, .null), (54, .iconst 2, 1, 0, 0, 0, 0, .null), (55, .invokevirtual 50, 3, 0, 152, 1, 7, .null), (58, .ireturn, 1, 0, 0, 0, 0, .null), (59, .iconst 0, 1, 0, 0, 0, 0, .null), (60, .istore_n 3, 1, 0, 0, 0, 0, .null), (61, .iconst 0, 1, 0, 0, 0, 0, .null), (62, .istore 4, 2, 0, 0, 0, 0, .null)], [(64, .iload 4, 2, 0, 0, 0, 0, .null), (66, .aload_n 2, 1, 0, 0, 0, 0, .null), (67, .invokevirtual 47, 3, 0, 167, 0, 9, .null), (70, .if_icmp .ge 92, 3, 0, 0, 0, 0, .null), (73, .iconst 0, 1, 0, 0, 0, 0, .null), (74, .istore 5, 2, 0, 0, 0, 0, .null), (76, .iconst 0, 1, 0, 0, 0, 0, .null), (77, .istore 6, 2, 0, 0, 0, 0, .null), (79, .iload 6, 2, 0, 0, 0, 0, .null), (81, .aload_n 2, 1, 0, 0, 0, 0, .null), (82, .iload 4, 2, 0, 0, 0, 0, .null), (84, .invokevirtual 67, 3, 0, 168, 1, 9, .null), (87, .if_icmp .ge 38, 3, 0, 0, 0, 0, .null), (90, .iload 5, 2, 0, 0, 0, 0, .null), (92, .aload_n 2, 1, 0, 0, 0, 0, .null), (93, .aload_n 2, 1, 0, 0, 0, 0, .null), (94, .iload 4, 2, 0, 0, 0, 0, .null)], [(96, .iload 6, 2, 0, 0, 0, 0, .null), (98, .invokevirtual 139, 3, 0, 173, 2, 9, .null), (101, .invokevirtual 83, 3, 0, 174, 1, 9, .null), (104, .iconst 1, 1, 0, 0, 0, 0, .null), (105, .if_icmp .ne 10, 3, 0, 0, 0, 0, .null), (108, .iconst 1, 1, 0, 0, 0, 0, .null), (109, .iload 6, 2, 0, 0, 0, 0, .null), (111, .ishl, 1, 0, 0, 0, 0, .null), (112, .goto 4, 3, 0, 0, 0, 0, .null), (115, .iconst 0, 1, 0, 0, 0, 0, .null), (116, .ior, 1, 0, 0, 0, 0, .null), (117, .istore 5, 2, 0, 0, 0, 0, .null), (119, .iinc 6 1, 3, 0, 0, 0, 0, .null), (122, .goto (-43), 3, 0, 0, 0, 0, .null), (125, .aload_n 2, 1, 0, 0, 0, 0, .null), (126, .getfield 73, 3, 9, 3, 7, 0, .null)], [(129, .iload 4, 2, 0, 0, 0, 0, .null), (131, .iload 5, 2, 0, 0, 0, 0, .null), (133, .aload_n 2, 1, 0, 0, 0, 0, .null), (134, .iload 4, 2, 0, 0, 0, 0, .null), (136, .invokevirtual 67, 3, 0, 168, 1, 9, .null), (139, .invokestatic 145, 3, 3, 176, 2, 0, .null), (142, .iastore, 1, 0, 0, 0, 0, .null), (143, .iload_n 3, 1, 0, 0, 0, 0, .null), (144, .aload_n 2, 1, 0, 0, 0, 0, .null), (145, .getfield 73, 3, 9, 3, 7, 0, .null), (148, .iload 4, 2, 0, 0, 0, 0, .null), (150, .iaload, 1, 0, 0, 0, 0, .null), (151, .invokestatic 61, 3, 3, 170, 1, 0, .null), (154, .iadd, 1, 0, 0, 0, 0, .null), (155, .istore_n 3, 1, 0, 0, 0, 0, .null), (156, .iinc 4 1, 3, 0, 0, 0, 0, .null), (159, .goto (-95), 3, 0, 0, 0, 0, .null)], [(162, .aload_n 2, 1, 0, 0, 0, 0, .null), (163, .invokevirtual 148, 3, 0, 155, 0, 9, .null), (166, .iload_n 3, 1, 0, 0, 0, 0, .null), (167, .ireturn, 1, 0, 0, 0, 0, .null)]]
def zc204 : List (List zIn) := [[(0, .aload_n 0, 1, 0, 0, 0, 0, .null), (1, .iconst 0, 1, 0, 0, 0, 0, .null), (2, .putfield 16, 3, 7, 0, 0, 0, .null), (5, .aload_n 0, 1, 0, 0, 0, 0, .null), (6, .iload_n 1, 1, 0, 0, 0, 0, .null), (7, .invokevirtual 34, 3, 0, 163, 1, 7, .null), (10, .ifCond .ne 9, 3, 0, 0, 0, 0, .null), (13, .aload_n 0, 1, 0, 0, 0, 0, .null), (14, .iconst 1, 1, 0, 0, 0, 0, .null), (15, .invokevirtual 50, 3, 0, 152, 1, 7, .null), (18, .ireturn, 1, 0, 0, 0, 0, .null), (19, .aload_n 0, 1, 0, 0, 0, 0, .null), (20, .getfield 10, 3, 7, 1, 6, 1, .null), (23, .iload_n 1, 1, 0, 0, 0, 0, .null), (24, .invokeinterface 38 2, 5, 8, 164, 1, 8, .null), (29, .checkcast 42, 3, 9, 0, 0, 0, .null)], [(32, .astore_n 2, 1, 0, 0, 0, 0, .null), (33, .aload_n 2, 1, 0, 0, 0, 0, .null), (34, .invokevirtual 44, 3, 0, 156, 0, 9, .null), (37, .aload_n 2, 1, 0, 0, 0, 0, .null), (38, .iconst 0, 1, 0, 0, 0, 0, .null), (39, .invokevirtual 143, 3, 0, 202, 1, 9, .null), (42, .isub, 1, 0, 0, 0, 0, .null), (43, .istore_n 3, 1, 0, 0, 0, 0, .null), (44, .aload_n 2, 1, 0, 0, 0, 0, .null), (45, .invokevirtual 148, 3, 0, 155, 0, 9, .null), (48, .aload_n 2, 1, 0, 0, 0, 0, .null), (49, .new 7, 3, 8, 3, 0, 0, .null), (52, .dup, 1, 0, 0, 0, 0, .null), (53, .invokespecial 9, 3, 5, 147, 0, 0, .null), (56, .putfield 102, 3, 9, 4, 6, 0, .null), (59, .iload_n 3, 1, 0, 0, 0, 0, .null), (60, .ireturn, 1, 0, 0, 0, 0, .null)]]
def zc205 : List (List zIn) := [[(0, .aload_n 0, 1, 0, 0, 0, 0, .null), (1, .iconst 0, 1, 0, 0, 0, 0, .null), (2, .putfield 16, 3, 7, 0, 0, 0, .null), (5, .aload_n 0, 1, 0, 0, 0, 0, .null), (6, .dup, 1, 0, 0, 0, 0, .null), (7, .getfield 151, 3, 7, 2, 0, 0, .null), (10, .iconst 1, 1, 0, 0, 0, 0, .null), (11, .iadd, 1, 0, 0, 0, 0, .null), (12, .putfield 151, 3, 7, 2, 0, 0, .null), (15, .aload_n 0, 1, 0, 0, 0, 0, .null), (16, .getfield 151, 3, 7, 2, 0, 0, .null), (19, .ireturn, 1, 0, 0, 0, 0, .null)]]
def zc206 : List (List zIn) := [[(0, .aload_n 0, 1, 0, 0, 0, 0, .null), (1, .iconst 0, 1, 0, 0, 0, 0, .null), (2, .putfield 16, 3, 7, 0, 0, 0, .null), (5, .aload_n 0, 1, 0, 0, 0, 0, .null), (6, .iload_n 1, 1, 0, 0, 0, 0, .null), (7, .iload_n 2, 1, 0, 0, 0, 0, .null), (8, .invokevirtual 80, 3, 0, 179, 2, 7, .null), (11, .ifCond .ne 9, 3, 0, 0, 0, 0, .null), (14, .aload_n 0, 1, 0, 0, 0, 0, .null), (15, .iconst 1, 1, 0, 0, 0, 0, .null), (16, .invokevirtual 50, 3, 0, 152, 1, 7, .null), (19, .ireturn, 1, 0, 0, 0, 0, .null), (20, .iload_n 3, 1, 0, 0, 0, 0, .null), (21, .iconst 0, 1, 0, 0, 0, 0, .null), (22, .iconst 3, 1, 0, 0, 0, 0, .null), (23, .invokestatic 30, 3, 3, 151, 3, 0, .null), (26, .ifCond .ne 9, 3, 0, 0, 0, 0, .null), (29, .aload_n 0, 1, 0, 0, 0, 0, .null), (30, .iconst 2, 1, 0, 0, 0, 0, .null), (31, .invokevirtual 50, 3, 0, 152, 1, 7, .null)], [(34, .ireturn, 1, 0, 0, 0, 0, .null), (35, .aload_n 0, 1, 0, 0, 0, 0, .null), (36, .getfield 10, 3, 7, 1, 6, 1, .null), (39, .iload_n 1, 1, 0, 0, 0, 0, .null), (40, .invokeinterface 38 2, 5, 8, 164, 1, 8, .null), (45, .checkcast 42, 3, 9, 0, 0, 0, .null), (48, .getfield 107, 3, 9, 2, 7, 0, .null), (51, .iload_n 3, 1, 0, 0, 0, 0, .null), (52, .aaload, 1, 0, 0, 0, 0, .null), (53, .iload_n 2, 1, 0, 0, 0, 0, .null), (54, .iaload, 1, 0, 0, 0, 0, .null), (55, .ireturn, 1, 0, 0, 0, 0, .null)]]
def zc207 : List (List zIn) := [[(0, .aload_n 0, 1, 0, 0, 0, 0, .null), (1, .iconst 0, 1, 0, 0, 0, 0, .null), (2, .putfield 16, 3, 7, 0, 0, 0, .null), (5, .aload_n 0, 1, 0, 0, 0, 0, .null), (6, .iload_n 1, 1, 0, 0, 0, 0, .null), (7, .iload_n 2, 1, 0, 0, 0, 0, .null), (8, .invokevirtual 64, 3, 0, 162, 2, 7, .null), (11, .ifCond .ne 9, 3, 0, 0, 0, 0, .null), (14, .aload_n 0, 1, 0, 0, 0, 0, .null), (15, .iconst 1, 1, 0, 0, 0, 0, .null), (16, .invokevirtual 50, 3, 0, 152, 1, 7, .null), (19, .ireturn, 1, 0, 0, 0, 0, .null), (20, .iload_n 3, 1, 0, 0, 0, 0, .null), (21, .iconst 0, 1, 0, 0, 0, 0, .null), (22, .iconst 5, 1, 0, 0, 0, 0, .null), (23, .invokestatic 30, 3, 3, 151, 3, 0, .null), (26, .ifCond .ne 9, 3, 0, 0, 0, 0, .null), (29, .aload_n 0, 1, 0, 0, 0, 0, .null), (30, .iconst 2, 1, 0, 0, 0, 0, .null), (31, .invokevirtual 50, 3, 0, 152, 1, 7, .null)], [(34, .ireturn, 1, 0, 0, 0, 0, .null), (35, .aload_n 0, 1, 0, 0, 0, 0, .null), (36, .getfield 10, 3, 7, 1, 6, 1, .null), (39, .iload_n 1, 1, 0, 0, 0, 0, .null), (40, .invokeinterface 38 2, 5, 8, 164, 1, 8, .null), (45, .checkcast 42, 3, 9, 0, 0, 0, .null), (48, .iload_n 2, 1, 0, 0, 0, 0, .null), (49, .iload_n 3, 1, 0, 0, 0, 0, .null), (50, .invokestatic 158, 3, 3, 208, 3, 0, .null), (53, .ireturn, 1, 0, 0, 0, 0, .null)]]
def zc208 : List (List zIn) := [[(0, .iload_n 2, 1, 0, 0, 0, 0, .null), (1, .tableswitch 86 0 4 #[35, 42, 66, 72, 79], 35, 0, 0, 0, 0, .null)], [(36, .aload_n 0, 1, 0, 0, 0, 0, .null), (37, .getfield 73, 3, 9, 3, 7, 0, .null), (40, .iload_n 1, 1, 0, 0, 0, 0, .null), (41, .iaload, 1, 0, 0, 0, 0, .null), (42, .ireturn, 1, 0, 0, 0, 0, .null), (43, .aload_n 0, 1, 0, 0, 0, 0, .null), (44, .getfield 73, 3, 9, 3, 7, 0, .null), (47, .iload_n 1, 1, 0, 0, 0, 0, .null), (48, .iaload, 1, 0, 0, 0, 0, .null), (49, .iconst (-1), 1, 0, 0, 0, 0, .null), (50, .if_icmp .ne 7, 3, 0, 0, 0, 0, .null), (53, .iconst (-1), 1, 0, 0, 0, 0, .null), (54, .goto 12, 3, 0, 0, 0, 0, .null), (57, .aload_n 0, 1, 0, 0, 0, 0, .null), (58, .getfield 73, 3, 9, 3, 7, 0, .null), (61, .iload_n 1, 1, 0, 0, 0, 0, .null), (62, .iaload, 1, 0, 0, 0, 0, .null), (63, .invokestatic 61, 3, 3, 170, 1, 0, .null)], [(66, .ireturn, 1, 0, 0, 0, 0, .null), (67, .aload_n 0, 1, 0, 0, 0, 0, .null), (68, .iload_n 1, 1, 0, 0, 0, 0, .null), (69, .invokevirtual 77, 3, 0, 171, 1, 9, .null), (72, .ireturn, 1, 0, 0, 0, 0, .null), (73, .aload_n 0, 1, 0, 0, 0, 0, .null), (74, .iload_n 1, 1, 0, 0, 0, 0, .null), (75, .iconst 1, 1, 0, 0, 0, 0, .null), (76, .invokevirtual 154, 3, 0, 188, 2, 9, .null), (79, .ireturn, 1, 0, 0, 0, 0, .null), (80, .aload_n 0, 1, 0, 0, 0, 0, .null), (81, .iload_n 1, 1, 0, 0, 0, 0, .null), (82, .iconst 0, 1, 0, 0, 0, 0, .null), (83, .invokevirtual 154, 3, 0, 188, 2, 9, .null), (86, .ireturn, 1, 0, 0, 0, 0, .null), (87, .aload_n 0, 1, 0, 0, 0, 0, .null), (88, .iload_n 1, 1, 0, 0, 0, 0, .null), (89, .invokevirtual 67, 3, 0, 168, 1, 9, .null), (92, .ireturn, 1, 0, 0, 0, 0, .null)]]
def zc209 : List (List zIn) := [[(0, .aload_n 0, 1, 0, 0, 0, 0, .null), (1, .iconst 0, 1, 0, 0, 0, 0, .null), (2, .putfield 16, 3, 7, 0, 0, 0, .null), (5, .aload_n 0, 1, 0, 0, 0, 0, .null), (6, .iload_n 1, 1, 0, 0, 0, 0, .null), (7, .iload_n 2, 1, 0, 0, 0, 0, .null), (8, .invokevirtual 64, 3, 0, 162, 2, 7, .null), (11, .ifCond .ne 9, 3, 0, 0, 0, 0, .null), (14, .aload_n 0, 1, 0, 0, 0, 0, .null), (15, .iconst 1, 1, 0, 0, 0, 0, .null), (16, .invokevirtual 50, 3, 0, 152, 1, 7, .null), (19, .ireturn, 1, 0, 0, 0, 0, .null), (20, .iload_n 3, 1, 0, 0, 0, 0, .null), (21, .ifCond .ge 9, 3, 0, 0, 0, 0, .null), (24, .aload_n 0, 1, 0, 0, 0, 0, .null), (25, .iconst 2, 1, 0, 0, 0, 0, .null), (26, .invokevirtual 50, 3, 0, 152, 1, 7, .null), (29, .ireturn, 1, 0, 0, 0, 0, .null), (30, .aload_n 0, 1, 0, 0, 0, 0, .null), (31, .getfield 10, 3, 7, 1, 6, 1, .null)], [(34, .iload_n 1, 1, 0, 0, 0, 0, .null), (35, .invokeinterface 38 2, 5, 8, 164, 1, 8, .null), (40, .checkcast 42, 3, 9, 0, 0, 0, .null), (43, .iload_n 2, 1, 0, 0, 0, 0, .null), (44, .iload_n 3, 1, 0, 0, 0, 0, .null), (45, .invokevirtual 162, 3, 0, 210, 2, 9, .null), (48, .ireturn, 1, 0, 0, 0, 0, .null)]]
def zc210 : List (List zIn) := [[(0, .iload_n 2, 1, 0, 0, 0, 0, .null), (1, .istore_n 3, 1, 0, 0, 0, 0, .null), (2, .iconst 0, 1, 0, 0, 0, 0, .null), (3, .istore 4, 2, 0, 0, 0, 0, .null), (5, .iload 4, 2, 0, 0, 0, 0, .null), (7, .iconst 1, 1, 0, 0, 0, 0, .null), (8, .aload_n 0, 1, 0, 0, 0, 0, .null), (9, .iload_n 1, 1, 0, 0, 0, 0, .null), (10, .invokevirtual 54, 3, 0, 168, 1, 9, .null), (13, .ishl, 1, 0, 0, 0, 0, .null), (14, .if_icmp .ge 29, 3, 0, 0, 0, 0, .null), (17, .aload_n 0, 1, 0, 0, 0, 0, .null), (18, .iload_n 1, 1, 0, 0, 0, 0, .null), (19, .iload 4, 2, 0, 0, 0, 0, .null), (21, .invokevirtual 72, 3, 0, 172, 2, 9, .null), (24, .ifCond .eq 13, 3, 0, 0, 0, 0, .null), (27, .iload_n 3, 1, 0, 0, 0, 0, .null), (28, .iinc 3 (-1), 3, 0, 0, 0, 0, .null), (31, .ifCond .ne 6, 3, 0, 0, 0, 0, .null)], [(34, .iload 4, 2, 0, 0, 0, 0, .null), (36, .ireturn, 1, 0, 0, 0, 0, .null), (37, .iinc 4 1, 3, 0, 0, 0, 0, .null), (40, .goto (-35), 3, 0, 0, 0, 0, .null), (43, .iconst (-1), 1, 0, 0, 0, 0, .null), (44, .ireturn, 1, 0, 0, 0, 0, .null)]]
def zc211 : List (List zIn) := [[(0, .aload_n 0, 1, 0, 0, 0, 0, .null), (1, .iconst 0, 1, 0, 0, 0, 0, .null), (2, .putfield 16, 3, 7, 0, 0, 0, .null), (5, .aload_n 0, 1, 0, 0, 0, 0, .null), (6, .iload_n 1, 1, 0, 0, 0, 0, .null), (7, .invokevirtual 34, 3, 0, 163, 1, 7, .null), (10, .ifCond .ne 9, 3, 0, 0, 0, 0, .null), (13, .aload_n 0, 1, 0, 0, 0, 0, .null), (14, .iconst 1, 1, 0, 0, 0, 0, .null), (15, .invokevirtual 50, 3, 0, 152, 1, 7, .null), (18, .ireturn, 1, 0, 0, 0, 0, .null), (19, .iload_n 2, 1, 0, 0, 0, 0, .null), (20, .iconst 0, 1, 0, 0, 0, 0, .null), (21, .bipush 10, 2, 0, 0, 0, 0, .null), (23, .invokestatic 30, 3, 3, 151, 3, 0, .null), (26, .ifCond .ne 9, 3, 0, 0, 0, 0, .null), (29, .aload_n 0, 1, 0, 0, 0, 0, .null), (30, .iconst 2, 1, 0, 0, 0, 0, .null), (31, .invokevirtual 50, 3, 0, 152, 1, 7, .null)], [(34, .ireturn, 1, 0, 0, 0, 0, .null), (35, .aload_n 0, 1, 0, 0, 0, 0, .null), (36, .getfield 10, 3, 7, 1, 6, 1, .null), (39, .iload_n 1, 1, 0, 0, 0, 0, .null), (40, .invokeinterface 38 2, 5, 8, 164, 1, 8, .null), (45, .checkcast 42, 3, 9, 0, 0, 0, .null), (48, .aload_n 0, 1, 0, 0, 0, 0, .null), (49, .getfield 10, 3, 7, 1, 6, 1, .null), (52, .iload_n 1, 1, 0, 0, 0, 0, .null), (53, .invokeinterface 38 2, 5, 8, 164, 1, 8, .null), (58, .checkcast 42, 3, 9, 0, 0, 0, .null), (61, .invokevirtual 172, 3, 0, 182, 0, 9, .null)], [(64, .iload_n 2, 1, 0, 0, 0, 0, .null), (65, .invokestatic 176, 3, 3, 212, 3, 0, .null), (68, .ireturn, 1, 0, 0, 0, 0, .null)]]
def zc212 : List (List zIn) := [[(0, .iconst 0, 1, 0, 0, 0, 0, .null), (1, .istore_n 3, 1, 0, 0, 0, 0, .null), (2, .aload_n 0, 1, 0, 0, 0, 0, .null), (3, .getfield 73, 3, 9, 3, 7, 0, .null), (6, .astore 4, 2, 0, 0, 0, 0, .null), (8, .aload 4, 2, 0, 0, 0, 0, .null), (10, .arraylength, 1, 0, 0, 0, 0, .null), (11, .istore 5, 2, 0, 0, 0, 0, .null), (13, .iconst 0, 1, 0, 0, 0, 0, .null), (14, .istore 6, 2, 0, 0, 0, 0, .null), (16, .iload 6, 2, 0, 0, 0, 0, .null), (18, .iload 5, 2, 0, 0, 0, 0, .null), (20, .if_icmp .ge 30, 3, 0, 0, 0, 0, .null), (23, .aload 4, 2, 0, 0, 0, 0, .null), (25, .iload 6, 2, 0, 0, 0, 0, .null), (27, .iaload, 1, 0, 0, 0, 0, .null), (28, .istore 7, 2, 0, 0, 0, 0, .null), (30, .iload_n 3, 1, 0, 0, 0, 0, .null), (31, .iload 7, 2, 0, 0, 0, 0, .null)], [(33, .iconst (-1), 1, 0, 0, 0, 0, .null), (34, .if_icmp .ne 7, 3, 0, 0, 0, 0, .null), (37, .iconst 1, 1, 0, 0, 0, 0, .null), (38, .goto 4, 3, 0, 0, 0, 0, .null), (41, .iconst 0, 1, 0, 0, 0, 0, .null), (42, .iadd, 1, 0, 0, 0, 0, .null), (43, .istore_n 3, 1, 0, 0, 0, 0, .null), (44, .iinc 6 1, 3, 0, 0, 0, 0, .null), (47, .goto (-31), 3, 0, 0, 0, 0, .null), (50, .bipush 11, 2, 0, 0, 0, 0, .null), (52, .newarray .int, 2, 64, 0, 0, 0, .null), (54, .dup, 1, 0, 0, 0, 0, .null), (55, .iconst 0, 1, 0, 0, 0, 0, .null), (56, .aload_n 0, 1, 0, 0, 0, 0, .null), (57, .getfield 133, 3, 9, 0, 0, 0, .null), (60, .iastore, 1, 0, 0, 0, 0, .null), (61, .dup, 1, 0, 0, 0, 0, .null), (62, .iconst 1, 1, 0, 0, 0, 0, .null), (63, .aload_n 0, 1, 0, 0, 0, 0, .null)], [(64, .getfield 136, 3, 9, 1, 0, 0, .null), (67, .iastore, 1, 0, 0, 0, 0, .null), (68, .dup, 1, 0, 0, 0, 0, .null), (69, .iconst 2, 1, 0, 0, 0, 0, .null), (70, .aload_n 0, 1, 0, 0, 0, 0, .null), (71, .iconst 0, 1, 0, 0, 0, 0, .null), (72, .invokevirtual 143, 3, 0, 202, 1, 9, .null), (75, .iastore, 1, 0, 0, 0, 0, .null), (76, .dup, 1, 0, 0, 0, 0, .null), (77, .iconst 3, 1, 0, 0, 0, 0, .null), (78, .aload_n 0, 1, 0, 0, 0, 0, .null), (79, .iconst 1, 1, 0, 0, 0, 0, .null), (80, .invokevirtual 143, 3, 0, 202, 1, 9, .null), (83, .iastore, 1, 0, 0, 0, 0, .null), (84, .dup, 1, 0, 0, 0, 0, .null), (85, .iconst 4, 1, 0, 0, 0, 0, .null), (86, .aload_n 0, 1, 0, 0, 0, 0, .null), (87, .invokevirtual 165, 3, 0, 213, 0, 9, .null), (90, .iastore, 1, 0, 0, 0, 0, .null), (91, .dup, 1, 0, 0, 0, 0, .null), (92, .iconst 5, 1, 0, 0, 0, 0, .null), (93, .aload_n 0, 1, 0, 0, 0, 0, .null), (94, .getfield 102, 3, 9, 4, 6, 0, .null)], [(97, .invokeinterface 24 1, 5, 8, 153, 0, 8, .null), (102, .iastore, 1, 0, 0, 0, 0, .null), (103, .dup, 1, 0, 0, 0, 0, .null), (104, .bipush 6, 2, 0, 0, 0, 0, .null), (106, .aload_n 0, 1, 0, 0, 0, 0, .null), (107, .getfield 93, 3, 9, 5, 0, 0, .null), (110, .iastore, 1, 0, 0, 0, 0, .null), (111, .dup, 1, 0, 0, 0, 0, .null), (112, .bipush 7, 2, 0, 0, 0, 0, .null), (114, .aload_n 1, 1, 0, 0, 0, 0, .null), (115, .arraylength, 1, 0, 0, 0, 0, .null), (116, .iastore, 1, 0, 0, 0, 0, .null), (117, .dup, 1, 0, 0, 0, 0, .null), (118, .bipush 8, 2, 0, 0, 0, 0, .null), (120, .iload_n 3, 1, 0, 0, 0, 0, .null), (121, .iastore, 1, 0, 0, 0, 0, .null), (122, .dup, 1, 0, 0, 0, 0, .null), (123, .bipush 9, 2, 0, 0, 0, 0, .null), (125, .aload_n 0, 1, 0, 0, 0, 0, .null), (126, .getfield 96, 3, 9, 6, 0, 0, .null)], [(129, .iastore, 1, 0, 0, 0, 0, .null), (130, .dup, 1, 0, 0, 0, 0, .null), (131, .bipush 10, 2, 0, 0, 0, 0, .null), (133, .aload_n 0, 1, 0, 0, 0, 0, .null), (134, .aload_n 1, 1, 0, 0, 0, 0, .null), (135, .invokestatic 168, 3, 3, 214, 2, 0, .null), (138, .iastore, 1, 0, 0, 0, 0, .null), (139, .astore 4, 2, 0, 0, 0, 0, .null), (141, .aload 4, 2, 0, 0, 0, 0, .null), (143, .iload_n 2, 1, 0, 0, 0, 0, .null), (144, .iaload, 1, 0, 0, 0, 0, .null), (145, .ireturn, 1, 0, 0, 0, 0, .null)]]
def zc213 : List (List zIn) := [[(0, .iconst 0, 1, 0, 0, 0, 0, .null), (1, .istore_n 1, 1, 0, 0, 0, 0, .null), (2, .iconst 0, 1, 0, 0, 0, 0, .null), (3, .istore_n 2, 1, 0, 0, 0, 0, .null), (4, .iload_n 2, 1, 0, 0, 0, 0, .null), (5, .aload_n 0, 1, 0, 0, 0, 0, .null), (6, .invokevirtual 80, 3, 0, 167, 0, 9, .null), (9, .if_icmp .ge 25, 3, 0, 0, 0, 0, .null), (12, .iload_n 1, 1, 0, 0, 0, 0, .null), (13, .aload_n 0, 1, 0, 0, 0, 0, .null), (14, .iload_n 2, 1, 0, 0, 0, 0, .null), (15, .invokevirtual 83, 3, 0, 171, 1, 9, .null), (18, .ifCond .ne 7, 3, 0, 0, 0, 0, .null), (21, .iconst 1, 1, 0, 0, 0, 0, .null), (22, .goto 4, 3, 0, 0, 0, 0, .null), (25, .iconst 0, 1, 0, 0, 0, 0, .null), (26, .iadd, 1, 0, 0, 0, 0, .null), (27, .istore_n 1, 1, 0, 0, 0, 0, .null), (28, .iinc 2 1, 3, 0, 0, 0, 0, .null), (31, .goto (-27), 3, 0, 0, 0, 0, .null)], [(34, .iload_n 1, 1, 0, 0, 0, 0, .null), (35, .ireturn, 1, 0, 0, 0, 0, .null)]]
def zc214 : List (List zIn) := [[(0, .aload_n 1, 1, 0, 0, 0, 0, .null), (1, .arraylength, 1, 0, 0, 0, 0, .null), (2, .ifCond .ne 7, 3, 0, 0, 0, 0, .null), (5, .iconst 0, 1, 0, 0, 0, 0, .null), (6, .goto 4, 3, 0, 0, 0, 0, .null), (9, .iconst (-1), 1, 0, 0, 0, 0, .null), (10, .istore_n 2, 1, 0, 0, 0, 0, .null), (11, .iload_n 2, 1, 0, 0, 0, 0, .null), (12, .istore_n 3, 1, 0, 0, 0, 0, .null), (13, .aload_n 1, 1, 0, 0, 0, 0, .null), (14, .astore 4, 2, 0, 0, 0, 0, .null), (16, .aload 4, 2, 0, 0, 0, 0, .null), (18, .arraylength, 1, 0, 0, 0, 0, .null), (19, .istore 5, 2, 0, 0, 0, 0, .null), (21, .iconst 0, 1, 0, 0, 0, 0, .null), (22, .istore 6, 2, 0, 0, 0, 0, .null), (24, .iload 6, 2, 0, 0, 0, 0, .null), (26, .iload 5, 2, 0, 0, 0, 0, .null), (28, .if_icmp .ge 28, 3, 0, 0, 0, 0, .null), (31, .aload 4, 2, 0, 0, 0, 0, .null)], [(33, .iload 6, 2, 0, 0, 0, 0, .null), (35, .iaload, 1, 0, 0, 0, 0, .null), (36, .istore 7, 2, 0, 0, 0, 0, .null), (38, .iload_n 2, 1, 0, 0, 0, 0, .null), (39, .iload 7, 2, 0, 0, 0, 0, .null), (41, .iand, 1, 0, 0, 0, 0, .null), (42, .istore_n 2, 1, 0, 0, 0, 0, .null), (43, .iload_n 3, 1, 0, 0, 0, 0, .null), (44, .iload 7, 2, 0, 0, 0, 0, .null), (46, .iconst (-1), 1, 0, 0, 0, 0, .null), (47, .ixor, 1, 0, 0, 0, 0, .null), (48, .iand, 1, 0, 0, 0, 0, .null), (49, .istore_n 3, 1, 0, 0, 0, 0, .null), (50, .iinc 6 1, 3, 0, 0, 0, 0, .null), (53, .goto (-29), 3, 0, 0, 0, 0, .null), (56, .iconst 0, 1, 0, 0, 0, 0, .null), (57, .istore 4, 2, 0, 0, 0, 0, .null), (59, .iconst 0, 1, 0, 0, 0, 0, .null), (60, .istore 5, 2, 0, 0, 0, 0, .null), (62, .iload 5, 2, 0, 0, 0, 0, .null)], [(64, .aload_n 0, 1, 0, 0, 0, 0, .null), (65, .invokevirtual 44, 3, 0, 156, 0, 9, .null), (68, .if_icmp .ge 42, 3, 0, 0, 0, 0, .null), (71, .iload 4, 2, 0, 0, 0, 0, .null), (73, .aload_n 0, 1, 0, 0, 0, 0, .null), (74, .iload 5, 2, 0, 0, 0, 0, .null), (76, .invokevirtual 83, 3, 0, 174, 1, 9, .null), (79, .ifCond .ne 21, 3, 0, 0, 0, 0, .null), (82, .iload_n 2, 1, 0, 0, 0, 0, .null), (83, .iload_n 3, 1, 0, 0, 0, 0, .null), (84, .ior, 1, 0, 0, 0, 0, .null), (85, .iload 5, 2, 0, 0, 0, 0, .null), (87, .invokestatic 20, 3, 3, 175, 2, 0, .null), (90, .ifCond .eq 10, 3, 0, 0, 0, 0, .null), (93, .iconst 1, 1, 0, 0, 0, 0, .null), (94, .iload 5, 2, 0, 0, 0, 0, .null)], [(96, .ishl, 1, 0, 0, 0, 0, .null), (97, .goto 4, 3, 0, 0, 0, 0, .null), (100, .iconst 0, 1, 0, 0, 0, 0, .null), (101, .ior, 1, 0, 0, 0, 0, .null), (102, .istore 4, 2, 0, 0, 0, 0, .null), (104, .iinc 5 1, 3, 0, 0, 0, 0, .null), (107, .goto (-45), 3, 0, 0, 0, 0, .null), (110, .iload 4, 2, 0, 0, 0, 0, .null), (112, .ireturn, 1, 0, 0, 0, 0, .null)]]
def zc215 : List (List zIn) := [[(0, .aload_n 0, 1, 0, 0, 0, 0, .null), (1, .iconst 0, 1, 0, 0, 0, 0, .null), (2, .putfield 16, 3, 7, 0, 0, 0, .null), (5, .new 180, 3, 5, 4, 0, 0, .null), (8, .dup, 1, 0, 0, 0, 0, .null), (9, .invokespecial 182, 3, 5, 110, 0, 0, .null), (12, .astore_n 2, 1, 0, 0, 0, 0, .null), (13, .aload_n 0, 1, 0, 0, 0, 0, .null), (14, .iload_n 1, 1, 0, 0, 0, 0, .null), (15, .invokevirtual 34, 3, 0, 163, 1, 7, .null), (18, .ifCond .ne 11, 3, 0, 0, 0, 0, .null), (21, .aload_n 0, 1, 0, 0, 0, 0, .null), (22, .iconst 1, 1, 0, 0, 0, 0, .null), (23, .putfield 16, 3, 7, 0, 0, 0, .null), (26, .ldc 183, 2, 1, 17, 0, 0, .null), (28, .areturn, 1, 0, 0, 0, 0, .null), (29, .aload_n 0, 1, 0, 0, 0, 0, .null), (30, .getfield 10, 3, 7, 1, 6, 1, .null)], [(33, .iload_n 1, 1, 0, 0, 0, 0, .null), (34, .invokeinterface 38 2, 5, 8, 164, 1, 8, .null), (39, .checkcast 42, 3, 9, 0, 0, 0, .null), (42, .astore_n 3, 1, 0, 0, 0, 0, .null), (43, .iconst 0, 1, 0, 0, 0, 0, .null), (44, .istore 4, 2, 0, 0, 0, 0, .null), (46, .iload 4, 2, 0, 0, 0, 0, .null), (48, .aload_n 3, 1, 0, 0, 0, 0, .null), (49, .invokevirtual 44, 3, 0, 156, 0, 9, .null), (52, .if_icmp .ge 67, 3, 0, 0, 0, 0, .null), (55, .iload 4, 2, 0, 0, 0, 0, .null), (57, .ifCond .le 20, 3, 0, 0, 0, 0, .null), (60, .iload 4, 2, 0, 0, 0, 0, .null), (62, .aload_n 3, 1, 0, 0, 0, 0, .null), (63, .getfield 133, 3, 9, 0, 0, 0, .null)], [(66, .irem, 1, 0, 0, 0, 0, .null), (67, .ifCond .ne 10, 3, 0, 0, 0, 0, .null), (70, .aload_n 2, 1, 0, 0, 0, 0, .null), (71, .bipush 47, 2, 0, 0, 0, 0, .null), (73, .invokevirtual 185, 3, 0, 112, 1, 5, .null), (76, .pop, 1, 0, 0, 0, 0, .null), (77, .aload_n 2, 1, 0, 0, 0, 0, .null), (78, .aload_n 3, 1, 0, 0, 0, 0, .null), (79, .iload 4, 2, 0, 0, 0, 0, .null), (81, .invokevirtual 83, 3, 0, 174, 1, 9, .null), (84, .ifCond .ne 8, 3, 0, 0, 0, 0, .null), (87, .bipush 63, 2, 0, 0, 0, 0, .null), (89, .goto 20, 3, 0, 0, 0, 0, .null), (92, .aload_n 3, 1, 0, 0, 0, 0, .null), (93, .iload 4, 2, 0, 0, 0, 0, .null), (95, .invokevirtual 83, 3, 0, 174, 1, 9, .null)], [(98, .iconst 1, 1, 0, 0, 0, 0, .null), (99, .if_icmp .ne 8, 3, 0, 0, 0, 0, .null), (102, .bipush 35, 2, 0, 0, 0, 0, .null), (104, .goto 5, 3, 0, 0, 0, 0, .null), (107, .bipush 46, 2, 0, 0, 0, 0, .null), (109, .invokevirtual 185, 3, 0, 112, 1, 5, .null), (112, .pop, 1, 0, 0, 0, 0, .null), (113, .iinc 4 1, 3, 0, 0, 0, 0, .null), (116, .goto (-70), 3, 0, 0, 0, 0, .null), (119, .aload_n 2, 1, 0, 0, 0, 0, .null), (120, .invokevirtual 189, 3, 0, 124, 0, 5, .null), (123, .areturn, 1, 0, 0, 0, 0, .null)]]
def zc216 : List (List zIn) := [[(0, .aload_n 0, 1, 0, 0, 0, 0, .null), (1, .iconst 0, 1, 0, 0, 0, 0, .null), (2, .putfield 16, 3, 7, 0, 0, 0, .null), (5, .aload_n 0, 1, 0, 0, 0, 0, .null), (6, .iload_n 1, 1, 0, 0, 0, 0, .null), (7, .invokevirtual 34, 3, 0, 163, 1, 7, .null), (10, .ifCond .ne 9, 3, 0, 0, 0, 0, .null), (13, .aload_n 0, 1, 0, 0, 0, 0, .null), (14, .iconst 1, 1, 0, 0, 0, 0, .null), (15, .invokevirtual 50, 3, 0, 152, 1, 7, .null), (18, .ireturn, 1, 0, 0, 0, 0, .null), (19, .iload_n 2, 1, 0, 0, 0, 0, .null), (20, .iconst 0, 1, 0, 0, 0, 0, .null), (21, .sipush 499, 3, 0, 0, 0, 0, .null), (24, .invokestatic 30, 3, 3, 151, 3, 0, .null), (27, .ifCond .ne 9, 3, 0, 0, 0, 0, .null), (30, .aload_n 0, 1, 0, 0, 0, 0, .null), (31, .iconst 2, 1, 0, 0, 0, 0, .null)], [(32, .invokevirtual 50, 3, 0, 152, 1, 7, .null), (35, .ireturn, 1, 0, 0, 0, 0, .null), (36, .aload_n 0, 1, 0, 0, 0, 0, .null), (37, .getfield 10, 3, 7, 1, 6, 1, .null), (40, .iload_n 1, 1, 0, 0, 0, 0, .null), (41, .invokeinterface 38 2, 5, 8, 164, 1, 8, .null), (46, .checkcast 42, 3, 9, 0, 0, 0, .null), (49, .invokevirtual 172, 3, 0, 182, 0, 9, .null), (52, .astore_n 3, 1, 0, 0, 0, 0, .null), (53, .iload_n 2, 1, 0, 0, 0, 0, .null), (54, .aload_n 3, 1, 0, 0, 0, 0, .null), (55, .arraylength, 1, 0, 0, 0, 0, .null), (56, .if_icmp .ge 9, 3, 0, 0, 0, 0, .null), (59, .aload_n 3, 1, 0, 0, 0, 0, .null), (60, .iload_n 2, 1, 0, 0, 0, 0, .null), (61, .iaload, 1, 0, 0, 0, 0, .null), (62, .goto 4, 3, 0, 0, 0, 0, .null)], [(65, .iconst (-1), 1, 0, 0, 0, 0, .null), (66, .ireturn, 1, 0, 0, 0, 0, .null)]]
def zc217 : List (List zIn) := [[(0, .aload_n 0, 1, 0, 0, 0, 0, .null), (1, .iconst 0, 1, 0, 0, 0, 0, .null), (2, .putfield 16, 3, 7, 0, 0, 0, .null), (5, .aload_n 0, 1, 0, 0, 0, 0, .null), (6, .iload_n 1, 1, 0, 0, 0, 0, .null), (7, .iload_n 2, 1, 0, 0, 0, 0, .null), (8, .invokevirtual 80, 3, 0, 179, 2, 7, .null), (11, .ifCond .ne 10, 3, 0, 0, 0, 0, .null), (14, .aload_n 0, 1, 0, 0, 0, 0, .null), (15, .iconst 1, 1, 0, 0, 0, 0, .null), (16, .invokevirtual 50, 3, 0, 152, 1, 7, .null), (19, .i2d, 1, 0, 0, 0, 0, .null), (20, .dreturn, 1, 0, 0, 0, 0, .null), (21, .aload_n 0, 1, 0, 0, 0, 0, .null), (22, .getfield 10, 3, 7, 1, 6, 1, .null), (25, .iload_n 1, 1, 0, 0, 0, 0, .null), (26, .invokeinterface 38 2, 5, 8, 164, 1, 8, .null), (31, .checkcast 42, 3, 9, 0, 0, 0, .null)], [(34, .invokevirtual 172, 3, 0, 182, 0, 9, .null), (37, .iload_n 2, 1, 0, 0, 0, 0, .null), (38, .invokestatic 197, 3, 3, 218, 2, 0, .null), (41, .dreturn, 1, 0, 0, 0, 0, .null)]]
def zc218 : List (List zIn) := [[(0, .aload_n 0, 1, 0, 0, 0, 0, .null), (1, .arraylength, 1, 0, 0, 0, 0, .null), (2, .ifCond .ne 7, 3, 0, 0, 0, 0, .null), (5, .dconst 0, 1, 0, 0, 0, 0, .null), (6, .goto 13, 3, 0, 0, 0, 0, .null), (9, .aload_n 0, 1, 0, 0, 0, 0, .null), (10, .iload_n 1, 1, 0, 0, 0, 0, .null), (11, .invokestatic 193, 3, 3, 219, 2, 0, .null), (14, .i2d, 1, 0, 0, 0, 0, .null), (15, .aload_n 0, 1, 0, 0, 0, 0, .null), (16, .arraylength, 1, 0, 0, 0, 0, .null), (17, .i2d, 1, 0, 0, 0, 0, .null), (18, .ddiv, 1, 0, 0, 0, 0, .null), (19, .dreturn, 1, 0, 0, 0, 0, .null)]]
def zc219 : List (List zIn) := [[(0, .iconst 0, 1, 0, 0, 0, 0, .null), (1, .istore_n 2, 1, 0, 0, 0, 0, .null), (2, .aload_n 0, 1, 0, 0, 0, 0, .null), (3, .astore_n 3, 1, 0, 0, 0, 0, .null), (4, .aload_n 3, 1, 0, 0, 0, 0, .null), (5, .arraylength, 1, 0, 0, 0, 0, .null), (6, .istore 4, 2, 0, 0, 0, 0, .null), (8, .iconst 0, 1, 0, 0, 0, 0, .null), (9, .istore 5, 2, 0, 0, 0, 0, .null), (11, .iload 5, 2, 0, 0, 0, 0, .null), (13, .iload 4, 2, 0, 0, 0, 0, .null), (15, .if_icmp .ge 24, 3, 0, 0, 0, 0, .null), (18, .aload_n 3, 1, 0, 0, 0, 0, .null), (19, .iload 5, 2, 0, 0, 0, 0, .null), (21, .iaload, 1, 0, 0, 0, 0, .null), (22, .istore 6, 2, 0, 0, 0, 0, .null), (24, .iload_n 2, 1, 0, 0, 0, 0, .null), (25, .iload 6, 2, 0, 0, 0, 0, .null), (27, .iload_n 1, 1, 0, 0, 0, 0, .null), (28, .ishr, 1, 0, 0, 0, 0, .null), (29, .iconst 1, 1, 0, 0, 0, 0, .null), (30, .iand, 1, 0, 0, 0, 0, .null), (31, .iadd, 1, 0, 0, 0, 0, .null)], [(32, .istore_n 2, 1, 0, 0, 0, 0, .null), (33, .iinc 5 1, 3, 0, 0, 0, 0, .null), (36, .goto (-25), 3, 0, 0, 0, 0, .null), (39, .iload_n 2, 1, 0, 0, 0, 0, .null), (40, .ireturn, 1, 0, 0, 0, 0, .null)]]
def zc220 : List (List zIn) := [[(0, .aload_n 0, 1, 0, 0, 0, 0, .null), (1, .iconst 0, 1, 0, 0, 0, 0, .null), (2, .putfield 16, 3, 7, 0, 0, 0, .null), (5, .aload_n 0, 1, 0, 0, 0, 0, .null), (6, .iload_n 1, 1, 0, 0, 0, 0, .null), (7, .invokevirtual 34, 3, 0, 163, 1, 7, .null), (10, .ifCond .ne 10, 3, 0, 0, 0, 0, .null), (13, .aload_n 0, 1, 0, 0, 0, 0, .null), (14, .iconst 1, 1, 0, 0, 0, 0, .null), (15, .invokevirtual 50, 3, 0, 152, 1, 7, .null), (18, .i2d, 1, 0, 0, 0, 0, .null), (19, .dreturn, 1, 0, 0, 0, 0, .null), (20, .iload_n 2, 1, 0, 0, 0, 0, .null), (21, .iconst 0, 1, 0, 0, 0, 0, .null), (22, .iconst 1, 1, 0, 0, 0, 0, .null), (23, .invokestatic 30, 3, 3, 151, 3, 0, .null), (26, .ifCond .ne 10, 3, 0, 0, 0, 0, .null), (29, .aload_n 0, 1, 0, 0, 0, 0, .null), (30, .iconst 2, 1, 0, 0, 0, 0, .null), (31, .invokevirtual 50, 3, 0, 152, 1, 7, .null)], [(34, .i2d, 1, 0, 0, 0, 0, .null), (35, .dreturn, 1, 0, 0, 0, 0, .null), (36, .aload_n 0, 1, 0, 0, 0, 0, .null), (37, .getfield 10, 3, 7, 1, 6, 1, .null), (40, .iload_n 1, 1, 0, 0, 0, 0, .null), (41, .invokeinterface 38 2, 5, 8, 164, 1, 8, .null), (46, .checkcast 42, 3, 9, 0, 0, 0, .null), (49, .astore_n 3, 1, 0, 0, 0, 0, .null), (50, .iload_n 2, 1, 0, 0, 0, 0, .null), (51, .ifCond .ne 10, 3, 0, 0, 0, 0, .null), (54, .aload_n 3, 1, 0, 0, 0, 0, .null), (55, .invokestatic 207, 3, 3, 221, 1, 0, .null), (58, .goto 12, 3, 0, 0, 0, 0, .null), (61, .aload_n 3, 1, 0, 0, 0, 0, .null), (62, .aload_n 3, 1, 0, 0, 0, 0, .null), (63, .invokevirtual 172, 3, 0, 182, 0, 9, .null)], [(66, .invokestatic 211, 3, 3, 222, 2, 0, .null), (69, .f2d, 1, 0, 0, 0, 0, .null), (70, .dreturn, 1, 0, 0, 0, 0, .null)]]
def zc221 : List (List zIn) := [[(0, .dconst 0, 1, 0, 0, 0, 0, .null), (1, .dstore_n 1, 1, 0, 0, 0, 0, .null), (2, .iconst 0, 1, 0, 0, 0, 0, .null), (3, .istore_n 3, 1, 0, 0, 0, 0, .null), (4, .iload_n 3, 1, 0, 0, 0, 0, .null), (5, .aload_n 0, 1, 0, 0, 0, 0, .null), (6, .invokevirtual 47, 3, 0, 167, 0, 9, .null), (9, .if_icmp .ge 70, 3, 0, 0, 0, 0, .null), (12, .iconst 0, 1, 0, 0, 0, 0, .null), (13, .istore 4, 2, 0, 0, 0, 0, .null), (15, .iconst 0, 1, 0, 0, 0, 0, .null), (16, .istore 5, 2, 0, 0, 0, 0, .null), (18, .iload 5, 2, 0, 0, 0, 0, .null), (20, .aload_n 0, 1, 0, 0, 0, 0, .null), (21, .iload_n 3, 1, 0, 0, 0, 0, .null), (22, .invokevirtual 67, 3, 0, 168, 1, 9, .null), (25, .if_icmp .ge 33, 3, 0, 0, 0, 0, .null), (28, .iload 4, 2, 0, 0, 0, 0, .null), (30, .aload_n 0, 1, 0, 0, 0, 0, .null), (31, .aload_n 0, 1, 0, 0, 0, 0, .null)], [(32, .iload_n 3, 1, 0, 0, 0, 0, .null), (33, .iload 5, 2, 0, 0, 0, 0, .null), (35, .invokevirtual 139, 3, 0, 173, 2, 9, .null), (38, .invokevirtual 83, 3, 0, 174, 1, 9, .null), (41, .ifCond .ne 7, 3, 0, 0, 0, 0, .null), (44, .iconst 1, 1, 0, 0, 0, 0, .null), (45, .goto 4, 3, 0, 0, 0, 0, .null), (48, .iconst 0, 1, 0, 0, 0, 0, .null), (49, .iadd, 1, 0, 0, 0, 0, .null), (50, .istore 4, 2, 0, 0, 0, 0, .null), (52, .iinc 5 1, 3, 0, 0, 0, 0, .null), (55, .goto (-37), 3, 0, 0, 0, 0, .null), (58, .dload_n 1, 1, 0, 0, 0, 0, .null), (59, .aload_n 0, 1, 0, 0, 0, 0, .null), (60, .iload_n 3, 1, 0, 0, 0, 0, .null), (61, .invokevirtual 77, 3, 0, 171, 1, 9, .null)], [(64, .i2d, 1, 0, 0, 0, 0, .null), (65, .iconst 1, 1, 0, 0, 0, 0, .null), (66, .iload 4, 2, 0, 0, 0, 0, .null), (68, .ishl, 1, 0, 0, 0, 0, .null), (69, .i2d, 1, 0, 0, 0, 0, .null), (70, .ddiv, 1, 0, 0, 0, 0, .null), (71, .dadd, 1, 0, 0, 0, 0, .null), (72, .dstore_n 1, 1, 0, 0, 0, 0, .null), (73, .iinc 3 1, 3, 0, 0, 0, 0, .null), (76, .goto (-72), 3, 0, 0, 0, 0, .null), (79, .dload_n 1, 1, 0, 0, 0, 0, .null), (80, .aload_n 0, 1, 0, 0, 0, 0, .null), (81, .invokevirtual 47, 3, 0, 167, 0, 9, .null), (84, .i2d, 1, 0, 0, 0, 0, .null), (85, .ddiv, 1, 0, 0, 0, 0, .null), (86, .dreturn, 1, 0, 0, 0, 0, .null)]]
def zc222 : List (List zIn) := [[(0, .fconst 0, 1, 0, 0, 0, 0, .null), (1, .fstore_n 2, 1, 0, 0, 0, 0, .null), (2, .iconst 0, 1, 0, 0, 0, 0, .null), (3, .istore_n 3, 1, 0, 0, 0, 0, .null), (4, .iload_n 3, 1, 0, 0, 0, 0, .null), (5, .aload_n 0, 1, 0, 0, 0, 0, .null), (6, .invokevirtual 44, 3, 0, 156, 0, 9, .null), (9, .if_icmp .ge 49, 3, 0, 0, 0, 0, .null), (12, .aload_n 0, 1, 0, 0, 0, 0, .null), (13, .iload_n 3, 1, 0, 0, 0, 0, .null), (14, .invokevirtual 83, 3, 0, 174, 1, 9, .null), (17, .ifCond .ne 35, 3, 0, 0, 0, 0, .null), (20, .aload_n 1, 1, 0, 0, 0, 0, .null), (21, .arraylength, 1, 0, 0, 0, 0, .null), (22, .ifCond .ne 6, 3, 0, 0, 0, 0, .null), (25, .goto 27, 3, 0, 0, 0, 0, .null), (28, .aload_n 1, 1, 0, 0, 0, 0, .null), (29, .iload_n 3, 1, 0, 0, 0, 0, .null), (30, .invokestatic 193, 3, 3, 219, 2, 0, .null)], [(33, .i2f, 1, 0, 0, 0, 0, .null), (34, .aload_n 1, 1, 0, 0, 0, 0, .null), (35, .arraylength, 1, 0, 0, 0, 0, .null), (36, .i2f, 1, 0, 0, 0, 0, .null), (37, .fdiv, 1, 0, 0, 0, 0, .null), (38, .fstore 4, 2, 0, 0, 0, 0, .null), (40, .fload_n 2, 1, 0, 0, 0, 0, .null), (41, .fload 4, 2, 0, 0, 0, 0, .null), (43, .fconst 1, 1, 0, 0, 0, 0, .null), (44, .fload 4, 2, 0, 0, 0, 0, .null), (46, .fsub, 1, 0, 0, 0, 0, .null), (47, .invokestatic 201, 3, 25, 0, 2, 0, .null), (50, .fadd, 1, 0, 0, 0, 0, .null), (51, .fstore_n 2, 1, 0, 0, 0, 0, .null), (52, .iinc 3 1, 3, 0, 0, 0, 0, .null), (55, .goto (-51), 3, 0, 0, 0, 0, .null), (58, .fload_n 2, 1, 0, 0, 0, 0, .null), (59, .freturn, 1, 0, 0, 0, 0, .null)]]
def zc223 : List (List zIn) := [[(0, .aload_n 0, 1, 0, 0, 0, 0, .null), (1, .iconst 0, 1, 0, 0, 0, 0, .null), (2, .putfield 16, 3, 7, 0, 0, 0, .null), (5, .iload_n 1, 1, 0, 0, 0, 0, .null), (6, .iconst 0, 1, 0, 0, 0, 0, .null), (7, .iconst 4, 1, 0, 0, 0, 0, .null), (8, .invokestatic 30, 3, 3, 151, 3, 0, .null), (11, .ifCond .ne 9, 3, 0, 0, 0, 0, .null), (14, .aload_n 0, 1, 0, 0, 0, 0, .null), (15, .iconst 1, 1, 0, 0, 0, 0, .null), (16, .invokevirtual 50, 3, 0, 152, 1, 7, .null), (19, .ireturn, 1, 0, 0, 0, 0, .null), (20, .aload_n 0, 1, 0, 0, 0, 0, .null), (21, .iload_n 1, 1, 0, 0, 0, 0, .null), (22, .invokevirtual 215, 3, 0, 224, 1, 7, .null), (25, .ireturn, 1, 0, 0, 0, 0, .null)]]
def zc224 : List (List zIn) := [[(0, .iconst 0, 1, 0, 0, 0, 0, .null), (1, .istore_n 2, 1, 0, 0, 0, 0, .null), (2, .iconst 0, 1, 0, 0, 0, 0, .null), (3, .istore_n 3, 1, 0, 0, 0, 0, .null), (4, .iconst 0, 1, 0, 0, 0, 0, .null), (5, .istore 4, 2, 0, 0, 0, 0, .null), (7, .iconst 0, 1, 0, 0, 0, 0, .null), (8, .istore 5, 2, 0, 0, 0, 0, .null), (10, .iload 5, 2, 0, 0, 0, 0, .null), (12, .aload_n 0, 1, 0, 0, 0, 0, .null), (13, .getfield 10, 3, 7, 1, 6, 1, .null), (16, .invokeinterface 24 1, 5, 8, 153, 0, 8, .null), (21, .if_icmp .ge 57, 3, 0, 0, 0, 0, .null), (24, .aload_n 0, 1, 0, 0, 0, 0, .null), (25, .getfield 10, 3, 7, 1, 6, 1, .null), (28, .iload 5, 2, 0, 0, 0, 0, .null), (30, .invokeinterface 38 2, 5, 8, 164, 1, 8, .null)], [(35, .checkcast 42, 3, 9, 0, 0, 0, .null), (38, .astore 6, 2, 0, 0, 0, 0, .null), (40, .iload_n 2, 1, 0, 0, 0, 0, .null), (41, .aload 6, 2, 0, 0, 0, 0, .null), (43, .getfield 93, 3, 9, 5, 0, 0, .null), (46, .iadd, 1, 0, 0, 0, 0, .null), (47, .istore_n 2, 1, 0, 0, 0, 0, .null), (48, .iload_n 3, 1, 0, 0, 0, 0, .null), (49, .aload 6, 2, 0, 0, 0, 0, .null), (51, .iconst 0, 1, 0, 0, 0, 0, .null), (52, .invokevirtual 143, 3, 0, 202, 1, 9, .null), (55, .iadd, 1, 0, 0, 0, 0, .null), (56, .istore_n 3, 1, 0, 0, 0, 0, .null), (57, .iload 4, 2, 0, 0, 0, 0, .null), (59, .aload 6, 2, 0, 0, 0, 0, .null), (61, .getfield 102, 3, 9, 4, 6, 0, .null)], [(64, .invokeinterface 24 1, 5, 8, 153, 0, 8, .null), (69, .iadd, 1, 0, 0, 0, 0, .null), (70, .istore 4, 2, 0, 0, 0, 0, .null), (72, .iinc 5 1, 3, 0, 0, 0, 0, .null), (75, .goto (-65), 3, 0, 0, 0, 0, .null), (78, .iconst 5, 1, 0, 0, 0, 0, .null), (79, .newarray .int, 2, 64, 0, 0, 0, .null), (81, .dup, 1, 0, 0, 0, 0, .null), (82, .iconst 0, 1, 0, 0, 0, 0, .null), (83, .aload_n 0, 1, 0, 0, 0, 0, .null), (84, .getfield 10, 3, 7, 1, 6, 1, .null), (87, .invokeinterface 24 1, 5, 8, 153, 0, 8, .null), (92, .iastore, 1, 0, 0, 0, 0, .null), (93, .dup, 1, 0, 0, 0, 0, .null), (94, .iconst 1, 1, 0, 0, 0, 0, .null), (95, .aload_n 0, 1, 0, 0, 0, 0, .null)], [(96, .getfield 151, 3, 7, 2, 0, 0, .null), (99, .iastore, 1, 0, 0, 0, 0, .null), (100, .dup, 1, 0, 0, 0, 0, .null), (101, .iconst 2, 1, 0, 0, 0, 0, .null), (102, .iload_n 2, 1, 0, 0, 0, 0, .null), (103, .iastore, 1, 0, 0, 0, 0, .null), (104, .dup, 1, 0, 0, 0, 0, .null), (105, .iconst 3, 1, 0, 0, 0, 0, .null), (106, .iload_n 3, 1, 0, 0, 0, 0, .null), (107, .iastore, 1, 0, 0, 0, 0, .null), (108, .dup, 1, 0, 0, 0, 0, .null), (109, .iconst 4, 1, 0, 0, 0, 0, .null), (110, .iload 4, 2, 0, 0, 0, 0, .null), (112, .iastore, 1, 0, 0, 0, 0, .null), (113, .astore 5, 2, 0, 0, 0, 0, .null), (115, .aload 5, 2, 0, 0, 0, 0, .null), (117, .iload_n 1, 1, 0, 0, 0, 0, .null), (118, .iaload, 1, 0, 0, 0, 0, .null), (119, .ireturn, 1, 0, 0, 0, 0, .null)]]
def zc225 : List (List zIn) := [[(0, .aload_n 0, 1, 0, 0, 0, 0, .null), (1, .iconst 0, 1, 0, 0, 0, 0, .null), (2, .putfield 16, 3, 7, 0, 0, 0, .null), (5, .aload_n 0, 1, 0, 0, 0, 0, .null), (6, .iload_n 1, 1, 0, 0, 0, 0, .null), (7, .invokevirtual 34, 3, 0, 163, 1, 7, .null), (10, .ifCond .ne 9, 3, 0, 0, 0, 0, .null), (13, .aload_n 0, 1, 0, 0, 0, 0, .null), (14, .iconst 1, 1, 0, 0, 0, 0, .null), (15, .invokevirtual 50, 3, 0, 152, 1, 7, .null), (18, .ireturn, 1, 0, 0, 0, 0, .null), (19, .aload_n 0, 1, 0, 0, 0, 0, .null), (20, .getfield 10, 3, 7, 1, 6, 1, .null), (23, .iload_n 1, 1, 0, 0, 0, 0, .null), (24, .invokeinterface 38 2, 5, 8, 164, 1, 8, .null), (29, .checkcast 42, 3, 9, 0, 0, 0, .null)], [(32, .invokestatic 220, 3, 3, 226, 1, 0, .null), (35, .ireturn, 1, 0, 0, 0, 0, .null)]]
def zc226 : List (List zIn) := [[(0, .iconst (-1), 1, 0, 0, 0, 0, .null), (1, .istore_n 1, 1, 0, 0, 0, 0, .null), (2, .iconst 0, 1, 0, 0, 0, 0, .null), (3, .istore_n 2, 1, 0, 0, 0, 0, .null), (4, .iconst 0, 1, 0, 0, 0, 0, .null), (5, .istore_n 3, 1, 0, 0, 0, 0, .null), (6, .iload_n 3, 1, 0, 0, 0, 0, .null), (7, .aload_n 0, 1, 0, 0, 0, 0, .null), (8, .invokevirtual 47, 3, 0, 167, 0, 9, .null), (11, .if_icmp .ge 41, 3, 0, 0, 0, 0, .null), (14, .aload_n 0, 1, 0, 0, 0, 0, .null), (15, .iload_n 3, 1, 0, 0, 0, 0, .null), (16, .iconst 1, 1, 0, 0, 0, 0, .null), (17, .invokevirtual 154, 3, 0, 188, 2, 9, .null), (20, .aload_n 0, 1, 0, 0, 0, 0, .null), (21, .iload_n 3, 1, 0, 0, 0, 0, .null), (22, .iconst 0, 1, 0, 0, 0, 0, .null), (23, .invokevirtual 154, 3, 0, 188, 2, 9, .null), (26, .ior, 1, 0, 0, 0, 0, .null), (27, .invokestatic 218, 3, 3, 189, 1, 0, .null), (30, .istore 4, 2, 0, 0, 0, 0, .null)], [(32, .iload 4, 2, 0, 0, 0, 0, .null), (34, .iload_n 2, 1, 0, 0, 0, 0, .null), (35, .if_icmp .gt 6, 3, 0, 0, 0, 0, .null), (38, .goto 8, 3, 0, 0, 0, 0, .null), (41, .iload_n 3, 1, 0, 0, 0, 0, .null), (42, .istore_n 1, 1, 0, 0, 0, 0, .null), (43, .iload 4, 2, 0, 0, 0, 0, .null), (45, .istore_n 2, 1, 0, 0, 0, 0, .null), (46, .iinc 3 1, 3, 0, 0, 0, 0, .null), (49, .goto (-43), 3, 0, 0, 0, 0, .null), (52, .iload_n 1, 1, 0, 0, 0, 0, .null), (53, .ireturn, 1, 0, 0, 0, 0, .null)]]
def zc227 : List (List zIn) := [[(0, .aload_n 0, 1, 0, 0, 0, 0, .null), (1, .iconst 0, 1, 0, 0, 0, 0, .null), (2, .putfield 16, 3, 7, 0, 0, 0, .null), (5, .aload_n 0, 1, 0, 0, 0, 0, .null), (6, .iload_n 1, 1, 0, 0, 0, 0, .null), (7, .invokevirtual 34, 3, 0, 163, 1, 7, .null), (10, .ifCond .ne 9, 3, 0, 0, 0, 0, .null), (13, .aload_n 0, 1, 0, 0, 0, 0, .null), (14, .iconst 1, 1, 0, 0, 0, 0, .null), (15, .invokevirtual 50, 3, 0, 152, 1, 7, .null), (18, .ireturn, 1, 0, 0, 0, 0, .null), (19, .aload_n 0, 1, 0, 0, 0, 0, .null), (20, .getfield 10, 3, 7, 1, 6, 1, .null), (23, .iload_n 1, 1, 0, 0, 0, 0, .null), (24, .invokeinterface 38 2, 5, 8, 164, 1, 8, .null), (29, .checkcast 42, 3, 9, 0, 0, 0, .null)], [(32, .aload_n 0, 1, 0, 0, 0, 0, .null), (33, .getfield 10, 3, 7, 1, 6, 1, .null), (36, .iload_n 1, 1, 0, 0, 0, 0, .null), (37, .invokeinterface 38 2, 5, 8, 164, 1, 8, .null), (42, .checkcast 42, 3, 9, 0, 0, 0, .null), (45, .invokevirtual 172, 3, 0, 182, 0, 9, .null), (48, .invokestatic 230, 3, 3, 228, 2, 0, .null), (51, .ireturn, 1, 0, 0, 0, 0, .null)]]
def zc228 : List (List zIn) := [[(0, .iconst (-1), 1, 0, 0, 0, 0, .null), (1, .istore_n 2, 1, 0, 0, 0, 0, .null), (2, .dconst 0, 1, 0, 0, 0, 0, .null), (3, .dstore_n 3, 1, 0, 0, 0, 0, .null), (4, .iconst 0, 1, 0, 0, 0, 0, .null), (5, .istore 5, 2, 0, 0, 0, 0, .null), (7, .iload 5, 2, 0, 0, 0, 0, .null), (9, .aload_n 0, 1, 0, 0, 0, 0, .null), (10, .invokevirtual 44, 3, 0, 156, 0, 9, .null), (13, .if_icmp .ge 59, 3, 0, 0, 0, 0, .null), (16, .aload_n 1, 1, 0, 0, 0, 0, .null), (17, .arraylength, 1, 0, 0, 0, 0, .null), (18, .ifCond .le 54, 3, 0, 0, 0, 0, .null), (21, .aload_n 1, 1, 0, 0, 0, 0, .null), (22, .iload 5, 2, 0, 0, 0, 0, .null), (24, .invokestatic 197, 3, 3, 218, 2, 0, .null), (27, .ldc2_w 224, 3, 0, 0, 0, 0, .double 4602678819172646912), (30, .dsub, 1, 0, 0, 0, 0, .null), (31, .invokestatic 226, 3, 26, 0, 1, 0, .null)], [(34, .dstore 6, 2, 0, 0, 0, 0, .null), (36, .aload_n 0, 1, 0, 0, 0, 0, .null), (37, .iload 5, 2, 0, 0, 0, 0, .null), (39, .invokevirtual 83, 3, 0, 174, 1, 9, .null), (42, .ifCond .ne 24, 3, 0, 0, 0, 0, .null), (45, .iload_n 2, 1, 0, 0, 0, 0, .null), (46, .iconst (-1), 1, 0, 0, 0, 0, .null), (47, .if_icmp .eq 13, 3, 0, 0, 0, 0, .null), (50, .dload 6, 2, 0, 0, 0, 0, .null), (52, .dload_n 3, 1, 0, 0, 0, 0, .null), (53, .dcmp .l, 1, 0, 0, 0, 0, .null), (54, .ifCond .lt 6, 3, 0, 0, 0, 0, .null), (57, .goto 9, 3, 0, 0, 0, 0, .null), (60, .iload 5, 2, 0, 0, 0, 0, .null), (62, .istore_n 2, 1, 0, 0, 0, 0, .null), (63, .dload 6, 2, 0, 0, 0, 0, .null)], [(65, .dstore_n 3, 1, 0, 0, 0, 0, .null), (66, .iinc 5 1, 3, 0, 0, 0, 0, .null), (69, .goto (-62), 3, 0, 0, 0, 0, .null), (72, .iload_n 2, 1, 0, 0, 0, 0, .null), (73, .ireturn, 1, 0, 0, 0, 0, .null)]]
def zc229 : List (List zIn) := [[(0, .aload_n 0, 1, 0, 0, 0, 0, .null), (1, .iconst 0, 1, 0, 0, 0, 0, .null), (2, .putfield 16, 3, 7, 0, 0, 0, .null), (5, .aload_n 0, 1, 0, 0, 0, 0, .null), (6, .iload_n 1, 1, 0, 0, 0, 0, .null), (7, .iload_n 2, 1, 0, 0, 0, 0, .null), (8, .invokevirtual 80, 3, 0, 179, 2, 7, .null), (11, .ifCond .ne 9, 3, 0, 0, 0, 0, .null), (14, .aload_n 0, 1, 0, 0, 0, 0, .null), (15, .iconst 1, 1, 0, 0, 0, 0, .null), (16, .invokevirtual 50, 3, 0, 152, 1, 7, .null), (19, .ireturn, 1, 0, 0, 0, 0, .null), (20, .iload 4, 2, 0, 0, 0, 0, .null), (22, .iconst 0, 1, 0, 0, 0, 0, .null), (23, .iconst 2, 1, 0, 0, 0, 0, .null), (24, .invokestatic 30, 3, 3, 151, 3, 0, .null), (27, .ifCond .ne 9, 3, 0, 0, 0, 0, .null), (30, .aload_n 0, 1, 0, 0, 0, 0, .null), (31, .iconst 2, 1, 0, 0, 0, 0, .null)], [(32, .invokevirtual 50, 3, 0, 152, 1, 7, .null), (35, .ireturn, 1, 0, 0, 0, 0, .null), (36, .aload_n 0, 1, 0, 0, 0, 0, .null), (37, .getfield 10, 3, 7, 1, 6, 1, .null), (40, .iload_n 1, 1, 0, 0, 0, 0, .null), (41, .invokeinterface 38 2, 5, 8, 164, 1, 8, .null), (46, .checkcast 42, 3, 9, 0, 0, 0, .null), (49, .iload_n 2, 1, 0, 0, 0, 0, .null), (50, .invokevirtual 83, 3, 0, 174, 1, 9, .null), (53, .ifCond .eq 9, 3, 0, 0, 0, 0, .null), (56, .aload_n 0, 1, 0, 0, 0, 0, .null), (57, .iconst 3, 1, 0, 0, 0, 0, .null), (58, .invokevirtual 50, 3, 0, 152, 1, 7, .null), (61, .ireturn, 1, 0, 0, 0, 0, .null), (62, .aload_n 0, 1, 0, 0, 0, 0, .null), (63, .getfield 10, 3, 7, 1, 6, 1, .null)], [(66, .iload_n 1, 1, 0, 0, 0, 0, .null), (67, .invokeinterface 38 2, 5, 8, 164, 1, 8, .null), (72, .checkcast 42, 3, 9, 0, 0, 0, .null), (75, .invokevirtual 233, 3, 0, 198, 0, 9, .null), (78, .astore 5, 2, 0, 0, 0, 0, .null), (80, .aload 5, 2, 0, 0, 0, 0, .null), (82, .iload_n 2, 1, 0, 0, 0, 0, .null), (83, .iload_n 3, 1, 0, 0, 0, 0, .null), (84, .ifCond .eq 7, 3, 0, 0, 0, 0, .null), (87, .iconst 1, 1, 0, 0, 0, 0, .null), (88, .goto 4, 3, 0, 0, 0, 0, .null), (91, .iconst 2, 1, 0, 0, 0, 0, .null), (92, .iconst (-1), 1, 0, 0, 0, 0, .null), (93, .iconst 0, 1, 0, 0, 0, 0, .null), (94, .invokevirtual 86, 3, 0, 180, 4, 9, .null)], [(97, .iload 4, 2, 0, 0, 0, 0, .null), (99, .iconst 2, 1, 0, 0, 0, 0, .null), (100, .if_icmp .ne 9, 3, 0, 0, 0, 0, .null), (103, .aload 5, 2, 0, 0, 0, 0, .null), (105, .invokevirtual 90, 3, 0, 181, 0, 9, .null), (108, .ireturn, 1, 0, 0, 0, 0, .null), (109, .aload 5, 2, 0, 0, 0, 0, .null), (111, .invokevirtual 99, 3, 0, 187, 0, 9, .null), (114, .istore 6, 2, 0, 0, 0, 0, .null), (116, .iload 4, 2, 0, 0, 0, 0, .null), (118, .ifCond .ne 8, 3, 0, 0, 0, 0, .null), (121, .iload 6, 2, 0, 0, 0, 0, .null), (123, .goto 16, 3, 0, 0, 0, 0, .null), (126, .aload 5, 2, 0, 0, 0, 0, .null)], [(128, .invokevirtual 165, 3, 0, 213, 0, 9, .null), (131, .ifCond .le 7, 3, 0, 0, 0, 0, .null), (134, .iconst 1, 1, 0, 0, 0, 0, .null), (135, .goto 4, 3, 0, 0, 0, 0, .null), (138, .iconst 0, 1, 0, 0, 0, 0, .null), (139, .ireturn, 1, 0, 0, 0, 0, .null)]]
def zc230 : List (List zIn) := [[(0, .aload_n 0, 1, 0, 0, 0, 0, .null), (1, .iconst 0, 1, 0, 0, 0, 0, .null), (2, .putfield 16, 3, 7, 0, 0, 0, .null), (5, .aload_n 0, 1, 0, 0, 0, 0, .null), (6, .iload_n 1, 1, 0, 0, 0, 0, .null), (7, .invokevirtual 34, 3, 0, 163, 1, 7, .null), (10, .ifCond .ne 9, 3, 0, 0, 0, 0, .null), (13, .aload_n 0, 1, 0, 0, 0, 0, .null), (14, .iconst 1, 1, 0, 0, 0, 0, .null), (15, .invokevirtual 50, 3, 0, 152, 1, 7, .null), (18, .ireturn, 1, 0, 0, 0, 0, .null), (19, .aload_n 0, 1, 0, 0, 0, 0, .null), (20, .getfield 10, 3, 7, 1, 6, 1, .null), (23, .iload_n 1, 1, 0, 0, 0, 0, .null), (24, .invokeinterface 38 2, 5, 8, 164, 1, 8, .null), (29, .checkcast 42, 3, 9, 0, 0, 0, .null)], [(32, .aload_n 0, 1, 0, 0, 0, 0, .null), (33, .getfield 10, 3, 7, 1, 6, 1, .null), (36, .iload_n 1, 1, 0, 0, 0, 0, .null), (37, .invokeinterface 38 2, 5, 8, 164, 1, 8, .null), (42, .checkcast 42, 3, 9, 0, 0, 0, .null), (45, .invokevirtual 172, 3, 0, 182, 0, 9, .null), (48, .invokestatic 242, 3, 3, 231, 2, 0, .null), (51, .ireturn, 1, 0, 0, 0, 0, .null)]]
def zc231 : List (List zIn) := [[(0, .aload_n 1, 1, 0, 0, 0, 0, .null), (1, .arraylength, 1, 0, 0, 0, 0, .null), (2, .iconst 2, 1, 0, 0, 0, 0, .null), (3, .if_icmp .ge 8, 3, 0, 0, 0, 0, .null), (6, .aload_n 1, 1, 0, 0, 0, 0, .null), (7, .arraylength, 1, 0, 0, 0, 0, .null), (8, .iconst 1, 1, 0, 0, 0, 0, .null), (9, .isub, 1, 0, 0, 0, 0, .null), (10, .ireturn, 1, 0, 0, 0, 0, .null), (11, .iconst 3, 1, 0, 0, 0, 0, .null), (12, .istore_n 2, 1, 0, 0, 0, 0, .null), (13, .iconst 0, 1, 0, 0, 0, 0, .null), (14, .istore_n 3, 1, 0, 0, 0, 0, .null), (15, .iload_n 3, 1, 0, 0, 0, 0, .null), (16, .aload_n 0, 1, 0, 0, 0, 0, .null), (17, .invokevirtual 44, 3, 0, 156, 0, 9, .null), (20, .if_icmp .ge 63, 3, 0, 0, 0, 0, .null), (23, .iload_n 2, 1, 0, 0, 0, 0, .null), (24, .iconst 1, 1, 0, 0, 0, 0, .null), (25, .if_icmp .le 58, 3, 0, 0, 0, 0, .null), (28, .iload_n 3, 1, 0, 0, 0, 0, .null), (29, .istore 4, 2, 0, 0, 0, 0, .null), (31, .iload 4, 2, 0, 0, 0, 0, .null)], [(33, .aload_n 0, 1, 0, 0, 0, 0, .null), (34, .invokevirtual 44, 3, 0, 156, 0, 9, .null), (37, .if_icmp .ge 40, 3, 0, 0, 0, 0, .null), (40, .iload_n 2, 1, 0, 0, 0, 0, .null), (41, .iconst 1, 1, 0, 0, 0, 0, .null), (42, .if_icmp .le 35, 3, 0, 0, 0, 0, .null), (45, .aload_n 1, 1, 0, 0, 0, 0, .null), (46, .iload_n 3, 1, 0, 0, 0, 0, .null), (47, .iload 4, 2, 0, 0, 0, 0, .null), (49, .invokestatic 236, 3, 3, 232, 3, 0, .null), (52, .ifCond .eq 19, 3, 0, 0, 0, 0, .null), (55, .iload_n 2, 1, 0, 0, 0, 0, .null), (56, .iload_n 3, 1, 0, 0, 0, 0, .null), (57, .iload 4, 2, 0, 0, 0, 0, .null), (59, .if_icmp .ne 7, 3, 0, 0, 0, 0, .null), (62, .iconst 1, 1, 0, 0, 0, 0, .null), (63, .goto 4, 3, 0, 0, 0, 0, .null)], [(66, .iconst 2, 1, 0, 0, 0, 0, .null), (67, .invokestatic 240, 3, 3, 119, 2, 0, .null), (70, .istore_n 2, 1, 0, 0, 0, 0, .null), (71, .iinc 4 1, 3, 0, 0, 0, 0, .null), (74, .goto (-43), 3, 0, 0, 0, 0, .null), (77, .iinc 3 1, 3, 0, 0, 0, 0, .null), (80, .goto (-65), 3, 0, 0, 0, 0, .null), (83, .iload_n 2, 1, 0, 0, 0, 0, .null), (84, .iconst 3, 1, 0, 0, 0, 0, .null), (85, .if_icmp .ne 7, 3, 0, 0, 0, 0, .null), (88, .iconst (-1), 1, 0, 0, 0, 0, .null), (89, .goto 4, 3, 0, 0, 0, 0, .null), (92, .iload_n 2, 1, 0, 0, 0, 0, .null), (93, .ireturn, 1, 0, 0, 0, 0, .null)]]
def zc232 : List (List zIn) := [[(0, .iconst 1, 1, 0, 0, 0, 0, .null), (1, .istore_n 3, 1, 0, 0, 0, 0, .null), (2, .iload_n 3, 1, 0, 0, 0, 0, .null), (3, .aload_n 0, 1, 0, 0, 0, 0, .null), (4, .arraylength, 1, 0, 0, 0, 0, .null), (5, .if_icmp .ge 38, 3, 0, 0, 0, 0, .null), (8, .aload_n 0, 1, 0, 0, 0, 0, .null), (9, .iload_n 3, 1, 0, 0, 0, 0, .null), (10, .iaload, 1, 0, 0, 0, 0, .null), (11, .aload_n 0, 1, 0, 0, 0, 0, .null), (12, .iconst 0, 1, 0, 0, 0, 0, .null), (13, .iaload, 1, 0, 0, 0, 0, .null), (14, .ixor, 1, 0, 0, 0, 0, .null), (15, .istore 4, 2, 0, 0, 0, 0, .null), (17, .iload 4, 2, 0, 0, 0, 0, .null), (19, .iload_n 1, 1, 0, 0, 0, 0, .null), (20, .invokestatic 20, 3, 3, 175, 2, 0, .null), (23, .ifCond .ne 14, 3, 0, 0, 0, 0, .null), (26, .iload 4, 2, 0, 0, 0, 0, .null), (28, .iload_n 2, 1, 0, 0, 0, 0, .null), (29, .invokestatic 20, 3, 3, 175, 2, 0, .null)], [(32, .ifCond .ne 5, 3, 0, 0, 0, 0, .null), (35, .iconst 0, 1, 0, 0, 0, 0, .null), (36, .ireturn, 1, 0, 0, 0, 0, .null), (37, .iinc 3 1, 3, 0, 0, 0, 0, .null), (40, .goto (-38), 3, 0, 0, 0, 0, .null), (43, .iconst 1, 1, 0, 0, 0, 0, .null), (44, .ireturn, 1, 0, 0, 0, 0, .null)]]
def zc233 : List (List zIn) := [[(0, .aload_n 0, 1, 0, 0, 0, 0, .null), (1, .iconst 0, 1, 0, 0, 0, 0, .null), (2, .putfield 16, 3, 7, 0, 0, 0, .null), (5, .aload_n 0, 1, 0, 0, 0, 0, .null), (6, .iload_n 1, 1, 0, 0, 0, 0, .null), (7, .invokevirtual 34, 3, 0, 163, 1, 7, .null), (10, .ifCond .eq 11, 3, 0, 0, 0, 0, .null), (13, .aload_n 0, 1, 0, 0, 0, 0, .null), (14, .iload_n 2, 1, 0, 0, 0, 0, .null), (15, .invokevirtual 34, 3, 0, 163, 1, 7, .null), (18, .ifCond .ne 9, 3, 0, 0, 0, 0, .null), (21, .aload_n 0, 1, 0, 0, 0, 0, .null), (22, .iconst 1, 1, 0, 0, 0, 0, .null), (23, .invokevirtual 50, 3, 0, 152, 1, 7, .null), (26, .ireturn, 1, 0, 0, 0, 0, .null), (27, .aload_n 0, 1, 0, 0, 0, 0, .null), (28, .iload_n 1, 1, 0, 0, 0, 0, .null), (29, .iload_n 2, 1, 0, 0, 0, 0, .null), (30, .invokevirtual 249, 3, 0, 234, 2, 7, .null)], [(33, .ireturn, 1, 0, 0, 0, 0, .null)]]
def zc234 : List (List zIn) := [[(0, .iconst 0, 1, 0, 0, 0, 0, .null), (1, .istore_n 3, 1, 0, 0, 0, 0, .null), (2, .iload_n 3, 1, 0, 0, 0, 0, .null), (3, .bipush 8, 2, 0, 0, 0, 0, .null), (5, .if_icmp .ge 89, 3, 0, 0, 0, 0, .null), (8, .aload_n 0, 1, 0, 0, 0, 0, .null), (9, .getfield 10, 3, 7, 1, 6, 1, .null), (12, .iload_n 1, 1, 0, 0, 0, 0, .null), (13, .invokeinterface 38 2, 5, 8, 164, 1, 8, .null), (18, .checkcast 42, 3, 9, 0, 0, 0, .null), (21, .invokevirtual 233, 3, 0, 198, 0, 9, .null), (24, .astore 4, 2, 0, 0, 0, 0, .null), (26, .iload_n 3, 1, 0, 0, 0, 0, .null), (27, .iconst 2, 1, 0, 0, 0, 0, .null), (28, .irem, 1, 0, 0, 0, 0, .null), (29, .iconst 1, 1, 0, 0, 0, 0, .null), (30, .if_icmp .ne 9, 3, 0, 0, 0, 0, .null)], [(33, .aload 4, 2, 0, 0, 0, 0, .null), (35, .iconst 1, 1, 0, 0, 0, 0, .null), (36, .invokevirtual 129, 3, 0, 197, 1, 9, .null), (39, .iload_n 3, 1, 0, 0, 0, 0, .null), (40, .iconst 2, 1, 0, 0, 0, 0, .null), (41, .idiv, 1, 0, 0, 0, 0, .null), (42, .iconst 2, 1, 0, 0, 0, 0, .null), (43, .irem, 1, 0, 0, 0, 0, .null), (44, .iconst 1, 1, 0, 0, 0, 0, .null), (45, .if_icmp .ne 9, 3, 0, 0, 0, 0, .null), (48, .aload 4, 2, 0, 0, 0, 0, .null), (50, .iconst 0, 1, 0, 0, 0, 0, .null), (51, .invokevirtual 129, 3, 0, 197, 1, 9, .null), (54, .iload_n 3, 1, 0, 0, 0, 0, .null), (55, .iconst 3, 1, 0, 0, 0, 0, .null), (56, .if_icmp .le 9, 3, 0, 0, 0, 0, .null), (59, .aload 4, 2, 0, 0, 0, 0, .null), (61, .iconst 2, 1, 0, 0, 0, 0, .null), (62, .invokevirtual 129, 3, 0, 197, 1, 9, .null)], [(65, .aload 4, 2, 0, 0, 0, 0, .null), (67, .aload_n 0, 1, 0, 0, 0, 0, .null), (68, .getfield 10, 3, 7, 1, 6, 1, .null), (71, .iload_n 2, 1, 0, 0, 0, 0, .null), (72, .invokeinterface 38 2, 5, 8, 164, 1, 8, .null), (77, .checkcast 42, 3, 9, 0, 0, 0, .null), (80, .invokestatic 245, 3, 3, 235, 2, 0, .null), (83, .ifCond .eq 5, 3, 0, 0, 0, 0, .null), (86, .iload_n 3, 1, 0, 0, 0, 0, .null), (87, .ireturn, 1, 0, 0, 0, 0, .null), (88, .iinc 3 1, 3, 0, 0, 0, 0, .null), (91, .goto (-89), 3, 0, 0, 0, 0, .null), (94, .iconst (-1), 1, 0, 0, 0, 0, .null), (95, .ireturn, 1, 0, 0, 0, 0, .null)]]
def zc235 : List (List zIn) := [[(0, .aload_n 0, 1, 0, 0, 0, 0, .null), (1, .getfield 133, 3, 9, 0, 0, 0, .null), (4, .aload_n 1, 1, 0, 0, 0, 0, .null), (5, .getfield 133, 3, 9, 0, 0, 0, .null), (8, .if_icmp .ne 14, 3, 0, 0, 0, 0, .null), (11, .aload_n 0, 1, 0, 0, 0, 0, .null), (12, .getfield 136, 3, 9, 1, 0, 0, .null), (15, .aload_n 1, 1, 0, 0, 0, 0, .null), (16, .getfield 136, 3, 9, 1, 0, 0, .null), (19, .if_icmp .eq 5, 3, 0, 0, 0, 0, .null), (22, .iconst 0, 1, 0, 0, 0, 0, .null), (23, .ireturn, 1, 0, 0, 0, 0, .null), (24, .iconst 0, 1, 0, 0, 0, 0, .null), (25, .istore_n 2, 1, 0, 0, 0, 0, .null), (26, .iload_n 2, 1, 0, 0, 0, 0, .null), (27, .aload_n 0, 1, 0, 0, 0, 0, .null), (28, .invokevirtual 47, 3, 0, 167, 0, 9, .null), (31, .if_icmp .ge 26, 3, 0, 0, 0, 0, .null)], [(34, .aload_n 0, 1, 0, 0, 0, 0, .null), (35, .getfield 73, 3, 9, 3, 7, 0, .null), (38, .iload_n 2, 1, 0, 0, 0, 0, .null), (39, .iaload, 1, 0, 0, 0, 0, .null), (40, .aload_n 1, 1, 0, 0, 0, 0, .null), (41, .getfield 73, 3, 9, 3, 7, 0, .null), (44, .iload_n 2, 1, 0, 0, 0, 0, .null), (45, .iaload, 1, 0, 0, 0, 0, .null), (46, .if_icmp .eq 5, 3, 0, 0, 0, 0, .null), (49, .iconst 0, 1, 0, 0, 0, 0, .null), (50, .ireturn, 1, 0, 0, 0, 0, .null), (51, .iinc 2 1, 3, 0, 0, 0, 0, .null), (54, .goto (-28), 3, 0, 0, 0, 0, .null), (57, .iconst 1, 1, 0, 0, 0, 0, .null), (58, .ireturn, 1, 0, 0, 0, 0, .null)]]
def zc236 : List (List zIn) := [[(0, .aload_n 0, 1, 0, 0, 0, 0, .null), (1, .iconst 0, 1, 0, 0, 0, 0, .null), (2, .putfield 16, 3, 7, 0, 0, 0, .null), (5, .ldc2_w 252, 3, 0, 0, 0, 0, .long 58319), (8, .lstore_n 1, 1, 0, 0, 0, 0, .null), (9, .iconst 0, 1, 0, 0, 0, 0, .null), (10, .istore_n 3, 1, 0, 0, 0, 0, .null), (11, .iload_n 3, 1, 0, 0, 0, 0, .null), (12, .iconst 4, 1, 0, 0, 0, 0, .null), (13, .if_icmp .gt 22, 3, 0, 0, 0, 0, .null), (16, .lload_n 1, 1, 0, 0, 0, 0, .null), (17, .ldc2_w 254, 3, 0, 0, 0, 0, .long 31), (20, .lmul, 1, 0, 0, 0, 0, .null), (21, .aload_n 0, 1, 0, 0, 0, 0, .null), (22, .iload_n 3, 1, 0, 0, 0, 0, .null), (23, .invokevirtual 215, 3, 0, 224, 1, 7, .null), (26, .i2l, 1, 0, 0, 0, 0, .null), (27, .ladd, 1, 0, 0, 0, 0, .null), (28, .lstore_n 1, 1, 0, 0, 0, 0, .null), (29, .iinc 3 1, 3, 0, 0, 0, 0, .null)], [(32, .goto (-21), 3, 0, 0, 0, 0, .null), (35, .iconst 0, 1, 0, 0, 0, 0, .null), (36, .istore_n 3, 1, 0, 0, 0, 0, .null), (37, .iload_n 3, 1, 0, 0, 0, 0, .null), (38, .aload_n 0, 1, 0, 0, 0, 0, .null), (39, .getfield 10, 3, 7, 1, 6, 1, .null), (42, .invokeinterface 24 1, 5, 8, 153, 0, 8, .null), (47, .if_icmp .ge 302, 3, 0, 0, 0, 0, .null), (50, .aload_n 0, 1, 0, 0, 0, 0, .null), (51, .getfield 10, 3, 7, 1, 6, 1, .null), (54, .iload_n 3, 1, 0, 0, 0, 0, .null), (55, .invokeinterface 38 2, 5, 8, 164, 1, 8, .null), (60, .checkcast 42, 3, 9, 0, 0, 0, .null), (63, .astore 4, 2, 0, 0, 0, 0, .null)], [(65, .aload 4, 2, 0, 0, 0, 0, .null), (67, .invokevirtual 172, 3, 0, 182, 0, 9, .null), (70, .astore 5, 2, 0, 0, 0, 0, .null), (72, .iconst 0, 1, 0, 0, 0, 0, .null), (73, .istore 6, 2, 0, 0, 0, 0, .null), (75, .iload 6, 2, 0, 0, 0, 0, .null), (77, .bipush 10, 2, 0, 0, 0, 0, .null), (79, .if_icmp .gt 26, 3, 0, 0, 0, 0, .null), (82, .lload_n 1, 1, 0, 0, 0, 0, .null), (83, .ldc2_w 254, 3, 0, 0, 0, 0, .long 31), (86, .lmul, 1, 0, 0, 0, 0, .null), (87, .aload 4, 2, 0, 0, 0, 0, .null), (89, .aload 5, 2, 0, 0, 0, 0, .null), (91, .iload 6, 2, 0, 0, 0, 0, .null), (93, .invokestatic 176, 3, 3, 212, 3, 0, .null)], [(96, .i2l, 1, 0, 0, 0, 0, .null), (97, .ladd, 1, 0, 0, 0, 0, .null), (98, .lstore_n 1, 1, 0, 0, 0, 0, .null), (99, .iinc 6 1, 3, 0, 0, 0, 0, .null), (102, .goto (-27), 3, 0, 0, 0, 0, .null), (105, .iconst 0, 1, 0, 0, 0, 0, .null), (106, .istore 6, 2, 0, 0, 0, 0, .null), (108, .iload 6, 2, 0, 0, 0, 0, .null), (110, .aload 4, 2, 0, 0, 0, 0, .null), (112, .invokevirtual 44, 3, 0, 156, 0, 9, .null), (115, .if_icmp .ge 43, 3, 0, 0, 0, 0, .null), (118, .iconst 0, 1, 0, 0, 0, 0, .null), (119, .istore 7, 2, 0, 0, 0, 0, .null), (121, .iload 7, 2, 0, 0, 0, 0, .null), (123, .iconst 3, 1, 0, 0, 0, 0, .null), (124, .if_icmp .gt 28, 3, 0, 0, 0, 0, .null), (127, .lload_n 1, 1, 0, 0, 0, 0, .null)], [(128, .ldc2_w 254, 3, 0, 0, 0, 0, .long 31), (131, .lmul, 1, 0, 0, 0, 0, .null), (132, .aload 4, 2, 0, 0, 0, 0, .null), (134, .getfield 107, 3, 9, 2, 7, 0, .null), (137, .iload 7, 2, 0, 0, 0, 0, .null), (139, .aaload, 1, 0, 0, 0, 0, .null), (140, .iload 6, 2, 0, 0, 0, 0, .null), (142, .iaload, 1, 0, 0, 0, 0, .null), (143, .i2l, 1, 0, 0, 0, 0, .null), (144, .ladd, 1, 0, 0, 0, 0, .null), (145, .lstore_n 1, 1, 0, 0, 0, 0, .null), (146, .iinc 7 1, 3, 0, 0, 0, 0, .null), (149, .goto (-28), 3, 0, 0, 0, 0, .null), (152, .iinc 6 1, 3, 0, 0, 0, 0, .null), (155, .goto (-47), 3, 0, 0, 0, 0, .null), (158, .iconst 0, 1, 0, 0, 0, 0, .null), (159, .istore 6, 2, 0, 0, 0, 0, .null)], [(161, .iload 6, 2, 0, 0, 0, 0, .null), (163, .aload 4, 2, 0, 0, 0, 0, .null), (165, .invokevirtual 47, 3, 0, 167, 0, 9, .null), (168, .if_icmp .ge 57, 3, 0, 0, 0, 0, .null), (171, .iconst 0, 1, 0, 0, 0, 0, .null), (172, .istore 7, 2, 0, 0, 0, 0, .null), (174, .iload 7, 2, 0, 0, 0, 0, .null), (176, .iconst 5, 1, 0, 0, 0, 0, .null), (177, .if_icmp .gt 26, 3, 0, 0, 0, 0, .null), (180, .lload_n 1, 1, 0, 0, 0, 0, .null), (181, .ldc2_w 254, 3, 0, 0, 0, 0, .long 31), (184, .lmul, 1, 0, 0, 0, 0, .null), (185, .aload 4, 2, 0, 0, 0, 0, .null), (187, .iload 6, 2, 0, 0, 0, 0, .null), (189, .iload 7, 2, 0, 0, 0, 0, .null), (191, .invokestatic 158, 3, 3, 208, 3, 0, .null)], [(194, .i2l, 1, 0, 0, 0, 0, .null), (195, .ladd, 1, 0, 0, 0, 0, .null), (196, .lstore_n 1, 1, 0, 0, 0, 0, .null), (197, .iinc 7 1, 3, 0, 0, 0, 0, .null), (200, .goto (-26), 3, 0, 0, 0, 0, .null), (203, .lload_n 1, 1, 0, 0, 0, 0, .null), (204, .ldc2_w 254, 3, 0, 0, 0, 0, .long 31), (207, .lmul, 1, 0, 0, 0, 0, .null), (208, .aload 4, 2, 0, 0, 0, 0, .null), (210, .iload 6, 2, 0, 0, 0, 0, .null), (212, .iconst 0, 1, 0, 0, 0, 0, .null), (213, .invokevirtual 162, 3, 0, 210, 2, 9, .null), (216, .i2l, 1, 0, 0, 0, 0, .null), (217, .ladd, 1, 0, 0, 0, 0, .null), (218, .lstore_n 1, 1, 0, 0, 0, 0, .null), (219, .iinc 6 1, 3, 0, 0, 0, 0, .null), (222, .goto (-61), 3, 0, 0, 0, 0, .null)], [(225, .lload_n 1, 1, 0, 0, 0, 0, .null), (226, .ldc2_w 254, 3, 0, 0, 0, 0, .long 31), (229, .lmul, 1, 0, 0, 0, 0, .null), (230, .aload 5, 2, 0, 0, 0, 0, .null), (232, .arraylength, 1, 0, 0, 0, 0, .null), (233, .ifCond .ne 7, 3, 0, 0, 0, 0, .null), (236, .iconst (-1), 1, 0, 0, 0, 0, .null), (237, .goto 7, 3, 0, 0, 0, 0, .null), (240, .aload 5, 2, 0, 0, 0, 0, .null), (242, .iconst 0, 1, 0, 0, 0, 0, .null), (243, .iaload, 1, 0, 0, 0, 0, .null), (244, .i2l, 1, 0, 0, 0, 0, .null), (245, .ladd, 1, 0, 0, 0, 0, .null), (246, .lstore_n 1, 1, 0, 0, 0, 0, .null), (247, .lload_n 1, 1, 0, 0, 0, 0, .null), (248, .ldc2_w 254, 3, 0, 0, 0, 0, .long 31), (251, .lmul, 1, 0, 0, 0, 0, .null), (252, .ldc2_w 256, 3, 0, 0, 0, 0, .double 4634204016564240384), (255, .aload 4, 2, 0, 0, 0, 0, .null)], [(257, .invokestatic 207, 3, 3, 221, 1, 0, .null), (260, .dmul, 1, 0, 0, 0, 0, .null), (261, .d2i, 1, 0, 0, 0, 0, .null), (262, .i2l, 1, 0, 0, 0, 0, .null), (263, .ladd, 1, 0, 0, 0, 0, .null), (264, .lstore_n 1, 1, 0, 0, 0, 0, .null), (265, .lload_n 1, 1, 0, 0, 0, 0, .null), (266, .ldc2_w 254, 3, 0, 0, 0, 0, .long 31), (269, .lmul, 1, 0, 0, 0, 0, .null), (270, .ldc2_w 256, 3, 0, 0, 0, 0, .double 4634204016564240384), (273, .aload 4, 2, 0, 0, 0, 0, .null), (275, .aload 5, 2, 0, 0, 0, 0, .null), (277, .invokestatic 211, 3, 3, 222, 2, 0, .null), (280, .f2d, 1, 0, 0, 0, 0, .null), (281, .dmul, 1, 0, 0, 0, 0, .null), (282, .d2i, 1, 0, 0, 0, 0, .null), (283, .i2l, 1, 0, 0, 0, 0, .null), (284, .ladd, 1, 0, 0, 0, 0, .null), (285, .lstore_n 1, 1, 0, 0, 0, 0, .null), (286, .lload_n 1, 1, 0, 0, 0, 0, .null), (287, .ldc2_w 254, 3, 0, 0, 0, 0, .long 31)], [(290, .lmul, 1, 0, 0, 0, 0, .null), (291, .aload 4, 2, 0, 0, 0, 0, .null), (293, .invokestatic 220, 3, 3, 226, 1, 0, .null), (296, .i2l, 1, 0, 0, 0, 0, .null), (297, .ladd, 1, 0, 0, 0, 0, .null), (298, .lstore_n 1, 1, 0, 0, 0, 0, .null), (299, .lload_n 1, 1, 0, 0, 0, 0, .null), (300, .ldc2_w 254, 3, 0, 0, 0, 0, .long 31), (303, .lmul, 1, 0, 0, 0, 0, .null), (304, .aload 4, 2, 0, 0, 0, 0, .null), (306, .aload 5, 2, 0, 0, 0, 0, .null), (308, .invokestatic 230, 3, 3, 228, 2, 0, .null), (311, .i2l, 1, 0, 0, 0, 0, .null), (312, .ladd, 1, 0, 0, 0, 0, .null), (313, .lstore_n 1, 1, 0, 0, 0, 0, .null), (314, .lload_n 1, 1, 0, 0, 0, 0, .null), (315, .ldc2_w 254, 3, 0, 0, 0, 0, .long 31), (318, .lmul, 1, 0, 0, 0, 0, .null), (319, .aload 4, 2, 0, 0, 0, 0, .null)], [(321, .aload 5, 2, 0, 0, 0, 0, .null), (323, .invokestatic 242, 3, 3, 231, 2, 0, .null), (326, .i2l, 1, 0, 0, 0, 0, .null), (327, .ladd, 1, 0, 0, 0, 0, .null), (328, .lstore_n 1, 1, 0, 0, 0, 0, .null), (329, .lload_n 1, 1, 0, 0, 0, 0, .null), (330, .ldc2_w 254, 3, 0, 0, 0, 0, .long 31), (333, .lmul, 1, 0, 0, 0, 0, .null), (334, .aload_n 0, 1, 0, 0, 0, 0, .null), (335, .iload_n 3, 1, 0, 0, 0, 0, .null), (336, .iconst 0, 1, 0, 0, 0, 0, .null), (337, .invokevirtual 249, 3, 0, 234, 2, 7, .null), (340, .i2l, 1, 0, 0, 0, 0, .null), (341, .ladd, 1, 0, 0, 0, 0, .null), (342, .lstore_n 1, 1, 0, 0, 0, 0, .null), (343, .iinc 3 1, 3, 0, 0, 0, 0, .null), (346, .goto (-309), 3, 0, 0, 0, 0, .null), (349, .lload_n 1, 1, 0, 0, 0, 0, .null), (350, .lreturn, 1, 0, 0, 0, 0, .null)]]
def zc237 : List (List zIn) := [[(0, .new 8, 3, 0, 5, 0, 0, .null), (3, .dup, 1, 0, 0, 0, 0, .null), (4, .invokespecial 113, 3, 5, 0, 0, 0, .null), (7, .astore_n 1, 1, 0, 0, 0, 0, .null), (8, .new 114, 3, 7, 3, 0, 0, .null), (11, .dup, 1, 0, 0, 0, 0, .null), (12, .invokespecial 116, 3, 5, 146, 0, 0, .null), (15, .astore_n 2, 1, 0, 0, 0, 0, .null), (16, .new 14, 3, 3, 3, 0, 0, .null), (19, .dup, 1, 0, 0, 0, 0, .null), (20, .invokespecial 117, 3, 6, 66, 0, 0, .null), (23, .astore_n 3, 1, 0, 0, 0, 0, .null), (24, .iconst 0, 1, 0, 0, 0, 0, .null), (25, .istore 4, 2, 0, 0, 0, 0, .null), (27, .iload 4, 2, 0, 0, 0, 0, .null), (29, .aload_n 0, 1, 0, 0, 0, 0, .null), (30, .arraylength, 1, 0, 0, 0, 0, .null), (31, .iconst 5, 1, 0, 0, 0, 0, .null)], [(32, .isub, 1, 0, 0, 0, 0, .null), (33, .if_icmp .gt 1239, 3, 0, 0, 0, 0, .null), (36, .aload_n 0, 1, 0, 0, 0, 0, .null), (37, .iload 4, 2, 0, 0, 0, 0, .null), (39, .iaload, 1, 0, 0, 0, 0, .null), (40, .bipush 31, 2, 0, 0, 0, 0, .null), (42, .iand, 1, 0, 0, 0, 0, .null), (43, .tableswitch 1223 0 26 #[121, 161, 213, 253, 321, 349, 417, 473, 513, 565, 593, 621, 634, 686, 738, 790, 830, 858, 898, 938, 978, 1006, 1034, 1062, 1142, 1170, 1210], 121, 0, 0, 0, 0, .null)], [], [], [], [(164, .aload_n 1, 1, 0, 0, 0, 0, .null), (165, .aload_n 0, 1, 0, 0, 0, 0, .null), (166, .iload 4, 2, 0, 0, 0, 0, .null), (168, .iconst 1, 1, 0, 0, 0, 0, .null), (169, .iadd, 1, 0, 0, 0, 0, .null), (170, .iaload, 1, 0, 0, 0, 0, .null), (171, .aload_n 0, 1, 0, 0, 0, 0, .null), (172, .iload 4, 2, 0, 0, 0, 0, .null), (174, .iconst 2, 1, 0, 0, 0, 0, .null), (175, .iadd, 1, 0, 0, 0, 0, .null), (176, .iaload, 1, 0, 0, 0, 0, .null), (177, .aload_n 3, 1, 0, 0, 0, 0, .null), (178, .invokestatic 118, 3, 9, 67, 4, 0, .null), (181, .istore 5, 2, 0, 0, 0, 0, .null), (183, .aload_n 2, 1, 0, 0, 0, 0, .null), (184, .aload_n 0, 1, 0, 0, 0, 0, .null), (185, .iload 4, 2, 0, 0, 0, 0, .null), (187, .iconst 1, 1, 0, 0, 0, 0, .null), (188, .iadd, 1, 0, 0, 0, 0, .null), (189, .iaload, 1, 0, 0, 0, 0, .null), (190, .aload_n 0, 1, 0, 0, 0, 0, .null), (191, .iload 4, 2, 0, 0, 0, 0, .null)], [(193, .iconst 2, 1, 0, 0, 0, 0, .null), (194, .iadd, 1, 0, 0, 0, 0, .null), (195, .iaload, 1, 0, 0, 0, 0, .null), (196, .invokevirtual 123, 3, 0, 150, 2, 7, .null), (199, .istore 6, 2, 0, 0, 0, 0, .null), (201, .goto 1065, 3, 0, 0, 0, 0, .null), (204, .aload_n 1, 1, 0, 0, 0, 0, .null), (205, .aload_n 0, 1, 0, 0, 0, 0, .null), (206, .iload 4, 2, 0, 0, 0, 0, .null), (208, .iconst 1, 1, 0, 0, 0, 0, .null), (209, .iadd, 1, 0, 0, 0, 0, .null), (210, .iaload, 1, 0, 0, 0, 0, .null), (211, .aload_n 0, 1, 0, 0, 0, 0, .null), (212, .iload 4, 2, 0, 0, 0, 0, .null), (214, .iconst 2, 1, 0, 0, 0, 0, .null), (215, .iadd, 1, 0, 0, 0, 0, .null), (216, .iaload, 1, 0, 0, 0, 0, .null), (217, .aload_n 0, 1, 0, 0, 0, 0, .null), (218, .iload 4, 2, 0, 0, 0, 0, .null), (220, .iconst 3, 1, 0, 0, 0, 0, .null), (221, .iadd, 1, 0, 0, 0, 0, .null), (222, .iaload, 1, 0, 0, 0, 0, .null), (223, .aload_n 3, 1, 0, 0, 0, 0, .null)], [(224, .invokestatic 124, 3, 9, 70, 5, 0, .null), (227, .istore 5, 2, 0, 0, 0, 0, .null), (229, .aload_n 2, 1, 0, 0, 0, 0, .null), (230, .aload_n 0, 1, 0, 0, 0, 0, .null), (231, .iload 4, 2, 0, 0, 0, 0, .null), (233, .iconst 1, 1, 0, 0, 0, 0, .null), (234, .iadd, 1, 0, 0, 0, 0, .null), (235, .iaload, 1, 0, 0, 0, 0, .null), (236, .aload_n 0, 1, 0, 0, 0, 0, .null), (237, .iload 4, 2, 0, 0, 0, 0, .null), (239, .iconst 2, 1, 0, 0, 0, 0, .null), (240, .iadd, 1, 0, 0, 0, 0, .null), (241, .iaload, 1, 0, 0, 0, 0, .null), (242, .aload_n 0, 1, 0, 0, 0, 0, .null), (243, .iload 4, 2, 0, 0, 0, 0, .null), (245, .iconst 3, 1, 0, 0, 0, 0, .null), (246, .iadd, 1, 0, 0, 0, 0, .null), (247, .iaload, 1, 0, 0, 0, 0, .null), (248, .invokevirtual 127, 3, 0, 161, 3, 7, .null), (251, .istore 6, 2, 0, 0, 0, 0, .null), (253, .goto 1013, 3, 0, 0, 0, 0, .null)], [(256, .aload_n 1, 1, 0, 0, 0, 0, .null), (257, .aload_n 0, 1, 0, 0, 0, 0, .null), (258, .iload 4, 2, 0, 0, 0, 0, .null), (260, .iconst 1, 1, 0, 0, 0, 0, .null), (261, .iadd, 1, 0, 0, 0, 0, .null), (262, .iaload, 1, 0, 0, 0, 0, .null), (263, .aload_n 0, 1, 0, 0, 0, 0, .null), (264, .iload 4, 2, 0, 0, 0, 0, .null), (266, .iconst 2, 1, 0, 0, 0, 0, .null), (267, .iadd, 1, 0, 0, 0, 0, .null), (268, .iaload, 1, 0, 0, 0, 0, .null), (269, .aload_n 3, 1, 0, 0, 0, 0, .null), (270, .invokestatic 128, 3, 9, 73, 4, 0, .null), (273, .istore 5, 2, 0, 0, 0, 0, .null), (275, .aload_n 2, 1, 0, 0, 0, 0, .null), (276, .aload_n 0, 1, 0, 0, 0, 0, .null), (277, .iload 4, 2, 0, 0, 0, 0, .null), (279, .iconst 1, 1, 0, 0, 0, 0, .null), (280, .iadd, 1, 0, 0, 0, 0, .null), (281, .iaload, 1, 0, 0, 0, 0, .null), (282, .aload_n 0, 1, 0, 0, 0, 0, .null), (283, .iload 4, 2, 0, 0, 0, 0, .null), (285, .iconst 2, 1, 0, 0, 0, 0, .null), (286, .iadd, 1, 0, 0, 0, 0, .null), (287, .iaload, 1, 0, 0, 0, 0, .null)], [(288, .invokevirtual 130, 3, 0, 177, 2, 7, .null), (291, .istore 6, 2, 0, 0, 0, 0, .null), (293, .goto 973, 3, 0, 0, 0, 0, .null), (296, .aload_n 1, 1, 0, 0, 0, 0, .null), (297, .aload_n 0, 1, 0, 0, 0, 0, .null), (298, .iload 4, 2, 0, 0, 0, 0, .null), (300, .iconst 1, 1, 0, 0, 0, 0, .null), (301, .iadd, 1, 0, 0, 0, 0, .null), (302, .iaload, 1, 0, 0, 0, 0, .null), (303, .aload_n 0, 1, 0, 0, 0, 0, .null), (304, .iload 4, 2, 0, 0, 0, 0, .null), (306, .iconst 2, 1, 0, 0, 0, 0, .null), (307, .iadd, 1, 0, 0, 0, 0, .null), (308, .iaload, 1, 0, 0, 0, 0, .null), (309, .aload_n 0, 1, 0, 0, 0, 0, .null), (310, .iload 4, 2, 0, 0, 0, 0, .null), (312, .iconst 3, 1, 0, 0, 0, 0, .null), (313, .iadd, 1, 0, 0, 0, 0, .null), (314, .iaload, 1, 0, 0, 0, 0, .null), (315, .ifCond .eq 7, 3, 0, 0, 0, 0, .null), (318, .iconst 1, 1, 0, 0, 0, 0, .null), (319, .goto 4, 3, 0, 0, 0, 0, .null)], [(322, .iconst 0, 1, 0, 0, 0, 0, .null), (323, .aload_n 3, 1, 0, 0, 0, 0, .null), (324, .invokestatic 131, 3, 9, 75, 5, 0, .null), (327, .istore 5, 2, 0, 0, 0, 0, .null), (329, .aload_n 2, 1, 0, 0, 0, 0, .null), (330, .aload_n 0, 1, 0, 0, 0, 0, .null), (331, .iload 4, 2, 0, 0, 0, 0, .null), (333, .iconst 1, 1, 0, 0, 0, 0, .null), (334, .iadd, 1, 0, 0, 0, 0, .null), (335, .iaload, 1, 0, 0, 0, 0, .null), (336, .aload_n 0, 1, 0, 0, 0, 0, .null), (337, .iload 4, 2, 0, 0, 0, 0, .null), (339, .iconst 2, 1, 0, 0, 0, 0, .null), (340, .iadd, 1, 0, 0, 0, 0, .null), (341, .iaload, 1, 0, 0, 0, 0, .null), (342, .aload_n 0, 1, 0, 0, 0, 0, .null), (343, .iload 4, 2, 0, 0, 0, 0, .null), (345, .iconst 3, 1, 0, 0, 0, 0, .null), (346, .iadd, 1, 0, 0, 0, 0, .null), (347, .iaload, 1, 0, 0, 0, 0, .null), (348, .ifCond .eq 7, 3, 0, 0, 0, 0, .null), (351, .iconst 1, 1, 0, 0, 0, 0, .null)], [(352, .goto 4, 3, 0, 0, 0, 0, .null), (355, .iconst 0, 1, 0, 0, 0, 0, .null), (356, .invokevirtual 134, 3, 0, 178, 3, 7, .null), (359, .istore 6, 2, 0, 0, 0, 0, .null), (361, .goto 905, 3, 0, 0, 0, 0, .null), (364, .aload_n 1, 1, 0, 0, 0, 0, .null), (365, .aload_n 0, 1, 0, 0, 0, 0, .null), (366, .iload 4, 2, 0, 0, 0, 0, .null), (368, .iconst 1, 1, 0, 0, 0, 0, .null), (369, .iadd, 1, 0, 0, 0, 0, .null), (370, .iaload, 1, 0, 0, 0, 0, .null), (371, .aload_n 3, 1, 0, 0, 0, 0, .null), (372, .invokestatic 135, 3, 9, 80, 3, 0, .null), (375, .istore 5, 2, 0, 0, 0, 0, .null), (377, .aload_n 2, 1, 0, 0, 0, 0, .null), (378, .aload_n 0, 1, 0, 0, 0, 0, .null), (379, .iload 4, 2, 0, 0, 0, 0, .null), (381, .iconst 1, 1, 0, 0, 0, 0, .null), (382, .iadd, 1, 0, 0, 0, 0, .null), (383, .iaload, 1, 0, 0, 0, 0, .null)], [(384, .invokevirtual 138, 3, 0, 186, 1, 7, .null), (387, .istore 6, 2, 0, 0, 0, 0, .null), (389, .goto 877, 3, 0, 0, 0, 0, .null), (392, .aload_n 1, 1, 0, 0, 0, 0, .null), (393, .aload_n 0, 1, 0, 0, 0, 0, .null), (394, .iload 4, 2, 0, 0, 0, 0, .null), (396, .iconst 1, 1, 0, 0, 0, 0, .null), (397, .iadd, 1, 0, 0, 0, 0, .null), (398, .iaload, 1, 0, 0, 0, 0, .null), (399, .aload_n 0, 1, 0, 0, 0, 0, .null), (400, .iload 4, 2, 0, 0, 0, 0, .null), (402, .iconst 2, 1, 0, 0, 0, 0, .null), (403, .iadd, 1, 0, 0, 0, 0, .null), (404, .iaload, 1, 0, 0, 0, 0, .null), (405, .aload_n 0, 1, 0, 0, 0, 0, .null), (406, .iload 4, 2, 0, 0, 0, 0, .null), (408, .iconst 3, 1, 0, 0, 0, 0, .null), (409, .iadd, 1, 0, 0, 0, 0, .null), (410, .iaload, 1, 0, 0, 0, 0, .null), (411, .ifCond .eq 7, 3, 0, 0, 0, 0, .null), (414, .iconst 1, 1, 0, 0, 0, 0, .null), (415, .goto 4, 3, 0, 0, 0, 0, .null)], [(418, .iconst 0, 1, 0, 0, 0, 0, .null), (419, .aload_n 3, 1, 0, 0, 0, 0, .null), (420, .invokestatic 139, 3, 9, 82, 5, 0, .null), (423, .istore 5, 2, 0, 0, 0, 0, .null), (425, .aload_n 2, 1, 0, 0, 0, 0, .null), (426, .aload_n 0, 1, 0, 0, 0, 0, .null), (427, .iload 4, 2, 0, 0, 0, 0, .null), (429, .iconst 1, 1, 0, 0, 0, 0, .null), (430, .iadd, 1, 0, 0, 0, 0, .null), (431, .iaload, 1, 0, 0, 0, 0, .null), (432, .aload_n 0, 1, 0, 0, 0, 0, .null), (433, .iload 4, 2, 0, 0, 0, 0, .null), (435, .iconst 2, 1, 0, 0, 0, 0, .null), (436, .iadd, 1, 0, 0, 0, 0, .null), (437, .iaload, 1, 0, 0, 0, 0, .null), (438, .aload_n 0, 1, 0, 0, 0, 0, .null), (439, .iload 4, 2, 0, 0, 0, 0, .null), (441, .iconst 3, 1, 0, 0, 0, 0, .null), (442, .iadd, 1, 0, 0, 0, 0, .null), (443, .iaload, 1, 0, 0, 0, 0, .null), (444, .ifCond .eq 7, 3, 0, 0, 0, 0, .null), (447, .iconst 1, 1, 0, 0, 0, 0, .null)], [(448, .goto 4, 3, 0, 0, 0, 0, .null), (451, .iconst 0, 1, 0, 0, 0, 0, .null), (452, .invokevirtual 141, 3, 0, 190, 3, 7, .null), (455, .istore 6, 2, 0, 0, 0, 0, .null), (457, .goto 809, 3, 0, 0, 0, 0, .null), (460, .aload_n 1, 1, 0, 0, 0, 0, .null), (461, .aload_n 0, 1, 0, 0, 0, 0, .null), (462, .iload 4, 2, 0, 0, 0, 0, .null), (464, .iconst 1, 1, 0, 0, 0, 0, .null), (465, .iadd, 1, 0, 0, 0, 0, .null), (466, .iaload, 1, 0, 0, 0, 0, .null), (467, .aload_n 0, 1, 0, 0, 0, 0, .null), (468, .iload 4, 2, 0, 0, 0, 0, .null), (470, .iconst 2, 1, 0, 0, 0, 0, .null), (471, .iadd, 1, 0, 0, 0, 0, .null), (472, .iaload, 1, 0, 0, 0, 0, .null), (473, .ifCond .eq 7, 3, 0, 0, 0, 0, .null), (476, .iconst 1, 1, 0, 0, 0, 0, .null), (477, .goto 4, 3, 0, 0, 0, 0, .null)], [(480, .iconst 0, 1, 0, 0, 0, 0, .null), (481, .aload_n 3, 1, 0, 0, 0, 0, .null), (482, .invokestatic 142, 3, 9, 85, 4, 0, .null), (485, .istore 5, 2, 0, 0, 0, 0, .null), (487, .aload_n 2, 1, 0, 0, 0, 0, .null), (488, .aload_n 0, 1, 0, 0, 0, 0, .null), (489, .iload 4, 2, 0, 0, 0, 0, .null), (491, .iconst 1, 1, 0, 0, 0, 0, .null), (492, .iadd, 1, 0, 0, 0, 0, .null), (493, .iaload, 1, 0, 0, 0, 0, .null), (494, .aload_n 0, 1, 0, 0, 0, 0, .null), (495, .iload 4, 2, 0, 0, 0, 0, .null), (497, .iconst 2, 1, 0, 0, 0, 0, .null), (498, .iadd, 1, 0, 0, 0, 0, .null), (499, .iaload, 1, 0, 0, 0, 0, .null), (500, .ifCond .eq 7, 3, 0, 0, 0, 0, .null), (503, .iconst 1, 1, 0, 0, 0, 0, .null), (504, .goto 4, 3, 0, 0, 0, 0, .null), (507, .iconst 0, 1, 0, 0, 0, 0, .null), (508, .invokevirtual 145, 3, 0, 193, 2, 7, .null), (511, .istore 6, 2, 0, 0, 0, 0, .null)], [(513, .goto 753, 3, 0, 0, 0, 0, .null), (516, .aload_n 1, 1, 0, 0, 0, 0, .null), (517, .aload_n 0, 1, 0, 0, 0, 0, .null), (518, .iload 4, 2, 0, 0, 0, 0, .null), (520, .iconst 1, 1, 0, 0, 0, 0, .null), (521, .iadd, 1, 0, 0, 0, 0, .null), (522, .iaload, 1, 0, 0, 0, 0, .null), (523, .aload_n 0, 1, 0, 0, 0, 0, .null), (524, .iload 4, 2, 0, 0, 0, 0, .null), (526, .iconst 2, 1, 0, 0, 0, 0, .null), (527, .iadd, 1, 0, 0, 0, 0, .null), (528, .iaload, 1, 0, 0, 0, 0, .null), (529, .aload_n 3, 1, 0, 0, 0, 0, .null), (530, .invokestatic 146, 3, 9, 89, 4, 0, .null), (533, .istore 5, 2, 0, 0, 0, 0, .null), (535, .aload_n 2, 1, 0, 0, 0, 0, .null), (536, .aload_n 0, 1, 0, 0, 0, 0, .null), (537, .iload 4, 2, 0, 0, 0, 0, .null), (539, .iconst 1, 1, 0, 0, 0, 0, .null), (540, .iadd, 1, 0, 0, 0, 0, .null), (541, .iaload, 1, 0, 0, 0, 0, .null), (542, .aload_n 0, 1, 0, 0, 0, 0, .null), (543, .iload 4, 2, 0, 0, 0, 0, .null)], [(545, .iconst 2, 1, 0, 0, 0, 0, .null), (546, .iadd, 1, 0, 0, 0, 0, .null), (547, .iaload, 1, 0, 0, 0, 0, .null), (548, .invokevirtual 148, 3, 0, 196, 2, 7, .null), (551, .istore 6, 2, 0, 0, 0, 0, .null), (553, .goto 713, 3, 0, 0, 0, 0, .null), (556, .aload_n 1, 1, 0, 0, 0, 0, .null), (557, .aload_n 0, 1, 0, 0, 0, 0, .null), (558, .iload 4, 2, 0, 0, 0, 0, .null), (560, .iconst 1, 1, 0, 0, 0, 0, .null), (561, .iadd, 1, 0, 0, 0, 0, .null), (562, .iaload, 1, 0, 0, 0, 0, .null), (563, .aload_n 0, 1, 0, 0, 0, 0, .null), (564, .iload 4, 2, 0, 0, 0, 0, .null), (566, .iconst 2, 1, 0, 0, 0, 0, .null), (567, .iadd, 1, 0, 0, 0, 0, .null), (568, .iaload, 1, 0, 0, 0, 0, .null), (569, .aload_n 0, 1, 0, 0, 0, 0, .null), (570, .iload 4, 2, 0, 0, 0, 0, .null), (572, .iconst 3, 1, 0, 0, 0, 0, .null), (573, .iadd, 1, 0, 0, 0, 0, .null), (574, .iaload, 1, 0, 0, 0, 0, .null), (575, .aload_n 3, 1, 0, 0, 0, 0, .null)], [(576, .invokestatic 149, 3, 9, 94, 5, 0, .null), (579, .istore 5, 2, 0, 0, 0, 0, .null), (581, .aload_n 2, 1, 0, 0, 0, 0, .null), (582, .aload_n 0, 1, 0, 0, 0, 0, .null), (583, .iload 4, 2, 0, 0, 0, 0, .null), (585, .iconst 1, 1, 0, 0, 0, 0, .null), (586, .iadd, 1, 0, 0, 0, 0, .null), (587, .iaload, 1, 0, 0, 0, 0, .null), (588, .aload_n 0, 1, 0, 0, 0, 0, .null), (589, .iload 4, 2, 0, 0, 0, 0, .null), (591, .iconst 2, 1, 0, 0, 0, 0, .null), (592, .iadd, 1, 0, 0, 0, 0, .null), (593, .iaload, 1, 0, 0, 0, 0, .null), (594, .aload_n 0, 1, 0, 0, 0, 0, .null), (595, .iload 4, 2, 0, 0, 0, 0, .null), (597, .iconst 3, 1, 0, 0, 0, 0, .null), (598, .iadd, 1, 0, 0, 0, 0, .null), (599, .iaload, 1, 0, 0, 0, 0, .null), (600, .invokevirtual 151, 3, 0, 201, 3, 7, .null), (603, .istore 6, 2, 0, 0, 0, 0, .null), (605, .goto 661, 3, 0, 0, 0, 0, .null)], [(608, .aload_n 1, 1, 0, 0, 0, 0, .null), (609, .aload_n 0, 1, 0, 0, 0, 0, .null), (610, .iload 4, 2, 0, 0, 0, 0, .null), (612, .iconst 1, 1, 0, 0, 0, 0, .null), (613, .iadd, 1, 0, 0, 0, 0, .null), (614, .iaload, 1, 0, 0, 0, 0, .null), (615, .aload_n 3, 1, 0, 0, 0, 0, .null), (616, .invokestatic 152, 3, 9, 97, 3, 0, .null), (619, .istore 5, 2, 0, 0, 0, 0, .null), (621, .aload_n 2, 1, 0, 0, 0, 0, .null), (622, .aload_n 0, 1, 0, 0, 0, 0, .null), (623, .iload 4, 2, 0, 0, 0, 0, .null), (625, .iconst 1, 1, 0, 0, 0, 0, .null), (626, .iadd, 1, 0, 0, 0, 0, .null), (627, .iaload, 1, 0, 0, 0, 0, .null), (628, .invokevirtual 154, 3, 0, 203, 1, 7, .null), (631, .istore 6, 2, 0, 0, 0, 0, .null), (633, .goto 633, 3, 0, 0, 0, 0, .null), (636, .aload_n 1, 1, 0, 0, 0, 0, .null), (637, .aload_n 0, 1, 0, 0, 0, 0, .null), (638, .iload 4, 2, 0, 0, 0, 0, .null)], [(640, .iconst 1, 1, 0, 0, 0, 0, .null), (641, .iadd, 1, 0, 0, 0, 0, .null), (642, .iaload, 1, 0, 0, 0, 0, .null), (643, .aload_n 3, 1, 0, 0, 0, 0, .null), (644, .invokestatic 155, 3, 9, 102, 3, 0, .null), (647, .istore 5, 2, 0, 0, 0, 0, .null), (649, .aload_n 2, 1, 0, 0, 0, 0, .null), (650, .aload_n 0, 1, 0, 0, 0, 0, .null), (651, .iload 4, 2, 0, 0, 0, 0, .null), (653, .iconst 1, 1, 0, 0, 0, 0, .null), (654, .iadd, 1, 0, 0, 0, 0, .null), (655, .iaload, 1, 0, 0, 0, 0, .null), (656, .invokevirtual 157, 3, 0, 204, 1, 7, .null), (659, .istore 6, 2, 0, 0, 0, 0, .null), (661, .goto 605, 3, 0, 0, 0, 0, .null), (664, .aload_n 1, 1, 0, 0, 0, 0, .null), (665, .invokevirtual 158, 3, 0, 9, 0, 0, .null), (668, .aload_n 2, 1, 0, 0, 0, 0, .null), (669, .invokevirtual 162, 3, 0, 205, 0, 7, .null)], [(672, .if_icmp .eq 594, 3, 0, 0, 0, 0, .null), (675, .iconst 0, 1, 0, 0, 0, 0, .null), (676, .ireturn, 1, 0, 0, 0, 0, .null), (677, .aload_n 1, 1, 0, 0, 0, 0, .null), (678, .aload_n 0, 1, 0, 0, 0, 0, .null), (679, .iload 4, 2, 0, 0, 0, 0, .null), (681, .iconst 1, 1, 0, 0, 0, 0, .null), (682, .iadd, 1, 0, 0, 0, 0, .null), (683, .iaload, 1, 0, 0, 0, 0, .null), (684, .aload_n 0, 1, 0, 0, 0, 0, .null), (685, .iload 4, 2, 0, 0, 0, 0, .null), (687, .iconst 2, 1, 0, 0, 0, 0, .null), (688, .iadd, 1, 0, 0, 0, 0, .null), (689, .iaload, 1, 0, 0, 0, 0, .null), (690, .aload_n 0, 1, 0, 0, 0, 0, .null), (691, .iload 4, 2, 0, 0, 0, 0, .null), (693, .iconst 3, 1, 0, 0, 0, 0, .null), (694, .iadd, 1, 0, 0, 0, 0, .null), (695, .iaload, 1, 0, 0, 0, 0, .null), (696, .aload_n 3, 1, 0, 0, 0, 0, .null), (697, .invokestatic 163, 3, 9, 104, 5, 0, .null), (700, .istore 5, 2, 0, 0, 0, 0, .null), (702, .aload_n 2, 1, 0, 0, 0, 0, .null), (703, .aload_n 0, 1, 0, 0, 0, 0, .null)], [(704, .iload 4, 2, 0, 0, 0, 0, .null), (706, .iconst 1, 1, 0, 0, 0, 0, .null), (707, .iadd, 1, 0, 0, 0, 0, .null), (708, .iaload, 1, 0, 0, 0, 0, .null), (709, .aload_n 0, 1, 0, 0, 0, 0, .null), (710, .iload 4, 2, 0, 0, 0, 0, .null), (712, .iconst 2, 1, 0, 0, 0, 0, .null), (713, .iadd, 1, 0, 0, 0, 0, .null), (714, .iaload, 1, 0, 0, 0, 0, .null), (715, .aload_n 0, 1, 0, 0, 0, 0, .null), (716, .iload 4, 2, 0, 0, 0, 0, .null), (718, .iconst 3, 1, 0, 0, 0, 0, .null), (719, .iadd, 1, 0, 0, 0, 0, .null), (720, .iaload, 1, 0, 0, 0, 0, .null), (721, .invokevirtual 165, 3, 0, 206, 3, 7, .null), (724, .istore 6, 2, 0, 0, 0, 0, .null), (726, .goto 540, 3, 0, 0, 0, 0, .null), (729, .aload_n 1, 1, 0, 0, 0, 0, .null), (730, .aload_n 0, 1, 0, 0, 0, 0, .null), (731, .iload 4, 2, 0, 0, 0, 0, .null), (733, .iconst 1, 1, 0, 0, 0, 0, .null), (734, .iadd, 1, 0, 0, 0, 0, .null), (735, .iaload, 1, 0, 0, 0, 0, .null)], [(736, .aload_n 0, 1, 0, 0, 0, 0, .null), (737, .iload 4, 2, 0, 0, 0, 0, .null), (739, .iconst 2, 1, 0, 0, 0, 0, .null), (740, .iadd, 1, 0, 0, 0, 0, .null), (741, .iaload, 1, 0, 0, 0, 0, .null), (742, .aload_n 0, 1, 0, 0, 0, 0, .null), (743, .iload 4, 2, 0, 0, 0, 0, .null), (745, .iconst 3, 1, 0, 0, 0, 0, .null), (746, .iadd, 1, 0, 0, 0, 0, .null), (747, .iaload, 1, 0, 0, 0, 0, .null), (748, .aload_n 3, 1, 0, 0, 0, 0, .null), (749, .invokestatic 166, 3, 9, 105, 5, 0, .null), (752, .istore 5, 2, 0, 0, 0, 0, .null), (754, .aload_n 2, 1, 0, 0, 0, 0, .null), (755, .aload_n 0, 1, 0, 0, 0, 0, .null), (756, .iload 4, 2, 0, 0, 0, 0, .null), (758, .iconst 1, 1, 0, 0, 0, 0, .null), (759, .iadd, 1, 0, 0, 0, 0, .null), (760, .iaload, 1, 0, 0, 0, 0, .null), (761, .aload_n 0, 1, 0, 0, 0, 0, .null), (762, .iload 4, 2, 0, 0, 0, 0, .null), (764, .iconst 2, 1, 0, 0, 0, 0, .null), (765, .iadd, 1, 0, 0, 0, 0, .null), (766, .iaload, 1, 0, 0, 0, 0, .null), (767, .aload_n 0, 1, 0, 0, 0, 0, .null)], [(768, .iload 4, 2, 0, 0, 0, 0, .null), (770, .iconst 3, 1, 0, 0, 0, 0, .null), (771, .iadd, 1, 0, 0, 0, 0, .null), (772, .iaload, 1, 0, 0, 0, 0, .null), (773, .invokevirtual 168, 3, 0, 207, 3, 7, .null), (776, .istore 6, 2, 0, 0, 0, 0, .null), (778, .goto 488, 3, 0, 0, 0, 0, .null), (781, .aload_n 1, 1, 0, 0, 0, 0, .null), (782, .aload_n 0, 1, 0, 0, 0, 0, .null), (783, .iload 4, 2, 0, 0, 0, 0, .null), (785, .iconst 1, 1, 0, 0, 0, 0, .null), (786, .iadd, 1, 0, 0, 0, 0, .null), (787, .iaload, 1, 0, 0, 0, 0, .null), (788, .aload_n 0, 1, 0, 0, 0, 0, .null), (789, .iload 4, 2, 0, 0, 0, 0, .null), (791, .iconst 2, 1, 0, 0, 0, 0, .null), (792, .iadd, 1, 0, 0, 0, 0, .null), (793, .iaload, 1, 0, 0, 0, 0, .null), (794, .aload_n 0, 1, 0, 0, 0, 0, .null), (795, .iload 4, 2, 0, 0, 0, 0, .null), (797, .iconst 3, 1, 0, 0, 0, 0, .null), (798, .iadd, 1, 0, 0, 0, 0, .null), (799, .iaload, 1, 0, 0, 0, 0, .null)], [(800, .aload_n 3, 1, 0, 0, 0, 0, .null), (801, .invokestatic 169, 3, 9, 106, 5, 0, .null), (804, .istore 5, 2, 0, 0, 0, 0, .null), (806, .aload_n 2, 1, 0, 0, 0, 0, .null), (807, .aload_n 0, 1, 0, 0, 0, 0, .null), (808, .iload 4, 2, 0, 0, 0, 0, .null), (810, .iconst 1, 1, 0, 0, 0, 0, .null), (811, .iadd, 1, 0, 0, 0, 0, .null), (812, .iaload, 1, 0, 0, 0, 0, .null), (813, .aload_n 0, 1, 0, 0, 0, 0, .null), (814, .iload 4, 2, 0, 0, 0, 0, .null), (816, .iconst 2, 1, 0, 0, 0, 0, .null), (817, .iadd, 1, 0, 0, 0, 0, .null), (818, .iaload, 1, 0, 0, 0, 0, .null), (819, .aload_n 0, 1, 0, 0, 0, 0, .null), (820, .iload 4, 2, 0, 0, 0, 0, .null), (822, .iconst 3, 1, 0, 0, 0, 0, .null), (823, .iadd, 1, 0, 0, 0, 0, .null), (824, .iaload, 1, 0, 0, 0, 0, .null), (825, .invokevirtual 171, 3, 0, 209, 3, 7, .null), (828, .istore 6, 2, 0, 0, 0, 0, .null), (830, .goto 436, 3, 0, 0, 0, 0, .null)], [(833, .aload_n 1, 1, 0, 0, 0, 0, .null), (834, .aload_n 0, 1, 0, 0, 0, 0, .null), (835, .iload 4, 2, 0, 0, 0, 0, .null), (837, .iconst 1, 1, 0, 0, 0, 0, .null), (838, .iadd, 1, 0, 0, 0, 0, .null), (839, .iaload, 1, 0, 0, 0, 0, .null), (840, .aload_n 0, 1, 0, 0, 0, 0, .null), (841, .iload 4, 2, 0, 0, 0, 0, .null), (843, .iconst 2, 1, 0, 0, 0, 0, .null), (844, .iadd, 1, 0, 0, 0, 0, .null), (845, .iaload, 1, 0, 0, 0, 0, .null), (846, .aload_n 3, 1, 0, 0, 0, 0, .null), (847, .invokestatic 172, 3, 9, 107, 4, 0, .null), (850, .istore 5, 2, 0, 0, 0, 0, .null), (852, .aload_n 2, 1, 0, 0, 0, 0, .null), (853, .aload_n 0, 1, 0, 0, 0, 0, .null), (854, .iload 4, 2, 0, 0, 0, 0, .null), (856, .iconst 1, 1, 0, 0, 0, 0, .null), (857, .iadd, 1, 0, 0, 0, 0, .null), (858, .iaload, 1, 0, 0, 0, 0, .null), (859, .aload_n 0, 1, 0, 0, 0, 0, .null), (860, .iload 4, 2, 0, 0, 0, 0, .null), (862, .iconst 2, 1, 0, 0, 0, 0, .null), (863, .iadd, 1, 0, 0, 0, 0, .null)], [(864, .iaload, 1, 0, 0, 0, 0, .null), (865, .invokevirtual 174, 3, 0, 211, 2, 7, .null), (868, .istore 6, 2, 0, 0, 0, 0, .null), (870, .goto 396, 3, 0, 0, 0, 0, .null), (873, .aload_n 1, 1, 0, 0, 0, 0, .null), (874, .aload_n 0, 1, 0, 0, 0, 0, .null), (875, .iload 4, 2, 0, 0, 0, 0, .null), (877, .iconst 1, 1, 0, 0, 0, 0, .null), (878, .iadd, 1, 0, 0, 0, 0, .null), (879, .iaload, 1, 0, 0, 0, 0, .null), (880, .aload_n 3, 1, 0, 0, 0, 0, .null), (881, .invokestatic 175, 3, 9, 108, 3, 0, .null), (884, .istore 5, 2, 0, 0, 0, 0, .null), (886, .aload_n 2, 1, 0, 0, 0, 0, .null), (887, .aload_n 0, 1, 0, 0, 0, 0, .null), (888, .iload 4, 2, 0, 0, 0, 0, .null), (890, .iconst 1, 1, 0, 0, 0, 0, .null), (891, .iadd, 1, 0, 0, 0, 0, .null), (892, .iaload, 1, 0, 0, 0, 0, .null), (893, .invokevirtual 177, 3, 0, 215, 1, 7, .null)], [(896, .astore 6, 2, 0, 0, 0, 0, .null), (898, .goto 368, 3, 0, 0, 0, 0, .null), (901, .aload_n 1, 1, 0, 0, 0, 0, .null), (902, .aload_n 0, 1, 0, 0, 0, 0, .null), (903, .iload 4, 2, 0, 0, 0, 0, .null), (905, .iconst 1, 1, 0, 0, 0, 0, .null), (906, .iadd, 1, 0, 0, 0, 0, .null), (907, .iaload, 1, 0, 0, 0, 0, .null), (908, .aload_n 0, 1, 0, 0, 0, 0, .null), (909, .iload 4, 2, 0, 0, 0, 0, .null), (911, .iconst 2, 1, 0, 0, 0, 0, .null), (912, .iadd, 1, 0, 0, 0, 0, .null), (913, .iaload, 1, 0, 0, 0, 0, .null), (914, .aload_n 3, 1, 0, 0, 0, 0, .null), (915, .invokestatic 178, 3, 9, 135, 4, 0, .null), (918, .istore 5, 2, 0, 0, 0, 0, .null), (920, .aload_n 2, 1, 0, 0, 0, 0, .null), (921, .aload_n 0, 1, 0, 0, 0, 0, .null), (922, .iload 4, 2, 0, 0, 0, 0, .null), (924, .iconst 1, 1, 0, 0, 0, 0, .null), (925, .iadd, 1, 0, 0, 0, 0, .null), (926, .iaload, 1, 0, 0, 0, 0, .null), (927, .aload_n 0, 1, 0, 0, 0, 0, .null)], [(928, .iload 4, 2, 0, 0, 0, 0, .null), (930, .iconst 2, 1, 0, 0, 0, 0, .null), (931, .iadd, 1, 0, 0, 0, 0, .null), (932, .iaload, 1, 0, 0, 0, 0, .null), (933, .invokevirtual 180, 3, 0, 216, 2, 7, .null), (936, .istore 6, 2, 0, 0, 0, 0, .null), (938, .goto 328, 3, 0, 0, 0, 0, .null), (941, .aload_n 1, 1, 0, 0, 0, 0, .null), (942, .aload_n 0, 1, 0, 0, 0, 0, .null), (943, .iload 4, 2, 0, 0, 0, 0, .null), (945, .iconst 1, 1, 0, 0, 0, 0, .null), (946, .iadd, 1, 0, 0, 0, 0, .null), (947, .iaload, 1, 0, 0, 0, 0, .null), (948, .aload_n 0, 1, 0, 0, 0, 0, .null), (949, .iload 4, 2, 0, 0, 0, 0, .null), (951, .iconst 2, 1, 0, 0, 0, 0, .null), (952, .iadd, 1, 0, 0, 0, 0, .null), (953, .iaload, 1, 0, 0, 0, 0, .null), (954, .aload_n 3, 1, 0, 0, 0, 0, .null), (955, .invokestatic 181, 3, 9, 136, 4, 0, .null), (958, .istore 5, 2, 0, 0, 0, 0, .null)], [(960, .aload_n 2, 1, 0, 0, 0, 0, .null), (961, .aload_n 0, 1, 0, 0, 0, 0, .null), (962, .iload 4, 2, 0, 0, 0, 0, .null), (964, .iconst 1, 1, 0, 0, 0, 0, .null), (965, .iadd, 1, 0, 0, 0, 0, .null), (966, .iaload, 1, 0, 0, 0, 0, .null), (967, .aload_n 0, 1, 0, 0, 0, 0, .null), (968, .iload 4, 2, 0, 0, 0, 0, .null), (970, .iconst 2, 1, 0, 0, 0, 0, .null), (971, .iadd, 1, 0, 0, 0, 0, .null), (972, .iaload, 1, 0, 0, 0, 0, .null), (973, .invokevirtual 183, 3, 0, 217, 2, 7, .null), (976, .dstore 6, 2, 0, 0, 0, 0, .null), (978, .goto 288, 3, 0, 0, 0, 0, .null), (981, .aload_n 1, 1, 0, 0, 0, 0, .null), (982, .aload_n 0, 1, 0, 0, 0, 0, .null), (983, .iload 4, 2, 0, 0, 0, 0, .null), (985, .iconst 1, 1, 0, 0, 0, 0, .null), (986, .iadd, 1, 0, 0, 0, 0, .null), (987, .iaload, 1, 0, 0, 0, 0, .null), (988, .aload_n 0, 1, 0, 0, 0, 0, .null), (989, .iload 4, 2, 0, 0, 0, 0, .null), (991, .iconst 2, 1, 0, 0, 0, 0, .null)], [(992, .iadd, 1, 0, 0, 0, 0, .null), (993, .iaload, 1, 0, 0, 0, 0, .null), (994, .aload_n 3, 1, 0, 0, 0, 0, .null), (995, .invokestatic 184, 3, 9, 138, 4, 0, .null), (998, .istore 5, 2, 0, 0, 0, 0, .null), (1000, .aload_n 2, 1, 0, 0, 0, 0, .null), (1001, .aload_n 0, 1, 0, 0, 0, 0, .null), (1002, .iload 4, 2, 0, 0, 0, 0, .null), (1004, .iconst 1, 1, 0, 0, 0, 0, .null), (1005, .iadd, 1, 0, 0, 0, 0, .null), (1006, .iaload, 1, 0, 0, 0, 0, .null), (1007, .aload_n 0, 1, 0, 0, 0, 0, .null), (1008, .iload 4, 2, 0, 0, 0, 0, .null), (1010, .iconst 2, 1, 0, 0, 0, 0, .null), (1011, .iadd, 1, 0, 0, 0, 0, .null), (1012, .iaload, 1, 0, 0, 0, 0, .null), (1013, .invokevirtual 186, 3, 0, 220, 2, 7, .null), (1016, .dstore 6, 2, 0, 0, 0, 0, .null), (1018, .goto 248, 3, 0, 0, 0, 0, .null), (1021, .aload_n 1, 1, 0, 0, 0, 0, .null), (1022, .aload_n 0, 1, 0, 0, 0, 0, .null), (1023, .iload 4, 2, 0, 0, 0, 0, .null)], [(1025, .iconst 1, 1, 0, 0, 0, 0, .null), (1026, .iadd, 1, 0, 0, 0, 0, .null), (1027, .iaload, 1, 0, 0, 0, 0, .null), (1028, .aload_n 3, 1, 0, 0, 0, 0, .null), (1029, .invokestatic 187, 3, 9, 139, 3, 0, .null), (1032, .istore 5, 2, 0, 0, 0, 0, .null), (1034, .aload_n 2, 1, 0, 0, 0, 0, .null), (1035, .aload_n 0, 1, 0, 0, 0, 0, .null), (1036, .iload 4, 2, 0, 0, 0, 0, .null), (1038, .iconst 1, 1, 0, 0, 0, 0, .null), (1039, .iadd, 1, 0, 0, 0, 0, .null), (1040, .iaload, 1, 0, 0, 0, 0, .null), (1041, .invokevirtual 189, 3, 0, 223, 1, 7, .null), (1044, .istore 6, 2, 0, 0, 0, 0, .null), (1046, .goto 220, 3, 0, 0, 0, 0, .null), (1049, .aload_n 1, 1, 0, 0, 0, 0, .null), (1050, .aload_n 0, 1, 0, 0, 0, 0, .null), (1051, .iload 4, 2, 0, 0, 0, 0, .null), (1053, .iconst 1, 1, 0, 0, 0, 0, .null), (1054, .iadd, 1, 0, 0, 0, 0, .null), (1055, .iaload, 1, 0, 0, 0, 0, .null)], [(1056, .aload_n 3, 1, 0, 0, 0, 0, .null), (1057, .invokestatic 190, 3, 9, 140, 3, 0, .null), (1060, .istore 5, 2, 0, 0, 0, 0, .null), (1062, .aload_n 2, 1, 0, 0, 0, 0, .null), (1063, .aload_n 0, 1, 0, 0, 0, 0, .null), (1064, .iload 4, 2, 0, 0, 0, 0, .null), (1066, .iconst 1, 1, 0, 0, 0, 0, .null), (1067, .iadd, 1, 0, 0, 0, 0, .null), (1068, .iaload, 1, 0, 0, 0, 0, .null), (1069, .invokevirtual 192, 3, 0, 225, 1, 7, .null), (1072, .istore 6, 2, 0, 0, 0, 0, .null), (1074, .goto 192, 3, 0, 0, 0, 0, .null), (1077, .aload_n 1, 1, 0, 0, 0, 0, .null), (1078, .aload_n 0, 1, 0, 0, 0, 0, .null), (1079, .iload 4, 2, 0, 0, 0, 0, .null), (1081, .iconst 1, 1, 0, 0, 0, 0, .null), (1082, .iadd, 1, 0, 0, 0, 0, .null), (1083, .iaload, 1, 0, 0, 0, 0, .null), (1084, .aload_n 3, 1, 0, 0, 0, 0, .null), (1085, .invokestatic 193, 3, 9, 141, 3, 0, .null)], [(1088, .istore 5, 2, 0, 0, 0, 0, .null), (1090, .aload_n 2, 1, 0, 0, 0, 0, .null), (1091, .aload_n 0, 1, 0, 0, 0, 0, .null), (1092, .iload 4, 2, 0, 0, 0, 0, .null), (1094, .iconst 1, 1, 0, 0, 0, 0, .null), (1095, .iadd, 1, 0, 0, 0, 0, .null), (1096, .iaload, 1, 0, 0, 0, 0, .null), (1097, .invokevirtual 195, 3, 0, 227, 1, 7, .null), (1100, .istore 6, 2, 0, 0, 0, 0, .null), (1102, .goto 164, 3, 0, 0, 0, 0, .null), (1105, .aload_n 1, 1, 0, 0, 0, 0, .null), (1106, .aload_n 0, 1, 0, 0, 0, 0, .null), (1107, .iload 4, 2, 0, 0, 0, 0, .null), (1109, .iconst 1, 1, 0, 0, 0, 0, .null), (1110, .iadd, 1, 0, 0, 0, 0, .null), (1111, .iaload, 1, 0, 0, 0, 0, .null), (1112, .aload_n 0, 1, 0, 0, 0, 0, .null), (1113, .iload 4, 2, 0, 0, 0, 0, .null), (1115, .iconst 2, 1, 0, 0, 0, 0, .null), (1116, .iadd, 1, 0, 0, 0, 0, .null), (1117, .iaload, 1, 0, 0, 0, 0, .null), (1118, .aload_n 0, 1, 0, 0, 0, 0, .null), (1119, .iload 4, 2, 0, 0, 0, 0, .null)], [(1121, .iconst 3, 1, 0, 0, 0, 0, .null), (1122, .iadd, 1, 0, 0, 0, 0, .null), (1123, .iaload, 1, 0, 0, 0, 0, .null), (1124, .ifCond .eq 7, 3, 0, 0, 0, 0, .null), (1127, .iconst 1, 1, 0, 0, 0, 0, .null), (1128, .goto 4, 3, 0, 0, 0, 0, .null), (1131, .iconst 0, 1, 0, 0, 0, 0, .null), (1132, .aload_n 0, 1, 0, 0, 0, 0, .null), (1133, .iload 4, 2, 0, 0, 0, 0, .null), (1135, .iconst 4, 1, 0, 0, 0, 0, .null), (1136, .iadd, 1, 0, 0, 0, 0, .null), (1137, .iaload, 1, 0, 0, 0, 0, .null), (1138, .aload_n 3, 1, 0, 0, 0, 0, .null), (1139, .invokestatic 196, 3, 9, 142, 6, 0, .null), (1142, .istore 5, 2, 0, 0, 0, 0, .null), (1144, .aload_n 2, 1, 0, 0, 0, 0, .null), (1145, .aload_n 0, 1, 0, 0, 0, 0, .null), (1146, .iload 4, 2, 0, 0, 0, 0, .null), (1148, .iconst 1, 1, 0, 0, 0, 0, .null), (1149, .iadd, 1, 0, 0, 0, 0, .null), (1150, .iaload, 1, 0, 0, 0, 0, .null), (1151, .aload_n 0, 1, 0, 0, 0, 0, .null)], [(1152, .iload 4, 2, 0, 0, 0, 0, .null), (1154, .iconst 2, 1, 0, 0, 0, 0, .null), (1155, .iadd, 1, 0, 0, 0, 0, .null), (1156, .iaload, 1, 0, 0, 0, 0, .null), (1157, .aload_n 0, 1, 0, 0, 0, 0, .null), (1158, .iload 4, 2, 0, 0, 0, 0, .null), (1160, .iconst 3, 1, 0, 0, 0, 0, .null), (1161, .iadd, 1, 0, 0, 0, 0, .null), (1162, .iaload, 1, 0, 0, 0, 0, .null), (1163, .ifCond .eq 7, 3, 0, 0, 0, 0, .null), (1166, .iconst 1, 1, 0, 0, 0, 0, .null), (1167, .goto 4, 3, 0, 0, 0, 0, .null), (1170, .iconst 0, 1, 0, 0, 0, 0, .null), (1171, .aload_n 0, 1, 0, 0, 0, 0, .null), (1172, .iload 4, 2, 0, 0, 0, 0, .null), (1174, .iconst 4, 1, 0, 0, 0, 0, .null), (1175, .iadd, 1, 0, 0, 0, 0, .null), (1176, .iaload, 1, 0, 0, 0, 0, .null), (1177, .invokevirtual 199, 3, 0, 229, 4, 7, .null), (1180, .istore 6, 2, 0, 0, 0, 0, .null), (1182, .goto 84, 3, 0, 0, 0, 0, .null)], [(1185, .aload_n 1, 1, 0, 0, 0, 0, .null), (1186, .aload_n 0, 1, 0, 0, 0, 0, .null), (1187, .iload 4, 2, 0, 0, 0, 0, .null), (1189, .iconst 1, 1, 0, 0, 0, 0, .null), (1190, .iadd, 1, 0, 0, 0, 0, .null), (1191, .iaload, 1, 0, 0, 0, 0, .null), (1192, .aload_n 3, 1, 0, 0, 0, 0, .null), (1193, .invokestatic 200, 3, 9, 144, 3, 0, .null), (1196, .istore 5, 2, 0, 0, 0, 0, .null), (1198, .aload_n 2, 1, 0, 0, 0, 0, .null), (1199, .aload_n 0, 1, 0, 0, 0, 0, .null), (1200, .iload 4, 2, 0, 0, 0, 0, .null), (1202, .iconst 1, 1, 0, 0, 0, 0, .null), (1203, .iadd, 1, 0, 0, 0, 0, .null), (1204, .iaload, 1, 0, 0, 0, 0, .null), (1205, .invokevirtual 202, 3, 0, 230, 1, 7, .null), (1208, .istore 6, 2, 0, 0, 0, 0, .null), (1210, .goto 56, 3, 0, 0, 0, 0, .null), (1213, .aload_n 1, 1, 0, 0, 0, 0, .null), (1214, .aload_n 0, 1, 0, 0, 0, 0, .null), (1215, .iload 4, 2, 0, 0, 0, 0, .null)], [(1217, .iconst 1, 1, 0, 0, 0, 0, .null), (1218, .iadd, 1, 0, 0, 0, 0, .null), (1219, .iaload, 1, 0, 0, 0, 0, .null), (1220, .aload_n 0, 1, 0, 0, 0, 0, .null), (1221, .iload 4, 2, 0, 0, 0, 0, .null), (1223, .iconst 2, 1, 0, 0, 0, 0, .null), (1224, .iadd, 1, 0, 0, 0, 0, .null), (1225, .iaload, 1, 0, 0, 0, 0, .null), (1226, .aload_n 3, 1, 0, 0, 0, 0, .null), (1227, .invokestatic 203, 3, 9, 145, 4, 0, .null), (1230, .istore 5, 2, 0, 0, 0, 0, .null), (1232, .aload_n 2, 1, 0, 0, 0, 0, .null), (1233, .aload_n 0, 1, 0, 0, 0, 0, .null), (1234, .iload 4, 2, 0, 0, 0, 0, .null), (1236, .iconst 1, 1, 0, 0, 0, 0, .null), (1237, .iadd, 1, 0, 0, 0, 0, .null), (1238, .iaload, 1, 0, 0, 0, 0, .null), (1239, .aload_n 0, 1, 0, 0, 0, 0, .null), (1240, .iload 4, 2, 0, 0, 0, 0, .null), (1242, .iconst 2, 1, 0, 0, 0, 0, .null), (1243, .iadd, 1, 0, 0, 0, 0, .null), (1244, .iaload, 1, 0, 0, 0, 0, .null), (1245, .invokevirtual 205, 3, 0, 233, 2, 7, .null)], [(1248, .istore 6, 2, 0, 0, 0, 0, .null), (1250, .goto 16, 3, 0, 0, 0, 0, .null), (1253, .aload_n 1, 1, 0, 0, 0, 0, .null), (1254, .invokevirtual 206, 3, 0, 10, 0, 0, .null), (1257, .pop2, 1, 0, 0, 0, 0, .null), (1258, .aload_n 2, 1, 0, 0, 0, 0, .null), (1259, .invokevirtual 210, 3, 0, 236, 0, 7, .null), (1262, .pop2, 1, 0, 0, 0, 0, .null), (1263, .goto 3, 3, 0, 0, 0, 0, .null), (1266, .iinc 4 5, 3, 0, 0, 0, 0, .null), (1269, .goto (-1242), 3, 0, 0, 0, 0, .null), (1272, .iconst 1, 1, 0, 0, 0, 0, .null), (1273, .ireturn, 1, 0, 0, 0, 0, .null)]]
def zcs_0 : List (List (List zIn)) := [zc0, zc1, zc2, zc3, zc4, zc5, zc6, zc7, zc8, zc9, zc10, zc11, zc12, zc13, zc14, zc15, zc16, zc17, zc18, zc19, zc20, zc21, zc22, zc23, zc24, zc25, zc26, zc27, zc28, zc29]
def zcs_1 : List (List (List zIn)) := [zc30, zc31, zc32, zc33, zc34, zc35, zc36, zc37, zc38, zc39, zc40, zc41, zc42, zc43, zc44, zc45, zc46, zc47, zc48, zc49, zc50, zc51, zc52, zc53, zc54, zc55, zc56, zc57, zc58, zc59]
def zcs_2 : List (List (List zIn)) := [zc60, zc61, zc62, zc63, zc64, zc65, zc66, zc67, zc68, zc69, zc70, zc71, zc72, zc73, zc74, zc75, zc76, zc77, zc78, zc79, zc80, zc81, zc82, zc83, zc84, zc85, zc86, zc87, zc88, zc89]
def zcs_3 : List (List (List zIn)) := [zc90, zc91, zc92, zc93, zc94, zc95, zc96, zc97, zc98, zc99, zc100, zc101, zc102, zc103, zc104, zc105, zc106, zc107, zc108, zc109, zc110, zc111, zc112, zc113, zc114, zc115, zc116, zc117, zc118, zc119]
def zcs_4 : List (List (List zIn)) := [zc120, zc121, zc122, zc123, zc124, zc125, zc126, zc127, zc128, zc129, zc130, zc131, zc132, zc133, zc134, zc135, zc136, zc137, zc138, zc139, zc140, zc141, zc142, zc143, zc144, zc145, zc146, zc147, zc148, zc149]
def zcs_5 : List (List (List zIn)) := [zc150, zc151, zc152, zc153, zc154, zc155, zc156, zc157, zc158, zc159, zc160, zc161, zc162, zc163, zc164, zc165, zc166, zc167, zc168, zc169, zc170, zc171, zc172, zc173, zc174, zc175, zc176, zc177, zc178, zc179]
def zcs_6 : List (List (List zIn)) := [zc180, zc181, zc182, zc183, zc184, zc185, zc186, zc187, zc188, zc189, zc190, zc191, zc192, zc193, zc194, zc195, zc196, zc197, zc198, zc199, zc200, zc201, zc202, zc203, zc204, zc205, zc206, zc207, zc208, zc209]
def zcs_7 : List (List (List zIn)) := [zc210, zc211, zc212, zc213, zc214, zc215, zc216, zc217, zc218, zc219, zc220, zc221, zc222, zc223, zc224, zc225, zc226, zc227, zc228, zc229, zc230, zc231, zc232, zc233, zc234, zc235, zc236, zc237]
def zcs : List (List (List (List zIn))) := [zcs_0, zcs_1, zcs_2, zcs_3, zcs_4, zcs_5, zcs_6, zcs_7]
end
section
/-! ===== THE PURE MACHINE: cells by their addresses, the next address, how many slots have been made; a step, a run, what a run comes to ===== -/
abbrev zLc : Type := List (Option Value)
abbrev zCel : Type := Nat × List Value
abbrev zPH : Type := (Nat → Option zCel) × Nat × Nat
abbrev zCfg : Type := Nat × zLc × List Value × zPH
abbrev zOut : Type := Option Value ⊕ Nat
/-- what the start gives: statics, texts -/
abbrev zEnv : Type := (Nat → Value) × (Nat → Nat)
def zlk {α : Type} : List (Nat × α) → Nat → Option α
  | [], _ => none
  | (k, x) :: r, n => match Nat.beq k n with
    | true => some x
    | false => zlk r n
def zins (j pc : Nat) : Option (Instr × Nat × zAux) := match zcs[j / 30]? with
  | some l => match l[j % 30]? with
    | some c => match c[pc / 32]? with
      | some b => zlk b pc
      | none => none
    | none => none
  | none => none
def zrt (j : Nat) : Option FieldType := match zmd j with
  | some r => r.2.2.2.1
  | none => none
def zcl1 : Option Value → Option Value
  | some (.int x) => some (.int x)
  | some (.ref a) => some (.ref a)
  | some .null => some .null
  | some (.float x) => some (.float x)
  | _ => none
/-- a place behind which something is laid holds no long half -/
def zmod : zLc → Nat → zLc
  | [], _ => []
  | x :: r, 0 => zcl1 x :: r
  | x :: r, k + 1 => x :: zmod r k
def zpre (ls : zLc) : Nat → zLc
  | 0 => ls
  | k + 1 => zmod ls k
def zput (ls : zLc) (k : Nat) (v : Option Value) : zLc := (zpre ls k).set k v
def zput2 (ls : zLc) (k : Nat) (v : Value) : zLc := (zput ls k (some v)).set (k + 1) none
def zget {α : Type} (bot : α) (ls : zLc) (k : Nat) (K : Value → α) : α := match ls[k]? with
  | some (some v) => K v
  | _ => bot
def zset (h : zPH) (a : Nat) (c : zCel) : zPH := (fun b => if b = a then some c else h.1 b, h.2.1, h.2.2)
def zalloc (h : zPH) (c : zCel) (n : Nat) : zPH := (fun b => if b = h.2.1 then some c else h.1 b, h.2.1 + 1, h.2.2 + n)
/-- new int[n][k] -/
def zrefs (q s : Nat) : Nat → List Value
  | 0 => []
  | n + 1 => .ref q :: zrefs (q + s) s n
def zalloc2 (h : zPH) (n k : Nat) : zPH := (fun b => if b = h.2.1 then some (66, zrefs (h.2.1 + 1) 1 n) else if h.2.1 < b ∧ b ≤ h.2.1 + n then some (64, List.replicate k (.int 0)) else h.1 b, h.2.1 + (1 + n), h.2.2 + (n + n * k))
/-- new int[n][k][r] -/
def zalloc3 (h : zPH) (n k r : Nat) : zPH := (fun b => if b = h.2.1 then some (67, zrefs (h.2.1 + 1) (1 + k) n) else if h.2.1 < b ∧ b ≤ h.2.1 + n * (1 + k) then (if (b - h.2.1 - 1) % (1 + k) = 0 then some (66, zrefs (b + 1) 1 k) else some (64, List.replicate r (.int 0))) else h.1 b, h.2.1 + (1 + n * (1 + k)), h.2.2 + (n + n * (k + k * r)))
/-- an object's cell of the tag t -/
def zob {α : Type} (bot : α) (h : zPH) (v : Value) (t : Nat) (K : Nat → List Value → α) : α := match v with
  | .ref a => match h.1 a with
    | some (t', vs) => match Nat.beq t' t with
      | true => K a vs
      | false => bot
    | none => bot
  | _ => bot
/-- any cell -/
def zan {α : Type} (bot : α) (h : zPH) (v : Value) (K : Nat → Nat → List Value → α) : α := match v with
  | .ref a => match h.1 a with
    | some (t, vs) => K a t vs
    | none => bot
  | _ => bot
def zix {α : Type} (bot : α) (vs : List Value) (k : Nat) (K : Value → α) : α := match vs[k]? with
  | some v => K v
  | none => bot
/-- a place of an array -/
def zel {α : Type} (bot : α) (vs : List Value) (i : Int32) (K : Nat → Value → α) : α := if i < 0 then bot else match vs[i.toNatClampNeg]? with
  | some v => K i.toNatClampNeg v
  | none => bot
def zif {α : Type} (bot : α) (b : Bool) (K : α) : α := match b with
  | true => K
  | false => bot
/-- does a field of this kind take the value -/
def zfit : Nat → Value → Bool
  | 0, .int _ => true
  | 1, .int x => x == 0 || x == 1
  | 2, .int x => x.toInt8.toInt32 == x
  | 3, .long _ => true
  | 4, .double _ => true
  | 5, .float _ => true
  | 6, .ref _ => true
  | 6, .null => true
  | 7, .ref _ => true
  | 7, .null => true
  | _, _ => false
def zcat : Value → Nat
  | .long _ => 2
  | .double _ => 2
  | _ => 1
def zwt : List Value → Nat
  | [] => 0
  | v :: r => zcat v + zwt r
def zsp : Nat → List Value → List Value → Option (List Value × List Value)
  | 0, acc, st => some (acc, st)
  | _ + 1, _, [] => none
  | n + 1, acc, v :: st => zsp n (v :: acc) st
/-- may an object of the tag tb be laid into an array of the tag t -/
def zasg (t tb : Nat) : Bool := match t with
  | 69 => zobj.contains tb
  | 68 => Nat.beq tb 4
  | 67 => Nat.beq tb 66
  | 66 => Nat.beq tb 64
  | _ => false
def ztg (pc : Nat) (off : Int) : Nat := ((pc : Int) + off).toNat
def zcond (k : ClassFile.Cond) (x y : Int32) : Bool := match k with
  | .eq => decide (x = y)
  | .ne => !decide (x = y)
  | .lt => decide (x < y)
  | .ge => decide (y ≤ x)
  | .gt => decide (y < x)
  | .le => decide (x ≤ y)
def zn32 (r : UInt32) : Bool := decide (r &&& 0x7fffffff ≤ 0x7f800000)
def zn64 (r : UInt64) : Bool := decide (r &&& 0x7fffffffffffffff ≤ 0x7ff0000000000000)
def zcpy (f g : List Value) (sp dp n : Nat) : List Value := g.take dp ++ ((f.drop sp).take n ++ g.drop (dp + n))
def zbr {α : Type} (b : Bool) (x y : α) : α := if b = true then x else y
def zstv (v : Value) : Bool := match v with
  | .ref _ => true
  | .null => true
  | _ => false
/-- one instruction: bot where it isn't told; K what comes next; R the method's end; C a call -/
def zact {α : Type} (bot : α) (E : zEnv) (rt : Option FieldType) (i : Instr) (n : Nat) (x : zAux) (pc : Nat) (ls : zLc) (st : List Value) (h : zPH) (K : zCfg → α) (R : zOut → zPH → α) (C : Nat → List Value → List Value → α) : α := match i with
  | .iconst k => K (pc + n, ls, .int (Int32.ofInt k) :: st, h)
  | .bipush k => K (pc + n, ls, .int (Int8.ofInt k).toInt32 :: st, h)
  | .sipush k => K (pc + n, ls, .int (Int16.ofInt k).toInt32 :: st, h)
  | .lconst k => K (pc + n, ls, .long (Int64.ofNat k.val) :: st, h)
  | .fconst k => match k with
    | 0 => K (pc + n, ls, .float FP.fconst0 :: st, h)
    | 1 => K (pc + n, ls, .float FP.fconst1 :: st, h)
    | _ => bot
  | .dconst k => match k with
    | 0 => K (pc + n, ls, .double FP.dconst0 :: st, h)
    | 1 => K (pc + n, ls, .double FP.dconst1 :: st, h)
  | .aconst_null => K (pc + n, ls, .null :: st, h)
  | .ldc _ => match x.1 with
    | 0 => match x.2.2.2.2 with
      | .int v => K (pc + n, ls, .int v :: st, h)
      | _ => bot
    | 1 => K (pc + n, ls, .ref (E.2 x.2.1) :: st, h)
    | _ => bot
  | .ldc_w _ => match x.1 with
    | 0 => match x.2.2.2.2 with
      | .int v => K (pc + n, ls, .int v :: st, h)
      | _ => bot
    | _ => bot
  | .ldc2_w _ => match x.1 with
    | 0 => match x.2.2.2.2 with
      | .long v => K (pc + n, ls, .long v :: st, h)
      | .double v => K (pc + n, ls, .double v :: st, h)
      | _ => bot
    | _ => bot
  | .iload k => zget bot ls k fun v => match v with
    | .int y => K (pc + n, ls, .int y :: st, h)
    | _ => bot
  | .iload_n k => zget bot ls k.val fun v => match v with
    | .int y => K (pc + n, ls, .int y :: st, h)
    | _ => bot
  | .lload k => zget bot ls k fun v => match v with
    | .long y => K (pc + n, ls, .long y :: st, h)
    | _ => bot
  | .lload_n k => zget bot ls k.val fun v => match v with
    | .long y => K (pc + n, ls, .long y :: st, h)
    | _ => bot
  | .dload k => zget bot ls k fun v => match v with
    | .double y => K (pc + n, ls, .double y :: st, h)
    | _ => bot
  | .dload_n k => zget bot ls k.val fun v => match v with
    | .double y => K (pc + n, ls, .double y :: st, h)
    | _ => bot
  | .fload k => zget bot ls k fun v => match v with
    | .float y => K (pc + n, ls, .float y :: st, h)
    | _ => bot
  | .fload_n k => zget bot ls k.val fun v => match v with
    | .float y => K (pc + n, ls, .float y :: st, h)
    | _ => bot
  | .aload k => zget bot ls k fun v => match v with
    | .ref a => K (pc + n, ls, .ref a :: st, h)
    | .null => K (pc + n, ls, .null :: st, h)
    | _ => bot
  | .aload_n k => zget bot ls k.val fun v => match v with
    | .ref a => K (pc + n, ls, .ref a :: st, h)
    | .null => K (pc + n, ls, .null :: st, h)
    | _ => bot
  | .istore k => match st with
    | .int y :: r => zif bot (Nat.blt k ls.length) (K (pc + n, zput ls k (some (.int y)), r, h))
    | _ => bot
  | .istore_n k => match st with
    | .int y :: r => zif bot (Nat.blt k.val ls.length) (K (pc + n, zput ls k.val (some (.int y)), r, h))
    | _ => bot
  | .lstore k => match st with
    | .long y :: r => zif bot (Nat.blt (k + 1) ls.length) (K (pc + n, zput2 ls k (.long y), r, h))
    | _ => bot
  | .lstore_n k => match st with
    | .long y :: r => zif bot (Nat.blt (k.val + 1) ls.length) (K (pc + n, zput2 ls k.val (.long y), r, h))
    | _ => bot
  | .dstore k => match st with
    | .double y :: r => zif bot (Nat.blt (k + 1) ls.length) (K (pc + n, zput2 ls k (.double y), r, h))
    | _ => bot
  | .dstore_n k => match st with
    | .double y :: r => zif bot (Nat.blt (k.val + 1) ls.length) (K (pc + n, zput2 ls k.val (.double y), r, h))
    | _ => bot
  | .fstore k => match st with
    | .float y :: r => zif bot (Nat.blt k ls.length) (K (pc + n, zput ls k (some (.float y)), r, h))
    | _ => bot
  | .fstore_n k => match st with
    | .float y :: r => zif bot (Nat.blt k.val ls.length) (K (pc + n, zput ls k.val (some (.float y)), r, h))
    | _ => bot
  | .astore k => match st with
    | .ref a :: r => zif bot (Nat.blt k ls.length) (K (pc + n, zput ls k (some (.ref a)), r, h))
    | .null :: r => zif bot (Nat.blt k ls.length) (K (pc + n, zput ls k (some .null), r, h))
    | _ => bot
  | .astore_n k => match st with
    | .ref a :: r => zif bot (Nat.blt k.val ls.length) (K (pc + n, zput ls k.val (some (.ref a)), r, h))
    | .null :: r => zif bot (Nat.blt k.val ls.length) (K (pc + n, zput ls k.val (some .null), r, h))
    | _ => bot
  | .iinc k m => zget bot ls k fun v => match v with
    | .int y => zif bot (Nat.blt k ls.length) (K (pc + n, zput ls k (some (.int (y + Int32.ofInt m))), st, h))
    | _ => bot
  | .pop => match st with
    | v :: r => zif bot (Nat.beq (zcat v) 1) (K (pc + n, ls, r, h))
    | _ => bot
  | .dup => match st with
    | v :: r => zif bot (Nat.beq (zcat v) 1) (K (pc + n, ls, v :: v :: r, h))
    | _ => bot
  | .dup_x1 => match st with
    | v :: w :: r => zif bot (Nat.beq (zcat v) 1) (zif bot (Nat.beq (zcat w) 1) (K (pc + n, ls, v :: w :: v :: r, h)))
    | _ => bot
  | .dup2 => match st with
    | v :: w :: r => zif bot (Nat.beq (zcat v) 1) (zif bot (Nat.beq (zcat w) 1) (K (pc + n, ls, v :: w :: v :: w :: r, h)))
    | _ => bot
  | .iadd => match st with
    | .int b :: .int a :: r => K (pc + n, ls, .int (a + b) :: r, h)
    | _ => bot
  | .isub => match st with
    | .int b :: .int a :: r => K (pc + n, ls, .int (a - b) :: r, h)
    | _ => bot
  | .imul => match st with
    | .int b :: .int a :: r => K (pc + n, ls, .int (a * b) :: r, h)
    | _ => bot
  | .idiv => match st with
    | .int b :: .int a :: r => zif bot (!decide (b = 0)) (K (pc + n, ls, .int (a / b) :: r, h))
    | _ => bot
  | .irem => match st with
    | .int b :: .int a :: r => zif bot (!decide (b = 0)) (K (pc + n, ls, .int (a - a / b * b) :: r, h))
    | _ => bot
  | .ineg => match st with
    | .int a :: r => K (pc + n, ls, .int (-a) :: r, h)
    | _ => bot
  | .iand => match st with
    | .int b :: .int a :: r => K (pc + n, ls, .int (a &&& b) :: r, h)
    | _ => bot
  | .ior => match st with
    | .int b :: .int a :: r => K (pc + n, ls, .int (a ||| b) :: r, h)
    | _ => bot
  | .ixor => match st with
    | .int b :: .int a :: r => K (pc + n, ls, .int (a ^^^ b) :: r, h)
    | _ => bot
  | .ishl => match st with
    | .int b :: .int a :: r => K (pc + n, ls, .int (a <<< (b &&& 31)) :: r, h)
    | _ => bot
  | .ishr => match st with
    | .int b :: .int a :: r => K (pc + n, ls, .int (a >>> (b &&& 31)) :: r, h)
    | _ => bot
  | .iushr => match st with
    | .int b :: .int a :: r => K (pc + n, ls, .int (a.toUInt32 >>> (b.toUInt32 &&& Int32.toUInt32 31)).toInt32 :: r, h)
    | _ => bot
  | .ladd => match st with
    | .long b :: .long a :: r => K (pc + n, ls, .long (a + b) :: r, h)
    | _ => bot
  | .lmul => match st with
    | .long b :: .long a :: r => K (pc + n, ls, .long (a * b) :: r, h)
    | _ => bot
  | .lcmp => match st with
    | .long b :: .long a :: r => K (pc + n, ls, .int (lg_cmp a b) :: r, h)
    | _ => bot
  | .dadd => match st with
    | .double b :: .double a :: r => zif bot (zn64 (FP.dadd a b)) (K (pc + n, ls, .double (FP.dadd a b) :: r, h))
    | _ => bot
  | .dsub => match st with
    | .double b :: .double a :: r => zif bot (zn64 (FP.dsub a b)) (K (pc + n, ls, .double (FP.dsub a b) :: r, h))
    | _ => bot
  | .dmul => match st with
    | .double b :: .double a :: r => zif bot (zn64 (FP.dmul a b)) (K (pc + n, ls, .double (FP.dmul a b) :: r, h))
    | _ => bot
  | .ddiv => match st with
    | .double b :: .double a :: r => zif bot (zn64 (FP.ddiv a b)) (K (pc + n, ls, .double (FP.ddiv a b) :: r, h))
    | _ => bot
  | .dneg => match st with
    | .double a :: r => K (pc + n, ls, .double (FP.dneg a) :: r, h)
    | _ => bot
  | .dcmp k => match st with
    | .double b :: .double a :: r => K (pc + n, ls, .int (Op.cmpValue (FP.dcmp a b) k) :: r, h)
    | _ => bot
  | .fadd => match st with
    | .float b :: .float a :: r => zif bot (zn32 (FP.fadd a b)) (K (pc + n, ls, .float (FP.fadd a b) :: r, h))
    | _ => bot
  | .fsub => match st with
    | .float b :: .float a :: r => zif bot (zn32 (FP.fsub a b)) (K (pc + n, ls, .float (FP.fsub a b) :: r, h))
    | _ => bot
  | .fdiv => match st with
    | .float b :: .float a :: r => zif bot (zn32 (FP.fdiv a b)) (K (pc + n, ls, .float (FP.fdiv a b) :: r, h))
    | _ => bot
  | .fcmp k => match st with
    | .float b :: .float a :: r => K (pc + n, ls, .int (Op.cmpValue (FP.fcmp a b) k) :: r, h)
    | _ => bot
  | .i2l => match st with
    | .int a :: r => K (pc + n, ls, .long a.toInt64 :: r, h)
    | _ => bot
  | .i2d => match st with
    | .int a :: r => K (pc + n, ls, .double (FP.i2d a) :: r, h)
    | _ => bot
  | .i2f => match st with
    | .int a :: r => K (pc + n, ls, .float (FP.i2f a) :: r, h)
    | _ => bot
  | .i2b => match st with
    | .int a :: r => K (pc + n, ls, .int a.toInt8.toInt32 :: r, h)
    | _ => bot
  | .i2c => match st with
    | .int a :: r => K (pc + n, ls, .int (a.toUInt32 % 65536).toInt32 :: r, h)
    | _ => bot
  | .d2i => match st with
    | .double a :: r => K (pc + n, ls, .int (FP.d2i a) :: r, h)
    | _ => bot
  | .d2l => match st with
    | .double a :: r => K (pc + n, ls, .long (FP.d2l a) :: r, h)
    | _ => bot
  | .f2d => match st with
    | .float a :: r => zif bot (zn64 (FP.f2d a)) (K (pc + n, ls, .double (FP.f2d a) :: r, h))
    | _ => bot
  | .ifCond k off => match st with
    | .int a :: r => zbr (zcond k a 0) (K (ztg pc off, ls, r, h)) (K (pc + n, ls, r, h))
    | _ => bot
  | .if_icmp k off => match st with
    | .int b :: .int a :: r => zbr (zcond k a b) (K (ztg pc off, ls, r, h)) (K (pc + n, ls, r, h))
    | _ => bot
  | .if_acmp k off => match st with
    | .ref b :: .ref a :: r => zbr (match k with | .eq => decide (a = b) | .ne => !decide (a = b)) (K (ztg pc off, ls, r, h)) (K (pc + n, ls, r, h))
    | _ => bot
  | .ifnull off => match st with
    | .null :: r => K (ztg pc off, ls, r, h)
    | .ref _ :: r => K (pc + n, ls, r, h)
    | _ => bot
  | .ifnonnull off => match st with
    | .null :: r => K (pc + n, ls, r, h)
    | .ref _ :: r => K (ztg pc off, ls, r, h)
    | _ => bot
  | .goto off => K (ztg pc off, ls, st, h)
  | .tableswitch d lo hi offs => match st with
    | .int y :: r => zbr (decide (y.toInt < lo) || decide (hi < y.toInt)) (K (ztg pc d, ls, r, h)) (match offs[(y.toInt - lo).toNat]? with
      | some off => K (ztg pc off, ls, r, h)
      | none => bot)
    | _ => bot
  | .getfield _ => match st with
    | v :: r => zob bot h v x.1 fun _ vs => zix bot vs x.2.1 fun w => K (pc + n, ls, w :: r, h)
    | _ => bot
  | .putfield _ => match st with
    | w :: v :: r => zob bot h v x.1 fun a vs => zif bot (zfit x.2.2.1 w) (K (pc + n, ls, r, zset h a (x.1, vs.set x.2.1 w)))
    | _ => bot
  | .getstatic _ => zif bot (Nat.blt x.1 zsts.length) (K (pc + n, ls, E.1 x.1 :: st, h))
  | .new _ => match Nat.blt x.1 64 with
    | true => match zdf[x.1]? with
      | some d => K (pc + n, ls, .ref h.2.1 :: st, zalloc h (x.1, d) x.2.1)
      | none => bot
    | false => zif bot (Nat.ble 1000 x.1) (zif bot (Nat.ble (zwt st) 8) (R (.inr (x.1 - 1000)) (h.1, h.2.1 + 1, h.2.2 + 6)))
  | .newarray _ => match st with
    | .int y :: r => if y < 0 then bot else zif bot (Nat.ble y.toNatClampNeg 1000000) (zif bot (Nat.blt x.1 66) (K (pc + n, ls, .ref h.2.1 :: r, zalloc h (x.1, List.replicate y.toNatClampNeg (.int 0)) y.toNatClampNeg)))
    | _ => bot
  | .anewarray _ => match st with
    | .int y :: r => if y < 0 then bot else zif bot (Nat.ble y.toNatClampNeg 1000000) (K (pc + n, ls, .ref h.2.1 :: r, zalloc h (x.1, List.replicate y.toNatClampNeg .null) y.toNatClampNeg))
    | _ => bot
  | .multianewarray _ _ => match x.1 with
    | 2 => match st with
      | .int k :: .int m :: r => if k < 0 then bot else if m < 0 then bot else zif bot (Nat.ble k.toNatClampNeg 1000) (zif bot (Nat.ble m.toNatClampNeg 1000) (K (pc + n, ls, .ref h.2.1 :: r, zalloc2 h m.toNatClampNeg k.toNatClampNeg)))
      | _ => bot
    | 3 => match st with
      | .int q :: .int k :: .int m :: r => if q < 0 then bot else if k < 0 then bot else if m < 0 then bot else zif bot (Nat.ble q.toNatClampNeg 1000) (zif bot (Nat.ble k.toNatClampNeg 1000) (zif bot (Nat.ble m.toNatClampNeg 1000) (K (pc + n, ls, .ref h.2.1 :: r, zalloc3 h m.toNatClampNeg k.toNatClampNeg q.toNatClampNeg))))
      | _ => bot
    | _ => bot
  | .arraylength => match st with
    | v :: r => zan bot h v fun _ t vs => zif bot (Nat.ble 64 t) (K (pc + n, ls, .int (Int32.ofNat vs.length) :: r, h))
    | _ => bot
  | .iaload => match st with
    | .int y :: v :: r => zan bot h v fun _ t vs => zif bot (Nat.beq t 64 || Nat.beq t 96) (zel bot vs y fun _ w => K (pc + n, ls, w :: r, h))
    | _ => bot
  | .baload => match st with
    | .int y :: v :: r => zan bot h v fun _ t vs => zif bot (Nat.beq t 65) (zel bot vs y fun _ w => K (pc + n, ls, w :: r, h))
    | _ => bot
  | .aaload => match st with
    | .int y :: v :: r => zan bot h v fun _ t vs => zif bot (Nat.ble 66 t && Nat.ble t 69) (zel bot vs y fun _ w => K (pc + n, ls, w :: r, h))
    | _ => bot
  | .iastore => match st with
    | .int w :: .int y :: v :: r => zob bot h v 64 fun a vs => zel bot vs y fun k _ => K (pc + n, ls, r, zset h a (64, vs.set k (.int w)))
    | _ => bot
  | .bastore => match st with
    | .int w :: .int y :: v :: r => zob bot h v 65 fun a vs => zel bot vs y fun k _ => K (pc + n, ls, r, zset h a (65, vs.set k (.int w.toInt8.toInt32)))
    | _ => bot
  | .aastore => match st with
    | .ref b :: .int y :: v :: r => zan bot h v fun a t vs => zan bot h (.ref b) fun _ tb _ => zif bot (zasg t tb) (zel bot vs y fun k _ => K (pc + n, ls, r, zset h a (t, vs.set k (.ref b))))
    | .null :: .int y :: v :: r => zan bot h v fun a t vs => zif bot (Nat.beq t 68 || Nat.beq t 69) (zel bot vs y fun k _ => K (pc + n, ls, r, zset h a (t, vs.set k .null)))
    | _ => bot
  | .checkcast _ => match st with
    | .null :: r => K (pc + n, ls, .null :: r, h)
    | .ref a :: r => zob bot h (.ref a) x.1 fun _ _ => zif bot (Nat.blt x.1 64) (K (pc + n, ls, .ref a :: r, h))
    | _ => bot
  | .ireturn => match st with
    | [.int y] => match rt with
      | some .int => R (.inl (some (.int y))) h
      | some .boolean => if y = 0 then R (.inl (some (.int 0))) h else if y = 1 then R (.inl (some (.int 1))) h else bot
      | some .byte => zif bot (y.toInt8.toInt32 == y) (R (.inl (some (.int y))) h)
      | some .char => zif bot ((y.toUInt32 % 65536).toInt32 == y) (R (.inl (some (.int y))) h)
      | _ => bot
    | _ => bot
  | .lreturn => match st with
    | [.long y] => match rt with
      | some .long => R (.inl (some (.long y))) h
      | _ => bot
    | _ => bot
  | .dreturn => match st with
    | [.double y] => match rt with
      | some .double => R (.inl (some (.double y))) h
      | _ => bot
    | _ => bot
  | .freturn => match st with
    | [.float y] => match rt with
      | some .float => R (.inl (some (.float y))) h
      | _ => bot
    | _ => bot
  | .areturn => match st with
    | [.ref a] => match rt with
      | some (.object _) => R (.inl (some (.ref a))) h
      | some (.array _) => R (.inl (some (.ref a))) h
      | _ => bot
    | [.null] => match rt with
      | some (.object _) => R (.inl (some .null)) h
      | some (.array _) => R (.inl (some .null)) h
      | _ => bot
    | _ => bot
  | .return_ => match st with
    | [] => match rt with
      | none => R (.inl none) h
      | _ => bot
    | _ => bot
  | .invokestatic _ => match x.1 with
    | 21 => match st with
      | .int q :: .int dp :: w :: .int sp :: v :: r => zan bot h v fun _ tv f => zan bot h w fun b tw g => zif bot (Nat.beq tv tw && (Nat.beq tw 64 || Nat.beq tw 65)) (if q < 0 then bot else if dp < 0 then bot else if sp < 0 then bot else zif bot (Nat.ble (sp.toNatClampNeg + q.toNatClampNeg) f.length) (zif bot (Nat.ble (dp.toNatClampNeg + q.toNatClampNeg) g.length) (zif bot (Nat.ble (zwt r) 8) (K (pc + n, ls, r, zset h b (tw, zcpy f g sp.toNatClampNeg dp.toNatClampNeg q.toNatClampNeg))))))
      | _ => bot
    | 25 => match st with
      | .float b :: .float a :: r => zif bot (zn32 a) (zif bot (zn32 b) (zif bot (Nat.ble (zwt r) 8) (K (pc + n, ls, .float (Native.java_lang_Math.nans.pick32 false a b) :: r, h))))
      | _ => bot
    | 26 => match st with
      | .double a :: r => zif bot (zn64 a) (zif bot (Nat.ble (zwt r) 8) (K (pc + n, ls, .double (a &&& 0x7fffffffffffffff) :: r, h)))
      | _ => bot
    | k => zif bot (Nat.beq k 3 || (Nat.beq k 4 || Nat.beq k 9)) (match zsp x.2.2.1 [] st with
      | some (as, r) => zif bot (Nat.ble (zwt r) 8) (C x.2.1 as r)
      | none => bot)
  | .invokespecial _ => match x.1 with
    | 20 => match st with
      | .ref _ :: r => zif bot (Nat.ble (zwt r) 8) (K (pc + n, ls, r, h))
      | _ => bot
    | 7 => match zsp x.2.2.1 [] st with
      | some (as, v :: r) => zob bot h v x.2.2.2.1 fun b _ => zif bot (Nat.ble (zwt r) 8) (C x.2.1 (.ref b :: as) r)
      | _ => bot
    | k => zif bot (Nat.beq k 5 || Nat.beq k 6) (match zsp x.2.2.1 [] st with
      | some (as, .ref b :: r) => zif bot (Nat.ble (zwt r) 8) (C x.2.1 (.ref b :: as) r)
      | _ => bot)
  | .invokevirtual _ => zif bot (Nat.beq x.1 0 || Nat.beq x.1 2) (match zsp x.2.2.1 [] st with
    | some (as, v :: r) => zob bot h v x.2.2.2.1 fun b _ => zif bot (Nat.ble (zwt r) 8) (C x.2.1 (.ref b :: as) r)
    | _ => bot)
  | .invokeinterface _ _ => zif bot (Nat.beq x.1 8) (match zsp x.2.2.1 [] st with
    | some (as, v :: r) => zob bot h v x.2.2.2.1 fun b _ => zif bot (Nat.ble (zwt r) 8) (C x.2.1 (.ref b :: as) r)
    | _ => bot)
  | _ => bot
/-- the locals at a method's start -/
def zargs : List Value → zLc
  | [] => []
  | v :: r => match zcat v with
    | 1 => some v :: zargs r
    | _ => some v :: none :: zargs r
def zfill : Nat → zLc → zLc
  | 0, ls => ls
  | n + 1, [] => none :: zfill n []
  | n + 1, x :: r => x :: zfill n r
def zml (j : Nat) : Nat := match zmd j with
  | some r => r.2.2.1
  | none => 0
def zent (j : Nat) (as : List Value) : zLc := zfill (zml j) (zargs as)
/-- the handler: its first instruction, which lays the exception into a local, is done -/
def zhl (j pc e o : Nat) : List (Nat × Nat × Nat × Nat) → Option (Nat × Nat)
  | [] => none
  | (a, b, hp, k) :: r => match Nat.ble a pc && Nat.blt pc b with
    | false => zhl j pc e o r
    | true => match zlk zHt (o * 100000 + k) with
      | some e' => match Nat.beq e e' with
        | true => match zins j hp with
          | some (.astore q, n, _) => some (hp + n, q)
          | some (.astore_n q, n, _) => some (hp + n, q.val)
          | _ => none
        | false => zhl j pc e o r
      | none => none
/-- what comes behind a call that has thrown -/
def zthr {α : Type} (bot : α) (j pc e : Nat) (ls : zLc) (h : zPH) (K : zCfg → α) (R : zOut → zPH → α) : α := match zmd j with
  | some r => match r.2.2.2.2.2.2 with
    | [] => R (.inr e) h
    | hh => match zhl j pc e r.2.2.2.2.1 hh with
      | some (hp, k) => zif bot (Nat.blt k ls.length) (K (hp, zput ls k none, [], h))
      | none => bot
  | none => bot
/-- THE RUN: fuel, calls that may stand open, the method, where it is -/
def zrun (E : zEnv) : Nat → Nat → Nat → zCfg → Option (zOut × zPH)
  | 0, _, _, _ => none
  | n + 1, d, j, (pc, ls, st, h) => match zins j pc with
    | none => none
    | some (i, len, x) => zact none E (zrt j) i len x pc ls st h (fun y => zrun E n d j y) (fun o h' => some (o, h')) (fun j' as r => match d with
      | 0 => none
      | d' + 1 => match zrun E n d' j' (0, zent j' as, [], h) with
        | none => none
        | some (.inl v, h') => zrun E n (d' + 1) j (pc + len, ls, v.toList ++ r, h')
        | some (.inr e, h') => zthr none j pc e ls h' (fun y => zrun E n (d' + 1) j y) (fun o h' => some (o, h')))
/-- what a run comes to -/
def zwp (E : zEnv) (d j : Nat) (y : zCfg) (Q : zOut → zPH → Prop) : Prop := ∃ n r, zrun E n d j y = some r ∧ Q r.1 r.2
def zcall (E : zEnv) (d j : Nat) (as : List Value) (h : zPH) (Q : zOut → zPH → Prop) : Prop := zwp E d j (0, zent j as, [], h) Q
/-- behind a call: in the caller -/
def zback (E : zEnv) (d j pc len : Nat) (ls : zLc) (r : List Value) (Q : zOut → zPH → Prop) : zOut → zPH → Prop
  | .inl v, h => zwp E d j (pc + len, ls, v.toList ++ r, h) Q
  | .inr e, h => zthr False j pc e ls h (fun y => zwp E d j y Q) Q
/-! ### a step is one of four -/
abbrev zFr : Type := Unit ⊕ zCfg ⊕ (zOut × zPH) ⊕ (Nat × List Value × List Value)
def zsel {α : Type} (bot : α) (K : zCfg → α) (R : zOut → zPH → α) (C : Nat → List Value → List Value → α) : zFr → α
  | .inl _ => bot
  | .inr (.inl y) => K y
  | .inr (.inr (.inl q)) => R q.1 q.2
  | .inr (.inr (.inr c)) => C c.1 c.2.1 c.2.2
def zfree (E : zEnv) (rt : Option FieldType) (i : Instr) (n : Nat) (x : zAux) (pc : Nat) (ls : zLc) (st : List Value) (h : zPH) : zFr :=
  zact (.inl ()) E rt i n x pc ls st h (fun y => .inr (.inl y)) (fun o h => .inr (.inr (.inl (o, h)))) (fun j a r => .inr (.inr (.inr (j, a, r))))
set_option maxHeartbeats 4000000 in
theorem zact_free {α : Type} (bot : α) (E : zEnv) (rt : Option FieldType) (i : Instr) (n : Nat) (x : zAux) (pc : Nat) (ls : zLc) (st : List Value) (h : zPH) (K : zCfg → α) (R : zOut → zPH → α) (C : Nat → List Value → List Value → α) :
    zact bot E rt i n x pc ls st h K R C = zsel bot K R C (zfree E rt i n x pc ls st h) := by
  cases i <;> simp only [zfree, zact, zget, zob, zan, zix, zel, zif, zbr]
  all_goals (first | rfl | skip)
  all_goals ((repeat' split) <;> first | rfl | (simp_all [zsel]; done))
end
section
/-! ===== the run: more fuel does no harm; what a run comes to, a step at a time ===== -/
def zcr (E : zEnv) (n d j pc len : Nat) (ls : zLc) (h : zPH) (j' : Nat) (as r : List Value) : Option (zOut × zPH) := match d with
  | 0 => none
  | d' + 1 => match zrun E n d' j' (0, zent j' as, [], h) with
    | none => none
    | some (.inl v, h') => zrun E n (d' + 1) j (pc + len, ls, v.toList ++ r, h')
    | some (.inr e, h') => zthr none j pc e ls h' (fun y => zrun E n (d' + 1) j y) (fun o h' => some (o, h'))
theorem zrun_eq (E : zEnv) (n d j pc : Nat) (ls : zLc) (st : List Value) (h : zPH) : zrun E (n + 1) d j (pc, ls, st, h) = match zins j pc with
    | none => none
    | some (i, len, x) => zsel none (fun y => zrun E n d j y) (fun o h' => some (o, h')) (fun j' as r => zcr E n d j pc len ls h j' as r) (zfree E (zrt j) i len x pc ls st h) := by
  rw [zrun]
  cases hi : zins j pc with
  | none => rfl
  | some q =>
    obtain ⟨i, len, x⟩ := q
    show zact none E (zrt j) i len x pc ls st h _ _ _ = _
    rw [zact_free]
    rfl
theorem zrun_at {E : zEnv} {n d j pc len : Nat} {i : Instr} {x : zAux} {ls : zLc} {st : List Value} {h : zPH} (hi : zins j pc = some (i, len, x)) : zrun E (n + 1) d j (pc, ls, st, h) = zsel none (fun y => zrun E n d j y) (fun o h' => some (o, h')) (fun j' as r => zcr E n d j pc len ls h j' as r) (zfree E (zrt j) i len x pc ls st h) := by
  rw [zrun_eq, hi]
theorem zthr_mono {j pc e : Nat} {ls : zLc} {h : zPH} {K K' : zCfg → Option (zOut × zPH)} {q : zOut × zPH} (hK : ∀ y q, K y = some q → K' y = some q) (hq : zthr none j pc e ls h K (fun o h' => some (o, h')) = some q) : zthr none j pc e ls h K' (fun o h' => some (o, h')) = some q := by
  unfold zthr at hq ⊢
  cases hm : zmd j with
  | none => rw [hm] at hq; cases hq
  | some r =>
    rw [hm] at hq
    dsimp only at hq ⊢
    cases hh : r.2.2.2.2.2.2 with
    | nil => rw [hh] at hq; exact hq
    | cons a t =>
      rw [hh] at hq
      dsimp only at hq ⊢
      cases hz : zhl j pc e r.2.2.2.2.1 (a :: t) with
      | none => rw [hz] at hq; cases hq
      | some k =>
        rw [hz] at hq
        dsimp only at hq ⊢
        unfold zif at hq ⊢
        split at hq
        · rename_i hb
          exact hK _ _ hq
        · cases hq
theorem zthr_nat {j pc e : Nat} {ls : zLc} {h : zPH} {K : zCfg → Option (zOut × zPH)} {P : zCfg → Prop} {Q : zOut → zPH → Prop} {q : zOut × zPH} (hP : ∀ y, K y = some q → P y) (hR : Q q.1 q.2) (hq : zthr none j pc e ls h K (fun o h' => some (o, h')) = some q) : zthr False j pc e ls h P Q := by
  unfold zthr at hq ⊢
  cases hm : zmd j with
  | none => rw [hm] at hq; cases hq
  | some r =>
    rw [hm] at hq
    dsimp only at hq ⊢
    cases hh : r.2.2.2.2.2.2 with
    | nil =>
      rw [hh] at hq
      cases hq
      exact hR
    | cons a t =>
      rw [hh] at hq
      dsimp only at hq ⊢
      cases hz : zhl j pc e r.2.2.2.2.1 (a :: t) with
      | none => rw [hz] at hq; cases hq
      | some k =>
        rw [hz] at hq
        dsimp only at hq ⊢
        unfold zif at hq ⊢
        split at hq
        · exact hP _ hq
        · cases hq
theorem zthr_tan {j pc e : Nat} {ls : zLc} {h : zPH} {P : zCfg → Prop} {Q : zOut → zPH → Prop} (hq : zthr False j pc e ls h P Q) : (∃ y, P y ∧ ∀ K : zCfg → Option (zOut × zPH), zthr none j pc e ls h K (fun o h' => some (o, h')) = K y) ∨ (Q (.inr e) h ∧ ∀ K : zCfg → Option (zOut × zPH), zthr none j pc e ls h K (fun o h' => some (o, h')) = some (.inr e, h)) := by
  unfold zthr at hq ⊢
  cases hm : zmd j with
  | none => rw [hm] at hq; exact hq.elim
  | some r =>
    rw [hm] at hq
    dsimp only at hq ⊢
    cases hh : r.2.2.2.2.2.2 with
    | nil =>
      rw [hh] at hq
      exact Or.inr ⟨hq, fun _ => rfl⟩
    | cons a t =>
      rw [hh] at hq
      dsimp only at hq ⊢
      cases hz : zhl j pc e r.2.2.2.2.1 (a :: t) with
      | none => rw [hz] at hq; exact hq.elim
      | some k =>
        rw [hz] at hq
        dsimp only at hq ⊢
        unfold zif at hq ⊢
        split at hq
        · exact Or.inl ⟨_, hq, fun _ => rfl⟩
        · exact hq.elim
theorem zrun_succ (E : zEnv) : ∀ (n d j : Nat) (y : zCfg) (q : zOut × zPH), zrun E n d j y = some q → zrun E (n + 1) d j y = some q
  | 0, _, _, _, _, hq => by rw [zrun] at hq; cases hq
  | n + 1, d, j, (pc, ls, st, h), q, hq => by
    rw [zrun_eq] at hq ⊢
    cases hi : zins j pc with
    | none => rw [hi] at hq; cases hq
    | some z =>
      obtain ⟨i, len, x⟩ := z
      rw [hi] at hq
      dsimp only at hq ⊢
      cases hf : zfree E (zrt j) i len x pc ls st h with
      | inl u => rw [hf] at hq; cases hq
      | inr f =>
        rw [hf] at hq
        rcases f with y | o | ⟨j', as, r⟩
        · exact zrun_succ E n d j y q hq
        · exact hq
        · show zcr E (n + 1) d j pc len ls h j' as r = some q
          have hq : zcr E n d j pc len ls h j' as r = some q := hq
          unfold zcr at hq ⊢
          cases d with
          | zero => cases hq
          | succ d' =>
            dsimp only at hq ⊢
            cases hc : zrun E n d' j' (0, zent j' as, [], h) with
            | none => rw [hc] at hq; cases hq
            | some oh =>
              rw [hc] at hq
              rw [zrun_succ E n d' j' _ oh hc]
              obtain ⟨o | e, h'⟩ := oh
              · exact zrun_succ E n (d' + 1) j _ q hq
              · exact zthr_mono (fun y q hy => zrun_succ E n (d' + 1) j y q hy) hq
theorem zrun_le {E : zEnv} {n m d j : Nat} {y : zCfg} {q : zOut × zPH} (hq : zrun E n d j y = some q) (hm : n ≤ m) : zrun E m d j y = some q := by
  induction hm with
  | refl => exact hq
  | step _ ih => exact zrun_succ E _ _ _ _ _ ih
/-- a call, in what a run comes to -/
def zwc (E : zEnv) (d j pc len : Nat) (ls : zLc) (h : zPH) (Q : zOut → zPH → Prop) (j' : Nat) (as r : List Value) : Prop := match d with
  | 0 => False
  | d' + 1 => zcall E d' j' as h (zback E (d' + 1) j pc len ls r Q)
theorem zwp_at {E : zEnv} {d j pc len : Nat} {i : Instr} {x : zAux} {ls : zLc} {st : List Value} {h : zPH} {Q : zOut → zPH → Prop} (hi : zins j pc = some (i, len, x)) :
    zwp E d j (pc, ls, st, h) Q = zact False E (zrt j) i len x pc ls st h (fun y => zwp E d j y Q) Q (zwc E d j pc len ls h Q) := by
  rw [zact_free]
  apply propext
  constructor
  · rintro ⟨n, q, hq, hQ⟩
    cases n with
    | zero => rw [zrun] at hq; cases hq
    | succ n =>
      rw [zrun_at hi] at hq
      cases hf : zfree E (zrt j) i len x pc ls st h with
      | inl u => rw [hf] at hq; cases hq
      | inr f =>
        rw [hf] at hq
        rcases f with y | o | ⟨j', as, r⟩
        · exact ⟨n, q, hq, hQ⟩
        · cases hq; exact hQ
        · have hq : zcr E n d j pc len ls h j' as r = some q := hq
          show zwc E d j pc len ls h Q j' as r
          unfold zcr at hq
          unfold zwc
          cases d with
          | zero => cases hq
          | succ d' =>
            dsimp only at hq ⊢
            cases hc : zrun E n d' j' (0, zent j' as, [], h) with
            | none => rw [hc] at hq; cases hq
            | some oh =>
              rw [hc] at hq
              obtain ⟨o | e, h'⟩ := oh
              · exact ⟨n, _, hc, n, q, hq, hQ⟩
              · have hb : zthr False j pc e ls h' (fun y => zwp E (d' + 1) j y Q) Q := zthr_nat (fun y hy => ⟨n, q, hy, hQ⟩) hQ hq
                exact ⟨n, _, hc, hb⟩
  · intro hw
    cases hf : zfree E (zrt j) i len x pc ls st h with
    | inl u => rw [hf] at hw; exact hw.elim
    | inr f =>
      rw [hf] at hw
      rcases f with y | o | ⟨j', as, r⟩
      · obtain ⟨n, q, hq, hQ⟩ := hw
        exact ⟨n + 1, q, by rw [zrun_at hi, hf]; exact hq, hQ⟩
      · exact ⟨1, o, by rw [zrun_at hi, hf]; rfl, hw⟩
      · have hw : zwc E d j pc len ls h Q j' as r := hw
        unfold zwc at hw
        cases d with
        | zero => exact hw.elim
        | succ d' =>
          obtain ⟨n1, ⟨o, h'⟩, hc, hb⟩ := hw
          rcases o with v | e
          · obtain ⟨n2, q, hq, hQ⟩ := hb
            refine ⟨max n1 n2 + 1, q, ?_, hQ⟩
            rw [zrun_at hi, hf]
            show zcr E (max n1 n2) (d' + 1) j pc len ls h j' as r = some q
            unfold zcr
            dsimp only
            rw [zrun_le hc (Nat.le_max_left _ _)]
            exact zrun_le hq (Nat.le_max_right _ _)
          · have hb : zthr False j pc e ls h' (fun y => zwp E (d' + 1) j y Q) Q := hb
            rcases zthr_tan hb with ⟨y, ⟨n2, q, hq, hQ⟩, hk⟩ | ⟨hQ, hk⟩
            · refine ⟨max n1 n2 + 1, q, ?_, hQ⟩
              rw [zrun_at hi, hf]
              show zcr E (max n1 n2) (d' + 1) j pc len ls h j' as r = some q
              unfold zcr
              dsimp only
              rw [zrun_le hc (Nat.le_max_left _ _)]
              dsimp only
              rw [hk]
              exact zrun_le hq (Nat.le_max_right _ _)
            · refine ⟨n1 + 1, (.inr e, h'), ?_, hQ⟩
              rw [zrun_at hi, hf]
              show zcr E n1 (d' + 1) j pc len ls h j' as r = some (.inr e, h')
              unfold zcr
              dsimp only
              rw [hc]
              dsimp only
              rw [hk]
/-- weaker ends -/
theorem zwp_mono {E : zEnv} {d j : Nat} {y : zCfg} {Q Q' : zOut → zPH → Prop} (hw : zwp E d j y Q) (hQ : ∀ o h, Q o h → Q' o h) : zwp E d j y Q' := by
  obtain ⟨n, q, h1, h2⟩ := hw
  exact ⟨n, q, h1, hQ _ _ h2⟩
/-! ### what has been made never shrinks -/
def zge (h h' : zPH) : Prop := h.2.1 ≤ h'.2.1 ∧ h.2.2 ≤ h'.2.2
theorem zge.rf {h : zPH} : zge h h := ⟨Nat.le_refl _, Nat.le_refl _⟩
theorem zge.tr {a b c : zPH} (h1 : zge a b) (h2 : zge b c) : zge a c := ⟨Nat.le_trans h1.1 h2.1, Nat.le_trans h1.2 h2.2⟩
def zgf (h : zPH) : zFr → Prop
  | .inl _ => True
  | .inr (.inl y) => zge h y.2.2.2
  | .inr (.inr (.inl q)) => zge h q.2
  | .inr (.inr (.inr _)) => True
set_option maxHeartbeats 4000000 in
theorem zfree_ge (E : zEnv) (rt : Option FieldType) (i : Instr) (n : Nat) (x : zAux) (pc : Nat) (ls : zLc) (st : List Value) (h : zPH) : zgf h (zfree E rt i n x pc ls st h) := by
  cases i <;> simp only [zfree, zact, zget, zob, zan, zix, zel, zif, zbr]
  all_goals ((repeat' split) <;> first | exact zge.rf | exact trivial | (constructor <;> simp [zset, zalloc, zalloc2, zalloc3]; done) | (constructor <;> simp [zset, zalloc, zalloc2, zalloc3] <;> omega))
theorem zthr_cases {j pc e : Nat} {ls : zLc} {h : zPH} {K : zCfg → Option (zOut × zPH)} {q : zOut × zPH} (hq : zthr none j pc e ls h K (fun o h' => some (o, h')) = some q) : (∃ pc' ls', K (pc', ls', [], h) = some q) ∨ q = (.inr e, h) := by
  unfold zthr at hq
  cases hm : zmd j with
  | none => rw [hm] at hq; cases hq
  | some r =>
    rw [hm] at hq
    dsimp only at hq
    cases hh : r.2.2.2.2.2.2 with
    | nil =>
      rw [hh] at hq
      cases hq
      exact Or.inr rfl
    | cons a t =>
      rw [hh] at hq
      dsimp only at hq
      cases hz : zhl j pc e r.2.2.2.2.1 (a :: t) with
      | none => rw [hz] at hq; cases hq
      | some k =>
        rw [hz] at hq
        dsimp only at hq
        unfold zif at hq
        split at hq
        · exact Or.inl ⟨_, _, hq⟩
        · cases hq
theorem zrun_ge (E : zEnv) : ∀ (n d j : Nat) (y : zCfg) (q : zOut × zPH), zrun E n d j y = some q → zge y.2.2.2 q.2
  | 0, _, _, _, _, hq => by rw [zrun] at hq; cases hq
  | n + 1, d, j, (pc, ls, st, h), q, hq => by
    rw [zrun_eq] at hq
    cases hi : zins j pc with
    | none => rw [hi] at hq; cases hq
    | some z =>
      obtain ⟨i, len, x⟩ := z
      rw [hi] at hq
      dsimp only at hq
      have hg := zfree_ge E (zrt j) i len x pc ls st h
      cases hf : zfree E (zrt j) i len x pc ls st h with
      | inl u => rw [hf] at hq; cases hq
      | inr f =>
        rw [hf] at hq hg
        rcases f with y | o | ⟨j', as, r⟩
        · exact zge.tr hg (zrun_ge E n d j y q hq)
        · cases hq; exact hg
        · have hq : zcr E n d j pc len ls h j' as r = some q := hq
          unfold zcr at hq
          cases d with
          | zero => cases hq
          | succ d' =>
            dsimp only at hq
            cases hc : zrun E n d' j' (0, zent j' as, [], h) with
            | none => rw [hc] at hq; cases hq
            | some oh =>
              rw [hc] at hq
              have h1 := zrun_ge E n d' j' _ oh hc
              obtain ⟨o | e, h'⟩ := oh
              · exact zge.tr h1 (zrun_ge E n (d' + 1) j _ q hq)
              · rcases zthr_cases hq with ⟨pc', ls', hk⟩ | rfl
                · exact zge.tr h1 (zrun_ge E n (d' + 1) j _ q hk)
                · exact h1
end
section
/-! ===== what stands on the library's shelf 42: Math.min(float), Math.abs(double), new int[n][k], new int[n][k][r] ===== -/
section ZSH
variable {p : Program} {l : Launch} {e : Env} {R : Room} {s : State} {m : MethodId} {args : Array Value} {below : List Frame} {meth : Method} {c : Code} {H : Heap} {locs : List Loc} {cells slots : Nat} {Q : State → Prop}
variable {cc : ByteArray} {pc : Nat} {ls : Array Slot} {rest : List Value}
theorem zr_min (hexec : p.tables.exec = Jvm.exec) (hb : c.code = cc) (hml : c.maxLocals = ls.size) {own : String} {index : Nat} (hown : s.vm.findClass own = some m.cls)
    (hlink : (Jvm.Cond.methodLink own index Jvm.Free.Fl.Abs.minFN).before args s = true) (hstat : (Jvm.Cond.static Jvm.Free.Fl.Abs.minFN).before args s = true) (hini : (Jvm.Cond.initialized "java/lang/Math").before args s = true)
    (hcode : (Jvm.Cond.code Jvm.Free.Fl.Abs.minFN Jvm.Free.Fl.Abs.minFCode 2 (some .float)).before args s = true) {a b : UInt32} (ha : zn32 a = true) (hb2 : zn32 b = true) (hframes : 1 ≤ R.frames) (hlocals : (rest.map fun v => v.category).sum + 13 ≤ R.locals) (hcells : cells ≤ R.cells) (hslots : slots ≤ R.slots)
    (hdg : decode cc pc = .ok (.invokestatic index, 3))
    (k : W p l e R s m args below meth c H locs cells slots Q (F0 m (pc + 3) ls (.float (Native.java_lang_Math.nans.pick32 false a b) :: rest))) : W p l e R s m args below meth c H locs cells slots Q (F0 m pc ls (.float b :: .float a :: rest)) := by
  intro T hT X
  obtain ⟨v, vm₁, B, hW, X', ⟨hv, hB⟩, st⟩ := callS X hexec hown hlink hstat hini hcode ⟨by decide, by decide⟩ (Jvm.Free.Fl.Abs.minF_pays (l := l) (R := R) (p := p) (e := e) (below := below) (s := s) (sargs := args) (len := 3) (W := (rest.map fun v => v.category).sum) a b hcode hframes hlocals)
    (g := F0 m pc ls (.float b :: .float a :: rest)) rfl hml.symm (argsL := [.float a, .float b]) (rest := rest) (fun sig h => by
      have h2 : (parseMethodDescriptor Jvm.Free.Fl.Abs.minFN.desc).map (fun d => d.parameters.length) = some 2 := by decide +kernel
      rw [h] at h2
      exact (Option.some.inj h2).symm) rfl (by show 2 * 0 + _ ≤ _; omega) (by rw [hb]; exact hdg) (fun vm₁ _ => ⟨hcells, hslots, rfl, of_decide_eq_true ha, of_decide_eq_true hb2⟩)
  subst hv
  subst hB
  obtain ⟨t, a1, b1⟩ := k (T.setVm vm₁) hT X'
  exact ⟨t, st t a1, b1⟩
theorem zr_abs (hexec : p.tables.exec = Jvm.exec) (hb : c.code = cc) (hml : c.maxLocals = ls.size) {own : String} {index : Nat} (hown : s.vm.findClass own = some m.cls)
    (hlink : (Jvm.Cond.methodLink own index Jvm.Free.Fl.Abs.absDN).before args s = true) (hstat : (Jvm.Cond.static Jvm.Free.Fl.Abs.absDN).before args s = true) (hini : (Jvm.Cond.initialized "java/lang/Math").before args s = true)
    (hcode : (Jvm.Cond.code Jvm.Free.Fl.Abs.absDN Jvm.Free.Fl.Abs.absDCode 2 (some .double)).before args s = true) {a : UInt64} (ha : zn64 a = true) (hframes : 1 ≤ R.frames) (hlocals : (rest.map fun v => v.category).sum + 13 ≤ R.locals) (hcells : cells ≤ R.cells) (hslots : slots ≤ R.slots)
    (hdg : decode cc pc = .ok (.invokestatic index, 3))
    (k : W p l e R s m args below meth c H locs cells slots Q (F0 m (pc + 3) ls (.double (a &&& 0x7fffffffffffffff) :: rest))) : W p l e R s m args below meth c H locs cells slots Q (F0 m pc ls (.double a :: rest)) := by
  intro T hT X
  obtain ⟨v, vm₁, B, hW, X', ⟨hv, hB⟩, st⟩ := callS X hexec hown hlink hstat hini hcode ⟨by decide, by decide⟩ (Jvm.Free.Fl.Abs.absD_pays (l := l) (R := R) (p := p) (e := e) (below := below) (s := s) (sargs := args) (len := 3) (W := (rest.map fun v => v.category).sum) a hcode hframes hlocals)
    (g := F0 m pc ls (.double a :: rest)) rfl hml.symm (argsL := [.double a]) (rest := rest) (fun sig h => by
      have h2 : (parseMethodDescriptor Jvm.Free.Fl.Abs.absDN.desc).map (fun d => d.parameters.length) = some 1 := by decide +kernel
      rw [h] at h2
      exact (Option.some.inj h2).symm) rfl (by show 2 * 0 + _ ≤ _; omega) (by rw [hb]; exact hdg) (fun vm₁ _ => ⟨hcells, hslots, rfl, of_decide_eq_true ha⟩)
  subst hv
  subst hB
  obtain ⟨t, a1, b1⟩ := k (T.setVm vm₁) hT X'
  exact ⟨t, st t a1, b1⟩
end ZSH
/-! ### arrays of arrays -/
theorem zrefs_len (q t : Nat) : ∀ n, (zrefs q t n).length = n := by
  intro n
  induction n generalizing q with
  | zero => rfl
  | succ n ih => simp [zrefs, ih]
theorem zrefs_at (q t : Nat) : ∀ n j, j < n → (zrefs q t n)[j]? = some (.ref (q + t * j)) := by
  intro n
  induction n generalizing q with
  | zero => intro j h; omega
  | succ n ih =>
    intro j h
    cases j with
    | zero => simp [zrefs]
    | succ j =>
      show (zrefs (q + t) t n)[j]? = _
      rw [ih (q + t) j (by omega), Nat.mul_succ, Nat.add_assoc q t, Nat.add_comm t (t * j)]
/-- the outer row, i of its places told: the j-th is h0 + 1 + t * j -/
def zoutC (c : ClassId) (N h0 t : Nat) : Nat → Cell
  | 0 => { cls := c, slots := Array.replicate N .null, vm := .none }
  | i + 1 => (zoutC c N h0 t i).setSlot i (.ref (h0 + 1 + t * i))
theorem zoutC_facts (c : ClassId) (N h0 t : Nat) : ∀ i, (zoutC c N h0 t i).cls = c ∧ (zoutC c N h0 t i).vm = .none ∧ (zoutC c N h0 t i).slots.size = N
  | 0 => ⟨rfl, rfl, by simp [zoutC]⟩
  | i + 1 => by
    obtain ⟨a, b, d⟩ := zoutC_facts c N h0 t i
    exact ⟨by simp [zoutC, Cell.setSlot, a], by simp [zoutC, Cell.setSlot, b], by simp [zoutC, Cell.setSlot, d]⟩
theorem zoutC_form (c : ClassId) (N h0 t : Nat) : ∀ i, zoutC c N h0 t i = { cls := c, slots := (zoutC c N h0 t i).slots, vm := .none }
  | 0 => rfl
  | i + 1 => by
    have ih := zoutC_form c N h0 t i
    show (zoutC c N h0 t i).setSlot i _ = _
    rw [ih]
    simp [zoutC, Cell.setSlot]
theorem zoutC_slot (c : ClassId) (N h0 t : Nat) : ∀ i j, j < N → (zoutC c N h0 t i).slots[j]? = some (if j < i then .ref (h0 + 1 + t * j) else .null)
  | 0, j, hj => by simp [zoutC, hj]
  | i + 1, j, hj => by
    have f3 := (zoutC_facts c N h0 t i).2.2
    show ((zoutC c N h0 t i).setSlot i (.ref (h0 + 1 + t * i))).slots[j]? = _
    by_cases h : i = j
    · subst h
      rw [if_pos (Nat.lt_succ_self _)]
      exact Cell.slots_setSlot_self _ (by rw [f3]; exact hj)
    · rw [slot_ne _ _ h, zoutC_slot c N h0 t i j hj]
      by_cases h2 : j < i
      · rw [if_pos h2, if_pos (by omega)]
      · rw [if_neg h2, if_neg (by omega)]
theorem zoutC_all (c : ClassId) (N h0 t : Nat) : zoutC c N h0 t N = { cls := c, slots := (zrefs (h0 + 1) t N).toArray, vm := .none } := by
  rw [zoutC_form c N h0 t N]
  congr 1
  apply Array.ext_getElem?
  intro j
  have f3 := (zoutC_facts c N h0 t N).2.2
  by_cases hj : j < N
  · rw [zoutC_slot c N h0 t N j hj, if_pos hj, List.getElem?_toArray, zrefs_at _ _ _ _ hj]
  · rw [Array.getElem?_eq_none (by omega), List.getElem?_toArray, List.getElem?_eq_none (by rw [zrefs_len]; omega)]
theorem zoutC_is (c : ClassId) (N h0 : Nat) : ∀ i, Jvm.Free.Multi.outerC c N h0 i = zoutC c N h0 1 i
  | 0 => rfl
  | i + 1 => by
    show (Jvm.Free.Multi.outerC c N h0 i).setSlot i (.ref (h0 + 1 + i)) = (zoutC c N h0 1 i).setSlot i (.ref (h0 + 1 + 1 * i))
    rw [zoutC_is c N h0 i, Nat.one_mul]
section ZMU
variable {p : Program} {l : Launch} {e : Env} {R : Room} {s : State} {m : MethodId} {args : Array Value} {below : List Frame} {meth : Method} {c : Code} {H : Heap} {locs : List Loc} {cells slots : Nat} {Q : State → Prop}
variable {cc : ByteArray} {pc : Nat} {ls : Array Slot} {rest : List Value}
theorem zr_multi2 (hexec : p.tables.exec = Jvm.exec) (hb : c.code = cc) {own : String} {index : Nat} (hown : s.vm.findClass own = some m.cls) (hclink : (Jvm.Cond.classLink own index "[[I").before args s = true)
    (hover : (Jvm.Cond.arrayOver (.array .int)).before args s = true) (harr : (Jvm.Cond.arrayClass .int).before args s = true) {cA cI : ClassId} (hA : s.vm.findClass "[[I" = some cA) (hI : s.vm.findClass "[I" = some cI) {n k : Int32} (hn : ¬ n < 0) (hk : ¬ k < 0) (hb1 : n.toNatClampNeg ≤ 1000) (hb2 : k.toNatClampNeg ≤ 1000)
    (hcells : cells + (1 + n.toNatClampNeg) ≤ R.cells) (hslots : slots + (n.toNatClampNeg + n.toNatClampNeg * k.toNatClampNeg) ≤ R.slots) (hdg : decode cc pc = .ok (.multianewarray index 2, 4))
    (kk : ∀ H1 : Heap, H1.size = H.size + (1 + n.toNatClampNeg) → (∀ q, q < H.size → H1[q]? = H[q]?) → H1[H.size]? = some { cls := cA, slots := (zrefs (H.size + 1) 1 n.toNatClampNeg).toArray, vm := .none } →
      (∀ j, j < n.toNatClampNeg → H1[H.size + 1 + j]? = some { cls := cI, slots := (List.replicate k.toNatClampNeg (.int 0)).toArray, vm := .none }) →
      W p l e R s m args below meth c H1 locs (cells + (1 + n.toNatClampNeg)) (slots + (n.toNatClampNeg + n.toNatClampNeg * k.toNatClampNeg)) Q (F0 m (pc + 4) ls (.ref H.size :: rest))) :
    W p l e R s m args below meth c H locs cells slots Q (F0 m pc ls (.int k :: .int n :: rest)) := by
  intro T hT X
  obtain ⟨vm₁, cA', comp, -, fA, fC, -, -, X', step⟩ := X.multianewarray2F hexec hown hclink hover harr (g := F0 m pc ls (.int k :: .int n :: rest)) rfl (by rw [hb]; exact hdg) (n := n) (k := k) (rest := rest) rfl hn hk (by omega) (by show k.toNatClampNeg * 4 ≤ _; omega) (by omega) rfl rfl (by omega) (by omega)
  have e1 : cA' = cA := Option.some.inj (fA.symm.trans hA)
  have e2 : comp = cI := Option.some.inj (fC.symm.trans hI)
  subst e1; subst e2
  generalize hF : Jvm.Free.Multi.fill (T.setVm vm₁) cA' comp n.toNatClampNeg k.toNatClampNeg (defaultValue .int) n.toNatClampNeg = F at X' step
  have hTh : (T.setVm vm₁).heap = H := hT
  obtain ⟨f1, f2, -, -⟩ := Jvm.Free.Multi.fill_facts (T.setVm vm₁) cA' comp n.toNatClampNeg k.toNatClampNeg (defaultValue .int) n.toNatClampNeg
  rw [hF, hTh] at f1 f2
  have X2 : Stand p l e R s m args below meth c F locs (cells + (1 + n.toNatClampNeg)) (slots + (n.toNatClampNeg + n.toNatClampNeg * k.toNatClampNeg)) := by
    have e3 : cells + 1 + n.toNatClampNeg = cells + (1 + n.toNatClampNeg) := by omega
    have e4 : slots + n.toNatClampNeg + n.toNatClampNeg * k.toNatClampNeg = slots + (n.toNatClampNeg + n.toNatClampNeg * k.toNatClampNeg) := by omega
    rw [e3, e4] at X'
    exact X'
  obtain ⟨t, a1, b1⟩ := kk F.heap (by rw [f1]; omega) (fun q hq => by
    have := Jvm.Free.Multi.fill_old (T.setVm vm₁) cA' comp n.toNatClampNeg k.toNatClampNeg (defaultValue .int) (a := q) (by rw [hTh]; exact hq) n.toNatClampNeg
    rw [hF, hTh] at this
    exact this) (by rw [f2, zoutC_is, zoutC_all]) (fun j hj => by
    have := Jvm.Free.Multi.fill_inner (T.setVm vm₁) cA' comp n.toNatClampNeg k.toNatClampNeg (defaultValue .int) n.toNatClampNeg j hj
    rw [hF, hTh] at this
    rw [this]
    show some ({ cls := comp, slots := Array.replicate k.toNatClampNeg (.int 0), vm := .none } : Cell) = _
    congr 2) F rfl X2
  refine ⟨t, step t ?_, b1⟩
  rw [hT]
  exact a1
/-! ### three of them -/
theorem zfill_old (s : State) (c comp : ClassId) (N M : Nat) (dv : Value) (a : Nat) (ha : a < s.heap.size) (i : Nat) : (Jvm.Free.Multi.fill s c comp N M dv i).heap[a]? = s.heap[a]? := Jvm.Free.Multi.fill_old s c comp N M dv ha i
def zfill3 (s : State) (c3 c2 c1 : ClassId) (N M K : Nat) : Nat → State
  | 0 => s.pushCell (zoutC c3 N s.heap.size (1 + M) 0)
  | i + 1 => (Jvm.Free.Multi.fill (zfill3 s c3 c2 c1 N M K i) c2 c1 M K (.int 0) M).setCell s.heap.size (zoutC c3 N s.heap.size (1 + M) (i + 1))
theorem zfill3_facts (s : State) (c3 c2 c1 : ClassId) (N M K : Nat) : ∀ i, (zfill3 s c3 c2 c1 N M K i).heap.size = s.heap.size + 1 + i * (1 + M) ∧ (zfill3 s c3 c2 c1 N M K i).heap[s.heap.size]? = some (zoutC c3 N s.heap.size (1 + M) i) ∧
    (zfill3 s c3 c2 c1 N M K i).vm = s.vm ∧ (zfill3 s c3 c2 c1 N M K i).slotsUsed = s.slotsUsed + N + i * (M + M * K)
  | 0 => ⟨by simp [zfill3], by simp [zfill3], rfl, by simp [zfill3, zoutC]⟩
  | i + 1 => by
    obtain ⟨a, b, d, u⟩ := zfill3_facts s c3 c2 c1 N M K i
    obtain ⟨f1, f2, f3, f4⟩ := Jvm.Free.Multi.fill_facts (zfill3 s c3 c2 c1 N M K i) c2 c1 M K (.int 0) M
    have hlt : s.heap.size < (zfill3 s c3 c2 c1 N M K i).heap.size := by omega
    have hb' : (Jvm.Free.Multi.fill (zfill3 s c3 c2 c1 N M K i) c2 c1 M K (.int 0) M).heap[s.heap.size]? = some (zoutC c3 N s.heap.size (1 + M) i) := by rw [Jvm.Free.Multi.fill_old _ _ _ _ _ _ hlt]; exact b
    refine ⟨?_, State.heap_setCell_self hb', by simp [zfill3, f3, d], ?_⟩
    · have : (zfill3 s c3 c2 c1 N M K (i + 1)).heap.size = (Jvm.Free.Multi.fill (zfill3 s c3 c2 c1 N M K i) c2 c1 M K (.int 0) M).heap.size := size_setCell _ _ _
      rw [this, f1, a, Nat.succ_mul]
      omega
    · have : (zfill3 s c3 c2 c1 N M K (i + 1)).slotsUsed = (Jvm.Free.Multi.fill (zfill3 s c3 c2 c1 N M K i) c2 c1 M K (.int 0) M).slotsUsed := rfl
      rw [this, f4, u, Nat.succ_mul]
      omega
theorem zfill3_setTop (s : State) (f : JFrame) (c3 c2 c1 : ClassId) (N M K : Nat) : ∀ i, zfill3 (s.setTop f) c3 c2 c1 N M K i = (zfill3 s c3 c2 c1 N M K i).setTop f
  | 0 => rfl
  | i + 1 => by simp only [zfill3, zfill3_setTop s f c3 c2 c1 N M K i, Jvm.Free.Multi.fill_setTop, State.heap_setTop, State.setCell_setTop]
theorem zfill3_old (s : State) (c3 c2 c1 : ClassId) (N M K : Nat) {a : Addr} (ha : a < s.heap.size) : ∀ i, (zfill3 s c3 c2 c1 N M K i).heap[a]? = s.heap[a]?
  | 0 => State.heap_pushCell_of_lt _ _ ha
  | i + 1 => by
    have f1 := (zfill3_facts s c3 c2 c1 N M K i).1
    show ((Jvm.Free.Multi.fill (zfill3 s c3 c2 c1 N M K i) c2 c1 M K (.int 0) M).setCell s.heap.size _).heap[a]? = _
    rw [State.heap_setCell_other (Nat.ne_of_gt ha), zfill_old (zfill3 s c3 c2 c1 N M K i) c2 c1 M K (.int 0) a (Nat.lt_of_lt_of_le ha (by omega)) M]
    exact zfill3_old s c3 c2 c1 N M K ha i
/-- what lies in the i-th block -/
theorem zfill3_in (s : State) (c3 c2 c1 : ClassId) (N M K : Nat) : ∀ i b, b < i → (zfill3 s c3 c2 c1 N M K i).heap[s.heap.size + 1 + b * (1 + M)]? = some (zoutC c2 M (s.heap.size + 1 + b * (1 + M)) 1 M) ∧
    ∀ j, j < M → (zfill3 s c3 c2 c1 N M K i).heap[s.heap.size + 1 + b * (1 + M) + 1 + j]? = some (Jvm.Free.Multi.innerC c1 K (.int 0))
  | 0, _, h => absurd h (Nat.not_lt_zero _)
  | i + 1, b, h => by
    have f1 := (zfill3_facts s c3 c2 c1 N M K i).1
    obtain ⟨g1, g2, -, -⟩ := Jvm.Free.Multi.fill_facts (zfill3 s c3 c2 c1 N M K i) c2 c1 M K (.int 0) M
    have out : ∀ q, s.heap.size < q → (zfill3 s c3 c2 c1 N M K (i + 1)).heap[q]? = (Jvm.Free.Multi.fill (zfill3 s c3 c2 c1 N M K i) c2 c1 M K (.int 0) M).heap[q]? := fun q hq => State.heap_setCell_other (Nat.ne_of_lt hq)
    rcases Nat.lt_or_ge b i with hb | hb
    · obtain ⟨i1, i2⟩ := zfill3_in s c3 c2 c1 N M K i b hb
      have hm : (b + 1) * (1 + M) ≤ i * (1 + M) := Nat.mul_le_mul_right _ hb
      rw [Nat.succ_mul] at hm
      refine ⟨?_, fun j hj => ?_⟩
      · rw [out _ (by omega), zfill_old (zfill3 s c3 c2 c1 N M K i) c2 c1 M K (.int 0) (s.heap.size + 1 + b * (1 + M)) (by omega) M]; exact i1
      · rw [out _ (by omega), zfill_old (zfill3 s c3 c2 c1 N M K i) c2 c1 M K (.int 0) (s.heap.size + 1 + b * (1 + M) + 1 + j) (by omega) M]; exact i2 j hj
    · have hbi : b = i := by omega
      subst hbi
      refine ⟨?_, fun j hj => ?_⟩
      · rw [out _ (by omega), ← f1, g2, zoutC_is]
      · rw [out _ (by omega), ← f1]
        exact Jvm.Free.Multi.fill_inner (zfill3 s c3 c2 c1 N M K b) c2 c1 M K (.int 0) M j hj
theorem zfilled3 {T : State} (X : Stand p l e R s m args below meth c T locs cells slots) (c3 c2 c1 : ClassId) (N M K : Nat) :
    ∀ i, Stand p l e R s m args below meth c (zfill3 T c3 c2 c1 N M K i) locs (cells + 1 + i * (1 + M)) (slots + N + i * (M + M * K))
  | 0 => by
    have h := X.pushed (zoutC c3 N T.heap.size (1 + M) 0)
    rw [(zoutC_facts c3 N T.heap.size (1 + M) 0).2.2] at h
    simpa [zfill3] using h
  | i + 1 => by
    have Xi := zfilled3 X c3 c2 c1 N M K i
    obtain ⟨f1, f2, f3, f4⟩ := zfill3_facts T c3 c2 c1 N M K i
    have hlt0 : T.heap.size < (zfill3 T c3 c2 c1 N M K i).heap.size := by rw [f1]; omega
    have hnew : s.heap.size ≤ T.heap.size := X.heapGrown
    have X1 := (Xi.filled c2 c1 M K (.int 0) M).dropFresh (fun x hx => by
      obtain ⟨j, -, rfl⟩ := List.mem_map.mp hx
      show s.heap.size ≤ (zfill3 T c3 c2 c1 N M K i).heap.size
      omega)
    have hcell : (Jvm.Free.Multi.fill (zfill3 T c3 c2 c1 N M K i) c2 c1 M K (.int 0) M).heap[T.heap.size]? = some (zoutC c3 N T.heap.size (1 + M) i) := by rw [Jvm.Free.Multi.fill_old _ _ _ _ _ _ hlt0]; exact f2
    have X2 := (X1.stored hcell i (.ref (T.heap.size + 1 + (1 + M) * i))).dropFresh (fun x hx => by
      rw [List.mem_singleton.mp hx]
      exact hnew)
    have e3 : cells + 1 + i * (1 + M) + 1 + M = cells + 1 + (i + 1) * (1 + M) := by rw [Nat.succ_mul]; omega
    have e4 : slots + N + i * (M + M * K) + M + M * K = slots + N + (i + 1) * (M + M * K) := by rw [Nat.succ_mul]; omega
    rw [e3, e4] at X2
    exact X2
end ZMU
section ZMK
variable {E : CtlPost} {e : Env} {d : Bool} {acts : List Action} {s : State}
set_option maxHeartbeats 1000000 in
theorem zwp_make3 {c3 c2 c1 cc : ClassId} {k3 k2 k1 : Class} {n m r : Int32} (hk3 : s.vm.classes[c3]? = some k3) (hkind3 : k3.kind = .array c2 (.array (.array .int))) (hk2 : s.vm.classes[c2]? = some k2) (hkind2 : k2.kind = .array c1 (.array .int))
    (hk1 : s.vm.classes[c1]? = some k1) (hkind1 : k1.kind = .array cc .int) (hn : ¬ n < 0) (hm : ¬ m < 0) (hr : ¬ r < 0)
    (hl1 : ¬ n.toNatClampNeg > e.platform.arrayLengthLimit) (hh1 : ¬ n.toNatClampNeg * 4 > e.platform.maxHeapBytes)
    (hl2 : ¬ m.toNatClampNeg > e.platform.arrayLengthLimit) (hh2 : ¬ m.toNatClampNeg * 4 > e.platform.maxHeapBytes)
    (hl3 : ¬ r.toNatClampNeg > e.platform.arrayLengthLimit) (hh3 : ¬ r.toNatClampNeg * 4 > e.platform.maxHeapBytes)
    (hc : s.heap.size + 1 + n.toNatClampNeg * (1 + m.toNatClampNeg) ≤ e.platform.maxCells) (hs : s.slotsUsed + n.toNatClampNeg + n.toNatClampNeg * (m.toNatClampNeg + m.toNatClampNeg * r.toNatClampNeg) ≤ e.platform.maxSlots)
    {Q : Addr → Pre} (hq : ∀ d' acts', Q s.heap.size d' acts' (zfill3 s c3 c2 c1 n.toNatClampNeg m.toNatClampNeg r.toNatClampNeg n.toNatClampNeg)) :
    wp (multianewarray.make c3 [n, m, r]) Q E e d acts s := by
  have hfind : ([m, r].find? (· < 0)) = none := by simp [hm, hr]
  rw [multianewarray.make]
  simp only [wp_bind', W.ite, hn, if_false, wp_pure', W.theClass, hk3, hkind3, Option.some.injEq, exists_eq_left']
  refine Jvm.Free.Multi.wp_newArray hk3 hkind3 hl1 hh1 rfl rfl (by omega) (by omega) ?_
  simp only [hfind]
  rw [ite_self, wp_bind', Std.Legacy.Range.forIn_eq_forIn_range']
  have hsz : ([:n.toNatClampNeg] : Std.Legacy.Range).size = n.toNatClampNeg := by simp [Std.Legacy.Range.size]
  rw [hsz]
  show wp (forIn (List.range' 0 n.toNatClampNeg 1) PUnit.unit _) _ E e d acts _
  refine wp_forIn_inv (fun rest s' => ∃ i, i ≤ n.toNatClampNeg ∧ rest = List.range' i (n.toNatClampNeg - i) ∧ s' = zfill3 s c3 c2 c1 n.toNatClampNeg m.toNatClampNeg r.toNatClampNeg i) _ _ ⟨0, Nat.zero_le _, rfl, rfl⟩ ?_ ?_
  · rintro x rest s' d' acts' Q' ⟨i, hi, hl, rfl⟩ hnext
    have hlt : i < n.toNatClampNeg := by
      rcases Nat.lt_or_ge i n.toNatClampNeg with h | h
      · exact h
      · rw [show n.toNatClampNeg - i = 0 from by omega] at hl; simp at hl
    obtain ⟨rfl, hrest⟩ : x = i ∧ rest = List.range' (i + 1) (n.toNatClampNeg - (i + 1)) := by
      rw [show n.toNatClampNeg - i = (n.toNatClampNeg - (i + 1)) + 1 from by omega, List.range'_succ] at hl
      exact ⟨(List.cons.inj hl).1, (List.cons.inj hl).2⟩
    obtain ⟨f1, f2, f3, f4⟩ := zfill3_facts s c3 c2 c1 n.toNatClampNeg m.toNatClampNeg r.toNatClampNeg x
    obtain ⟨o1, o2, o3⟩ := zoutC_facts c3 n.toNatClampNeg s.heap.size (1 + m.toNatClampNeg) x
    have hmul : (x + 1) * (1 + m.toNatClampNeg) ≤ n.toNatClampNeg * (1 + m.toNatClampNeg) := Nat.mul_le_mul_right _ hlt
    have hmul2 : (x + 1) * (m.toNatClampNeg + m.toNatClampNeg * r.toNatClampNeg) ≤ n.toNatClampNeg * (m.toNatClampNeg + m.toNatClampNeg * r.toNatClampNeg) := Nat.mul_le_mul_right _ hlt
    rw [Nat.succ_mul] at hmul hmul2
    simp only [wp_bind']
    refine Jvm.Free.Multi.wp_make2 (k := k2) (kc := k1) (comp := c1) (cc := cc) (t0 := .array .int) (type := .int) (by rw [f3]; exact hk2) hkind2 rfl (by rw [f3]; exact hk1) hkind1 hm hr hl2 hh2 hl3 hh3 rfl rfl (by rw [f1]; omega) (by rw [f4]; omega) (fun d2 acts2 => ?_)
    have hlt0 : s.heap.size < (zfill3 s c3 c2 c1 n.toNatClampNeg m.toNatClampNeg r.toNatClampNeg x).heap.size := by rw [f1]; omega
    obtain ⟨g1, g2, g3, g4⟩ := Jvm.Free.Multi.fill_facts (zfill3 s c3 c2 c1 n.toNatClampNeg m.toNatClampNeg r.toNatClampNeg x) c2 c1 m.toNatClampNeg r.toNatClampNeg (defaultValue .int) m.toNatClampNeg
    simp only [wp_bind', W.writeLoc, wp_pure']
    refine ⟨zoutC c3 n.toNatClampNeg s.heap.size (1 + m.toNatClampNeg) x, by rw [Jvm.Free.Multi.fill_old _ _ _ _ _ _ hlt0]; exact f2, by rw [o2]; simp, by rw [o3]; exact hlt, ?_, hnext _ _ _ ⟨x + 1, hlt, hrest, ?_⟩⟩
    · rw [o1, o2]
      simp [State.fitsSlot, State.slotType?, g3, f3, hk3, hkind3, Jvm.Free.Multi.refFits (t := .array (.array .int)) rfl _ (Or.inr ⟨_, rfl⟩)]
    · rw [f1, Nat.mul_comm x]; rfl
  · rintro s' d' acts' ⟨i, hi, hl, rfl⟩
    have hiN : i = n.toNatClampNeg := by
      rcases Nat.lt_or_ge i n.toNatClampNeg with h | h
      · rw [show n.toNatClampNeg - i = (n.toNatClampNeg - (i + 1)) + 1 from by omega, List.range'_succ] at hl; cases hl
      · omega
    subst hiN
    simp only [wp_pure']
    exact hq _ _
end ZMK
section ZMW
variable {p : Program} {l : Launch} {e : Env} {R : Room} {s : State} {m : MethodId} {args : Array Value} {below : List Frame} {meth : Method} {c : Code} {H : Heap} {locs : List Loc} {cells slots : Nat} {Q : State → Prop}
variable {cc : ByteArray} {pc : Nat} {ls : Array Slot} {rest : List Value}
set_option maxHeartbeats 1000000 in
theorem zr_multi3 (hexec : p.tables.exec = Jvm.exec) (hb : c.code = cc) {own : String} {index : Nat} (hown : s.vm.findClass own = some m.cls) (hclink : (Jvm.Cond.classLink own index "[[[I").before args s = true)
    {c3 c2 c1 c0 : ClassId} {k3 k2 k1 : Class} (h3 : s.vm.findClass "[[[I" = some c3) (hk3 : s.vm.classes[c3]? = some k3) (hkind3 : k3.kind = .array c2 (.array (.array .int))) (hk2 : s.vm.classes[c2]? = some k2) (hkind2 : k2.kind = .array c1 (.array .int))
    (hk1 : s.vm.classes[c1]? = some k1) (hkind1 : k1.kind = .array c0 .int) {n k r : Int32} (hn : ¬ n < 0) (hk : ¬ k < 0) (hr : ¬ r < 0) (hb1 : n.toNatClampNeg ≤ 1000) (hb2 : k.toNatClampNeg ≤ 1000) (hb3 : r.toNatClampNeg ≤ 1000)
    (hcells : cells + (1 + n.toNatClampNeg * (1 + k.toNatClampNeg)) ≤ R.cells) (hslots : slots + (n.toNatClampNeg + n.toNatClampNeg * (k.toNatClampNeg + k.toNatClampNeg * r.toNatClampNeg)) ≤ R.slots) (hdg : decode cc pc = .ok (.multianewarray index 3, 4))
    (kk : ∀ H1 : Heap, H1.size = H.size + (1 + n.toNatClampNeg * (1 + k.toNatClampNeg)) → (∀ q, q < H.size → H1[q]? = H[q]?) → H1[H.size]? = some { cls := c3, slots := (zrefs (H.size + 1) (1 + k.toNatClampNeg) n.toNatClampNeg).toArray, vm := .none } →
      (∀ i, i < n.toNatClampNeg → H1[H.size + 1 + i * (1 + k.toNatClampNeg)]? = some { cls := c2, slots := (zrefs (H.size + 1 + i * (1 + k.toNatClampNeg) + 1) 1 k.toNatClampNeg).toArray, vm := .none } ∧
        ∀ j, j < k.toNatClampNeg → H1[H.size + 1 + i * (1 + k.toNatClampNeg) + 1 + j]? = some { cls := c1, slots := (List.replicate r.toNatClampNeg (.int 0)).toArray, vm := .none }) →
      W p l e R s m args below meth c H1 locs (cells + (1 + n.toNatClampNeg * (1 + k.toNatClampNeg))) (slots + (n.toNatClampNeg + n.toNatClampNeg * (k.toNatClampNeg + k.toNatClampNeg * r.toNatClampNeg))) Q (F0 m (pc + 4) ls (.ref H.size :: rest))) :
    W p l e R s m args below meth c H locs cells slots Q (F0 m pc ls (.int r :: .int k :: .int n :: rest)) := by
  intro T hT X
  have hpl : e.platform.magicAccessors = ({} : Platform).magicAccessors := by rw [X.admits.platform]
  obtain ⟨cc3, hfc3, hcl⟩ := Cond.classLink_spec hown hclink e.platform hpl
  cases h3.symm.trans hfc3
  obtain ⟨hg₁, hwarm₁, hready₁⟩ := State.classEntry (e := e) X.warmed hcl
  generalize T.vm.noted m.cls index (.cls c3) = vm₁ at hg₁ hwarm₁ hready₁
  have hal : s.vm.Alike vm₁ := hwarm₁.alike
  obtain ⟨k3', hk3', e3⟩ := hal.2.2 _ _ hk3
  obtain ⟨k2', hk2', e2⟩ := hal.2.2 _ _ hk2
  obtain ⟨k1', hk1', e1⟩ := hal.2.2 _ _ hk1
  have q3 : k3'.kind = .array c2 (.array (.array .int)) := by rw [e3]; exact hkind3
  have q2 : k2'.kind = .array c1 (.array .int) := by rw [e2]; exact hkind2
  have q1 : k1'.kind = .array c0 .int := by rw [e1]; exact hkind1
  have X₁ := X.noted hwarm₁
  obtain ⟨hr1, hr2⟩ := X.roomAbove hcells hslots
  have XF := zfilled3 X₁ c3 c2 c1 n.toNatClampNeg k.toNatClampNeg r.toNatClampNeg n.toNatClampNeg
  obtain ⟨f1, f2, f3, f4⟩ := zfill3_facts (T.setVm vm₁) c3 c2 c1 n.toNatClampNeg k.toNatClampNeg r.toNatClampNeg n.toNatClampNeg
  have fo := fun q hq => zfill3_old (T.setVm vm₁) c3 c2 c1 n.toNatClampNeg k.toNatClampNeg r.toNatClampNeg (a := q) hq n.toNatClampNeg
  have fi := zfill3_in (T.setVm vm₁) c3 c2 c1 n.toNatClampNeg k.toNatClampNeg r.toNatClampNeg n.toNatClampNeg
  have hTh : (T.setVm vm₁).heap = H := hT
  rw [hTh] at f1 f2 fo fi
  have eX1 : cells + 1 + n.toNatClampNeg * (1 + k.toNatClampNeg) = cells + (1 + n.toNatClampNeg * (1 + k.toNatClampNeg)) := by omega
  have eX2 : slots + n.toNatClampNeg + n.toNatClampNeg * (k.toNatClampNeg + k.toNatClampNeg * r.toNatClampNeg) = slots + (n.toNatClampNeg + n.toNatClampNeg * (k.toNatClampNeg + k.toNatClampNeg * r.toNatClampNeg)) := by omega
  rw [eX1, eX2] at XF
  obtain ⟨t, a1, b1⟩ := kk _ (by rw [f1]; omega) fo (by rw [f2, zoutC_all]) (fun i hi => by
    obtain ⟨i1, i2⟩ := fi i hi
    refine ⟨by rw [i1, zoutC_all], fun j hj => ?_⟩
    rw [i2 j hj]
    show some ({ cls := c1, slots := Array.replicate r.toNatClampNeg (.int 0), vm := .none } : Cell) = _
    congr 2) _ rfl XF
  refine ⟨t, ?_, b1⟩
  rw [← hT] at a1
  have hl1 : ¬ n.toNatClampNeg > e.platform.arrayLengthLimit := by rw [Launch.admits_arrayLengthLimit X.admits]; omega
  have hh1 : ¬ n.toNatClampNeg * 4 > e.platform.maxHeapBytes := by rw [Launch.admits_maxHeapBytes X.admits]; omega
  have hl2 : ¬ k.toNatClampNeg > e.platform.arrayLengthLimit := by rw [Launch.admits_arrayLengthLimit X.admits]; omega
  have hh2 : ¬ k.toNatClampNeg * 4 > e.platform.maxHeapBytes := by rw [Launch.admits_maxHeapBytes X.admits]; omega
  have hl3 : ¬ r.toNatClampNeg > e.platform.arrayLengthLimit := by rw [Launch.admits_arrayLengthLimit X.admits]; omega
  have hh3 : ¬ r.toNatClampNeg * 4 > e.platform.maxHeapBytes := by rw [Launch.admits_maxHeapBytes X.admits]; omega
  have hdg' : decode c.code pc = .ok (.multianewarray index 3, 4) := by rw [hb]; exact hdg
  jvm_step X.here [hexec, hdg']
  simp only [multianewarray.sem, wp_bind', W.resolveClassAt_links (State.method?_setTop (F0 m pc ls (.int r :: .int k :: .int n :: rest)) X.here.top) hg₁]
  rw [W.popN, if_neg (by decide)]
  refine ⟨F0 m pc ls (.int r :: .int k :: .int n :: rest), State.topJava?_setTop' (s := T.setVm vm₁) _ X.here.top, [.int n, .int k, .int r], rest, rfl, rfl, ?_⟩
  simp only [List.mapM_cons, List.mapM_nil, wp_bind', wp_pure']
  refine zwp_make3 (k3 := k3') (k2 := k2') (k1 := k1') (c2 := c2) (c1 := c1) (cc := c0) hk3' q3 hk2' q2 hk1' q1 hn hk hr hl1 hh1 hl2 hh2 hl3 hh3 (by show T.heap.size + 1 + _ ≤ _; omega) (by show T.slotsUsed + _ + _ ≤ _; omega) (fun d' acts' => ?_)
  have eS : ((T.setTop (F0 m pc ls (.int r :: .int k :: .int n :: rest))).setVm vm₁).setTop (F0 m pc ls rest) = (T.setVm vm₁).setTop (F0 m pc ls rest) := by
    show ((T.setVm vm₁).setTop _).setTop _ = _
    rw [State.setTop_setTop]
  rw [show ({ F0 m pc ls (.int r :: .int k :: .int n :: rest) with stack := rest } : JFrame) = F0 m pc ls rest from rfl, eS, zfill3_setTop]
  simp only [wp_bind', W.mark, W.pushRef, State.topJava?_setTop' _ XF.here.top, Option.some.injEq, exists_eq_left', State.setTop_setTop, State.heap_setTop]
  intro acts
  simp [jvm, XF.here.top]
  exact a1
end ZMW
end
