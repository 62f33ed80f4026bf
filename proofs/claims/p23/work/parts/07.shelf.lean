/-! ===== what stands on the library's shelf 42: Math.min(float), Math.abs(double), new int[n][k], new int[n][k][r] ===== -/
section ZSH
variable {p : Program} {l : Launch} {e : Env} {R : Room} {s : State} {m : MethodId} {args : Array Value} {below : List Frame} {meth : Method} {c : Code} {H : Heap} {locs : List Loc} {cells slots : Nat} {Q : State → Prop}
variable {cc : ByteArray} {pc : Nat} {ls : Array Slot} {rest : List Value}
theorem zr_min (hexec : p.tables.exec = Jvm.exec) (hb : c.code = cc) (hml : c.maxLocals = ls.size) {own : String} {index : Nat} (hown : s.vm.findClass own = some m.cls)
    (hlink : (Jvm.Cond.methodLink own index Jvm.Free.Fl.Abs.minFN).before args s = true) (hstat : (Jvm.Cond.static Jvm.Free.Fl.Abs.minFN).before args s = true) (hini : (Jvm.Cond.initialized "java/lang/Math").before args s = true)
    (hcode : (Jvm.Cond.code Jvm.Free.Fl.Abs.minFN Jvm.Free.Fl.Abs.minFCode 2 (some .float)).before args s = true) {a b : UInt32} (ha : zn32 a = true) (hb2 : zn32 b = true) (hframes : 1 ≤ R.frames) (hlocals : (rest.map fun v => v.category).sum + 13 ≤ R.locals) (hcells : cells ≤ R.cells) (hslots : slots ≤ R.slots)
    (hdg : decode cc pc = .ok (.invokestatic index, 3))
    (k : W p l e R s m args below meth c H locs cells slots Q (F0 m (pc + 3) ls (.float (Native.java_lang_Math.nans.pick32 false a b) :: rest))) : W p l e R s m args below meth c H locs cells slots Q (F0 m pc ls (.float b :: .float a :: rest)) := by
  intro T hT X
  obtain ⟨v, vm₁, B, hW, X', ⟨hv, hB⟩, st⟩ := callS X hexec hown hlink hstat hini hcode ⟨by decide, by decide⟩ (Jvm.Free.Fl.Abs.minF_pays (l := l) (R := R) (p := p) (e := e) (below := below) (s := s) (sargs := args) (len := 3) (W := (rest.map fun v => v.category).sum) a b hcode hframes hlocals)
    (g := F0 m pc ls (.float b :: .float a :: rest)) rfl hml.symm (argsL := [.float a, .float b]) (rest := rest) (fun sig h => by
      have h2 : (parseMethodDescriptor Jvm.Free.Fl.Abs.minFN.desc).map (fun d => d.parameters.length) = some 2 := by decide +kernel
      rw [h] at h2
      exact (Option.some.inj h2).symm) rfl (by show 2 * 0 + _ ≤ _; omega) (by rw [hb]; exact hdg) (fun vm₁ _ => ⟨hcells, hslots, rfl, of_decide_eq_true ha, of_decide_eq_true hb2⟩)
  subst hv
  subst hB
  obtain ⟨t, a1, b1⟩ := k (T.setVm vm₁) hT X'
  exact ⟨t, st t a1, b1⟩
theorem zr_abs (hexec : p.tables.exec = Jvm.exec) (hb : c.code = cc) (hml : c.maxLocals = ls.size) {own : String} {index : Nat} (hown : s.vm.findClass own = some m.cls)
    (hlink : (Jvm.Cond.methodLink own index Jvm.Free.Fl.Abs.absDN).before args s = true) (hstat : (Jvm.Cond.static Jvm.Free.Fl.Abs.absDN).before args s = true) (hini : (Jvm.Cond.initialized "java/lang/Math").before args s = true)
    (hcode : (Jvm.Cond.code Jvm.Free.Fl.Abs.absDN Jvm.Free.Fl.Abs.absDCode 2 (some .double)).before args s = true) {a : UInt64} (ha : zn64 a = true) (hframes : 1 ≤ R.frames) (hlocals : (rest.map fun v => v.category).sum + 13 ≤ R.locals) (hcells : cells ≤ R.cells) (hslots : slots ≤ R.slots)
    (hdg : decode cc pc = .ok (.invokestatic index, 3))
    (k : W p l e R s m args below meth c H locs cells slots Q (F0 m (pc + 3) ls (.double (a &&& 0x7fffffffffffffff) :: rest))) : W p l e R s m args below meth c H locs cells slots Q (F0 m pc ls (.double a :: rest)) := by
  intro T hT X
  obtain ⟨v, vm₁, B, hW, X', ⟨hv, hB⟩, st⟩ := callS X hexec hown hlink hstat hini hcode ⟨by decide, by decide⟩ (Jvm.Free.Fl.Abs.absD_pays (l := l) (R := R) (p := p) (e := e) (below := below) (s := s) (sargs := args) (len := 3) (W := (rest.map fun v => v.category).sum) a hcode hframes hlocals)
    (g := F0 m pc ls (.double a :: rest)) rfl hml.symm (argsL := [.double a]) (rest := rest) (fun sig h => by
      have h2 : (parseMethodDescriptor Jvm.Free.Fl.Abs.absDN.desc).map (fun d => d.parameters.length) = some 1 := by decide +kernel
      rw [h] at h2
      exact (Option.some.inj h2).symm) rfl (by show 2 * 0 + _ ≤ _; omega) (by rw [hb]; exact hdg) (fun vm₁ _ => ⟨hcells, hslots, rfl, of_decide_eq_true ha⟩)
  subst hv
  subst hB
  obtain ⟨t, a1, b1⟩ := k (T.setVm vm₁) hT X'
  exact ⟨t, st t a1, b1⟩
end ZSH
/-! ### arrays of arrays -/
theorem zrefs_len (q t : Nat) : ∀ n, (zrefs q t n).length = n := by
  intro n
  induction n generalizing q with
  | zero => rfl
  | succ n ih => simp [zrefs, ih]
theorem zrefs_at (q t : Nat) : ∀ n j, j < n → (zrefs q t n)[j]? = some (.ref (q + t * j)) := by
  intro n
  induction n generalizing q with
  | zero => intro j h; omega
  | succ n ih =>
    intro j h
    cases j with
    | zero => simp [zrefs]
    | succ j =>
      show (zrefs (q + t) t n)[j]? = _
      rw [ih (q + t) j (by omega), Nat.mul_succ, Nat.add_assoc q t, Nat.add_comm t (t * j)]
/-- the outer row, i of its places told: the j-th is h0 + 1 + t * j -/
def zoutC (c : ClassId) (N h0 t : Nat) : Nat → Cell
  | 0 => { cls := c, slots := Array.replicate N .null, vm := .none }
  | i + 1 => (zoutC c N h0 t i).setSlot i (.ref (h0 + 1 + t * i))
theorem zoutC_facts (c : ClassId) (N h0 t : Nat) : ∀ i, (zoutC c N h0 t i).cls = c ∧ (zoutC c N h0 t i).vm = .none ∧ (zoutC c N h0 t i).slots.size = N
  | 0 => ⟨rfl, rfl, by simp [zoutC]⟩
  | i + 1 => by
    obtain ⟨a, b, d⟩ := zoutC_facts c N h0 t i
    exact ⟨by simp [zoutC, Cell.setSlot, a], by simp [zoutC, Cell.setSlot, b], by simp [zoutC, Cell.setSlot, d]⟩
theorem zoutC_form (c : ClassId) (N h0 t : Nat) : ∀ i, zoutC c N h0 t i = { cls := c, slots := (zoutC c N h0 t i).slots, vm := .none }
  | 0 => rfl
  | i + 1 => by
    have ih := zoutC_form c N h0 t i
    show (zoutC c N h0 t i).setSlot i _ = _
    rw [ih]
    simp [zoutC, Cell.setSlot]
theorem zoutC_slot (c : ClassId) (N h0 t : Nat) : ∀ i j, j < N → (zoutC c N h0 t i).slots[j]? = some (if j < i then .ref (h0 + 1 + t * j) else .null)
  | 0, j, hj => by simp [zoutC, hj]
  | i + 1, j, hj => by
    have f3 := (zoutC_facts c N h0 t i).2.2
    show ((zoutC c N h0 t i).setSlot i (.ref (h0 + 1 + t * i))).slots[j]? = _
    by_cases h : i = j
    · subst h
      rw [if_pos (Nat.lt_succ_self _)]
      exact Cell.slots_setSlot_self _ (by rw [f3]; exact hj)
    · rw [slot_ne _ _ h, zoutC_slot c N h0 t i j hj]
      by_cases h2 : j < i
      · rw [if_pos h2, if_pos (by omega)]
      · rw [if_neg h2, if_neg (by omega)]
theorem zoutC_all (c : ClassId) (N h0 t : Nat) : zoutC c N h0 t N = { cls := c, slots := (zrefs (h0 + 1) t N).toArray, vm := .none } := by
  rw [zoutC_form c N h0 t N]
  congr 1
  apply Array.ext_getElem?
  intro j
  have f3 := (zoutC_facts c N h0 t N).2.2
  by_cases hj : j < N
  · rw [zoutC_slot c N h0 t N j hj, if_pos hj, List.getElem?_toArray, zrefs_at _ _ _ _ hj]
  · rw [Array.getElem?_eq_none (by omega), List.getElem?_toArray, List.getElem?_eq_none (by rw [zrefs_len]; omega)]
theorem zoutC_is (c : ClassId) (N h0 : Nat) : ∀ i, Jvm.Free.Multi.outerC c N h0 i = zoutC c N h0 1 i
  | 0 => rfl
  | i + 1 => by
    show (Jvm.Free.Multi.outerC c N h0 i).setSlot i (.ref (h0 + 1 + i)) = (zoutC c N h0 1 i).setSlot i (.ref (h0 + 1 + 1 * i))
    rw [zoutC_is c N h0 i, Nat.one_mul]
section ZMU
variable {p : Program} {l : Launch} {e : Env} {R : Room} {s : State} {m : MethodId} {args : Array Value} {below : List Frame} {meth : Method} {c : Code} {H : Heap} {locs : List Loc} {cells slots : Nat} {Q : State → Prop}
variable {cc : ByteArray} {pc : Nat} {ls : Array Slot} {rest : List Value}
theorem zr_multi2 (hexec : p.tables.exec = Jvm.exec) (hb : c.code = cc) {own : String} {index : Nat} (hown : s.vm.findClass own = some m.cls) (hclink : (Jvm.Cond.classLink own index "[[I").before args s = true)
    (hover : (Jvm.Cond.arrayOver (.array .int)).before args s = true) (harr : (Jvm.Cond.arrayClass .int).before args s = true) {cA cI : ClassId} (hA : s.vm.findClass "[[I" = some cA) (hI : s.vm.findClass "[I" = some cI) {n k : Int32} (hn : ¬ n < 0) (hk : ¬ k < 0) (hb1 : n.toNatClampNeg ≤ 1000) (hb2 : k.toNatClampNeg ≤ 1000)
    (hcells : cells + (1 + n.toNatClampNeg) ≤ R.cells) (hslots : slots + (n.toNatClampNeg + n.toNatClampNeg * k.toNatClampNeg) ≤ R.slots) (hdg : decode cc pc = .ok (.multianewarray index 2, 4))
    (kk : ∀ H1 : Heap, H1.size = H.size + (1 + n.toNatClampNeg) → (∀ q, q < H.size → H1[q]? = H[q]?) → H1[H.size]? = some { cls := cA, slots := (zrefs (H.size + 1) 1 n.toNatClampNeg).toArray, vm := .none } →
      (∀ j, j < n.toNatClampNeg → H1[H.size + 1 + j]? = some { cls := cI, slots := (List.replicate k.toNatClampNeg (.int 0)).toArray, vm := .none }) →
      W p l e R s m args below meth c H1 locs (cells + (1 + n.toNatClampNeg)) (slots + (n.toNatClampNeg + n.toNatClampNeg * k.toNatClampNeg)) Q (F0 m (pc + 4) ls (.ref H.size :: rest))) :
    W p l e R s m args below meth c H locs cells slots Q (F0 m pc ls (.int k :: .int n :: rest)) := by
  intro T hT X
  obtain ⟨vm₁, cA', comp, -, fA, fC, -, -, X', step⟩ := X.multianewarray2F hexec hown hclink hover harr (g := F0 m pc ls (.int k :: .int n :: rest)) rfl (by rw [hb]; exact hdg) (n := n) (k := k) (rest := rest) rfl hn hk (by omega) (by show k.toNatClampNeg * 4 ≤ _; omega) (by omega) rfl rfl (by omega) (by omega)
  have e1 : cA' = cA := Option.some.inj (fA.symm.trans hA)
  have e2 : comp = cI := Option.some.inj (fC.symm.trans hI)
  subst e1; subst e2
  generalize hF : Jvm.Free.Multi.fill (T.setVm vm₁) cA' comp n.toNatClampNeg k.toNatClampNeg (defaultValue .int) n.toNatClampNeg = F at X' step
  have hTh : (T.setVm vm₁).heap = H := hT
  obtain ⟨f1, f2, -, -⟩ := Jvm.Free.Multi.fill_facts (T.setVm vm₁) cA' comp n.toNatClampNeg k.toNatClampNeg (defaultValue .int) n.toNatClampNeg
  rw [hF, hTh] at f1 f2
  have X2 : Stand p l e R s m args below meth c F locs (cells + (1 + n.toNatClampNeg)) (slots + (n.toNatClampNeg + n.toNatClampNeg * k.toNatClampNeg)) := by
    have e3 : cells + 1 + n.toNatClampNeg = cells + (1 + n.toNatClampNeg) := by omega
    have e4 : slots + n.toNatClampNeg + n.toNatClampNeg * k.toNatClampNeg = slots + (n.toNatClampNeg + n.toNatClampNeg * k.toNatClampNeg) := by omega
    rw [e3, e4] at X'
    exact X'
  obtain ⟨t, a1, b1⟩ := kk F.heap (by rw [f1]; omega) (fun q hq => by
    have := Jvm.Free.Multi.fill_old (T.setVm vm₁) cA' comp n.toNatClampNeg k.toNatClampNeg (defaultValue .int) (a := q) (by rw [hTh]; exact hq) n.toNatClampNeg
    rw [hF, hTh] at this
    exact this) (by rw [f2, zoutC_is, zoutC_all]) (fun j hj => by
    have := Jvm.Free.Multi.fill_inner (T.setVm vm₁) cA' comp n.toNatClampNeg k.toNatClampNeg (defaultValue .int) n.toNatClampNeg j hj
    rw [hF, hTh] at this
    rw [this]
    show some ({ cls := comp, slots := Array.replicate k.toNatClampNeg (.int 0), vm := .none } : Cell) = _
    congr 2) F rfl X2
  refine ⟨t, step t ?_, b1⟩
  rw [hT]
  exact a1
/-! ### three of them -/
theorem zfill_old (s : State) (c comp : ClassId) (N M : Nat) (dv : Value) (a : Nat) (ha : a < s.heap.size) (i : Nat) : (Jvm.Free.Multi.fill s c comp N M dv i).heap[a]? = s.heap[a]? := Jvm.Free.Multi.fill_old s c comp N M dv ha i
def zfill3 (s : State) (c3 c2 c1 : ClassId) (N M K : Nat) : Nat → State
  | 0 => s.pushCell (zoutC c3 N s.heap.size (1 + M) 0)
  | i + 1 => (Jvm.Free.Multi.fill (zfill3 s c3 c2 c1 N M K i) c2 c1 M K (.int 0) M).setCell s.heap.size (zoutC c3 N s.heap.size (1 + M) (i + 1))
theorem zfill3_facts (s : State) (c3 c2 c1 : ClassId) (N M K : Nat) : ∀ i, (zfill3 s c3 c2 c1 N M K i).heap.size = s.heap.size + 1 + i * (1 + M) ∧ (zfill3 s c3 c2 c1 N M K i).heap[s.heap.size]? = some (zoutC c3 N s.heap.size (1 + M) i) ∧
    (zfill3 s c3 c2 c1 N M K i).vm = s.vm ∧ (zfill3 s c3 c2 c1 N M K i).slotsUsed = s.slotsUsed + N + i * (M + M * K)
  | 0 => ⟨by simp [zfill3], by simp [zfill3], rfl, by simp [zfill3, zoutC]⟩
  | i + 1 => by
    obtain ⟨a, b, d, u⟩ := zfill3_facts s c3 c2 c1 N M K i
    obtain ⟨f1, f2, f3, f4⟩ := Jvm.Free.Multi.fill_facts (zfill3 s c3 c2 c1 N M K i) c2 c1 M K (.int 0) M
    have hlt : s.heap.size < (zfill3 s c3 c2 c1 N M K i).heap.size := by omega
    have hb' : (Jvm.Free.Multi.fill (zfill3 s c3 c2 c1 N M K i) c2 c1 M K (.int 0) M).heap[s.heap.size]? = some (zoutC c3 N s.heap.size (1 + M) i) := by rw [Jvm.Free.Multi.fill_old _ _ _ _ _ _ hlt]; exact b
    refine ⟨?_, State.heap_setCell_self hb', by simp [zfill3, f3, d], ?_⟩
    · have : (zfill3 s c3 c2 c1 N M K (i + 1)).heap.size = (Jvm.Free.Multi.fill (zfill3 s c3 c2 c1 N M K i) c2 c1 M K (.int 0) M).heap.size := size_setCell _ _ _
      rw [this, f1, a, Nat.succ_mul]
      omega
    · have : (zfill3 s c3 c2 c1 N M K (i + 1)).slotsUsed = (Jvm.Free.Multi.fill (zfill3 s c3 c2 c1 N M K i) c2 c1 M K (.int 0) M).slotsUsed := rfl
      rw [this, f4, u, Nat.succ_mul]
      omega
theorem zfill3_setTop (s : State) (f : JFrame) (c3 c2 c1 : ClassId) (N M K : Nat) : ∀ i, zfill3 (s.setTop f) c3 c2 c1 N M K i = (zfill3 s c3 c2 c1 N M K i).setTop f
  | 0 => rfl
  | i + 1 => by simp only [zfill3, zfill3_setTop s f c3 c2 c1 N M K i, Jvm.Free.Multi.fill_setTop, State.heap_setTop, State.setCell_setTop]
theorem zfill3_old (s : State) (c3 c2 c1 : ClassId) (N M K : Nat) {a : Addr} (ha : a < s.heap.size) : ∀ i, (zfill3 s c3 c2 c1 N M K i).heap[a]? = s.heap[a]?
  | 0 => State.heap_pushCell_of_lt _ _ ha
  | i + 1 => by
    have f1 := (zfill3_facts s c3 c2 c1 N M K i).1
    show ((Jvm.Free.Multi.fill (zfill3 s c3 c2 c1 N M K i) c2 c1 M K (.int 0) M).setCell s.heap.size _).heap[a]? = _
    rw [State.heap_setCell_other (Nat.ne_of_gt ha), zfill_old (zfill3 s c3 c2 c1 N M K i) c2 c1 M K (.int 0) a (Nat.lt_of_lt_of_le ha (by omega)) M]
    exact zfill3_old s c3 c2 c1 N M K ha i
/-- what lies in the i-th block -/
theorem zfill3_in (s : State) (c3 c2 c1 : ClassId) (N M K : Nat) : ∀ i b, b < i → (zfill3 s c3 c2 c1 N M K i).heap[s.heap.size + 1 + b * (1 + M)]? = some (zoutC c2 M (s.heap.size + 1 + b * (1 + M)) 1 M) ∧
    ∀ j, j < M → (zfill3 s c3 c2 c1 N M K i).heap[s.heap.size + 1 + b * (1 + M) + 1 + j]? = some (Jvm.Free.Multi.innerC c1 K (.int 0))
  | 0, _, h => absurd h (Nat.not_lt_zero _)
  | i + 1, b, h => by
    have f1 := (zfill3_facts s c3 c2 c1 N M K i).1
    obtain ⟨g1, g2, -, -⟩ := Jvm.Free.Multi.fill_facts (zfill3 s c3 c2 c1 N M K i) c2 c1 M K (.int 0) M
    have out : ∀ q, s.heap.size < q → (zfill3 s c3 c2 c1 N M K (i + 1)).heap[q]? = (Jvm.Free.Multi.fill (zfill3 s c3 c2 c1 N M K i) c2 c1 M K (.int 0) M).heap[q]? := fun q hq => State.heap_setCell_other (Nat.ne_of_lt hq)
    rcases Nat.lt_or_ge b i with hb | hb
    · obtain ⟨i1, i2⟩ := zfill3_in s c3 c2 c1 N M K i b hb
      have hm : (b + 1) * (1 + M) ≤ i * (1 + M) := Nat.mul_le_mul_right _ hb
      rw [Nat.succ_mul] at hm
      refine ⟨?_, fun j hj => ?_⟩
      · rw [out _ (by omega), zfill_old (zfill3 s c3 c2 c1 N M K i) c2 c1 M K (.int 0) (s.heap.size + 1 + b * (1 + M)) (by omega) M]; exact i1
      · rw [out _ (by omega), zfill_old (zfill3 s c3 c2 c1 N M K i) c2 c1 M K (.int 0) (s.heap.size + 1 + b * (1 + M) + 1 + j) (by omega) M]; exact i2 j hj
    · have hbi : b = i := by omega
      subst hbi
      refine ⟨?_, fun j hj => ?_⟩
      · rw [out _ (by omega), ← f1, g2, zoutC_is]
      · rw [out _ (by omega), ← f1]
        exact Jvm.Free.Multi.fill_inner (zfill3 s c3 c2 c1 N M K b) c2 c1 M K (.int 0) M j hj
theorem zfilled3 {T : State} (X : Stand p l e R s m args below meth c T locs cells slots) (c3 c2 c1 : ClassId) (N M K : Nat) :
    ∀ i, Stand p l e R s m args below meth c (zfill3 T c3 c2 c1 N M K i) locs (cells + 1 + i * (1 + M)) (slots + N + i * (M + M * K))
  | 0 => by
    have h := X.pushed (zoutC c3 N T.heap.size (1 + M) 0)
    rw [(zoutC_facts c3 N T.heap.size (1 + M) 0).2.2] at h
    simpa [zfill3] using h
  | i + 1 => by
    have Xi := zfilled3 X c3 c2 c1 N M K i
    obtain ⟨f1, f2, f3, f4⟩ := zfill3_facts T c3 c2 c1 N M K i
    have hlt0 : T.heap.size < (zfill3 T c3 c2 c1 N M K i).heap.size := by rw [f1]; omega
    have hnew : s.heap.size ≤ T.heap.size := X.heapGrown
    have X1 := (Xi.filled c2 c1 M K (.int 0) M).dropFresh (fun x hx => by
      obtain ⟨j, -, rfl⟩ := List.mem_map.mp hx
      show s.heap.size ≤ (zfill3 T c3 c2 c1 N M K i).heap.size
      omega)
    have hcell : (Jvm.Free.Multi.fill (zfill3 T c3 c2 c1 N M K i) c2 c1 M K (.int 0) M).heap[T.heap.size]? = some (zoutC c3 N T.heap.size (1 + M) i) := by rw [Jvm.Free.Multi.fill_old _ _ _ _ _ _ hlt0]; exact f2
    have X2 := (X1.stored hcell i (.ref (T.heap.size + 1 + (1 + M) * i))).dropFresh (fun x hx => by
      rw [List.mem_singleton.mp hx]
      exact hnew)
    have e3 : cells + 1 + i * (1 + M) + 1 + M = cells + 1 + (i + 1) * (1 + M) := by rw [Nat.succ_mul]; omega
    have e4 : slots + N + i * (M + M * K) + M + M * K = slots + N + (i + 1) * (M + M * K) := by rw [Nat.succ_mul]; omega
    rw [e3, e4] at X2
    exact X2
end ZMU
section ZMK
variable {E : CtlPost} {e : Env} {d : Bool} {acts : List Action} {s : State}
set_option maxHeartbeats 1000000 in
theorem zwp_make3 {c3 c2 c1 cc : ClassId} {k3 k2 k1 : Class} {n m r : Int32} (hk3 : s.vm.classes[c3]? = some k3) (hkind3 : k3.kind = .array c2 (.array (.array .int))) (hk2 : s.vm.classes[c2]? = some k2) (hkind2 : k2.kind = .array c1 (.array .int))
    (hk1 : s.vm.classes[c1]? = some k1) (hkind1 : k1.kind = .array cc .int) (hn : ¬ n < 0) (hm : ¬ m < 0) (hr : ¬ r < 0)
    (hl1 : ¬ n.toNatClampNeg > e.platform.arrayLengthLimit) (hh1 : ¬ n.toNatClampNeg * 4 > e.platform.maxHeapBytes)
    (hl2 : ¬ m.toNatClampNeg > e.platform.arrayLengthLimit) (hh2 : ¬ m.toNatClampNeg * 4 > e.platform.maxHeapBytes)
    (hl3 : ¬ r.toNatClampNeg > e.platform.arrayLengthLimit) (hh3 : ¬ r.toNatClampNeg * 4 > e.platform.maxHeapBytes)
    (hc : s.heap.size + 1 + n.toNatClampNeg * (1 + m.toNatClampNeg) ≤ e.platform.maxCells) (hs : s.slotsUsed + n.toNatClampNeg + n.toNatClampNeg * (m.toNatClampNeg + m.toNatClampNeg * r.toNatClampNeg) ≤ e.platform.maxSlots)
    {Q : Addr → Pre} (hq : ∀ d' acts', Q s.heap.size d' acts' (zfill3 s c3 c2 c1 n.toNatClampNeg m.toNatClampNeg r.toNatClampNeg n.toNatClampNeg)) :
    wp (multianewarray.make c3 [n, m, r]) Q E e d acts s := by
  have hfind : ([m, r].find? (· < 0)) = none := by simp [hm, hr]
  rw [multianewarray.make]
  simp only [wp_bind', W.ite, hn, if_false, wp_pure', W.theClass, hk3, hkind3, Option.some.injEq, exists_eq_left']
  refine Jvm.Free.Multi.wp_newArray hk3 hkind3 hl1 hh1 rfl rfl (by omega) (by omega) ?_
  simp only [hfind]
  rw [ite_self, wp_bind', Std.Legacy.Range.forIn_eq_forIn_range']
  have hsz : ([:n.toNatClampNeg] : Std.Legacy.Range).size = n.toNatClampNeg := by simp [Std.Legacy.Range.size]
  rw [hsz]
  show wp (forIn (List.range' 0 n.toNatClampNeg 1) PUnit.unit _) _ E e d acts _
  refine wp_forIn_inv (fun rest s' => ∃ i, i ≤ n.toNatClampNeg ∧ rest = List.range' i (n.toNatClampNeg - i) ∧ s' = zfill3 s c3 c2 c1 n.toNatClampNeg m.toNatClampNeg r.toNatClampNeg i) _ _ ⟨0, Nat.zero_le _, rfl, rfl⟩ ?_ ?_
  · rintro x rest s' d' acts' Q' ⟨i, hi, hl, rfl⟩ hnext
    have hlt : i < n.toNatClampNeg := by
      rcases Nat.lt_or_ge i n.toNatClampNeg with h | h
      · exact h
      · rw [show n.toNatClampNeg - i = 0 from by omega] at hl; simp at hl
    obtain ⟨rfl, hrest⟩ : x = i ∧ rest = List.range' (i + 1) (n.toNatClampNeg - (i + 1)) := by
      rw [show n.toNatClampNeg - i = (n.toNatClampNeg - (i + 1)) + 1 from by omega, List.range'_succ] at hl
      exact ⟨(List.cons.inj hl).1, (List.cons.inj hl).2⟩
    obtain ⟨f1, f2, f3, f4⟩ := zfill3_facts s c3 c2 c1 n.toNatClampNeg m.toNatClampNeg r.toNatClampNeg x
    obtain ⟨o1, o2, o3⟩ := zoutC_facts c3 n.toNatClampNeg s.heap.size (1 + m.toNatClampNeg) x
    have hmul : (x + 1) * (1 + m.toNatClampNeg) ≤ n.toNatClampNeg * (1 + m.toNatClampNeg) := Nat.mul_le_mul_right _ hlt
    have hmul2 : (x + 1) * (m.toNatClampNeg + m.toNatClampNeg * r.toNatClampNeg) ≤ n.toNatClampNeg * (m.toNatClampNeg + m.toNatClampNeg * r.toNatClampNeg) := Nat.mul_le_mul_right _ hlt
    rw [Nat.succ_mul] at hmul hmul2
    simp only [wp_bind']
    refine Jvm.Free.Multi.wp_make2 (k := k2) (kc := k1) (comp := c1) (cc := cc) (t0 := .array .int) (type := .int) (by rw [f3]; exact hk2) hkind2 rfl (by rw [f3]; exact hk1) hkind1 hm hr hl2 hh2 hl3 hh3 rfl rfl (by rw [f1]; omega) (by rw [f4]; omega) (fun d2 acts2 => ?_)
    have hlt0 : s.heap.size < (zfill3 s c3 c2 c1 n.toNatClampNeg m.toNatClampNeg r.toNatClampNeg x).heap.size := by rw [f1]; omega
    obtain ⟨g1, g2, g3, g4⟩ := Jvm.Free.Multi.fill_facts (zfill3 s c3 c2 c1 n.toNatClampNeg m.toNatClampNeg r.toNatClampNeg x) c2 c1 m.toNatClampNeg r.toNatClampNeg (defaultValue .int) m.toNatClampNeg
    simp only [wp_bind', W.writeLoc, wp_pure']
    refine ⟨zoutC c3 n.toNatClampNeg s.heap.size (1 + m.toNatClampNeg) x, by rw [Jvm.Free.Multi.fill_old _ _ _ _ _ _ hlt0]; exact f2, by rw [o2]; simp, by rw [o3]; exact hlt, ?_, hnext _ _ _ ⟨x + 1, hlt, hrest, ?_⟩⟩
    · rw [o1, o2]
      simp [State.fitsSlot, State.slotType?, g3, f3, hk3, hkind3, Jvm.Free.Multi.refFits (t := .array (.array .int)) rfl _ (Or.inr ⟨_, rfl⟩)]
    · rw [f1, Nat.mul_comm x]; rfl
  · rintro s' d' acts' ⟨i, hi, hl, rfl⟩
    have hiN : i = n.toNatClampNeg := by
      rcases Nat.lt_or_ge i n.toNatClampNeg with h | h
      · rw [show n.toNatClampNeg - i = (n.toNatClampNeg - (i + 1)) + 1 from by omega, List.range'_succ] at hl; cases hl
      · omega
    subst hiN
    simp only [wp_pure']
    exact hq _ _
end ZMK
section ZMW
variable {p : Program} {l : Launch} {e : Env} {R : Room} {s : State} {m : MethodId} {args : Array Value} {below : List Frame} {meth : Method} {c : Code} {H : Heap} {locs : List Loc} {cells slots : Nat} {Q : State → Prop}
variable {cc : ByteArray} {pc : Nat} {ls : Array Slot} {rest : List Value}
set_option maxHeartbeats 1000000 in
theorem zr_multi3 (hexec : p.tables.exec = Jvm.exec) (hb : c.code = cc) {own : String} {index : Nat} (hown : s.vm.findClass own = some m.cls) (hclink : (Jvm.Cond.classLink own index "[[[I").before args s = true)
    {c3 c2 c1 c0 : ClassId} {k3 k2 k1 : Class} (h3 : s.vm.findClass "[[[I" = some c3) (hk3 : s.vm.classes[c3]? = some k3) (hkind3 : k3.kind = .array c2 (.array (.array .int))) (hk2 : s.vm.classes[c2]? = some k2) (hkind2 : k2.kind = .array c1 (.array .int))
    (hk1 : s.vm.classes[c1]? = some k1) (hkind1 : k1.kind = .array c0 .int) {n k r : Int32} (hn : ¬ n < 0) (hk : ¬ k < 0) (hr : ¬ r < 0) (hb1 : n.toNatClampNeg ≤ 1000) (hb2 : k.toNatClampNeg ≤ 1000) (hb3 : r.toNatClampNeg ≤ 1000)
    (hcells : cells + (1 + n.toNatClampNeg * (1 + k.toNatClampNeg)) ≤ R.cells) (hslots : slots + (n.toNatClampNeg + n.toNatClampNeg * (k.toNatClampNeg + k.toNatClampNeg * r.toNatClampNeg)) ≤ R.slots) (hdg : decode cc pc = .ok (.multianewarray index 3, 4))
    (kk : ∀ H1 : Heap, H1.size = H.size + (1 + n.toNatClampNeg * (1 + k.toNatClampNeg)) → (∀ q, q < H.size → H1[q]? = H[q]?) → H1[H.size]? = some { cls := c3, slots := (zrefs (H.size + 1) (1 + k.toNatClampNeg) n.toNatClampNeg).toArray, vm := .none } →
      (∀ i, i < n.toNatClampNeg → H1[H.size + 1 + i * (1 + k.toNatClampNeg)]? = some { cls := c2, slots := (zrefs (H.size + 1 + i * (1 + k.toNatClampNeg) + 1) 1 k.toNatClampNeg).toArray, vm := .none } ∧
        ∀ j, j < k.toNatClampNeg → H1[H.size + 1 + i * (1 + k.toNatClampNeg) + 1 + j]? = some { cls := c1, slots := (List.replicate r.toNatClampNeg (.int 0)).toArray, vm := .none }) →
      W p l e R s m args below meth c H1 locs (cells + (1 + n.toNatClampNeg * (1 + k.toNatClampNeg))) (slots + (n.toNatClampNeg + n.toNatClampNeg * (k.toNatClampNeg + k.toNatClampNeg * r.toNatClampNeg))) Q (F0 m (pc + 4) ls (.ref H.size :: rest))) :
    W p l e R s m args below meth c H locs cells slots Q (F0 m pc ls (.int r :: .int k :: .int n :: rest)) := by
  intro T hT X
  have hpl : e.platform.magicAccessors = ({} : Platform).magicAccessors := by rw [X.admits.platform]
  obtain ⟨cc3, hfc3, hcl⟩ := Cond.classLink_spec hown hclink e.platform hpl
  cases h3.symm.trans hfc3
  obtain ⟨hg₁, hwarm₁, hready₁⟩ := State.classEntry (e := e) X.warmed hcl
  generalize T.vm.noted m.cls index (.cls c3) = vm₁ at hg₁ hwarm₁ hready₁
  have hal : s.vm.Alike vm₁ := hwarm₁.alike
  obtain ⟨k3', hk3', e3⟩ := hal.2.2 _ _ hk3
  obtain ⟨k2', hk2', e2⟩ := hal.2.2 _ _ hk2
  obtain ⟨k1', hk1', e1⟩ := hal.2.2 _ _ hk1
  have q3 : k3'.kind = .array c2 (.array (.array .int)) := by rw [e3]; exact hkind3
  have q2 : k2'.kind = .array c1 (.array .int) := by rw [e2]; exact hkind2
  have q1 : k1'.kind = .array c0 .int := by rw [e1]; exact hkind1
  have X₁ := X.noted hwarm₁
  obtain ⟨hr1, hr2⟩ := X.roomAbove hcells hslots
  have XF := zfilled3 X₁ c3 c2 c1 n.toNatClampNeg k.toNatClampNeg r.toNatClampNeg n.toNatClampNeg
  obtain ⟨f1, f2, f3, f4⟩ := zfill3_facts (T.setVm vm₁) c3 c2 c1 n.toNatClampNeg k.toNatClampNeg r.toNatClampNeg n.toNatClampNeg
  have fo := fun q hq => zfill3_old (T.setVm vm₁) c3 c2 c1 n.toNatClampNeg k.toNatClampNeg r.toNatClampNeg (a := q) hq n.toNatClampNeg
  have fi := zfill3_in (T.setVm vm₁) c3 c2 c1 n.toNatClampNeg k.toNatClampNeg r.toNatClampNeg n.toNatClampNeg
  have hTh : (T.setVm vm₁).heap = H := hT
  rw [hTh] at f1 f2 fo fi
  have eX1 : cells + 1 + n.toNatClampNeg * (1 + k.toNatClampNeg) = cells + (1 + n.toNatClampNeg * (1 + k.toNatClampNeg)) := by omega
  have eX2 : slots + n.toNatClampNeg + n.toNatClampNeg * (k.toNatClampNeg + k.toNatClampNeg * r.toNatClampNeg) = slots + (n.toNatClampNeg + n.toNatClampNeg * (k.toNatClampNeg + k.toNatClampNeg * r.toNatClampNeg)) := by omega
  rw [eX1, eX2] at XF
  obtain ⟨t, a1, b1⟩ := kk _ (by rw [f1]; omega) fo (by rw [f2, zoutC_all]) (fun i hi => by
    obtain ⟨i1, i2⟩ := fi i hi
    refine ⟨by rw [i1, zoutC_all], fun j hj => ?_⟩
    rw [i2 j hj]
    show some ({ cls := c1, slots := Array.replicate r.toNatClampNeg (.int 0), vm := .none } : Cell) = _
    congr 2) _ rfl XF
  refine ⟨t, ?_, b1⟩
  rw [← hT] at a1
  have hl1 : ¬ n.toNatClampNeg > e.platform.arrayLengthLimit := by rw [Launch.admits_arrayLengthLimit X.admits]; omega
  have hh1 : ¬ n.toNatClampNeg * 4 > e.platform.maxHeapBytes := by rw [Launch.admits_maxHeapBytes X.admits]; omega
  have hl2 : ¬ k.toNatClampNeg > e.platform.arrayLengthLimit := by rw [Launch.admits_arrayLengthLimit X.admits]; omega
  have hh2 : ¬ k.toNatClampNeg * 4 > e.platform.maxHeapBytes := by rw [Launch.admits_maxHeapBytes X.admits]; omega
  have hl3 : ¬ r.toNatClampNeg > e.platform.arrayLengthLimit := by rw [Launch.admits_arrayLengthLimit X.admits]; omega
  have hh3 : ¬ r.toNatClampNeg * 4 > e.platform.maxHeapBytes := by rw [Launch.admits_maxHeapBytes X.admits]; omega
  have hdg' : decode c.code pc = .ok (.multianewarray index 3, 4) := by rw [hb]; exact hdg
  jvm_step X.here [hexec, hdg']
  simp only [multianewarray.sem, wp_bind', W.resolveClassAt_links (State.method?_setTop (F0 m pc ls (.int r :: .int k :: .int n :: rest)) X.here.top) hg₁]
  rw [W.popN, if_neg (by decide)]
  refine ⟨F0 m pc ls (.int r :: .int k :: .int n :: rest), State.topJava?_setTop' (s := T.setVm vm₁) _ X.here.top, [.int n, .int k, .int r], rest, rfl, rfl, ?_⟩
  simp only [List.mapM_cons, List.mapM_nil, wp_bind', wp_pure']
  refine zwp_make3 (k3 := k3') (k2 := k2') (k1 := k1') (c2 := c2) (c1 := c1) (cc := c0) hk3' q3 hk2' q2 hk1' q1 hn hk hr hl1 hh1 hl2 hh2 hl3 hh3 (by show T.heap.size + 1 + _ ≤ _; omega) (by show T.slotsUsed + _ + _ ≤ _; omega) (fun d' acts' => ?_)
  have eS : ((T.setTop (F0 m pc ls (.int r :: .int k :: .int n :: rest))).setVm vm₁).setTop (F0 m pc ls rest) = (T.setVm vm₁).setTop (F0 m pc ls rest) := by
    show ((T.setVm vm₁).setTop _).setTop _ = _
    rw [State.setTop_setTop]
  rw [show ({ F0 m pc ls (.int r :: .int k :: .int n :: rest) with stack := rest } : JFrame) = F0 m pc ls rest from rfl, eS, zfill3_setTop]
  simp only [wp_bind', W.mark, W.pushRef, State.topJava?_setTop' _ XF.here.top, Option.some.injEq, exists_eq_left', State.setTop_setTop, State.heap_setTop]
  intro acts
  simp [jvm, XF.here.top]
  exact a1
end ZMW
