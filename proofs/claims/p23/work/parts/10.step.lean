/-! ===== an instruction of the pure machine is one of the machine: those that touch no heap ===== -/
def zGo (G : zG) (p : Program) (l : Launch) (e : Env) (R : Room) (s : State) (m : MethodId) (args : Array Value) (below : List Frame) (meth : Method) (c : Code) (Q : State → Prop) (nL g0 k0 : Nat) (y : zCfg) : Prop :=
  ∀ (H : Heap) (locs : List Loc) (ls : Array Slot), zH G y.2.2.2 H → (∀ z ∈ locs, zgb G ≤ z.base) → zL ls nL y.2.1 → g0 ≤ y.2.2.2.2.1 → k0 ≤ y.2.2.2.2.2 →
    W p l e R s m args below meth c H locs (y.2.2.2.2.1 - g0) (y.2.2.2.2.2 - k0) Q (F0 m y.1 ls y.2.2.1)
/-- the frame: the method r's code in the class of its own, the words, the world, the room (d: calls that may stand open; hf: the heap at the end) -/
def zFm (G : zG) (p : Program) (l : Launch) (R : Room) (s : State) (m : MethodId) (args : Array Value) (meth : Method) (c : Code) (r : zMd) (d g0 k0 : Nat) (hf : zPH) : Prop :=
  p.tables.exec = Jvm.exec ∧ c.code = r.2.1 ∧ c.maxLocals = r.2.2.1 ∧ meth.sig.returnType = r.2.2.2.1 ∧ meth.locks = false ∧ s.vm.findClass r.1.cls = some m.cls ∧ zon[r.2.2.2.2.1]? = some r.1.cls ∧
  (∀ w ∈ zWS, w.before args s = true) ∧ zKn G s ∧ l.stackTraces = false ∧ (r.1.name = "<init>" → meth.name = "<init>") ∧ d + 6 ≤ R.frames ∧ 64 * d + 200 ≤ R.locals ∧ hf.2.1 - g0 ≤ R.cells ∧ hf.2.2 - k0 ≤ R.slots
abbrev zAc (G : zG) (p : Program) (l : Launch) (e : Env) (R : Room) (s : State) (m : MethodId) (args : Array Value) (below : List Frame) (meth : Method) (c : Code) (Q : State → Prop) (r : zMd) (g0 k0 : Nat) (hf : zPH) (Rr : zOut → zPH → Prop) (Cc : Nat → List Value → List Value → Prop) (i : Instr) (n : Nat) (x : zAux) (pc : Nat) (L : zLc) (st : List Value) (h : zPH) : Prop :=
  zact False (zgE G) r.2.2.2.1 i n x pc L st h (fun y => zge y.2.2.2 hf ∧ zGo G p l e R s m args below meth c Q r.2.2.1 g0 k0 y) Rr Cc
theorem zcat1 {v : Value} (h : Nat.beq (zcat v) 1 = true) : v.category = 1 := by rw [← zcat_eq]; exact Nat.eq_of_beq_eq_true h
theorem zcat2 {v : Value} (h : Nat.beq (zcat v) 2 = true) : v.category = 2 := by rw [← zcat_eq]; exact Nat.eq_of_beq_eq_true h
theorem zbr_t {b : Bool} {X Y : Prop} (h : zbr b X Y) (hb : b = true) : X := by rw [hb] at h; exact h
theorem zbr_f {b : Bool} {X Y : Prop} (h : zbr b X Y) (hb : b = false) : Y := by rw [hb] at h; exact h
theorem zif_t {b : Bool} {X : Prop} (h : zif False b X) : b = true ∧ X := by
  cases b with
  | true => exact ⟨rfl, h⟩
  | false => exact h.elim
theorem zget_t {L : zLc} {k : Nat} {F : Value → Prop} (h : zget False L k F) : ∃ v, L[k]? = some (some v) ∧ F v := by
  unfold zget at h
  split at h
  · rename_i v hv
    exact ⟨v, hv, h⟩
  · exact h.elim
theorem zoff_t {pc : Nat} {off : Int} (h : zoff pc off = true) : (pc : Int) + off = (ztg pc off : Int) := by
  have h1 : 0 ≤ (pc : Int) + off := of_decide_eq_true h
  unfold ztg
  omega
theorem zlt_t {ls : Array Slot} {nL k : Nat} {L : zLc} (hL : zL ls nL L) (h : Nat.blt k L.length = true) : k < nL := by
  have h1 := Nat.le_of_ble_eq_true h
  have h2 := hL.1
  omega
theorem zn64_t {a : UInt64} (h : zn64 a = true) : vf_n64 a := by
  unfold zn64 at h
  unfold vf_n64
  exact of_decide_eq_true h
theorem zn32_t {a : UInt32} (h : zn32 a = true) : vf_n32 a := by
  unfold zn32 at h
  unfold vf_n32
  exact of_decide_eq_true h
theorem zfin3 : ∀ k : Fin 3, k = 0 ∨ k = 1 ∨ k = 2 := by decide
theorem zfin2 : ∀ k : Fin 2, k = 0 ∨ k = 1 := by decide
theorem zls_at {L : zLc} {k : Nat} {v : Value} (h : L[k]? = some (some v)) : ∃ i : Nat, (zls L 0)[i]? = some ((k, v) : Nat × Value) := List.getElem?_of_mem ((zls_mem L 0 (k, v)).mpr ⟨k, by simp, h⟩)
section ZST
variable {G : zG} {p : Program} {l : Launch} {e : Env} {R : Room} {s : State} {m : MethodId} {args : Array Value} {below : List Frame} {meth : Method} {c : Code} {Q : State → Prop}
variable {r : zMd} {d g0 k0 : Nat} {hf h : zPH} {Rr : zOut → zPH → Prop} {Cc : Nat → List Value → List Value → Prop} {x : zAux} {n pc : Nat} {L : zLc} {st : List Value}
theorem zs_iconst {k : Int} (hF : zFm G p l R s m args meth c r d g0 k0 hf) (hd : decode r.2.1 pc = .ok (.iconst k, n)) (hn : zln (.iconst k) n = true) (ha : zAc G p l e R s m args below meth c Q r g0 k0 hf Rr Cc (.iconst k) n x pc L st h) : zGo G p l e R s m args below meth c Q r.2.2.1 g0 k0 (pc, L, st, h) := by
  have hn1 : Nat.beq 1 n = true := hn
  cases Nat.eq_of_beq_eq_true hn1
  dsimp only [zAc, zact] at ha
  intro H locs ls hH hl hL hg hk
  exact lv_iconst hF.1 hF.2.1 hd rfl (ha.2 H locs ls hH hl hL hg hk)
theorem zs_bipush {k : Int} (hF : zFm G p l R s m args meth c r d g0 k0 hf) (hd : decode r.2.1 pc = .ok (.bipush k, n)) (hn : zln (.bipush k) n = true) (ha : zAc G p l e R s m args below meth c Q r g0 k0 hf Rr Cc (.bipush k) n x pc L st h) : zGo G p l e R s m args below meth c Q r.2.2.1 g0 k0 (pc, L, st, h) := by
  have hn1 : Nat.beq 2 n = true := hn
  cases Nat.eq_of_beq_eq_true hn1
  dsimp only [zAc, zact] at ha
  intro H locs ls hH hl hL hg hk
  exact lv_bipush hF.1 hF.2.1 hd rfl (ha.2 H locs ls hH hl hL hg hk)
theorem zs_sipush {k : Int} (hF : zFm G p l R s m args meth c r d g0 k0 hf) (hd : decode r.2.1 pc = .ok (.sipush k, n)) (hn : zln (.sipush k) n = true) (ha : zAc G p l e R s m args below meth c Q r g0 k0 hf Rr Cc (.sipush k) n x pc L st h) : zGo G p l e R s m args below meth c Q r.2.2.1 g0 k0 (pc, L, st, h) := by
  have hn1 : Nat.beq 3 n = true := hn
  cases Nat.eq_of_beq_eq_true hn1
  dsimp only [zAc, zact] at ha
  intro H locs ls hH hl hL hg hk
  exact lv_sipush hF.1 hF.2.1 hd rfl (ha.2 H locs ls hH hl hL hg hk)
theorem zs_lconst {k : Fin 2} (hF : zFm G p l R s m args meth c r d g0 k0 hf) (hd : decode r.2.1 pc = .ok (.lconst k, n)) (hn : zln (.lconst k) n = true) (ha : zAc G p l e R s m args below meth c Q r g0 k0 hf Rr Cc (.lconst k) n x pc L st h) : zGo G p l e R s m args below meth c Q r.2.2.1 g0 k0 (pc, L, st, h) := by
  have hn1 : Nat.beq 1 n = true := hn
  cases Nat.eq_of_beq_eq_true hn1
  dsimp only [zAc, zact] at ha
  intro H locs ls hH hl hL hg hk
  exact lv_lconst hF.1 hF.2.1 hd rfl (ha.2 H locs ls hH hl hL hg hk)
theorem zs_aconst_null (hF : zFm G p l R s m args meth c r d g0 k0 hf) (hd : decode r.2.1 pc = .ok (.aconst_null, n)) (hn : zln (.aconst_null) n = true) (ha : zAc G p l e R s m args below meth c Q r g0 k0 hf Rr Cc (.aconst_null) n x pc L st h) : zGo G p l e R s m args below meth c Q r.2.2.1 g0 k0 (pc, L, st, h) := by
  have hn1 : Nat.beq 1 n = true := hn
  cases Nat.eq_of_beq_eq_true hn1
  dsimp only [zAc, zact] at ha
  intro H locs ls hH hl hL hg hk
  exact lv_null hF.1 hF.2.1 hd (ha.2 H locs ls hH hl hL hg hk)
theorem zs_fconst {k : Fin 3} (hF : zFm G p l R s m args meth c r d g0 k0 hf) (hd : decode r.2.1 pc = .ok (.fconst k, n)) (hn : zln (.fconst k) n = true) (ha : zAc G p l e R s m args below meth c Q r g0 k0 hf Rr Cc (.fconst k) n x pc L st h) : zGo G p l e R s m args below meth c Q r.2.2.1 g0 k0 (pc, L, st, h) := by
  have hn1 : Nat.beq 1 n = true := hn
  cases Nat.eq_of_beq_eq_true hn1
  dsimp only [zAc, zact] at ha
  rcases zfin3 k with rfl | rfl | rfl
  · intro H locs ls hH hl hL hg hk
    exact lv_fconst0 hF.1 hF.2.1 hd (ha.2 H locs ls hH hl hL hg hk)
  · intro H locs ls hH hl hL hg hk
    exact lv_fconst1 hF.1 hF.2.1 hd (ha.2 H locs ls hH hl hL hg hk)
  · exact ha.elim
theorem zs_dconst {k : Fin 2} (hF : zFm G p l R s m args meth c r d g0 k0 hf) (hd : decode r.2.1 pc = .ok (.dconst k, n)) (hn : zln (.dconst k) n = true) (ha : zAc G p l e R s m args below meth c Q r g0 k0 hf Rr Cc (.dconst k) n x pc L st h) : zGo G p l e R s m args below meth c Q r.2.2.1 g0 k0 (pc, L, st, h) := by
  have hn1 : Nat.beq 1 n = true := hn
  cases Nat.eq_of_beq_eq_true hn1
  dsimp only [zAc, zact] at ha
  rcases zfin2 k with rfl | rfl
  · intro H locs ls hH hl hL hg hk
    exact lv_dconst0 hF.1 hF.2.1 hd (ha.2 H locs ls hH hl hL hg hk)
  · intro H locs ls hH hl hL hg hk
    exact lv_dconst1 hF.1 hF.2.1 hd (ha.2 H locs ls hH hl hL hg hk)
theorem zs_iload {k : Nat} (hF : zFm G p l R s m args meth c r d g0 k0 hf) (hd : decode r.2.1 pc = .ok (.iload k, n)) (hn : zln (.iload k) n = true) (ha : zAc G p l e R s m args below meth c Q r g0 k0 hf Rr Cc (.iload k) n x pc L st h) : zGo G p l e R s m args below meth c Q r.2.2.1 g0 k0 (pc, L, st, h) := by
  have hn1 : Nat.beq 2 n = true := hn
  cases Nat.eq_of_beq_eq_true hn1
  dsimp only [zAc, zact] at ha
  obtain ⟨v, hv, ha⟩ := zget_t ha
  split at ha
  · intro H locs ls hH hl hL hg hk
    exact lv_iload hF.1 hF.2.1 hd (hL.2.2.2 _ _ hv) (ha.2 H locs ls hH hl hL hg hk)
  · exact ha.elim
theorem zs_iload_n {k : Fin 4} (hF : zFm G p l R s m args meth c r d g0 k0 hf) (hd : decode r.2.1 pc = .ok (.iload_n k, n)) (hn : zln (.iload_n k) n = true) (ha : zAc G p l e R s m args below meth c Q r g0 k0 hf Rr Cc (.iload_n k) n x pc L st h) : zGo G p l e R s m args below meth c Q r.2.2.1 g0 k0 (pc, L, st, h) := by
  have hn1 : Nat.beq 1 n = true := hn
  cases Nat.eq_of_beq_eq_true hn1
  dsimp only [zAc, zact] at ha
  obtain ⟨v, hv, ha⟩ := zget_t ha
  split at ha
  · intro H locs ls hH hl hL hg hk
    exact lv_iload_n hF.1 hF.2.1 hd rfl (hL.2.2.2 _ _ hv) (ha.2 H locs ls hH hl hL hg hk)
  · exact ha.elim
theorem zs_lload {k : Nat} (hF : zFm G p l R s m args meth c r d g0 k0 hf) (hd : decode r.2.1 pc = .ok (.lload k, n)) (hn : zln (.lload k) n = true) (ha : zAc G p l e R s m args below meth c Q r g0 k0 hf Rr Cc (.lload k) n x pc L st h) : zGo G p l e R s m args below meth c Q r.2.2.1 g0 k0 (pc, L, st, h) := by
  have hn1 : Nat.beq 2 n = true := hn
  cases Nat.eq_of_beq_eq_true hn1
  dsimp only [zAc, zact] at ha
  obtain ⟨v, hv, ha⟩ := zget_t ha
  split at ha
  · intro H locs ls hH hl hL hg hk
    exact lv_lload hF.1 hF.2.1 hd (hL.2.2.2 _ _ hv) (ha.2 H locs ls hH hl hL hg hk)
  · exact ha.elim
theorem zs_lload_n {k : Fin 4} (hF : zFm G p l R s m args meth c r d g0 k0 hf) (hd : decode r.2.1 pc = .ok (.lload_n k, n)) (hn : zln (.lload_n k) n = true) (ha : zAc G p l e R s m args below meth c Q r g0 k0 hf Rr Cc (.lload_n k) n x pc L st h) : zGo G p l e R s m args below meth c Q r.2.2.1 g0 k0 (pc, L, st, h) := by
  have hn1 : Nat.beq 1 n = true := hn
  cases Nat.eq_of_beq_eq_true hn1
  dsimp only [zAc, zact] at ha
  obtain ⟨v, hv, ha⟩ := zget_t ha
  split at ha
  · intro H locs ls hH hl hL hg hk
    exact lv_lload_n hF.1 hF.2.1 hd rfl (hL.2.2.2 _ _ hv) (ha.2 H locs ls hH hl hL hg hk)
  · exact ha.elim
theorem zs_dload {k : Nat} (hF : zFm G p l R s m args meth c r d g0 k0 hf) (hd : decode r.2.1 pc = .ok (.dload k, n)) (hn : zln (.dload k) n = true) (ha : zAc G p l e R s m args below meth c Q r g0 k0 hf Rr Cc (.dload k) n x pc L st h) : zGo G p l e R s m args below meth c Q r.2.2.1 g0 k0 (pc, L, st, h) := by
  have hn1 : Nat.beq 2 n = true := hn
  cases Nat.eq_of_beq_eq_true hn1
  dsimp only [zAc, zact] at ha
  obtain ⟨v, hv, ha⟩ := zget_t ha
  split at ha
  · intro H locs ls hH hl hL hg hk
    exact lv_dload hF.1 hF.2.1 hd (hL.2.2.2 _ _ hv) (ha.2 H locs ls hH hl hL hg hk)
  · exact ha.elim
theorem zs_dload_n {k : Fin 4} (hF : zFm G p l R s m args meth c r d g0 k0 hf) (hd : decode r.2.1 pc = .ok (.dload_n k, n)) (hn : zln (.dload_n k) n = true) (ha : zAc G p l e R s m args below meth c Q r g0 k0 hf Rr Cc (.dload_n k) n x pc L st h) : zGo G p l e R s m args below meth c Q r.2.2.1 g0 k0 (pc, L, st, h) := by
  have hn1 : Nat.beq 1 n = true := hn
  cases Nat.eq_of_beq_eq_true hn1
  dsimp only [zAc, zact] at ha
  obtain ⟨v, hv, ha⟩ := zget_t ha
  split at ha
  · intro H locs ls hH hl hL hg hk
    exact lv_dload_n hF.1 hF.2.1 hd rfl (hL.2.2.2 _ _ hv) (ha.2 H locs ls hH hl hL hg hk)
  · exact ha.elim
theorem zs_fload {k : Nat} (hF : zFm G p l R s m args meth c r d g0 k0 hf) (hd : decode r.2.1 pc = .ok (.fload k, n)) (hn : zln (.fload k) n = true) (ha : zAc G p l e R s m args below meth c Q r g0 k0 hf Rr Cc (.fload k) n x pc L st h) : zGo G p l e R s m args below meth c Q r.2.2.1 g0 k0 (pc, L, st, h) := by
  have hn1 : Nat.beq 2 n = true := hn
  cases Nat.eq_of_beq_eq_true hn1
  dsimp only [zAc, zact] at ha
  obtain ⟨v, hv, ha⟩ := zget_t ha
  split at ha
  · intro H locs ls hH hl hL hg hk
    exact lv_fload hF.1 hF.2.1 hd (hL.2.2.2 _ _ hv) (ha.2 H locs ls hH hl hL hg hk)
  · exact ha.elim
theorem zs_fload_n {k : Fin 4} (hF : zFm G p l R s m args meth c r d g0 k0 hf) (hd : decode r.2.1 pc = .ok (.fload_n k, n)) (hn : zln (.fload_n k) n = true) (ha : zAc G p l e R s m args below meth c Q r g0 k0 hf Rr Cc (.fload_n k) n x pc L st h) : zGo G p l e R s m args below meth c Q r.2.2.1 g0 k0 (pc, L, st, h) := by
  have hn1 : Nat.beq 1 n = true := hn
  cases Nat.eq_of_beq_eq_true hn1
  dsimp only [zAc, zact] at ha
  obtain ⟨v, hv, ha⟩ := zget_t ha
  split at ha
  · intro H locs ls hH hl hL hg hk
    exact lv_fload_n hF.1 hF.2.1 hd rfl (hL.2.2.2 _ _ hv) (ha.2 H locs ls hH hl hL hg hk)
  · exact ha.elim
theorem zs_aload {k : Nat} (hF : zFm G p l R s m args meth c r d g0 k0 hf) (hd : decode r.2.1 pc = .ok (.aload k, n)) (hn : zln (.aload k) n = true) (ha : zAc G p l e R s m args below meth c Q r g0 k0 hf Rr Cc (.aload k) n x pc L st h) : zGo G p l e R s m args below meth c Q r.2.2.1 g0 k0 (pc, L, st, h) := by
  have hn1 : Nat.beq 2 n = true := hn
  cases Nat.eq_of_beq_eq_true hn1
  dsimp only [zAc, zact] at ha
  obtain ⟨v, hv, ha⟩ := zget_t ha
  split at ha
  · intro H locs ls hH hl hL hg hk
    exact lv_aload hF.1 hF.2.1 hd (hL.2.2.2 _ _ hv) (ha.2 H locs ls hH hl hL hg hk)
  · intro H locs ls hH hl hL hg hk
    exact lv_aloadN hF.1 hF.2.1 hd (hL.2.2.2 _ _ hv) (ha.2 H locs ls hH hl hL hg hk)
  · exact ha.elim
theorem zs_aload_n {k : Fin 4} (hF : zFm G p l R s m args meth c r d g0 k0 hf) (hd : decode r.2.1 pc = .ok (.aload_n k, n)) (hn : zln (.aload_n k) n = true) (ha : zAc G p l e R s m args below meth c Q r g0 k0 hf Rr Cc (.aload_n k) n x pc L st h) : zGo G p l e R s m args below meth c Q r.2.2.1 g0 k0 (pc, L, st, h) := by
  have hn1 : Nat.beq 1 n = true := hn
  cases Nat.eq_of_beq_eq_true hn1
  dsimp only [zAc, zact] at ha
  obtain ⟨v, hv, ha⟩ := zget_t ha
  split at ha
  · intro H locs ls hH hl hL hg hk
    exact lv_aload_n hF.1 hF.2.1 hd rfl (hL.2.2.2 _ _ hv) (ha.2 H locs ls hH hl hL hg hk)
  · intro H locs ls hH hl hL hg hk
    exact lv_aload_nN hF.1 hF.2.1 hd rfl (hL.2.2.2 _ _ hv) (ha.2 H locs ls hH hl hL hg hk)
  · exact ha.elim
theorem zs_istore {k : Nat} (hF : zFm G p l R s m args meth c r d g0 k0 hf) (hd : decode r.2.1 pc = .ok (.istore k, n)) (hn : zln (.istore k) n = true) (ha : zAc G p l e R s m args below meth c Q r g0 k0 hf Rr Cc (.istore k) n x pc L st h) : zGo G p l e R s m args below meth c Q r.2.2.1 g0 k0 (pc, L, st, h) := by
  have hn1 : Nat.beq 2 n = true := hn
  cases Nat.eq_of_beq_eq_true hn1
  dsimp only [zAc, zact] at ha
  split at ha
  · obtain ⟨hlt, ha⟩ := zif_t ha
    intro H locs ls hH hl hL hg hk
    have hlt2 := zlt_t hL hlt
    exact lv_istore hF.1 hF.2.1 hd hL.has hlt2 rfl fun ls2 hl2 => ha.2 H locs ls2 hH hl (zL.put (Or.inl rfl) hL hl2) hg hk
  · exact ha.elim
theorem zs_istore_n {k : Fin 4} (hF : zFm G p l R s m args meth c r d g0 k0 hf) (hd : decode r.2.1 pc = .ok (.istore_n k, n)) (hn : zln (.istore_n k) n = true) (ha : zAc G p l e R s m args below meth c Q r g0 k0 hf Rr Cc (.istore_n k) n x pc L st h) : zGo G p l e R s m args below meth c Q r.2.2.1 g0 k0 (pc, L, st, h) := by
  have hn1 : Nat.beq 1 n = true := hn
  cases Nat.eq_of_beq_eq_true hn1
  dsimp only [zAc, zact] at ha
  split at ha
  · obtain ⟨hlt, ha⟩ := zif_t ha
    intro H locs ls hH hl hL hg hk
    have hlt2 := zlt_t hL hlt
    exact lv_istore_n hF.1 hF.2.1 hd rfl hL.has hlt2 rfl fun ls2 hl2 => ha.2 H locs ls2 hH hl (zL.put (Or.inl rfl) hL hl2) hg hk
  · exact ha.elim
theorem zs_fstore {k : Nat} (hF : zFm G p l R s m args meth c r d g0 k0 hf) (hd : decode r.2.1 pc = .ok (.fstore k, n)) (hn : zln (.fstore k) n = true) (ha : zAc G p l e R s m args below meth c Q r g0 k0 hf Rr Cc (.fstore k) n x pc L st h) : zGo G p l e R s m args below meth c Q r.2.2.1 g0 k0 (pc, L, st, h) := by
  have hn1 : Nat.beq 2 n = true := hn
  cases Nat.eq_of_beq_eq_true hn1
  dsimp only [zAc, zact] at ha
  split at ha
  · obtain ⟨hlt, ha⟩ := zif_t ha
    intro H locs ls hH hl hL hg hk
    have hlt2 := zlt_t hL hlt
    exact lv_fstore hF.1 hF.2.1 hd hL.has hlt2 rfl fun ls2 hl2 => ha.2 H locs ls2 hH hl (zL.put (Or.inl rfl) hL hl2) hg hk
  · exact ha.elim
theorem zs_fstore_n {k : Fin 4} (hF : zFm G p l R s m args meth c r d g0 k0 hf) (hd : decode r.2.1 pc = .ok (.fstore_n k, n)) (hn : zln (.fstore_n k) n = true) (ha : zAc G p l e R s m args below meth c Q r g0 k0 hf Rr Cc (.fstore_n k) n x pc L st h) : zGo G p l e R s m args below meth c Q r.2.2.1 g0 k0 (pc, L, st, h) := by
  have hn1 : Nat.beq 1 n = true := hn
  cases Nat.eq_of_beq_eq_true hn1
  dsimp only [zAc, zact] at ha
  split at ha
  · obtain ⟨hlt, ha⟩ := zif_t ha
    intro H locs ls hH hl hL hg hk
    have hlt2 := zlt_t hL hlt
    exact lv_fstore_n hF.1 hF.2.1 hd rfl hL.has hlt2 rfl fun ls2 hl2 => ha.2 H locs ls2 hH hl (zL.put (Or.inl rfl) hL hl2) hg hk
  · exact ha.elim
theorem zs_lstore {k : Nat} (hF : zFm G p l R s m args meth c r d g0 k0 hf) (hd : decode r.2.1 pc = .ok (.lstore k, n)) (hn : zln (.lstore k) n = true) (ha : zAc G p l e R s m args below meth c Q r g0 k0 hf Rr Cc (.lstore k) n x pc L st h) : zGo G p l e R s m args below meth c Q r.2.2.1 g0 k0 (pc, L, st, h) := by
  have hn1 : Nat.beq 2 n = true := hn
  cases Nat.eq_of_beq_eq_true hn1
  dsimp only [zAc, zact] at ha
  split at ha
  · obtain ⟨hlt, ha⟩ := zif_t ha
    intro H locs ls hH hl hL hg hk
    have hlt2 := zlt_t hL hlt
    exact lv_lstore hF.1 hF.2.1 hd hL.has hlt2 rfl fun ls2 hl2 => ha.2 H locs ls2 hH hl (zL.put2 hL hl2) hg hk
  · exact ha.elim
theorem zs_lstore_n {k : Fin 4} (hF : zFm G p l R s m args meth c r d g0 k0 hf) (hd : decode r.2.1 pc = .ok (.lstore_n k, n)) (hn : zln (.lstore_n k) n = true) (ha : zAc G p l e R s m args below meth c Q r g0 k0 hf Rr Cc (.lstore_n k) n x pc L st h) : zGo G p l e R s m args below meth c Q r.2.2.1 g0 k0 (pc, L, st, h) := by
  have hn1 : Nat.beq 1 n = true := hn
  cases Nat.eq_of_beq_eq_true hn1
  dsimp only [zAc, zact] at ha
  split at ha
  · obtain ⟨hlt, ha⟩ := zif_t ha
    intro H locs ls hH hl hL hg hk
    have hlt2 := zlt_t hL hlt
    exact lv_lstore_n hF.1 hF.2.1 hd rfl hL.has hlt2 rfl fun ls2 hl2 => ha.2 H locs ls2 hH hl (zL.put2 hL hl2) hg hk
  · exact ha.elim
theorem zs_dstore {k : Nat} (hF : zFm G p l R s m args meth c r d g0 k0 hf) (hd : decode r.2.1 pc = .ok (.dstore k, n)) (hn : zln (.dstore k) n = true) (ha : zAc G p l e R s m args below meth c Q r g0 k0 hf Rr Cc (.dstore k) n x pc L st h) : zGo G p l e R s m args below meth c Q r.2.2.1 g0 k0 (pc, L, st, h) := by
  have hn1 : Nat.beq 2 n = true := hn
  cases Nat.eq_of_beq_eq_true hn1
  dsimp only [zAc, zact] at ha
  split at ha
  · obtain ⟨hlt, ha⟩ := zif_t ha
    intro H locs ls hH hl hL hg hk
    have hlt2 := zlt_t hL hlt
    exact lv_dstore hF.1 hF.2.1 hd hL.has hlt2 rfl fun ls2 hl2 => ha.2 H locs ls2 hH hl (zL.put2 hL hl2) hg hk
  · exact ha.elim
theorem zs_dstore_n {k : Fin 4} (hF : zFm G p l R s m args meth c r d g0 k0 hf) (hd : decode r.2.1 pc = .ok (.dstore_n k, n)) (hn : zln (.dstore_n k) n = true) (ha : zAc G p l e R s m args below meth c Q r g0 k0 hf Rr Cc (.dstore_n k) n x pc L st h) : zGo G p l e R s m args below meth c Q r.2.2.1 g0 k0 (pc, L, st, h) := by
  have hn1 : Nat.beq 1 n = true := hn
  cases Nat.eq_of_beq_eq_true hn1
  dsimp only [zAc, zact] at ha
  split at ha
  · obtain ⟨hlt, ha⟩ := zif_t ha
    intro H locs ls hH hl hL hg hk
    have hlt2 := zlt_t hL hlt
    exact lv_dstore_n hF.1 hF.2.1 hd rfl hL.has hlt2 rfl fun ls2 hl2 => ha.2 H locs ls2 hH hl (zL.put2 hL hl2) hg hk
  · exact ha.elim
theorem zs_astore {k : Nat} (hF : zFm G p l R s m args meth c r d g0 k0 hf) (hd : decode r.2.1 pc = .ok (.astore k, n)) (hn : zln (.astore k) n = true) (ha : zAc G p l e R s m args below meth c Q r g0 k0 hf Rr Cc (.astore k) n x pc L st h) : zGo G p l e R s m args below meth c Q r.2.2.1 g0 k0 (pc, L, st, h) := by
  have hn1 : Nat.beq 2 n = true := hn
  cases Nat.eq_of_beq_eq_true hn1
  dsimp only [zAc, zact] at ha
  split at ha
  · obtain ⟨hlt, ha⟩ := zif_t ha
    intro H locs ls hH hl hL hg hk
    have hlt2 := zlt_t hL hlt
    exact lv_astore hF.1 hF.2.1 hd hL.has hlt2 rfl fun ls2 hl2 => ha.2 H locs ls2 hH hl (zL.put (Or.inl rfl) hL hl2) hg hk
  · obtain ⟨hlt, ha⟩ := zif_t ha
    intro H locs ls hH hl hL hg hk
    have hlt2 := zlt_t hL hlt
    exact lv_astoreN hF.1 hF.2.1 hd hL.has hlt2 rfl fun ls2 hl2 => ha.2 H locs ls2 hH hl (zL.put (Or.inl rfl) hL hl2) hg hk
  · exact ha.elim
theorem zs_astore_n {k : Fin 4} (hF : zFm G p l R s m args meth c r d g0 k0 hf) (hd : decode r.2.1 pc = .ok (.astore_n k, n)) (hn : zln (.astore_n k) n = true) (ha : zAc G p l e R s m args below meth c Q r g0 k0 hf Rr Cc (.astore_n k) n x pc L st h) : zGo G p l e R s m args below meth c Q r.2.2.1 g0 k0 (pc, L, st, h) := by
  have hn1 : Nat.beq 1 n = true := hn
  cases Nat.eq_of_beq_eq_true hn1
  dsimp only [zAc, zact] at ha
  split at ha
  · obtain ⟨hlt, ha⟩ := zif_t ha
    intro H locs ls hH hl hL hg hk
    have hlt2 := zlt_t hL hlt
    exact lv_astore_n hF.1 hF.2.1 hd rfl hL.has hlt2 rfl fun ls2 hl2 => ha.2 H locs ls2 hH hl (zL.put (Or.inl rfl) hL hl2) hg hk
  · obtain ⟨hlt, ha⟩ := zif_t ha
    intro H locs ls hH hl hL hg hk
    have hlt2 := zlt_t hL hlt
    exact lv_astore_nN hF.1 hF.2.1 hd rfl hL.has hlt2 rfl fun ls2 hl2 => ha.2 H locs ls2 hH hl (zL.put (Or.inl rfl) hL hl2) hg hk
  · exact ha.elim
theorem zs_iinc {k : Nat} {q : Int} (hF : zFm G p l R s m args meth c r d g0 k0 hf) (hd : decode r.2.1 pc = .ok (.iinc k q, n)) (hn : zln (.iinc k q) n = true) (ha : zAc G p l e R s m args below meth c Q r g0 k0 hf Rr Cc (.iinc k q) n x pc L st h) : zGo G p l e R s m args below meth c Q r.2.2.1 g0 k0 (pc, L, st, h) := by
  have hn1 : Nat.beq 3 n = true := hn
  cases Nat.eq_of_beq_eq_true hn1
  dsimp only [zAc, zact] at ha
  obtain ⟨v, hv, ha⟩ := zget_t ha
  split at ha
  · obtain ⟨hlt, ha⟩ := zif_t ha
    intro H locs ls hH hl hL hg hk
    have hlt2 := zlt_t hL hlt
    obtain ⟨i, hi⟩ := zls_at hv
    exact lv_iinc hF.1 hF.2.1 hd hL.has hi rfl hlt2 rfl fun ls2 hl2 => ha.2 H locs ls2 hH hl (zL.put (Or.inl rfl) hL hl2) hg hk
  · exact ha.elim
theorem zs_pop (hF : zFm G p l R s m args meth c r d g0 k0 hf) (hd : decode r.2.1 pc = .ok (.pop, n)) (hn : zln (.pop) n = true) (ha : zAc G p l e R s m args below meth c Q r g0 k0 hf Rr Cc (.pop) n x pc L st h) : zGo G p l e R s m args below meth c Q r.2.2.1 g0 k0 (pc, L, st, h) := by
  have hn1 : Nat.beq 1 n = true := hn
  cases Nat.eq_of_beq_eq_true hn1
  dsimp only [zAc, zact] at ha
  split at ha
  · obtain ⟨hc, ha⟩ := zif_t ha
    intro H locs ls hH hl hL hg hk
    exact lv_pop hF.1 hF.2.1 hd (zcat1 hc) (ha.2 H locs ls hH hl hL hg hk)
  · exact ha.elim
theorem zs_pop2 (hF : zFm G p l R s m args meth c r d g0 k0 hf) (hd : decode r.2.1 pc = .ok (.pop2, n)) (hn : zln (.pop2) n = true) (ha : zAc G p l e R s m args below meth c Q r g0 k0 hf Rr Cc (.pop2) n x pc L st h) : zGo G p l e R s m args below meth c Q r.2.2.1 g0 k0 (pc, L, st, h) := by
  have hn1 : Nat.beq 1 n = true := hn
  cases Nat.eq_of_beq_eq_true hn1
  dsimp only [zAc, zact] at ha
  split at ha
  · obtain ⟨hc, ha⟩ := zif_t ha
    intro H locs ls hH hl hL hg hk
    exact lv_pop2_2 hF.1 hF.2.1 hd (zcat2 hc) (ha.2 H locs ls hH hl hL hg hk)
  · exact ha.elim
theorem zs_dup (hF : zFm G p l R s m args meth c r d g0 k0 hf) (hd : decode r.2.1 pc = .ok (.dup, n)) (hn : zln (.dup) n = true) (ha : zAc G p l e R s m args below meth c Q r g0 k0 hf Rr Cc (.dup) n x pc L st h) : zGo G p l e R s m args below meth c Q r.2.2.1 g0 k0 (pc, L, st, h) := by
  have hn1 : Nat.beq 1 n = true := hn
  cases Nat.eq_of_beq_eq_true hn1
  dsimp only [zAc, zact] at ha
  split at ha
  · obtain ⟨hc, ha⟩ := zif_t ha
    intro H locs ls hH hl hL hg hk
    exact lv_dup hF.1 hF.2.1 hd (zcat1 hc) (ha.2 H locs ls hH hl hL hg hk)
  · exact ha.elim
theorem zs_dup_x1 (hF : zFm G p l R s m args meth c r d g0 k0 hf) (hd : decode r.2.1 pc = .ok (.dup_x1, n)) (hn : zln (.dup_x1) n = true) (ha : zAc G p l e R s m args below meth c Q r g0 k0 hf Rr Cc (.dup_x1) n x pc L st h) : zGo G p l e R s m args below meth c Q r.2.2.1 g0 k0 (pc, L, st, h) := by
  have hn1 : Nat.beq 1 n = true := hn
  cases Nat.eq_of_beq_eq_true hn1
  dsimp only [zAc, zact] at ha
  split at ha
  · obtain ⟨hc, ha⟩ := zif_t ha
    obtain ⟨hc2, ha⟩ := zif_t ha
    intro H locs ls hH hl hL hg hk
    exact lv_dup_x1 hF.1 hF.2.1 hd (zcat1 hc) (zcat1 hc2) (ha.2 H locs ls hH hl hL hg hk)
  · exact ha.elim
theorem zs_dup2 (hF : zFm G p l R s m args meth c r d g0 k0 hf) (hd : decode r.2.1 pc = .ok (.dup2, n)) (hn : zln (.dup2) n = true) (ha : zAc G p l e R s m args below meth c Q r g0 k0 hf Rr Cc (.dup2) n x pc L st h) : zGo G p l e R s m args below meth c Q r.2.2.1 g0 k0 (pc, L, st, h) := by
  have hn1 : Nat.beq 1 n = true := hn
  cases Nat.eq_of_beq_eq_true hn1
  dsimp only [zAc, zact] at ha
  split at ha
  · obtain ⟨hc, ha⟩ := zif_t ha
    obtain ⟨hc2, ha⟩ := zif_t ha
    intro H locs ls hH hl hL hg hk
    exact lv_dup2_11 hF.1 hF.2.1 hd (zcat1 hc) (zcat1 hc2) (ha.2 H locs ls hH hl hL hg hk)
  · exact ha.elim
theorem zs_iadd (hF : zFm G p l R s m args meth c r d g0 k0 hf) (hd : decode r.2.1 pc = .ok (.iadd, n)) (hn : zln (.iadd) n = true) (ha : zAc G p l e R s m args below meth c Q r g0 k0 hf Rr Cc (.iadd) n x pc L st h) : zGo G p l e R s m args below meth c Q r.2.2.1 g0 k0 (pc, L, st, h) := by
  have hn1 : Nat.beq 1 n = true := hn
  cases Nat.eq_of_beq_eq_true hn1
  dsimp only [zAc, zact] at ha
  split at ha
  · intro H locs ls hH hl hL hg hk
    exact lv_iadd hF.1 hF.2.1 hd (ha.2 H locs ls hH hl hL hg hk)
  · exact ha.elim
theorem zs_isub (hF : zFm G p l R s m args meth c r d g0 k0 hf) (hd : decode r.2.1 pc = .ok (.isub, n)) (hn : zln (.isub) n = true) (ha : zAc G p l e R s m args below meth c Q r g0 k0 hf Rr Cc (.isub) n x pc L st h) : zGo G p l e R s m args below meth c Q r.2.2.1 g0 k0 (pc, L, st, h) := by
  have hn1 : Nat.beq 1 n = true := hn
  cases Nat.eq_of_beq_eq_true hn1
  dsimp only [zAc, zact] at ha
  split at ha
  · intro H locs ls hH hl hL hg hk
    exact lv_isub hF.1 hF.2.1 hd (ha.2 H locs ls hH hl hL hg hk)
  · exact ha.elim
theorem zs_imul (hF : zFm G p l R s m args meth c r d g0 k0 hf) (hd : decode r.2.1 pc = .ok (.imul, n)) (hn : zln (.imul) n = true) (ha : zAc G p l e R s m args below meth c Q r g0 k0 hf Rr Cc (.imul) n x pc L st h) : zGo G p l e R s m args below meth c Q r.2.2.1 g0 k0 (pc, L, st, h) := by
  have hn1 : Nat.beq 1 n = true := hn
  cases Nat.eq_of_beq_eq_true hn1
  dsimp only [zAc, zact] at ha
  split at ha
  · intro H locs ls hH hl hL hg hk
    exact lv_imul hF.1 hF.2.1 hd (ha.2 H locs ls hH hl hL hg hk)
  · exact ha.elim
theorem zs_ineg (hF : zFm G p l R s m args meth c r d g0 k0 hf) (hd : decode r.2.1 pc = .ok (.ineg, n)) (hn : zln (.ineg) n = true) (ha : zAc G p l e R s m args below meth c Q r g0 k0 hf Rr Cc (.ineg) n x pc L st h) : zGo G p l e R s m args below meth c Q r.2.2.1 g0 k0 (pc, L, st, h) := by
  have hn1 : Nat.beq 1 n = true := hn
  cases Nat.eq_of_beq_eq_true hn1
  dsimp only [zAc, zact] at ha
  split at ha
  · intro H locs ls hH hl hL hg hk
    exact lv_ineg hF.1 hF.2.1 hd (ha.2 H locs ls hH hl hL hg hk)
  · exact ha.elim
theorem zs_iand (hF : zFm G p l R s m args meth c r d g0 k0 hf) (hd : decode r.2.1 pc = .ok (.iand, n)) (hn : zln (.iand) n = true) (ha : zAc G p l e R s m args below meth c Q r g0 k0 hf Rr Cc (.iand) n x pc L st h) : zGo G p l e R s m args below meth c Q r.2.2.1 g0 k0 (pc, L, st, h) := by
  have hn1 : Nat.beq 1 n = true := hn
  cases Nat.eq_of_beq_eq_true hn1
  dsimp only [zAc, zact] at ha
  split at ha
  · intro H locs ls hH hl hL hg hk
    exact lv_iand hF.1 hF.2.1 hd (ha.2 H locs ls hH hl hL hg hk)
  · exact ha.elim
theorem zs_ior (hF : zFm G p l R s m args meth c r d g0 k0 hf) (hd : decode r.2.1 pc = .ok (.ior, n)) (hn : zln (.ior) n = true) (ha : zAc G p l e R s m args below meth c Q r g0 k0 hf Rr Cc (.ior) n x pc L st h) : zGo G p l e R s m args below meth c Q r.2.2.1 g0 k0 (pc, L, st, h) := by
  have hn1 : Nat.beq 1 n = true := hn
  cases Nat.eq_of_beq_eq_true hn1
  dsimp only [zAc, zact] at ha
  split at ha
  · intro H locs ls hH hl hL hg hk
    exact lv_ior hF.1 hF.2.1 hd (ha.2 H locs ls hH hl hL hg hk)
  · exact ha.elim
theorem zs_ixor (hF : zFm G p l R s m args meth c r d g0 k0 hf) (hd : decode r.2.1 pc = .ok (.ixor, n)) (hn : zln (.ixor) n = true) (ha : zAc G p l e R s m args below meth c Q r g0 k0 hf Rr Cc (.ixor) n x pc L st h) : zGo G p l e R s m args below meth c Q r.2.2.1 g0 k0 (pc, L, st, h) := by
  have hn1 : Nat.beq 1 n = true := hn
  cases Nat.eq_of_beq_eq_true hn1
  dsimp only [zAc, zact] at ha
  split at ha
  · intro H locs ls hH hl hL hg hk
    exact lv_ixor hF.1 hF.2.1 hd (ha.2 H locs ls hH hl hL hg hk)
  · exact ha.elim
theorem zs_ishl (hF : zFm G p l R s m args meth c r d g0 k0 hf) (hd : decode r.2.1 pc = .ok (.ishl, n)) (hn : zln (.ishl) n = true) (ha : zAc G p l e R s m args below meth c Q r g0 k0 hf Rr Cc (.ishl) n x pc L st h) : zGo G p l e R s m args below meth c Q r.2.2.1 g0 k0 (pc, L, st, h) := by
  have hn1 : Nat.beq 1 n = true := hn
  cases Nat.eq_of_beq_eq_true hn1
  dsimp only [zAc, zact] at ha
  split at ha
  · intro H locs ls hH hl hL hg hk
    exact lv_ishl hF.1 hF.2.1 hd (ha.2 H locs ls hH hl hL hg hk)
  · exact ha.elim
theorem zs_ishr (hF : zFm G p l R s m args meth c r d g0 k0 hf) (hd : decode r.2.1 pc = .ok (.ishr, n)) (hn : zln (.ishr) n = true) (ha : zAc G p l e R s m args below meth c Q r g0 k0 hf Rr Cc (.ishr) n x pc L st h) : zGo G p l e R s m args below meth c Q r.2.2.1 g0 k0 (pc, L, st, h) := by
  have hn1 : Nat.beq 1 n = true := hn
  cases Nat.eq_of_beq_eq_true hn1
  dsimp only [zAc, zact] at ha
  split at ha
  · intro H locs ls hH hl hL hg hk
    exact lv_ishr hF.1 hF.2.1 hd (ha.2 H locs ls hH hl hL hg hk)
  · exact ha.elim
theorem zs_ladd (hF : zFm G p l R s m args meth c r d g0 k0 hf) (hd : decode r.2.1 pc = .ok (.ladd, n)) (hn : zln (.ladd) n = true) (ha : zAc G p l e R s m args below meth c Q r g0 k0 hf Rr Cc (.ladd) n x pc L st h) : zGo G p l e R s m args below meth c Q r.2.2.1 g0 k0 (pc, L, st, h) := by
  have hn1 : Nat.beq 1 n = true := hn
  cases Nat.eq_of_beq_eq_true hn1
  dsimp only [zAc, zact] at ha
  split at ha
  · intro H locs ls hH hl hL hg hk
    exact lv_ladd hF.1 hF.2.1 hd (ha.2 H locs ls hH hl hL hg hk)
  · exact ha.elim
theorem zs_lmul (hF : zFm G p l R s m args meth c r d g0 k0 hf) (hd : decode r.2.1 pc = .ok (.lmul, n)) (hn : zln (.lmul) n = true) (ha : zAc G p l e R s m args below meth c Q r g0 k0 hf Rr Cc (.lmul) n x pc L st h) : zGo G p l e R s m args below meth c Q r.2.2.1 g0 k0 (pc, L, st, h) := by
  have hn1 : Nat.beq 1 n = true := hn
  cases Nat.eq_of_beq_eq_true hn1
  dsimp only [zAc, zact] at ha
  split at ha
  · intro H locs ls hH hl hL hg hk
    exact lv_lmul hF.1 hF.2.1 hd (ha.2 H locs ls hH hl hL hg hk)
  · exact ha.elim
theorem zs_idiv (hF : zFm G p l R s m args meth c r d g0 k0 hf) (hd : decode r.2.1 pc = .ok (.idiv, n)) (hn : zln (.idiv) n = true) (ha : zAc G p l e R s m args below meth c Q r g0 k0 hf Rr Cc (.idiv) n x pc L st h) : zGo G p l e R s m args below meth c Q r.2.2.1 g0 k0 (pc, L, st, h) := by
  have hn1 : Nat.beq 1 n = true := hn
  cases Nat.eq_of_beq_eq_true hn1
  dsimp only [zAc, zact] at ha
  split at ha
  · obtain ⟨hz, ha⟩ := zif_t ha
    intro H locs ls hH hl hL hg hk
    exact lv_idiv hF.1 hF.2.1 hd (by simpa using hz) (ha.2 H locs ls hH hl hL hg hk)
  · exact ha.elim
theorem zs_irem (hF : zFm G p l R s m args meth c r d g0 k0 hf) (hd : decode r.2.1 pc = .ok (.irem, n)) (hn : zln (.irem) n = true) (ha : zAc G p l e R s m args below meth c Q r g0 k0 hf Rr Cc (.irem) n x pc L st h) : zGo G p l e R s m args below meth c Q r.2.2.1 g0 k0 (pc, L, st, h) := by
  have hn1 : Nat.beq 1 n = true := hn
  cases Nat.eq_of_beq_eq_true hn1
  dsimp only [zAc, zact] at ha
  split at ha
  · obtain ⟨hz, ha⟩ := zif_t ha
    intro H locs ls hH hl hL hg hk
    exact lv_irem hF.1 hF.2.1 hd (by simpa using hz) (ha.2 H locs ls hH hl hL hg hk)
  · exact ha.elim
theorem zs_iushr (hF : zFm G p l R s m args meth c r d g0 k0 hf) (hd : decode r.2.1 pc = .ok (.iushr, n)) (hn : zln (.iushr) n = true) (ha : zAc G p l e R s m args below meth c Q r g0 k0 hf Rr Cc (.iushr) n x pc L st h) : zGo G p l e R s m args below meth c Q r.2.2.1 g0 k0 (pc, L, st, h) := by
  have hn1 : Nat.beq 1 n = true := hn
  cases Nat.eq_of_beq_eq_true hn1
  dsimp only [zAc, zact] at ha
  split at ha
  · intro H locs ls hH hl hL hg hk
    exact lv_iushr hF.1 hF.2.1 hd rfl (ha.2 H locs ls hH hl hL hg hk)
  · exact ha.elim
theorem zs_i2l (hF : zFm G p l R s m args meth c r d g0 k0 hf) (hd : decode r.2.1 pc = .ok (.i2l, n)) (hn : zln (.i2l) n = true) (ha : zAc G p l e R s m args below meth c Q r g0 k0 hf Rr Cc (.i2l) n x pc L st h) : zGo G p l e R s m args below meth c Q r.2.2.1 g0 k0 (pc, L, st, h) := by
  have hn1 : Nat.beq 1 n = true := hn
  cases Nat.eq_of_beq_eq_true hn1
  dsimp only [zAc, zact] at ha
  split at ha
  · intro H locs ls hH hl hL hg hk
    exact lv_i2l hF.1 hF.2.1 hd rfl (ha.2 H locs ls hH hl hL hg hk)
  · exact ha.elim
theorem zs_i2b (hF : zFm G p l R s m args meth c r d g0 k0 hf) (hd : decode r.2.1 pc = .ok (.i2b, n)) (hn : zln (.i2b) n = true) (ha : zAc G p l e R s m args below meth c Q r g0 k0 hf Rr Cc (.i2b) n x pc L st h) : zGo G p l e R s m args below meth c Q r.2.2.1 g0 k0 (pc, L, st, h) := by
  have hn1 : Nat.beq 1 n = true := hn
  cases Nat.eq_of_beq_eq_true hn1
  dsimp only [zAc, zact] at ha
  split at ha
  · intro H locs ls hH hl hL hg hk
    exact lv_i2b hF.1 hF.2.1 hd rfl (ha.2 H locs ls hH hl hL hg hk)
  · exact ha.elim
theorem zs_i2c (hF : zFm G p l R s m args meth c r d g0 k0 hf) (hd : decode r.2.1 pc = .ok (.i2c, n)) (hn : zln (.i2c) n = true) (ha : zAc G p l e R s m args below meth c Q r g0 k0 hf Rr Cc (.i2c) n x pc L st h) : zGo G p l e R s m args below meth c Q r.2.2.1 g0 k0 (pc, L, st, h) := by
  have hn1 : Nat.beq 1 n = true := hn
  cases Nat.eq_of_beq_eq_true hn1
  dsimp only [zAc, zact] at ha
  split at ha
  · intro H locs ls hH hl hL hg hk
    exact lv_i2c hF.1 hF.2.1 hd rfl (ha.2 H locs ls hH hl hL hg hk)
  · exact ha.elim
theorem zs_lcmp (hF : zFm G p l R s m args meth c r d g0 k0 hf) (hd : decode r.2.1 pc = .ok (.lcmp, n)) (hn : zln (.lcmp) n = true) (ha : zAc G p l e R s m args below meth c Q r g0 k0 hf Rr Cc (.lcmp) n x pc L st h) : zGo G p l e R s m args below meth c Q r.2.2.1 g0 k0 (pc, L, st, h) := by
  have hn1 : Nat.beq 1 n = true := hn
  cases Nat.eq_of_beq_eq_true hn1
  dsimp only [zAc, zact] at ha
  split at ha
  · intro H locs ls hH hl hL hg hk
    exact W.lcmp hF.1 hF.2.1 hd (ha.2 H locs ls hH hl hL hg hk)
  · exact ha.elim
theorem zs_dadd (hF : zFm G p l R s m args meth c r d g0 k0 hf) (hd : decode r.2.1 pc = .ok (.dadd, n)) (hn : zln (.dadd) n = true) (ha : zAc G p l e R s m args below meth c Q r g0 k0 hf Rr Cc (.dadd) n x pc L st h) : zGo G p l e R s m args below meth c Q r.2.2.1 g0 k0 (pc, L, st, h) := by
  have hn1 : Nat.beq 1 n = true := hn
  cases Nat.eq_of_beq_eq_true hn1
  dsimp only [zAc, zact] at ha
  split at ha
  · obtain ⟨hz, ha⟩ := zif_t ha
    intro H locs ls hH hl hL hg hk
    exact lv_dadd hF.1 hF.2.1 hd (zn64_t hz) (ha.2 H locs ls hH hl hL hg hk)
  · exact ha.elim
theorem zs_dsub (hF : zFm G p l R s m args meth c r d g0 k0 hf) (hd : decode r.2.1 pc = .ok (.dsub, n)) (hn : zln (.dsub) n = true) (ha : zAc G p l e R s m args below meth c Q r g0 k0 hf Rr Cc (.dsub) n x pc L st h) : zGo G p l e R s m args below meth c Q r.2.2.1 g0 k0 (pc, L, st, h) := by
  have hn1 : Nat.beq 1 n = true := hn
  cases Nat.eq_of_beq_eq_true hn1
  dsimp only [zAc, zact] at ha
  split at ha
  · obtain ⟨hz, ha⟩ := zif_t ha
    intro H locs ls hH hl hL hg hk
    exact lv_dsub hF.1 hF.2.1 hd (zn64_t hz) (ha.2 H locs ls hH hl hL hg hk)
  · exact ha.elim
theorem zs_dmul (hF : zFm G p l R s m args meth c r d g0 k0 hf) (hd : decode r.2.1 pc = .ok (.dmul, n)) (hn : zln (.dmul) n = true) (ha : zAc G p l e R s m args below meth c Q r g0 k0 hf Rr Cc (.dmul) n x pc L st h) : zGo G p l e R s m args below meth c Q r.2.2.1 g0 k0 (pc, L, st, h) := by
  have hn1 : Nat.beq 1 n = true := hn
  cases Nat.eq_of_beq_eq_true hn1
  dsimp only [zAc, zact] at ha
  split at ha
  · obtain ⟨hz, ha⟩ := zif_t ha
    intro H locs ls hH hl hL hg hk
    exact lv_dmul hF.1 hF.2.1 hd (zn64_t hz) (ha.2 H locs ls hH hl hL hg hk)
  · exact ha.elim
theorem zs_ddiv (hF : zFm G p l R s m args meth c r d g0 k0 hf) (hd : decode r.2.1 pc = .ok (.ddiv, n)) (hn : zln (.ddiv) n = true) (ha : zAc G p l e R s m args below meth c Q r g0 k0 hf Rr Cc (.ddiv) n x pc L st h) : zGo G p l e R s m args below meth c Q r.2.2.1 g0 k0 (pc, L, st, h) := by
  have hn1 : Nat.beq 1 n = true := hn
  cases Nat.eq_of_beq_eq_true hn1
  dsimp only [zAc, zact] at ha
  split at ha
  · obtain ⟨hz, ha⟩ := zif_t ha
    intro H locs ls hH hl hL hg hk
    exact lv_ddiv hF.1 hF.2.1 hd (zn64_t hz) (ha.2 H locs ls hH hl hL hg hk)
  · exact ha.elim
theorem zs_f2d (hF : zFm G p l R s m args meth c r d g0 k0 hf) (hd : decode r.2.1 pc = .ok (.f2d, n)) (hn : zln (.f2d) n = true) (ha : zAc G p l e R s m args below meth c Q r g0 k0 hf Rr Cc (.f2d) n x pc L st h) : zGo G p l e R s m args below meth c Q r.2.2.1 g0 k0 (pc, L, st, h) := by
  have hn1 : Nat.beq 1 n = true := hn
  cases Nat.eq_of_beq_eq_true hn1
  dsimp only [zAc, zact] at ha
  split at ha
  · obtain ⟨hz, ha⟩ := zif_t ha
    intro H locs ls hH hl hL hg hk
    exact lv_f2d hF.1 hF.2.1 hd (zn64_t hz) (ha.2 H locs ls hH hl hL hg hk)
  · exact ha.elim
theorem zs_fadd (hF : zFm G p l R s m args meth c r d g0 k0 hf) (hd : decode r.2.1 pc = .ok (.fadd, n)) (hn : zln (.fadd) n = true) (ha : zAc G p l e R s m args below meth c Q r g0 k0 hf Rr Cc (.fadd) n x pc L st h) : zGo G p l e R s m args below meth c Q r.2.2.1 g0 k0 (pc, L, st, h) := by
  have hn1 : Nat.beq 1 n = true := hn
  cases Nat.eq_of_beq_eq_true hn1
  dsimp only [zAc, zact] at ha
  split at ha
  · obtain ⟨hz, ha⟩ := zif_t ha
    intro H locs ls hH hl hL hg hk
    exact lv_fadd hF.1 hF.2.1 hd (zn32_t hz) (ha.2 H locs ls hH hl hL hg hk)
  · exact ha.elim
theorem zs_fsub (hF : zFm G p l R s m args meth c r d g0 k0 hf) (hd : decode r.2.1 pc = .ok (.fsub, n)) (hn : zln (.fsub) n = true) (ha : zAc G p l e R s m args below meth c Q r g0 k0 hf Rr Cc (.fsub) n x pc L st h) : zGo G p l e R s m args below meth c Q r.2.2.1 g0 k0 (pc, L, st, h) := by
  have hn1 : Nat.beq 1 n = true := hn
  cases Nat.eq_of_beq_eq_true hn1
  dsimp only [zAc, zact] at ha
  split at ha
  · obtain ⟨hz, ha⟩ := zif_t ha
    intro H locs ls hH hl hL hg hk
    exact lv_fsub hF.1 hF.2.1 hd (zn32_t hz) (ha.2 H locs ls hH hl hL hg hk)
  · exact ha.elim
theorem zs_fdiv (hF : zFm G p l R s m args meth c r d g0 k0 hf) (hd : decode r.2.1 pc = .ok (.fdiv, n)) (hn : zln (.fdiv) n = true) (ha : zAc G p l e R s m args below meth c Q r g0 k0 hf Rr Cc (.fdiv) n x pc L st h) : zGo G p l e R s m args below meth c Q r.2.2.1 g0 k0 (pc, L, st, h) := by
  have hn1 : Nat.beq 1 n = true := hn
  cases Nat.eq_of_beq_eq_true hn1
  dsimp only [zAc, zact] at ha
  split at ha
  · obtain ⟨hz, ha⟩ := zif_t ha
    intro H locs ls hH hl hL hg hk
    exact lv_fdiv hF.1 hF.2.1 hd (zn32_t hz) (ha.2 H locs ls hH hl hL hg hk)
  · exact ha.elim
theorem zs_dneg (hF : zFm G p l R s m args meth c r d g0 k0 hf) (hd : decode r.2.1 pc = .ok (.dneg, n)) (hn : zln (.dneg) n = true) (ha : zAc G p l e R s m args below meth c Q r g0 k0 hf Rr Cc (.dneg) n x pc L st h) : zGo G p l e R s m args below meth c Q r.2.2.1 g0 k0 (pc, L, st, h) := by
  have hn1 : Nat.beq 1 n = true := hn
  cases Nat.eq_of_beq_eq_true hn1
  dsimp only [zAc, zact] at ha
  split at ha
  · intro H locs ls hH hl hL hg hk
    exact lv_dneg hF.1 hF.2.1 hd (ha.2 H locs ls hH hl hL hg hk)
  · exact ha.elim
theorem zs_i2d (hF : zFm G p l R s m args meth c r d g0 k0 hf) (hd : decode r.2.1 pc = .ok (.i2d, n)) (hn : zln (.i2d) n = true) (ha : zAc G p l e R s m args below meth c Q r g0 k0 hf Rr Cc (.i2d) n x pc L st h) : zGo G p l e R s m args below meth c Q r.2.2.1 g0 k0 (pc, L, st, h) := by
  have hn1 : Nat.beq 1 n = true := hn
  cases Nat.eq_of_beq_eq_true hn1
  dsimp only [zAc, zact] at ha
  split at ha
  · intro H locs ls hH hl hL hg hk
    exact lv_i2d hF.1 hF.2.1 hd (ha.2 H locs ls hH hl hL hg hk)
  · exact ha.elim
theorem zs_i2f (hF : zFm G p l R s m args meth c r d g0 k0 hf) (hd : decode r.2.1 pc = .ok (.i2f, n)) (hn : zln (.i2f) n = true) (ha : zAc G p l e R s m args below meth c Q r g0 k0 hf Rr Cc (.i2f) n x pc L st h) : zGo G p l e R s m args below meth c Q r.2.2.1 g0 k0 (pc, L, st, h) := by
  have hn1 : Nat.beq 1 n = true := hn
  cases Nat.eq_of_beq_eq_true hn1
  dsimp only [zAc, zact] at ha
  split at ha
  · intro H locs ls hH hl hL hg hk
    exact lv_i2f hF.1 hF.2.1 hd (ha.2 H locs ls hH hl hL hg hk)
  · exact ha.elim
theorem zs_d2i (hF : zFm G p l R s m args meth c r d g0 k0 hf) (hd : decode r.2.1 pc = .ok (.d2i, n)) (hn : zln (.d2i) n = true) (ha : zAc G p l e R s m args below meth c Q r g0 k0 hf Rr Cc (.d2i) n x pc L st h) : zGo G p l e R s m args below meth c Q r.2.2.1 g0 k0 (pc, L, st, h) := by
  have hn1 : Nat.beq 1 n = true := hn
  cases Nat.eq_of_beq_eq_true hn1
  dsimp only [zAc, zact] at ha
  split at ha
  · intro H locs ls hH hl hL hg hk
    exact lv_d2i hF.1 hF.2.1 hd (ha.2 H locs ls hH hl hL hg hk)
  · exact ha.elim
theorem zs_d2l (hF : zFm G p l R s m args meth c r d g0 k0 hf) (hd : decode r.2.1 pc = .ok (.d2l, n)) (hn : zln (.d2l) n = true) (ha : zAc G p l e R s m args below meth c Q r g0 k0 hf Rr Cc (.d2l) n x pc L st h) : zGo G p l e R s m args below meth c Q r.2.2.1 g0 k0 (pc, L, st, h) := by
  have hn1 : Nat.beq 1 n = true := hn
  cases Nat.eq_of_beq_eq_true hn1
  dsimp only [zAc, zact] at ha
  split at ha
  · intro H locs ls hH hl hL hg hk
    exact lv_d2l hF.1 hF.2.1 hd (ha.2 H locs ls hH hl hL hg hk)
  · exact ha.elim
theorem zs_dcmp {k : CmpOp} (hF : zFm G p l R s m args meth c r d g0 k0 hf) (hd : decode r.2.1 pc = .ok (.dcmp k, n)) (hn : zln (.dcmp k) n = true) (ha : zAc G p l e R s m args below meth c Q r g0 k0 hf Rr Cc (.dcmp k) n x pc L st h) : zGo G p l e R s m args below meth c Q r.2.2.1 g0 k0 (pc, L, st, h) := by
  have hn1 : Nat.beq 1 n = true := hn
  cases Nat.eq_of_beq_eq_true hn1
  dsimp only [zAc, zact] at ha
  split at ha
  · intro H locs ls hH hl hL hg hk
    exact lv_dcmp hF.1 hF.2.1 hd (ha.2 H locs ls hH hl hL hg hk)
  · exact ha.elim
theorem zs_fcmp {k : CmpOp} (hF : zFm G p l R s m args meth c r d g0 k0 hf) (hd : decode r.2.1 pc = .ok (.fcmp k, n)) (hn : zln (.fcmp k) n = true) (ha : zAc G p l e R s m args below meth c Q r g0 k0 hf Rr Cc (.fcmp k) n x pc L st h) : zGo G p l e R s m args below meth c Q r.2.2.1 g0 k0 (pc, L, st, h) := by
  have hn1 : Nat.beq 1 n = true := hn
  cases Nat.eq_of_beq_eq_true hn1
  dsimp only [zAc, zact] at ha
  split at ha
  · intro H locs ls hH hl hL hg hk
    exact lv_fcmp hF.1 hF.2.1 hd (ha.2 H locs ls hH hl hL hg hk)
  · exact ha.elim
theorem zs_ifCond {k : ClassFile.Cond} {off : Int} (hF : zFm G p l R s m args meth c r d g0 k0 hf) (hd : decode r.2.1 pc = .ok (.ifCond k off, n)) (hn : zln (.ifCond k off) n = true) (hz : zck r pc (.ifCond k off) x = true) (ha : zAc G p l e R s m args below meth c Q r g0 k0 hf Rr Cc (.ifCond k off) n x pc L st h) : zGo G p l e R s m args below meth c Q r.2.2.1 g0 k0 (pc, L, st, h) := by
  have hn1 : Nat.beq 3 n = true := hn
  cases Nat.eq_of_beq_eq_true hn1
  dsimp only [zAc, zact] at ha
  have ht := zoff_t (show zoff pc off = true from hz)
  split at ha
  · cases k
    · intro H locs ls hH hl hL hg hk
      exact lv_if_eq hF.1 hF.2.1 hd ht (fun hc => (zbr_t ha (decide_eq_true hc)).2 H locs ls hH hl hL hg hk) (fun hc => (zbr_f ha (decide_eq_false hc)).2 H locs ls hH hl hL hg hk)
    · intro H locs ls hH hl hL hg hk
      exact lv_if_ne hF.1 hF.2.1 hd ht (fun hc => (zbr_t ha (by simp only [zcond]; rw [decide_eq_false hc]; rfl)).2 H locs ls hH hl hL hg hk) (fun hc => (zbr_f ha (by simp only [zcond]; rw [decide_eq_true hc]; rfl)).2 H locs ls hH hl hL hg hk)
    · intro H locs ls hH hl hL hg hk
      exact lv_if_lt hF.1 hF.2.1 hd ht (fun hc => (zbr_t ha (decide_eq_true hc)).2 H locs ls hH hl hL hg hk) (fun hc => (zbr_f ha (decide_eq_false hc)).2 H locs ls hH hl hL hg hk)
    · intro H locs ls hH hl hL hg hk
      exact lv_if_ge hF.1 hF.2.1 hd ht (fun hc => (zbr_t ha (decide_eq_true hc)).2 H locs ls hH hl hL hg hk) (fun hc => (zbr_f ha (decide_eq_false hc)).2 H locs ls hH hl hL hg hk)
    · intro H locs ls hH hl hL hg hk
      exact lv_if_gt hF.1 hF.2.1 hd ht (fun hc => (zbr_t ha (decide_eq_true hc)).2 H locs ls hH hl hL hg hk) (fun hc => (zbr_f ha (decide_eq_false hc)).2 H locs ls hH hl hL hg hk)
    · intro H locs ls hH hl hL hg hk
      exact lv_if_le hF.1 hF.2.1 hd ht (fun hc => (zbr_t ha (decide_eq_true hc)).2 H locs ls hH hl hL hg hk) (fun hc => (zbr_f ha (decide_eq_false hc)).2 H locs ls hH hl hL hg hk)
  · exact ha.elim
theorem zs_if_icmp {k : ClassFile.Cond} {off : Int} (hF : zFm G p l R s m args meth c r d g0 k0 hf) (hd : decode r.2.1 pc = .ok (.if_icmp k off, n)) (hn : zln (.if_icmp k off) n = true) (hz : zck r pc (.if_icmp k off) x = true) (ha : zAc G p l e R s m args below meth c Q r g0 k0 hf Rr Cc (.if_icmp k off) n x pc L st h) : zGo G p l e R s m args below meth c Q r.2.2.1 g0 k0 (pc, L, st, h) := by
  have hn1 : Nat.beq 3 n = true := hn
  cases Nat.eq_of_beq_eq_true hn1
  dsimp only [zAc, zact] at ha
  have ht := zoff_t (show zoff pc off = true from hz)
  split at ha
  · cases k
    · intro H locs ls hH hl hL hg hk
      exact lv_icmp_eq hF.1 hF.2.1 hd ht (fun hc => (zbr_t ha (decide_eq_true hc)).2 H locs ls hH hl hL hg hk) (fun hc => (zbr_f ha (decide_eq_false hc)).2 H locs ls hH hl hL hg hk)
    · intro H locs ls hH hl hL hg hk
      exact lv_icmp_ne hF.1 hF.2.1 hd ht (fun hc => (zbr_t ha (by simp only [zcond]; rw [decide_eq_false hc]; rfl)).2 H locs ls hH hl hL hg hk) (fun hc => (zbr_f ha (by simp only [zcond]; rw [decide_eq_true hc]; rfl)).2 H locs ls hH hl hL hg hk)
    · intro H locs ls hH hl hL hg hk
      exact lv_icmp_lt hF.1 hF.2.1 hd ht (fun hc => (zbr_t ha (decide_eq_true hc)).2 H locs ls hH hl hL hg hk) (fun hc => (zbr_f ha (decide_eq_false hc)).2 H locs ls hH hl hL hg hk)
    · intro H locs ls hH hl hL hg hk
      exact lv_icmp_ge hF.1 hF.2.1 hd ht (fun hc => (zbr_t ha (decide_eq_true hc)).2 H locs ls hH hl hL hg hk) (fun hc => (zbr_f ha (decide_eq_false hc)).2 H locs ls hH hl hL hg hk)
    · intro H locs ls hH hl hL hg hk
      exact lv_icmp_gt hF.1 hF.2.1 hd ht (fun hc => (zbr_t ha (decide_eq_true hc)).2 H locs ls hH hl hL hg hk) (fun hc => (zbr_f ha (decide_eq_false hc)).2 H locs ls hH hl hL hg hk)
    · intro H locs ls hH hl hL hg hk
      exact lv_icmp_le hF.1 hF.2.1 hd ht (fun hc => (zbr_t ha (decide_eq_true hc)).2 H locs ls hH hl hL hg hk) (fun hc => (zbr_f ha (decide_eq_false hc)).2 H locs ls hH hl hL hg hk)
  · exact ha.elim
theorem zs_if_acmp {k : ACond} {off : Int} (hF : zFm G p l R s m args meth c r d g0 k0 hf) (hd : decode r.2.1 pc = .ok (.if_acmp k off, n)) (hn : zln (.if_acmp k off) n = true) (hz : zck r pc (.if_acmp k off) x = true) (ha : zAc G p l e R s m args below meth c Q r g0 k0 hf Rr Cc (.if_acmp k off) n x pc L st h) : zGo G p l e R s m args below meth c Q r.2.2.1 g0 k0 (pc, L, st, h) := by
  have hn1 : Nat.beq 3 n = true := hn
  cases Nat.eq_of_beq_eq_true hn1
  dsimp only [zAc, zact] at ha
  have ht := zoff_t (show zoff pc off = true from hz)
  split at ha
  · rename_i b a rest
    cases k
    · intro H locs ls hH hl hL hg hk
      exact lv_acmp_eq (rx := some a) (ry := some b) hF.1 hF.2.1 hd ht (fun hc => (zbr_t ha (decide_eq_true (Option.some.inj hc))).2 H locs ls hH hl hL hg hk) (fun hc => (zbr_f ha (decide_eq_false fun hq => hc (congrArg some hq))).2 H locs ls hH hl hL hg hk)
    · intro H locs ls hH hl hL hg hk
      exact lv_acmp_ne (rx := some a) (ry := some b) hF.1 hF.2.1 hd ht (fun hc => (zbr_t ha (by show (!decide (a = b)) = true; rw [decide_eq_false fun hq => hc (congrArg some hq)]; rfl)).2 H locs ls hH hl hL hg hk) (fun hc => (zbr_f ha (by show (!decide (a = b)) = false; rw [decide_eq_true (Option.some.inj hc)]; rfl)).2 H locs ls hH hl hL hg hk)
  · exact ha.elim
theorem zs_ifnull {off : Int} (hF : zFm G p l R s m args meth c r d g0 k0 hf) (hd : decode r.2.1 pc = .ok (.ifnull off, n)) (hn : zln (.ifnull off) n = true) (hz : zck r pc (.ifnull off) x = true) (ha : zAc G p l e R s m args below meth c Q r g0 k0 hf Rr Cc (.ifnull off) n x pc L st h) : zGo G p l e R s m args below meth c Q r.2.2.1 g0 k0 (pc, L, st, h) := by
  have hn1 : Nat.beq 3 n = true := hn
  cases Nat.eq_of_beq_eq_true hn1
  dsimp only [zAc, zact] at ha
  have ht := zoff_t (show zoff pc off = true from hz)
  split at ha
  · intro H locs ls hH hl hL hg hk
    exact lv_ifnullN hF.1 hF.2.1 hd ht (ha.2 H locs ls hH hl hL hg hk)
  · intro H locs ls hH hl hL hg hk
    exact lv_ifnull hF.1 hF.2.1 hd (ha.2 H locs ls hH hl hL hg hk)
  · exact ha.elim
theorem zs_ifnonnull {off : Int} (hF : zFm G p l R s m args meth c r d g0 k0 hf) (hd : decode r.2.1 pc = .ok (.ifnonnull off, n)) (hn : zln (.ifnonnull off) n = true) (hz : zck r pc (.ifnonnull off) x = true) (ha : zAc G p l e R s m args below meth c Q r g0 k0 hf Rr Cc (.ifnonnull off) n x pc L st h) : zGo G p l e R s m args below meth c Q r.2.2.1 g0 k0 (pc, L, st, h) := by
  have hn1 : Nat.beq 3 n = true := hn
  cases Nat.eq_of_beq_eq_true hn1
  dsimp only [zAc, zact] at ha
  have ht := zoff_t (show zoff pc off = true from hz)
  split at ha
  · intro H locs ls hH hl hL hg hk
    exact lv_ifnonnullN hF.1 hF.2.1 hd (ha.2 H locs ls hH hl hL hg hk)
  · intro H locs ls hH hl hL hg hk
    exact lv_ifnonnull hF.1 hF.2.1 hd ht (ha.2 H locs ls hH hl hL hg hk)
  · exact ha.elim
theorem zs_goto {off : Int} (hF : zFm G p l R s m args meth c r d g0 k0 hf) (hd : decode r.2.1 pc = .ok (.goto off, n)) (hn : zln (.goto off) n = true) (hz : zck r pc (.goto off) x = true) (ha : zAc G p l e R s m args below meth c Q r g0 k0 hf Rr Cc (.goto off) n x pc L st h) : zGo G p l e R s m args below meth c Q r.2.2.1 g0 k0 (pc, L, st, h) := by
  have hn1 : Nat.beq 3 n = true := hn
  cases Nat.eq_of_beq_eq_true hn1
  dsimp only [zAc, zact] at ha
  have ht := zoff_t (show zoff pc off = true from hz)
  intro H locs ls hH hl hL hg hk
  exact lv_goto hF.1 hF.2.1 hd ht (ha.2 H locs ls hH hl hL hg hk)
theorem zs_tableswitch {dd lo hi : Int} {offs : Array Int} (hF : zFm G p l R s m args meth c r d g0 k0 hf) (hd : decode r.2.1 pc = .ok (.tableswitch dd lo hi offs, n)) (hn : zln (.tableswitch dd lo hi offs) n = true) (hz : zck r pc (.tableswitch dd lo hi offs) x = true) (ha : zAc G p l e R s m args below meth c Q r g0 k0 hf Rr Cc (.tableswitch dd lo hi offs) n x pc L st h) : zGo G p l e R s m args below meth c Q r.2.2.1 g0 k0 (pc, L, st, h) := by
  dsimp only [zAc, zact] at ha
  obtain ⟨hz1, hz2⟩ := Bool.and_eq_true_iff.mp (show (zoff pc dd && offs.toList.all (zoff pc)) = true from hz)
  split at ha
  · rename_i y rest
    by_cases hc : (decide (y.toInt < lo) || decide (hi < y.toInt)) = true
    · intro H locs ls hH hl hL hg hk
      exact lv_tableOut hF.1 hF.2.1 hd (by simpa using hc) (zoff_t hz1) ((zbr_t ha hc).2 H locs ls hH hl hL hg hk)
    · have hc2 := Bool.not_eq_true _ ▸ hc
      have ha := zbr_f ha hc2
      rw [Bool.or_eq_false_iff] at hc2
      split at ha
      · rename_i off ho
        intro H locs ls hH hl hL hg hk
        exact lv_tableIn hF.1 hF.2.1 hd (of_decide_eq_false hc2.1) (of_decide_eq_false hc2.2) ho (zoff_t (List.all_eq_true.mp hz2 off (by rw [← Array.mem_def]; exact Array.mem_of_getElem? ho))) (ha.2 H locs ls hH hl hL hg hk)
      · exact ha.elim
  · exact ha.elim
end ZST
