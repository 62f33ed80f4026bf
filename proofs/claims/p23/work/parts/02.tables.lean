/-! ===== the words of the tables, in one list; those that go into every callee (zWS), those that are carried apart (zXW) ===== -/
def zxs : List Jvm.Cond := [(Jvm.Cond.selects "java/lang/StringBuilder" ⟨"java/lang/AbstractStringBuilder", "ensureCapacityInternal", "(I)V"⟩ ⟨"java/lang/AbstractStringBuilder", "ensureCapacityInternal", "(I)V"⟩), (Jvm.Cond.selects "java/lang/StringBuilder" ⟨"java/lang/AbstractStringBuilder", "newCapacity", "(I)I"⟩ ⟨"java/lang/AbstractStringBuilder", "newCapacity", "(I)I"⟩), (Jvm.Cond.selects "java/lang/StringBuilder" ⟨"java/lang/AbstractStringBuilder", "inflate", "()V"⟩ ⟨"java/lang/AbstractStringBuilder", "inflate", "()V"⟩), (Jvm.Cond.selects "java/lang/StringBuilder" ⟨"java/lang/AbstractStringBuilder", "appendNull", "()Ljava/lang/AbstractStringBuilder;"⟩ ⟨"java/lang/AbstractStringBuilder", "appendNull", "()Ljava/lang/AbstractStringBuilder;"⟩), (Jvm.Cond.selects "java/lang/StringBuilder" ⟨"java/lang/AbstractStringBuilder", "putStringAt", "(ILjava/lang/String;)V"⟩ ⟨"java/lang/AbstractStringBuilder", "putStringAt", "(ILjava/lang/String;)V"⟩), (Jvm.Cond.selects "java/lang/StringBuilder" ⟨"java/lang/AbstractStringBuilder", "inflateIfNeededFor", "(Ljava/lang/String;)V"⟩ ⟨"java/lang/AbstractStringBuilder", "inflateIfNeededFor", "(Ljava/lang/String;)V"⟩)]
def zAll : List Jvm.Cond := zxs ++ lw_tbl
theorem zinx {w : Jvm.Cond} (h : w ∈ zxs) : w ∈ zAll := List.mem_append_left _ h
theorem zinp {w : Jvm.Cond} (h : w ∈ k2_sels lw_privs) : w ∈ zAll := List.mem_append_right _ (List.mem_append_left _ h)
theorem zin1 {w : Jvm.Cond} (h : w ∈ tables_1_1) : w ∈ zAll := List.mem_append_right _ (List.mem_append_right _ (List.mem_append_left _ h))
theorem zin2 {w : Jvm.Cond} (h : w ∈ tables_1_2) : w ∈ zAll := List.mem_append_right _ (List.mem_append_right _ (List.mem_append_right _ (List.mem_append_left _ h)))
theorem zin3 {w : Jvm.Cond} (h : w ∈ tables_1_3) : w ∈ zAll := List.mem_append_right _ (List.mem_append_right _ (List.mem_append_right _ (List.mem_append_right _ (List.mem_append_left _ h))))
theorem zin4 {w : Jvm.Cond} (h : w ∈ tables_1_4) : w ∈ zAll := List.mem_append_right _ (List.mem_append_right _ (List.mem_append_right _ (List.mem_append_right _ (List.mem_append_right _ (List.mem_append_left _ h)))))
theorem zin5 {w : Jvm.Cond} (h : w ∈ tables_1_5) : w ∈ zAll := List.mem_append_right _ (List.mem_append_right _ (List.mem_append_right _ (List.mem_append_right _ (List.mem_append_right _ (List.mem_append_right _ (List.mem_append_left _ h))))))
theorem zin6 {w : Jvm.Cond} (h : w ∈ tables_1_6) : w ∈ zAll := List.mem_append_right _ (List.mem_append_right _ (List.mem_append_right _ (List.mem_append_right _ (List.mem_append_right _ (List.mem_append_right _ (List.mem_append_right _ (List.mem_append_left _ h)))))))
theorem zin7 {w : Jvm.Cond} (h : w ∈ tables_1_7) : w ∈ zAll := List.mem_append_right _ (List.mem_append_right _ (List.mem_append_right _ (List.mem_append_right _ (List.mem_append_right _ (List.mem_append_right _ (List.mem_append_right _ (List.mem_append_right _ (h))))))))
def zxgood : Jvm.Cond → Bool
  | .methodLinkNest .. => true
  | .fieldLinkNest .. => true
  | .castable .. => true
  | .declares _ => true
  | .publicMethod _ => true
  | .privateMethod _ => true
  | .unhidden .. => true
  | .interfaceMethod r q _ _ => r == q && r != "java/lang/invoke/MethodHandle" && r != "java/lang/invoke/VarHandle"
  | .arrayOver _ => true
  | _ => false
def zWS : List Jvm.Cond := zAll.filter goodWord
def zXW : List Jvm.Cond := zAll.filter zxgood
theorem zw {w : Jvm.Cond} (h : w ∈ zAll) (g : goodWord w = true) : w ∈ zWS := List.mem_filter.mpr ⟨h, g⟩
theorem zx {w : Jvm.Cond} (h : w ∈ zAll) (g : zxgood w = true) : w ∈ zXW := List.mem_filter.mpr ⟨h, g⟩
/-! ===== classes whose objects are made, by their tags ===== -/
def zT0 : u_T := fun k => match k with
  | 0 => ("TesseraHall", "boards", "[LTesseraHall$Board;", true)
  | 1 => ("TesseraHall", "trial", "LTesseraHall$Grid;", true)
  | 2 => ("TesseraHall", "trialAlbum", "LTesseraHall$Album;", true)
  | 3 => ("TesseraHall", "boardCount", "I", false)
  | _ => ("TesseraHall", "refused", "I", false)
def zU0 : Nat → FieldType := fun k => match k with
  | 0 => (.array (.object "TesseraHall$Board"))
  | 1 => (.object "TesseraHall$Grid")
  | 2 => (.object "TesseraHall$Album")
  | 3 => .int
  | _ => .int
def zT1 : u_T := fun k => match k with
  | 0 => ("TesseraHall$Grid", "cells", "[I", true)
  | 1 => ("TesseraHall$Grid", "clues", "[I", true)
  | 2 => ("TesseraHall$Grid", "fits", "[I", true)
  | 3 => ("TesseraHall$Grid", "wide", "I", false)
  | _ => ("TesseraHall$Grid", "high", "I", false)
def zU1 : Nat → FieldType := fun k => match k with
  | 0 => (.array .int)
  | 1 => (.array .int)
  | 2 => (.array .int)
  | 3 => .int
  | _ => .int
def zT2 : u_T := fun k => match k with
  | 0 => ("TesseraHall$Album", "pictures", "[I", true)
  | 1 => ("TesseraHall$Album", "lineWays", "[I", true)
  | 2 => ("TesseraHall$Album", "swept", "LTesseraHall$Grid;", true)
  | 3 => ("TesseraHall$Album", "rowWays", "[I", true)
  | 4 => ("TesseraHall$Album", "columnWays", "[I", true)
  | 5 => ("TesseraHall$Album", "darkCounts", "[I", true)
  | 6 => ("TesseraHall$Album", "isCounted", "Z", false)
  | 7 => ("TesseraHall$Album", "wide", "I", false)
  | 8 => ("TesseraHall$Album", "high", "I", false)
  | 9 => ("TesseraHall$Album", "most", "I", false)
  | _ => ("TesseraHall$Album", "count", "I", false)
def zU2 : Nat → FieldType := fun k => match k with
  | 0 => (.array .int)
  | 1 => (.array .int)
  | 2 => (.object "TesseraHall$Grid")
  | 3 => (.array .int)
  | 4 => (.array .int)
  | 5 => (.array .int)
  | 6 => .boolean
  | 7 => .int
  | 8 => .int
  | 9 => .int
  | _ => .int
def zT3 : u_T := fun k => match k with
  | 0 => ("TesseraHallLaw$Out", "n", "J", false)
  | 1 => ("TesseraHallLaw$Out", "d", "D", false)
  | _ => ("TesseraHallLaw$Out", "s", "Ljava/lang/String;", false)
def zU3 : Nat → FieldType := fun k => match k with
  | 0 => .long
  | 1 => .double
  | _ => (.object "java/lang/String")
def zT4 : u_T := fun k => match k with
  | 0 => ("TesseraHall$Board", "grid", "LTesseraHall$Grid;", true)
  | 1 => ("TesseraHall$Board", "album", "LTesseraHall$Album;", true)
  | 2 => ("TesseraHall$Board", "kept", "[I", true)
  | 3 => ("TesseraHall$Board", "guessed", "[I", true)
  | 4 => ("TesseraHall$Board", "guesses", "I", false)
  | 5 => ("TesseraHall$Board", "mistakes", "I", false)
  | _ => ("TesseraHall$Board", "sweeps", "I", false)
def zU4 : Nat → FieldType := fun k => match k with
  | 0 => (.object "TesseraHall$Grid")
  | 1 => (.object "TesseraHall$Album")
  | 2 => (.array .int)
  | 3 => (.array .int)
  | 4 => .int
  | 5 => .int
  | _ => .int
def zT5 : u_T := fun k => match k with
  | 0 => ("java/lang/AbstractStringBuilder", "value", "[B", false)
  | 1 => ("java/lang/AbstractStringBuilder", "coder", "B", false)
  | 2 => ("java/lang/AbstractStringBuilder", "maybeLatin1", "Z", false)
  | _ => ("java/lang/AbstractStringBuilder", "count", "I", false)
def zU5 : Nat → FieldType := fun k => match k with
  | 0 => (.array .byte)
  | 1 => .byte
  | 2 => .boolean
  | _ => .int
def zT6 : u_T := fun k => match k with
  | 0 => ("java/lang/String", "value", "[B", true)
  | 1 => ("java/lang/String", "coder", "B", true)
  | 2 => ("java/lang/String", "hash", "I", false)
  | _ => ("java/lang/String", "hashIsZero", "Z", false)
def zU6 : Nat → FieldType := fun k => match k with
  | 0 => (.array .byte)
  | 1 => .byte
  | 2 => .int
  | _ => .boolean
def zT7 : u_T := fun k => match k with
  | 0 => ("TesseraHallModel", "thrown", "I", false)
  | 1 => ("TesseraHallModel", "boards", "Ljava/util/List;", true)
  | _ => ("TesseraHallModel", "refused", "I", false)
def zU7 : Nat → FieldType := fun k => match k with
  | 0 => .int
  | 1 => (.object "java/util/List")
  | _ => .int
def zT8 : u_T := fun k => match k with
  | 0 => ("java/util/ArrayList", "elementData", "[Ljava/lang/Object;", false)
  | 1 => ("java/util/ArrayList", "size", "I", false)
  | _ => ("java/util/AbstractList", "modCount", "I", false)
def zU8 : Nat → FieldType := fun k => match k with
  | 0 => (.array (.object "java/lang/Object"))
  | 1 => .int
  | _ => .int
def zT9 : u_T := fun k => match k with
  | 0 => ("TesseraHallModel$Board", "wide", "I", false)
  | 1 => ("TesseraHallModel$Board", "high", "I", false)
  | 2 => ("TesseraHallModel$Board", "rows", "[[I", false)
  | 3 => ("TesseraHallModel$Board", "clues", "[I", false)
  | 4 => ("TesseraHallModel$Board", "guesses", "Ljava/util/List;", false)
  | 5 => ("TesseraHallModel$Board", "mistakes", "I", false)
  | _ => ("TesseraHallModel$Board", "sweeps", "I", false)
def zU9 : Nat → FieldType := fun k => match k with
  | 0 => .int
  | 1 => .int
  | 2 => (.array (.array .int))
  | 3 => (.array .int)
  | 4 => (.object "java/util/List")
  | 5 => .int
  | _ => .int
def zT10 : u_T := fun k => match k with
  | 0 => ("TesseraHallModel$Kept", "rows", "[[I", true)
  | 1 => ("TesseraHallModel$Kept", "cell", "I", true)
  | _ => ("TesseraHallModel$Kept", "isDark", "Z", true)
def zU10 : Nat → FieldType := fun k => match k with
  | 0 => (.array (.array .int))
  | 1 => .int
  | _ => .boolean
def zcl : List vw_C := [("TesseraHall", zT0, 5), ("TesseraHall$Grid", zT1, 5), ("TesseraHall$Album", zT2, 11), ("TesseraHallLaw$Out", zT3, 3), ("TesseraHall$Board", zT4, 7), ("java/lang/StringBuilder", zT5, 4), ("java/lang/String", zT6, 4), ("TesseraHallModel", zT7, 3), ("java/util/ArrayList", zT8, 3), ("TesseraHallModel$Board", zT9, 7), ("TesseraHallModel$Kept", zT10, 3)]
/-- how many slots an object has; what a new one holds -/
def zns : List Nat := [5, 5, 11, 3, 7, 4, 4, 3, 3, 7, 3]
def zdf : List (List Value) := [[.null, .null, .null, .int 0, .int 0], [.null, .null, .null, .int 0, .int 0], [.null, .null, .null, .null, .null, .null, .int 0, .int 0, .int 0, .int 0, .int 0], [.long 0, .double 0, .null], [.null, .null, .null, .null, .int 0, .int 0, .int 0], [.null, .int 0, .int 0, .int 0], [.null, .int 0, .int 0, .int 0], [.int 0, .null, .int 0], [.null, .int 0, .int 0], [.int 0, .int 0, .null, .null, .null, .int 0, .int 0], [.null, .int 0, .int 0]]
/-- the arrays' component types: tag 64 + place; 96 + place: one that nobody writes -/
def zar : List FieldType := [.int, .byte, (.array .int), (.array (.array .int)), (.object "TesseraHall$Board"), (.object "java/lang/Object")]
def zCok (t : Nat) (r : vw_C) : Prop := ∃ (ty : Nat → FieldType) (n : Nat) (d : List Value), zns[t]? = some n ∧ zdf[t]? = some d ∧ d.length = r.2.2 ∧ (∀ k, k < r.2.2 → defaultValue (ty k) = d.getD k .null) ∧ (∀ w ∈ u_ws r.1 r.2.1 r.2.2, w ∈ zWS) ∧ (∀ k, k < r.2.2 → parseFieldDescriptor (r.2.1 k).2.2.1 = some (ty k)) ∧ (∀ a, a < r.2.2 → ∀ b, b < r.2.2 → a ≠ b → (r.2.1 a).2.1 ≠ (r.2.1 b).2.1) ∧ Jvm.Cond.instantiable r.1 n ∈ zWS ∧ Jvm.Cond.initialized r.1 ∈ zWS
set_option maxRecDepth 20000 in
theorem zu0 : ∀ w ∈ u_ws "TesseraHall" zT0 5, w ∈ zWS := by
  rw [show u_ws "TesseraHall" zT0 5 = [(Jvm.Cond.laysFinal "TesseraHall" "TesseraHall" "boards" "[LTesseraHall$Board;"), (Jvm.Cond.laysFinal "TesseraHall" "TesseraHall" "trial" "LTesseraHall$Grid;"), (Jvm.Cond.laysFinal "TesseraHall" "TesseraHall" "trialAlbum" "LTesseraHall$Album;"), (Jvm.Cond.lays "TesseraHall" "TesseraHall" "boardCount" "I"), (Jvm.Cond.lays "TesseraHall" "TesseraHall" "refused" "I")] from rfl]
  exact List.forall_mem_cons.mpr ⟨(zw (zin1 (List.mem_of_getElem? (i := 144) rfl)) rfl), List.forall_mem_cons.mpr ⟨(zw (zin1 (List.mem_of_getElem? (i := 146) rfl)) rfl), List.forall_mem_cons.mpr ⟨(zw (zin1 (List.mem_of_getElem? (i := 148) rfl)) rfl), List.forall_mem_cons.mpr ⟨(zw (zin1 (List.mem_of_getElem? (i := 150) rfl)) rfl), List.forall_mem_cons.mpr ⟨(zw (zin1 (List.mem_of_getElem? (i := 152) rfl)) rfl), fun _ h => absurd h List.not_mem_nil⟩⟩⟩⟩⟩
set_option maxRecDepth 20000 in
theorem zC0 : zCok 0 ("TesseraHall", zT0, 5) := ⟨zU0, _, _, rfl, rfl, rfl, by decide +kernel, zu0, by decide +kernel, by decide +kernel, (zw (zin1 (List.mem_of_getElem? (i := 34) rfl)) rfl), (zw (zin1 (List.mem_of_getElem? (i := 1) rfl)) rfl)⟩
set_option maxRecDepth 20000 in
theorem zu1 : ∀ w ∈ u_ws "TesseraHall$Grid" zT1 5, w ∈ zWS := by
  rw [show u_ws "TesseraHall$Grid" zT1 5 = [(Jvm.Cond.laysFinal "TesseraHall$Grid" "TesseraHall$Grid" "cells" "[I"), (Jvm.Cond.laysFinal "TesseraHall$Grid" "TesseraHall$Grid" "clues" "[I"), (Jvm.Cond.laysFinal "TesseraHall$Grid" "TesseraHall$Grid" "fits" "[I"), (Jvm.Cond.lays "TesseraHall$Grid" "TesseraHall$Grid" "wide" "I"), (Jvm.Cond.lays "TesseraHall$Grid" "TesseraHall$Grid" "high" "I")] from rfl]
  exact List.forall_mem_cons.mpr ⟨(zw (zin1 (List.mem_of_getElem? (i := 84) rfl)) rfl), List.forall_mem_cons.mpr ⟨(zw (zin1 (List.mem_of_getElem? (i := 86) rfl)) rfl), List.forall_mem_cons.mpr ⟨(zw (zin1 (List.mem_of_getElem? (i := 88) rfl)) rfl), List.forall_mem_cons.mpr ⟨(zw (zin1 (List.mem_of_getElem? (i := 90) rfl)) rfl), List.forall_mem_cons.mpr ⟨(zw (zin1 (List.mem_of_getElem? (i := 92) rfl)) rfl), fun _ h => absurd h List.not_mem_nil⟩⟩⟩⟩⟩
set_option maxRecDepth 20000 in
theorem zC1 : zCok 1 ("TesseraHall$Grid", zT1, 5) := ⟨zU1, _, _, rfl, rfl, rfl, by decide +kernel, zu1, by decide +kernel, by decide +kernel, (zw (zin1 (List.mem_of_getElem? (i := 44) rfl)) rfl), (zw (zin1 (List.mem_of_getElem? (i := 2) rfl)) rfl)⟩
set_option maxRecDepth 20000 in
theorem zu2 : ∀ w ∈ u_ws "TesseraHall$Album" zT2 11, w ∈ zWS := by
  rw [show u_ws "TesseraHall$Album" zT2 11 = [(Jvm.Cond.laysFinal "TesseraHall$Album" "TesseraHall$Album" "pictures" "[I"), (Jvm.Cond.laysFinal "TesseraHall$Album" "TesseraHall$Album" "lineWays" "[I"), (Jvm.Cond.laysFinal "TesseraHall$Album" "TesseraHall$Album" "swept" "LTesseraHall$Grid;"), (Jvm.Cond.laysFinal "TesseraHall$Album" "TesseraHall$Album" "rowWays" "[I"), (Jvm.Cond.laysFinal "TesseraHall$Album" "TesseraHall$Album" "columnWays" "[I"), (Jvm.Cond.laysFinal "TesseraHall$Album" "TesseraHall$Album" "darkCounts" "[I"), (Jvm.Cond.lays "TesseraHall$Album" "TesseraHall$Album" "isCounted" "Z"), (Jvm.Cond.lays "TesseraHall$Album" "TesseraHall$Album" "wide" "I"), (Jvm.Cond.lays "TesseraHall$Album" "TesseraHall$Album" "high" "I"), (Jvm.Cond.lays "TesseraHall$Album" "TesseraHall$Album" "most" "I"), (Jvm.Cond.lays "TesseraHall$Album" "TesseraHall$Album" "count" "I")] from rfl]
  exact List.forall_mem_cons.mpr ⟨(zw (zin1 (List.mem_of_getElem? (i := 116) rfl)) rfl), List.forall_mem_cons.mpr ⟨(zw (zin1 (List.mem_of_getElem? (i := 118) rfl)) rfl), List.forall_mem_cons.mpr ⟨(zw (zin1 (List.mem_of_getElem? (i := 120) rfl)) rfl), List.forall_mem_cons.mpr ⟨(zw (zin1 (List.mem_of_getElem? (i := 122) rfl)) rfl), List.forall_mem_cons.mpr ⟨(zw (zin1 (List.mem_of_getElem? (i := 124) rfl)) rfl), List.forall_mem_cons.mpr ⟨(zw (zin1 (List.mem_of_getElem? (i := 126) rfl)) rfl), List.forall_mem_cons.mpr ⟨(zw (zin1 (List.mem_of_getElem? (i := 128) rfl)) rfl), List.forall_mem_cons.mpr ⟨(zw (zin1 (List.mem_of_getElem? (i := 130) rfl)) rfl), List.forall_mem_cons.mpr ⟨(zw (zin1 (List.mem_of_getElem? (i := 132) rfl)) rfl), List.forall_mem_cons.mpr ⟨(zw (zin1 (List.mem_of_getElem? (i := 134) rfl)) rfl), List.forall_mem_cons.mpr ⟨(zw (zin1 (List.mem_of_getElem? (i := 136) rfl)) rfl), fun _ h => absurd h List.not_mem_nil⟩⟩⟩⟩⟩⟩⟩⟩⟩⟩⟩
set_option maxRecDepth 20000 in
theorem zC2 : zCok 2 ("TesseraHall$Album", zT2, 11) := ⟨zU2, _, _, rfl, rfl, rfl, by decide +kernel, zu2, by decide +kernel, by decide +kernel, (zw (zin1 (List.mem_of_getElem? (i := 97) rfl)) rfl), (zw (zin1 (List.mem_of_getElem? (i := 3) rfl)) rfl)⟩
set_option maxRecDepth 20000 in
theorem zu3 : ∀ w ∈ u_ws "TesseraHallLaw$Out" zT3 3, w ∈ zWS := by
  rw [show u_ws "TesseraHallLaw$Out" zT3 3 = [(Jvm.Cond.lays "TesseraHallLaw$Out" "TesseraHallLaw$Out" "n" "J"), (Jvm.Cond.lays "TesseraHallLaw$Out" "TesseraHallLaw$Out" "d" "D"), (Jvm.Cond.lays "TesseraHallLaw$Out" "TesseraHallLaw$Out" "s" "Ljava/lang/String;")] from rfl]
  exact List.forall_mem_cons.mpr ⟨(zw (zin3 (List.mem_of_getElem? (i := 18) rfl)) rfl), List.forall_mem_cons.mpr ⟨(zw (zin3 (List.mem_of_getElem? (i := 20) rfl)) rfl), List.forall_mem_cons.mpr ⟨(zw (zin3 (List.mem_of_getElem? (i := 22) rfl)) rfl), fun _ h => absurd h List.not_mem_nil⟩⟩⟩
set_option maxRecDepth 20000 in
theorem zC3 : zCok 3 ("TesseraHallLaw$Out", zT3, 3) := ⟨zU3, _, _, rfl, rfl, rfl, by decide +kernel, zu3, by decide +kernel, by decide +kernel, (zw (zin3 (List.mem_of_getElem? (i := 10) rfl)) rfl), (zw (zin1 (List.mem_of_getElem? (i := 8) rfl)) rfl)⟩
set_option maxRecDepth 20000 in
theorem zu4 : ∀ w ∈ u_ws "TesseraHall$Board" zT4 7, w ∈ zWS := by
  rw [show u_ws "TesseraHall$Board" zT4 7 = [(Jvm.Cond.laysFinal "TesseraHall$Board" "TesseraHall$Board" "grid" "LTesseraHall$Grid;"), (Jvm.Cond.laysFinal "TesseraHall$Board" "TesseraHall$Board" "album" "LTesseraHall$Album;"), (Jvm.Cond.laysFinal "TesseraHall$Board" "TesseraHall$Board" "kept" "[I"), (Jvm.Cond.laysFinal "TesseraHall$Board" "TesseraHall$Board" "guessed" "[I"), (Jvm.Cond.lays "TesseraHall$Board" "TesseraHall$Board" "guesses" "I"), (Jvm.Cond.lays "TesseraHall$Board" "TesseraHall$Board" "mistakes" "I"), (Jvm.Cond.lays "TesseraHall$Board" "TesseraHall$Board" "sweeps" "I")] from rfl]
  exact List.forall_mem_cons.mpr ⟨(zw (zin3 (List.mem_of_getElem? (i := 70) rfl)) rfl), List.forall_mem_cons.mpr ⟨(zw (zin3 (List.mem_of_getElem? (i := 72) rfl)) rfl), List.forall_mem_cons.mpr ⟨(zw (zin3 (List.mem_of_getElem? (i := 74) rfl)) rfl), List.forall_mem_cons.mpr ⟨(zw (zin3 (List.mem_of_getElem? (i := 76) rfl)) rfl), List.forall_mem_cons.mpr ⟨(zw (zin3 (List.mem_of_getElem? (i := 78) rfl)) rfl), List.forall_mem_cons.mpr ⟨(zw (zin3 (List.mem_of_getElem? (i := 80) rfl)) rfl), List.forall_mem_cons.mpr ⟨(zw (zin3 (List.mem_of_getElem? (i := 82) rfl)) rfl), fun _ h => absurd h List.not_mem_nil⟩⟩⟩⟩⟩⟩⟩
set_option maxRecDepth 20000 in
theorem zC4 : zCok 4 ("TesseraHall$Board", zT4, 7) := ⟨zU4, _, _, rfl, rfl, rfl, by decide +kernel, zu4, by decide +kernel, by decide +kernel, (zw (zin3 (List.mem_of_getElem? (i := 51) rfl)) rfl), (zw (zin1 (List.mem_of_getElem? (i := 14) rfl)) rfl)⟩
set_option maxRecDepth 20000 in
theorem zu5 : ∀ w ∈ u_ws "java/lang/StringBuilder" zT5 4, w ∈ zWS := by
  rw [show u_ws "java/lang/StringBuilder" zT5 4 = [(Jvm.Cond.lays "java/lang/StringBuilder" "java/lang/AbstractStringBuilder" "value" "[B"), (Jvm.Cond.lays "java/lang/StringBuilder" "java/lang/AbstractStringBuilder" "coder" "B"), (Jvm.Cond.lays "java/lang/StringBuilder" "java/lang/AbstractStringBuilder" "maybeLatin1" "Z"), (Jvm.Cond.lays "java/lang/StringBuilder" "java/lang/AbstractStringBuilder" "count" "I")] from rfl]
  exact List.forall_mem_cons.mpr ⟨(zw (zin4 (List.mem_of_getElem? (i := 29) rfl)) rfl), List.forall_mem_cons.mpr ⟨(zw (zin4 (List.mem_of_getElem? (i := 31) rfl)) rfl), List.forall_mem_cons.mpr ⟨(zw (zin4 (List.mem_of_getElem? (i := 33) rfl)) rfl), List.forall_mem_cons.mpr ⟨(zw (zin4 (List.mem_of_getElem? (i := 35) rfl)) rfl), fun _ h => absurd h List.not_mem_nil⟩⟩⟩⟩
set_option maxRecDepth 20000 in
theorem zC5 : zCok 5 ("java/lang/StringBuilder", zT5, 4) := ⟨zU5, _, _, rfl, rfl, rfl, by decide +kernel, zu5, by decide +kernel, by decide +kernel, (zw (zin4 (List.mem_of_getElem? (i := 8) rfl)) rfl), (zw (zin1 (List.mem_of_getElem? (i := 27) rfl)) rfl)⟩
set_option maxRecDepth 20000 in
theorem zu6 : ∀ w ∈ u_ws "java/lang/String" zT6 4, w ∈ zWS := by
  rw [show u_ws "java/lang/String" zT6 4 = [(Jvm.Cond.laysFinal "java/lang/String" "java/lang/String" "value" "[B"), (Jvm.Cond.laysFinal "java/lang/String" "java/lang/String" "coder" "B"), (Jvm.Cond.lays "java/lang/String" "java/lang/String" "hash" "I"), (Jvm.Cond.lays "java/lang/String" "java/lang/String" "hashIsZero" "Z")] from rfl]
  exact List.forall_mem_cons.mpr ⟨(zw (zin5 (List.mem_of_getElem? (i := 24) rfl)) rfl), List.forall_mem_cons.mpr ⟨(zw (zin5 (List.mem_of_getElem? (i := 26) rfl)) rfl), List.forall_mem_cons.mpr ⟨(zw (zin5 (List.mem_of_getElem? (i := 28) rfl)) rfl), List.forall_mem_cons.mpr ⟨(zw (zin5 (List.mem_of_getElem? (i := 30) rfl)) rfl), fun _ h => absurd h List.not_mem_nil⟩⟩⟩⟩
set_option maxRecDepth 20000 in
theorem zC6 : zCok 6 ("java/lang/String", zT6, 4) := ⟨zU6, _, _, rfl, rfl, rfl, by decide +kernel, zu6, by decide +kernel, by decide +kernel, (zw (zin4 (List.mem_of_getElem? (i := 140) rfl)) rfl), (zw (zin1 (List.mem_of_getElem? (i := 28) rfl)) rfl)⟩
set_option maxRecDepth 20000 in
theorem zu7 : ∀ w ∈ u_ws "TesseraHallModel" zT7 3, w ∈ zWS := by
  rw [show u_ws "TesseraHallModel" zT7 3 = [(Jvm.Cond.lays "TesseraHallModel" "TesseraHallModel" "thrown" "I"), (Jvm.Cond.laysFinal "TesseraHallModel" "TesseraHallModel" "boards" "Ljava/util/List;"), (Jvm.Cond.lays "TesseraHallModel" "TesseraHallModel" "refused" "I")] from rfl]
  exact List.forall_mem_cons.mpr ⟨(zw (zin5 (List.mem_of_getElem? (i := 110) rfl)) rfl), List.forall_mem_cons.mpr ⟨(zw (zin5 (List.mem_of_getElem? (i := 112) rfl)) rfl), List.forall_mem_cons.mpr ⟨(zw (zin5 (List.mem_of_getElem? (i := 114) rfl)) rfl), fun _ h => absurd h List.not_mem_nil⟩⟩⟩
set_option maxRecDepth 20000 in
theorem zC7 : zCok 7 ("TesseraHallModel", zT7, 3) := ⟨zU7, _, _, rfl, rfl, rfl, by decide +kernel, zu7, by decide +kernel, by decide +kernel, (zw (zin5 (List.mem_of_getElem? (i := 76) rfl)) rfl), (zw (zin1 (List.mem_of_getElem? (i := 4) rfl)) rfl)⟩
set_option maxRecDepth 20000 in
theorem zu8 : ∀ w ∈ u_ws "java/util/ArrayList" zT8 3, w ∈ zWS := by
  rw [show u_ws "java/util/ArrayList" zT8 3 = [(Jvm.Cond.lays "java/util/ArrayList" "java/util/ArrayList" "elementData" "[Ljava/lang/Object;"), (Jvm.Cond.lays "java/util/ArrayList" "java/util/ArrayList" "size" "I"), (Jvm.Cond.lays "java/util/ArrayList" "java/util/AbstractList" "modCount" "I")] from rfl]
  exact List.forall_mem_cons.mpr ⟨(zw (zin5 (List.mem_of_getElem? (i := 100) rfl)) rfl), List.forall_mem_cons.mpr ⟨(zw (zin5 (List.mem_of_getElem? (i := 102) rfl)) rfl), List.forall_mem_cons.mpr ⟨(zw (zin5 (List.mem_of_getElem? (i := 104) rfl)) rfl), fun _ h => absurd h List.not_mem_nil⟩⟩⟩
set_option maxRecDepth 20000 in
theorem zC8 : zCok 8 ("java/util/ArrayList", zT8, 3) := ⟨zU8, _, _, rfl, rfl, rfl, by decide +kernel, zu8, by decide +kernel, by decide +kernel, (zw (zin5 (List.mem_of_getElem? (i := 82) rfl)) rfl), (zw (zin1 (List.mem_of_getElem? (i := 7) rfl)) rfl)⟩
set_option maxRecDepth 20000 in
theorem zu9 : ∀ w ∈ u_ws "TesseraHallModel$Board" zT9 7, w ∈ zWS := by
  rw [show u_ws "TesseraHallModel$Board" zT9 7 = [(Jvm.Cond.lays "TesseraHallModel$Board" "TesseraHallModel$Board" "wide" "I"), (Jvm.Cond.lays "TesseraHallModel$Board" "TesseraHallModel$Board" "high" "I"), (Jvm.Cond.lays "TesseraHallModel$Board" "TesseraHallModel$Board" "rows" "[[I"), (Jvm.Cond.lays "TesseraHallModel$Board" "TesseraHallModel$Board" "clues" "[I"), (Jvm.Cond.lays "TesseraHallModel$Board" "TesseraHallModel$Board" "guesses" "Ljava/util/List;"), (Jvm.Cond.lays "TesseraHallModel$Board" "TesseraHallModel$Board" "mistakes" "I"), (Jvm.Cond.lays "TesseraHallModel$Board" "TesseraHallModel$Board" "sweeps" "I")] from rfl]
  exact List.forall_mem_cons.mpr ⟨(zw (zin5 (List.mem_of_getElem? (i := 172) rfl)) rfl), List.forall_mem_cons.mpr ⟨(zw (zin5 (List.mem_of_getElem? (i := 174) rfl)) rfl), List.forall_mem_cons.mpr ⟨(zw (zin5 (List.mem_of_getElem? (i := 176) rfl)) rfl), List.forall_mem_cons.mpr ⟨(zw (zin5 (List.mem_of_getElem? (i := 178) rfl)) rfl), List.forall_mem_cons.mpr ⟨(zw (zin5 (List.mem_of_getElem? (i := 180) rfl)) rfl), List.forall_mem_cons.mpr ⟨(zw (zin5 (List.mem_of_getElem? (i := 182) rfl)) rfl), List.forall_mem_cons.mpr ⟨(zw (zin5 (List.mem_of_getElem? (i := 184) rfl)) rfl), fun _ h => absurd h List.not_mem_nil⟩⟩⟩⟩⟩⟩⟩
set_option maxRecDepth 20000 in
theorem zC9 : zCok 9 ("TesseraHallModel$Board", zT9, 7) := ⟨zU9, _, _, rfl, rfl, rfl, by decide +kernel, zu9, by decide +kernel, by decide +kernel, (zw (zin5 (List.mem_of_getElem? (i := 143) rfl)) rfl), (zw (zin1 (List.mem_of_getElem? (i := 15) rfl)) rfl)⟩
set_option maxRecDepth 20000 in
theorem zu10 : ∀ w ∈ u_ws "TesseraHallModel$Kept" zT10 3, w ∈ zWS := by
  rw [show u_ws "TesseraHallModel$Kept" zT10 3 = [(Jvm.Cond.laysFinal "TesseraHallModel$Kept" "TesseraHallModel$Kept" "rows" "[[I"), (Jvm.Cond.laysFinal "TesseraHallModel$Kept" "TesseraHallModel$Kept" "cell" "I"), (Jvm.Cond.laysFinal "TesseraHallModel$Kept" "TesseraHallModel$Kept" "isDark" "Z")] from rfl]
  exact List.forall_mem_cons.mpr ⟨(zw (zin6 (List.mem_of_getElem? (i := 146) rfl)) rfl), List.forall_mem_cons.mpr ⟨(zw (zin6 (List.mem_of_getElem? (i := 148) rfl)) rfl), List.forall_mem_cons.mpr ⟨(zw (zin6 (List.mem_of_getElem? (i := 150) rfl)) rfl), fun _ h => absurd h List.not_mem_nil⟩⟩⟩
set_option maxRecDepth 20000 in
theorem zC10 : zCok 10 ("TesseraHallModel$Kept", zT10, 3) := ⟨zU10, _, _, rfl, rfl, rfl, by decide +kernel, zu10, by decide +kernel, by decide +kernel, (zw (zin6 (List.mem_of_getElem? (i := 132) rfl)) rfl), (zw (zin1 (List.mem_of_getElem? (i := 25) rfl)) rfl)⟩
theorem zC_ok : ∀ (t : Nat) (r : vw_C), zcl[t]? = some r → zCok t r := by
  intro t r h
  match t, h with
  | 0, h => exact (Option.some.inj h) ▸ zC0
  | 1, h => exact (Option.some.inj h) ▸ zC1
  | 2, h => exact (Option.some.inj h) ▸ zC2
  | 3, h => exact (Option.some.inj h) ▸ zC3
  | 4, h => exact (Option.some.inj h) ▸ zC4
  | 5, h => exact (Option.some.inj h) ▸ zC5
  | 6, h => exact (Option.some.inj h) ▸ zC6
  | 7, h => exact (Option.some.inj h) ▸ zC7
  | 8, h => exact (Option.some.inj h) ▸ zC8
  | 9, h => exact (Option.some.inj h) ▸ zC9
  | 10, h => exact (Option.some.inj h) ▸ zC10
  | k + 11, h => simp [zcl] at h
/-! ===== methods ===== -/
def zon : List String := ["TesseraHall", "TesseraHall$Grid", "TesseraHall$Album", "java/lang/Integer", "TesseraHallLaw$Out", "TesseraHallLaw", "TesseraHall$Board", "java/lang/StringBuilder", "java/lang/AbstractStringBuilder", "jdk/internal/util/ArraysSupport", "java/lang/Math", "java/util/Arrays", "java/lang/StringLatin1", "jdk/internal/util/Preconditions", "java/lang/String", "TesseraHallModel", "java/util/ArrayList", "java/util/AbstractList", "java/util/AbstractCollection", "TesseraHallModel$Board", "java/util/Objects", "TesseraHallModel$Kept"]
/-- name, bytes, locals, answer, owner (a place in zon), static, handlers -/
abbrev zMd : Type := MethodName × ByteArray × Nat × Option FieldType × Nat × Bool × List (Nat × Nat × Nat × Nat)
def zmd_0 : List zMd := [(⟨"TesseraHall", "<init>", "()V"⟩, prog_1_method_1_code, 1, none, 0, false, []),
  (⟨"TesseraHall$Grid", "<init>", "(II)V"⟩, prog_4_method_1_code, 4, none, 1, false, []),
  (⟨"TesseraHall$Grid", "clearCells", "()V"⟩, prog_4_method_10_code, 2, none, 1, false, []),
  (⟨"TesseraHall$Grid", "put", "(IIIII)V"⟩, prog_4_method_9_code, 7, none, 1, false, []),
  (⟨"TesseraHall$Grid", "lineCount", "()I"⟩, prog_4_method_3_code, 1, (some .int), 1, false, []),
  (⟨"TesseraHall$Grid", "tell", "(II)V"⟩, prog_4_method_11_code, 3, none, 1, false, []),
  (⟨"TesseraHall$Grid", "lengthOf", "(I)I"⟩, prog_4_method_4_code, 2, (some .int), 1, false, []),
  (⟨"TesseraHall", "fitting", "(II)I"⟩, prog_1_method_44_code, 4, (some .int), 0, true, []),
  (⟨"TesseraHall$Album", "<init>", "()V"⟩, prog_2_method_1_code, 1, none, 2, false, []),
  (⟨"TesseraHall", "knock", "()I"⟩, prog_1_method_13_code, 1, (some .int), 0, false, []),
  (⟨"TesseraHall", "digest", "()J"⟩, prog_1_method_28_code, 4, (some .long), 0, false, []),
  (⟨"TesseraHall", "many", "(I)I"⟩, prog_1_method_22_code, 5, (some .int), 0, false, []),
  (⟨"TesseraHall", "checkWhat", "(II)V"⟩, prog_1_method_34_code, 2, none, 0, true, []),
  (⟨"TesseraHall", "boardAt", "(I)LTesseraHall$Board;"⟩, prog_1_method_30_code, 3, (some (.object "TesseraHall$Board")), 0, false, []),
  (⟨"TesseraHall$Grid", "countOf", "(I)I"⟩, prog_4_method_20_code, 4, (some .int), 1, false, []),
  (⟨"TesseraHall$Grid", "cellCount", "()I"⟩, prog_4_method_2_code, 1, (some .int), 1, false, []),
  (⟨"TesseraHall$Grid", "stateAt", "(I)I"⟩, prog_4_method_7_code, 2, (some .int), 1, false, []),
  (⟨"TesseraHall", "withBoard", "(JI)J"⟩, prog_1_method_29_code, 9, (some .long), 0, false, []),
  (⟨"TesseraHall", "ofBoard", "(II)I"⟩, prog_1_method_17_code, 4, (some .int), 0, false, []),
  (⟨"TesseraHall$Grid", "brokenLines", "()I"⟩, prog_4_method_22_code, 3, (some .int), 1, false, []),
  (⟨"TesseraHall$Grid", "waysOf", "(I)I"⟩, prog_4_method_15_code, 6, (some .int), 1, false, []),
  (⟨"TesseraHall$Grid", "cellAt", "(II)I"⟩, prog_4_method_5_code, 3, (some .int), 1, false, []),
  (⟨"TesseraHall$Album", "lookAt", "(LTesseraHall$Grid;I)LTesseraHall$Album;"⟩, prog_2_method_2_code, 4, (some (.object "TesseraHall$Album")), 2, false, []),
  (⟨"TesseraHall$Album", "isChangedBy", "(LTesseraHall$Grid;I)Z"⟩, prog_2_method_3_code, 6, (some .boolean), 2, false, []),
  (⟨"TesseraHall$Grid", "takeAll", "(LTesseraHall$Grid;)V"⟩, prog_4_method_26_code, 2, none, 1, false, []),
  (⟨"TesseraHall$Grid", "followAll", "(I)I"⟩, prog_4_method_18_code, 9, (some .int), 1, false, []),
  (⟨"TesseraHall$Grid", "followingIn", "(III)I"⟩, prog_4_method_17_code, 7, (some .int), 1, false, []),
  (⟨"TesseraHall$Grid", "putFollowing", "(IIIII)V"⟩, prog_4_method_19_code, 7, none, 1, false, []),
  (⟨"TesseraHall", "isIn", "(II)Z"⟩, prog_1_method_39_code, 2, (some .boolean), 0, true, []),
  (⟨"java/lang/Integer", "bitCount", "(I)I"⟩, prog_22_method_49_code, 1, (some .int), 3, true, [])]
def zmd_1 : List zMd := [(⟨"TesseraHall$Album", "canGoOn", "(I)Z"⟩, prog_2_method_7_code, 3, (some .boolean), 2, false, []),
  (⟨"TesseraHall$Album", "agreeingWays", "(II)I"⟩, prog_2_method_8_code, 6, (some .int), 2, false, []),
  (⟨"TesseraHall$Album", "layRow", "(LTesseraHall$Album;II)V"⟩, prog_2_method_4_code, 5, none, 2, true, []),
  (⟨"TesseraHall$Album", "add", "(I)V"⟩, prog_2_method_5_code, 2, none, 2, false, []),
  (⟨"TesseraHall$Album", "narrowColumns", "(II)V"⟩, prog_2_method_6_code, 5, none, 2, false, []),
  (⟨"TesseraHall$Grid", "openLines", "()I"⟩, prog_4_method_23_code, 3, (some .int), 1, false, []),
  (⟨"TesseraHall$Grid", "clueOf", "(I)I"⟩, prog_4_method_6_code, 2, (some .int), 1, false, []),
  (⟨"TesseraHall$Album", "alwaysSame", "()I"⟩, prog_2_method_10_code, 4, (some .int), 2, false, []),
  (⟨"TesseraHall$Grid", "unknownSet", "()I"⟩, prog_4_method_21_code, 3, (some .int), 1, false, []),
  (⟨"TesseraHall", "ofCell", "(III)I"⟩, prog_1_method_14_code, 5, (some .int), 0, false, []),
  (⟨"TesseraHall", "checkCell", "(LTesseraHall$Grid;I)V"⟩, prog_1_method_32_code, 2, none, 0, true, []),
  (⟨"TesseraHall$Grid", "aspectOf", "(II)I"⟩, prog_4_method_8_code, 3, (some .int), 1, false, []),
  (⟨"TesseraHall", "ofLine", "(III)I"⟩, prog_1_method_15_code, 5, (some .int), 0, false, []),
  (⟨"TesseraHall", "checkLine", "(LTesseraHall$Grid;I)V"⟩, prog_1_method_33_code, 2, none, 0, true, []),
  (⟨"TesseraHall", "runsIn", "(I)I"⟩, prog_1_method_41_code, 3, (some .int), 0, true, []),
  (⟨"TesseraHall$Grid", "following", "(II)I"⟩, prog_4_method_16_code, 3, (some .int), 1, false, []),
  (⟨"TesseraHall", "way", "(III)I"⟩, prog_1_method_16_code, 8, (some .int), 0, false, []),
  (⟨"TesseraHall", "picture", "(II)I"⟩, prog_1_method_19_code, 4, (some .int), 0, false, []),
  (⟨"TesseraHall$Album", "pictureAt", "(I)I"⟩, prog_2_method_9_code, 2, (some .int), 2, false, []),
  (⟨"TesseraHall", "blur", "(II)D"⟩, prog_1_method_21_code, 4, (some .double), 0, false, []),
  (⟨"TesseraHall$Grid", "looseness", "()D"⟩, prog_4_method_24_code, 4, (some .double), 1, false, []),
  (⟨"TesseraHall$Grid", "unknownIn", "(I)I"⟩, prog_4_method_25_code, 4, (some .int), 1, false, []),
  (⟨"TesseraHall$Album", "fogOver", "(LTesseraHall$Grid;)F"⟩, prog_2_method_14_code, 6, (some .float), 2, false, []),
  (⟨"TesseraHall$Album", "darkIn", "(I)I"⟩, prog_2_method_11_code, 2, (some .int), 2, false, []),
  (⟨"TesseraHall$Album", "countDarks", "()V"⟩, prog_2_method_12_code, 4, none, 2, false, []),
  (⟨"TesseraHall", "hint", "(I)I"⟩, prog_1_method_23_code, 7, (some .int), 0, false, []),
  (⟨"TesseraHall", "toss", "(I)I"⟩, prog_1_method_24_code, 12, (some .int), 0, false, []),
  (⟨"TesseraHall$Album", "chanceOf", "(I)D"⟩, prog_2_method_13_code, 2, (some .double), 2, false, []),
  (⟨"TesseraHall", "needs", "(I)I"⟩, prog_1_method_26_code, 3, (some .int), 0, false, []),
  (⟨"TesseraHall$Album", "fewestToTellFirst", "()I"⟩, prog_2_method_15_code, 2, (some .int), 2, false, [])]
def zmd_2 : List zMd := [(⟨"TesseraHall$Album", "tellsFirst", "(I)Z"⟩, prog_2_method_16_code, 5, (some .boolean), 2, false, []),
  (⟨"TesseraHall", "alike", "(II)I"⟩, prog_1_method_27_code, 6, (some .int), 0, false, []),
  (⟨"TesseraHall$Grid", "isTurnedInto", "(LTesseraHall$Grid;I)Z"⟩, prog_4_method_31_code, 7, (some .boolean), 1, false, []),
  (⟨"TesseraHall$Grid", "runsOtherWay", "(II)Z"⟩, prog_4_method_30_code, 3, (some .boolean), 1, false, []),
  (⟨"TesseraHall$Grid", "turnedLine", "(II)I"⟩, prog_4_method_29_code, 3, (some .int), 1, false, []),
  (⟨"TesseraHall", "reversed", "(I)I"⟩, prog_1_method_42_code, 3, (some .int), 0, true, []),
  (⟨"TesseraHallLaw$Out", "<init>", "()V"⟩, prog_6_method_1_code, 1, none, 4, false, []),
  (⟨"TesseraHallLaw", "board", "(LTesseraHall;IILTesseraHallLaw$Out;)I"⟩, method_2_code, 5, (some .int), 5, true, [(0, 11, 14, 19), (0, 11, 18, 21)]),
  (⟨"TesseraHall", "board", "(II)I"⟩, prog_1_method_2_code, 3, (some .int), 0, false, []),
  (⟨"TesseraHall$Board", "<init>", "(II)V"⟩, prog_3_method_1_code, 3, none, 6, false, []),
  (⟨"TesseraHallLaw", "clue", "(LTesseraHall;IIILTesseraHallLaw$Out;)I"⟩, method_3_code, 6, (some .int), 5, true, [(0, 13, 16, 27), (0, 13, 20, 19)]),
  (⟨"TesseraHall", "clue", "(III)I"⟩, prog_1_method_3_code, 5, (some .int), 0, false, []),
  (⟨"TesseraHall", "isClue", "(II)Z"⟩, prog_1_method_40_code, 4, (some .boolean), 0, true, []),
  (⟨"TesseraHallLaw", "open", "(LTesseraHall;IILTesseraHallLaw$Out;)I"⟩, method_4_code, 5, (some .int), 5, true, [(0, 11, 14, 27)]),
  (⟨"TesseraHall", "open", "(II)I"⟩, prog_1_method_4_code, 5, (some .int), 0, false, []),
  (⟨"TesseraHallLaw", "mark", "(LTesseraHall;IIZLTesseraHallLaw$Out;)I"⟩, method_5_code, 6, (some .int), 5, true, [(0, 20, 23, 27), (0, 20, 27, 21)]),
  (⟨"TesseraHall", "mark", "(IIZ)Z"⟩, prog_1_method_5_code, 5, (some .boolean), 0, false, []),
  (⟨"TesseraHall", "checkUnknown", "(LTesseraHall$Grid;I)V"⟩, prog_1_method_35_code, 2, none, 0, true, []),
  (⟨"TesseraHall", "tryOut", "(LTesseraHall$Grid;IZ)V"⟩, prog_1_method_31_code, 4, none, 0, false, []),
  (⟨"TesseraHall", "stateOf", "(Z)I"⟩, prog_1_method_37_code, 1, (some .int), 0, true, []),
  (⟨"TesseraHallLaw", "sweep", "(LTesseraHall;ILTesseraHallLaw$Out;)I"⟩, method_6_code, 4, (some .int), 5, true, [(0, 10, 13, 27)]),
  (⟨"TesseraHall", "sweep", "(I)I"⟩, prog_1_method_6_code, 3, (some .int), 0, false, []),
  (⟨"TesseraHallLaw", "guess", "(LTesseraHall;IIZLTesseraHallLaw$Out;)I"⟩, method_7_code, 6, (some .int), 5, true, [(0, 13, 16, 27), (0, 13, 20, 21)]),
  (⟨"TesseraHall", "guess", "(IIZ)I"⟩, prog_1_method_7_code, 5, (some .int), 0, false, []),
  (⟨"TesseraHall$Board", "keep", "(I)V"⟩, prog_3_method_2_code, 2, none, 6, false, []),
  (⟨"TesseraHallLaw", "back", "(LTesseraHall;IZLTesseraHallLaw$Out;)I"⟩, method_8_code, 5, (some .int), 5, true, [(0, 11, 14, 27), (0, 11, 18, 21)]),
  (⟨"TesseraHall", "back", "(IZ)I"⟩, prog_1_method_8_code, 6, (some .int), 0, false, []),
  (⟨"TesseraHall$Board", "lastGuessed", "()I"⟩, prog_3_method_3_code, 1, (some .int), 6, false, []),
  (⟨"TesseraHall$Board", "restore", "()V"⟩, prog_3_method_4_code, 1, none, 6, false, []),
  (⟨"TesseraHallLaw", "turn", "(LTesseraHall;IILTesseraHallLaw$Out;)I"⟩, method_9_code, 5, (some .int), 5, true, [(0, 11, 14, 27), (0, 11, 18, 19), (0, 11, 22, 21)])]
def zmd_3 : List zMd := [(⟨"TesseraHall", "turn", "(II)I"⟩, prog_1_method_9_code, 4, (some .int), 0, false, []),
  (⟨"TesseraHall", "checkNoGuess", "(LTesseraHall$Board;)V"⟩, prog_1_method_36_code, 1, none, 0, true, []),
  (⟨"TesseraHall$Grid", "takeTurned", "(LTesseraHall$Grid;I)V"⟩, prog_4_method_27_code, 5, none, 1, false, []),
  (⟨"TesseraHall$Grid", "takeTurnedCell", "(LTesseraHall$Grid;III)V"⟩, prog_4_method_28_code, 10, none, 1, false, []),
  (⟨"TesseraHallLaw", "paint", "(LTesseraHall;IIILTesseraHallLaw$Out;)I"⟩, method_10_code, 6, (some .int), 5, true, [(0, 13, 16, 27), (0, 13, 20, 19), (0, 13, 24, 21)]),
  (⟨"TesseraHall", "paint", "(III)I"⟩, prog_1_method_10_code, 5, (some .int), 0, false, []),
  (⟨"TesseraHall$Grid", "paintRow", "(II)V"⟩, prog_4_method_12_code, 4, none, 1, false, []),
  (⟨"TesseraHallLaw", "read", "(LTesseraHall;ILTesseraHallLaw$Out;)I"⟩, method_11_code, 4, (some .int), 5, true, [(0, 10, 13, 27), (0, 10, 16, 21)]),
  (⟨"TesseraHall", "read", "(I)I"⟩, prog_1_method_11_code, 4, (some .int), 0, false, []),
  (⟨"TesseraHall$Grid", "tellAsShown", "()I"⟩, prog_4_method_13_code, 4, (some .int), 1, false, []),
  (⟨"TesseraHall$Grid", "darkPlaces", "(I)I"⟩, prog_4_method_14_code, 4, (some .int), 1, false, []),
  (⟨"TesseraHall", "shownBy", "(I)I"⟩, prog_1_method_43_code, 1, (some .int), 0, true, []),
  (⟨"TesseraHallLaw", "wipe", "(LTesseraHall;ILTesseraHallLaw$Out;)I"⟩, method_12_code, 4, (some .int), 5, true, [(0, 10, 13, 27)]),
  (⟨"TesseraHall", "wipe", "(I)I"⟩, prog_1_method_12_code, 4, (some .int), 0, false, []),
  (⟨"TesseraHallLaw", "ofCell", "(LTesseraHall;IIILTesseraHallLaw$Out;)I"⟩, method_13_code, 6, (some .int), 5, true, [(0, 13, 16, 27), (0, 13, 20, 19)]),
  (⟨"TesseraHallLaw", "ofLine", "(LTesseraHall;IIILTesseraHallLaw$Out;)I"⟩, method_14_code, 6, (some .int), 5, true, [(0, 13, 16, 27), (0, 13, 20, 19)]),
  (⟨"TesseraHallLaw", "way", "(LTesseraHall;IIILTesseraHallLaw$Out;)I"⟩, method_15_code, 6, (some .int), 5, true, [(0, 13, 16, 27), (0, 13, 20, 19)]),
  (⟨"TesseraHallLaw", "ofBoard", "(LTesseraHall;IILTesseraHallLaw$Out;)I"⟩, method_16_code, 5, (some .int), 5, true, [(0, 11, 14, 27), (0, 11, 18, 19)]),
  (⟨"TesseraHallLaw", "text", "(LTesseraHall;ILTesseraHallLaw$Out;)I"⟩, method_17_code, 4, (some .int), 5, true, [(0, 9, 12, 27)]),
  (⟨"TesseraHall", "text", "(I)Ljava/lang/String;"⟩, prog_1_method_18_code, 6, (some (.object "java/lang/String")), 0, false, []),
  (⟨"java/lang/StringBuilder", "<init>", "()V"⟩, prog_28_method_1_code, 1, none, 7, false, []),
  (⟨"java/lang/AbstractStringBuilder", "<init>", "(I)V"⟩, prog_11_method_2_code, 2, none, 8, false, []),
  (⟨"java/lang/StringBuilder", "append", "(C)Ljava/lang/StringBuilder;"⟩, prog_28_method_14_code, 2, (some (.object "java/lang/StringBuilder")), 7, false, []),
  (⟨"java/lang/AbstractStringBuilder", "append", "(C)Ljava/lang/AbstractStringBuilder;"⟩, prog_11_method_31_code, 2, (some (.object "java/lang/AbstractStringBuilder")), 8, false, []),
  (⟨"java/lang/AbstractStringBuilder", "ensureCapacityInternal", "(I)V"⟩, prog_11_method_9_code, 3, none, 8, false, []),
  (⟨"java/lang/AbstractStringBuilder", "newCapacity", "(I)I"⟩, prog_11_method_10_code, 6, (some .int), 8, false, []),
  (⟨"jdk/internal/util/ArraysSupport", "newLength", "(III)I"⟩, prog_44_method_27_code, 4, (some .int), 9, true, []),
  (⟨"java/lang/Math", "max", "(II)I"⟩, prog_24_method_65_code, 2, (some .int), 10, true, []),
  (⟨"java/util/Arrays", "copyOf", "([BI)[B"⟩, prog_38_method_121_code, 3, (some (.array .byte)), 11, true, []),
  (⟨"java/lang/Math", "min", "(II)I"⟩, prog_24_method_69_code, 2, (some .int), 10, true, [])]
def zmd_4 : List zMd := [(⟨"java/lang/AbstractStringBuilder", "isLatin1", "()Z"⟩, prog_11_method_68_code, 1, (some .boolean), 8, false, []),
  (⟨"java/lang/StringLatin1", "canEncode", "(C)Z"⟩, prog_29_method_3_code, 1, (some .boolean), 12, true, []),
  (⟨"jdk/internal/util/Preconditions", "checkIndex", "(IILjava/util/function/BiFunction;)I"⟩, prog_45_method_11_code, 3, (some .int), 13, true, []),
  (⟨"TesseraHall", "signOf", "(I)C"⟩, prog_1_method_38_code, 1, (some .char), 0, true, []),
  (⟨"java/lang/StringBuilder", "toString", "()Ljava/lang/String;"⟩, prog_28_method_42_code, 1, (some (.object "java/lang/String")), 7, false, []),
  (⟨"java/lang/String", "<init>", "(Ljava/lang/StringBuilder;)V"⟩, prog_27_method_53_code, 2, none, 14, false, []),
  (⟨"java/lang/String", "<init>", "(Ljava/lang/AbstractStringBuilder;Ljava/lang/Void;)V"⟩, prog_27_method_150_code, 5, none, 14, false, []),
  (⟨"java/lang/AbstractStringBuilder", "getValue", "()[B"⟩, prog_11_method_64_code, 1, (some (.array .byte)), 8, false, []),
  (⟨"java/lang/StringBuilder", "length", "()I"⟩, prog_28_method_93_code, 1, (some .int), 7, false, []),
  (⟨"java/lang/AbstractStringBuilder", "length", "()I"⟩, prog_11_method_6_code, 1, (some .int), 8, false, []),
  (⟨"java/util/Arrays", "copyOfRange", "([BII)[B"⟩, prog_38_method_132_code, 3, (some (.array .byte)), 11, true, []),
  (⟨"java/util/Arrays", "copyOfRangeByte", "([BII)[B"⟩, prog_38_method_133_code, 5, (some (.array .byte)), 11, true, []),
  (⟨"java/util/Arrays", "checkLength", "(II)V"⟩, prog_38_method_131_code, 2, none, 11, true, []),
  (⟨"java/lang/String", "length", "()I"⟩, prog_27_method_54_code, 1, (some .int), 14, false, []),
  (⟨"java/lang/String", "coder", "()B"⟩, prog_27_method_152_code, 1, (some .byte), 14, false, []),
  (⟨"TesseraHallLaw", "picture", "(LTesseraHall;IILTesseraHallLaw$Out;)I"⟩, method_18_code, 5, (some .int), 5, true, [(0, 11, 14, 27), (0, 11, 18, 19)]),
  (⟨"TesseraHallLaw", "chance", "(LTesseraHall;IILTesseraHallLaw$Out;)I"⟩, method_19_code, 5, (some .int), 5, true, [(0, 10, 13, 27)]),
  (⟨"TesseraHall", "chance", "(II)D"⟩, prog_1_method_20_code, 4, (some .double), 0, false, []),
  (⟨"TesseraHallLaw", "blur", "(LTesseraHall;IILTesseraHallLaw$Out;)I"⟩, method_20_code, 5, (some .int), 5, true, [(0, 10, 13, 27), (0, 10, 17, 19)]),
  (⟨"TesseraHallLaw", "many", "(LTesseraHall;ILTesseraHallLaw$Out;)I"⟩, method_21_code, 4, (some .int), 5, true, [(0, 10, 13, 19)]),
  (⟨"TesseraHallLaw", "hint", "(LTesseraHall;ILTesseraHallLaw$Out;)I"⟩, method_22_code, 4, (some .int), 5, true, [(0, 10, 13, 27)]),
  (⟨"TesseraHallLaw", "toss", "(LTesseraHall;ILTesseraHallLaw$Out;)I"⟩, method_23_code, 4, (some .int), 5, true, [(0, 10, 13, 27)]),
  (⟨"TesseraHallLaw", "would", "(LTesseraHall;IIZILTesseraHallLaw$Out;)I"⟩, method_24_code, 7, (some .int), 5, true, [(0, 15, 18, 27), (0, 15, 22, 19), (0, 15, 26, 21)]),
  (⟨"TesseraHall", "would", "(IIZI)I"⟩, prog_1_method_25_code, 7, (some .int), 0, false, []),
  (⟨"TesseraHallLaw", "needs", "(LTesseraHall;ILTesseraHallLaw$Out;)I"⟩, method_25_code, 4, (some .int), 5, true, [(0, 10, 13, 27)]),
  (⟨"TesseraHallLaw", "alike", "(LTesseraHall;IILTesseraHallLaw$Out;)I"⟩, method_26_code, 5, (some .int), 5, true, [(0, 11, 14, 27)]),
  (⟨"TesseraHallModel", "<init>", "()V"⟩, prog_7_method_1_code, 1, none, 15, false, []),
  (⟨"java/util/ArrayList", "<init>", "()V"⟩, prog_37_method_2_code, 1, none, 16, false, []),
  (⟨"java/util/AbstractList", "<init>", "()V"⟩, prog_36_method_1_code, 1, none, 17, false, []),
  (⟨"java/util/AbstractCollection", "<init>", "()V"⟩, prog_35_method_1_code, 1, none, 18, false, [])]
def zmd_5 : List zMd := [(⟨"TesseraHallModel", "board", "(II)I"⟩, prog_7_method_13_code, 3, (some .int), 15, false, []),
  (⟨"TesseraHallModel", "in", "(III)Z"⟩, prog_7_method_4_code, 3, (some .boolean), 15, true, []),
  (⟨"TesseraHallModel", "no", "(I)I"⟩, prog_7_method_3_code, 2, (some .int), 15, false, []),
  (⟨"java/util/ArrayList", "size", "()I"⟩, prog_37_method_8_code, 1, (some .int), 16, false, []),
  (⟨"TesseraHallModel$Board", "<init>", "(II)V"⟩, prog_8_method_1_code, 4, none, 19, false, []),
  (⟨"TesseraHallModel$Board", "clear", "()V"⟩, prog_8_method_2_code, 2, none, 19, false, []),
  (⟨"TesseraHallModel$Board", "cells", "()I"⟩, prog_8_method_5_code, 1, (some .int), 19, false, []),
  (⟨"java/util/ArrayList", "add", "(Ljava/lang/Object;)Z"⟩, prog_37_method_25_code, 2, (some .boolean), 16, false, []),
  (⟨"java/util/ArrayList", "add", "(Ljava/lang/Object;[Ljava/lang/Object;I)V"⟩, prog_37_method_24_code, 4, none, 16, false, []),
  (⟨"java/util/ArrayList", "grow", "()[Ljava/lang/Object;"⟩, prog_37_method_7_code, 1, (some (.array (.object "java/lang/Object"))), 16, false, []),
  (⟨"java/util/ArrayList", "grow", "(I)[Ljava/lang/Object;"⟩, prog_37_method_6_code, 4, (some (.array (.object "java/lang/Object"))), 16, false, []),
  (⟨"TesseraHallModel", "clue", "(III)I"⟩, prog_7_method_15_code, 5, (some .int), 15, false, []),
  (⟨"TesseraHallModel", "isLine", "(II)Z"⟩, prog_7_method_12_code, 3, (some .boolean), 15, false, []),
  (⟨"TesseraHallModel", "isBoard", "(I)Z"⟩, prog_7_method_10_code, 2, (some .boolean), 15, false, []),
  (⟨"java/util/ArrayList", "get", "(I)Ljava/lang/Object;"⟩, prog_37_method_20_code, 2, (some (.object "java/lang/Object")), 16, false, []),
  (⟨"java/util/Objects", "checkIndex", "(II)I"⟩, prog_41_method_17_code, 2, (some .int), 20, true, []),
  (⟨"java/util/ArrayList", "elementData", "(I)Ljava/lang/Object;"⟩, prog_37_method_18_code, 2, (some (.object "java/lang/Object")), 16, false, []),
  (⟨"TesseraHallModel$Board", "lines", "()I"⟩, prog_8_method_6_code, 1, (some .int), 19, false, []),
  (⟨"TesseraHallModel$Board", "length", "(I)I"⟩, prog_8_method_7_code, 2, (some .int), 19, false, []),
  (⟨"TesseraHallModel", "canBe", "(II)Z"⟩, prog_7_method_14_code, 4, (some .boolean), 15, true, []),
  (⟨"TesseraHallModel", "runs", "(I)I"⟩, prog_7_method_9_code, 3, (some .int), 15, true, []),
  (⟨"TesseraHallModel$Board", "ways", "(I)I"⟩, prog_8_method_11_code, 4, (some .int), 19, false, []),
  (⟨"TesseraHallModel$Board", "isWay", "(II)Z"⟩, prog_8_method_10_code, 5, (some .boolean), 19, false, []),
  (⟨"TesseraHallModel$Board", "cellOf", "(II)I"⟩, prog_8_method_8_code, 3, (some .int), 19, false, []),
  (⟨"TesseraHallModel$Board", "is", "(I)I"⟩, prog_8_method_9_code, 2, (some .int), 19, false, []),
  (⟨"TesseraHallModel", "has", "(II)Z"⟩, prog_7_method_5_code, 2, (some .boolean), 15, true, []),
  (⟨"TesseraHallModel", "shown", "(II)I"⟩, prog_7_method_7_code, 5, (some .int), 15, true, []),
  (⟨"TesseraHallModel", "open", "(II)I"⟩, prog_7_method_16_code, 4, (some .int), 15, false, []),
  (⟨"TesseraHallModel", "mark", "(IIZ)Z"⟩, prog_7_method_17_code, 5, (some .boolean), 15, false, []),
  (⟨"TesseraHallModel", "isCell", "(II)Z"⟩, prog_7_method_11_code, 3, (some .boolean), 15, false, [])]
def zmd_6 : List zMd := [(⟨"TesseraHallModel$Board", "become", "(IIII)V"⟩, prog_8_method_14_code, 5, none, 19, false, []),
  (⟨"TesseraHallModel$Board", "count", "()I"⟩, prog_8_method_20_code, 1, (some .int), 19, false, []),
  (⟨"TesseraHallModel$Board", "pictures", "()[I"⟩, prog_8_method_17_code, 9, (some (.array .int)), 19, false, []),
  (⟨"TesseraHallModel$Board", "waysOf", "(I)[I"⟩, prog_8_method_16_code, 5, (some (.array .int)), 19, false, []),
  (⟨"TesseraHallModel$Board", "isLet", "([[III)Z"⟩, prog_8_method_18_code, 10, (some .boolean), 19, false, []),
  (⟨"TesseraHallModel$Board", "look", "([I[[I[[[I[[III)V"⟩, prog_8_method_19_code, 13, none, 19, false, []),
  (⟨"TesseraHallModel", "sweep", "(I)I"⟩, prog_7_method_18_code, 2, (some .int), 15, false, []),
  (⟨"TesseraHallModel$Board", "sweep", "()I"⟩, prog_8_method_15_code, 8, (some .int), 19, false, []),
  (⟨"TesseraHallModel$Board", "follows", "(IZ)I"⟩, prog_8_method_13_code, 7, (some .int), 19, false, []),
  (⟨"TesseraHallModel", "size", "(I)I"⟩, prog_7_method_6_code, 3, (some .int), 15, true, []),
  (⟨"TesseraHallModel", "guess", "(IIZ)I"⟩, prog_7_method_19_code, 5, (some .int), 15, false, []),
  (⟨"TesseraHallModel$Board", "copy", "([[I)[[I"⟩, prog_8_method_3_code, 3, (some (.array (.array .int))), 19, true, []),
  (⟨"TesseraHallModel$Kept", "<init>", "([[IIZ)V"⟩, prog_9_method_1_code, 4, none, 21, false, []),
  (⟨"TesseraHallModel", "back", "(IZ)I"⟩, prog_7_method_20_code, 5, (some .int), 15, false, []),
  (⟨"java/util/ArrayList", "remove", "(I)Ljava/lang/Object;"⟩, prog_37_method_29_code, 4, (some (.object "java/lang/Object")), 16, false, []),
  (⟨"java/util/ArrayList", "fastRemove", "([Ljava/lang/Object;I)V"⟩, prog_37_method_39_code, 4, none, 16, false, []),
  (⟨"TesseraHallModel", "turn", "(II)I"⟩, prog_7_method_21_code, 4, (some .int), 15, false, []),
  (⟨"TesseraHallModel$Board", "turn", "(I)V"⟩, prog_8_method_23_code, 8, none, 19, false, []),
  (⟨"TesseraHallModel$Board", "copy", "()LTesseraHallModel$Board;"⟩, prog_8_method_4_code, 2, (some (.object "TesseraHallModel$Board")), 19, false, []),
  (⟨"TesseraHallModel$Board", "lineTo", "(LTesseraHallModel$Board;II)I"⟩, prog_8_method_24_code, 5, (some .int), 19, true, []),
  (⟨"TesseraHallModel", "reversed", "(I)I"⟩, prog_7_method_8_code, 3, (some .int), 15, true, []),
  (⟨"TesseraHallModel", "paint", "(III)I"⟩, prog_7_method_22_code, 6, (some .int), 15, false, []),
  (⟨"TesseraHallModel$Board", "cells", "(I)I"⟩, prog_8_method_21_code, 7, (some .int), 19, false, []),
  (⟨"TesseraHallModel", "read", "(I)I"⟩, prog_7_method_23_code, 7, (some .int), 15, false, []),
  (⟨"TesseraHallModel", "wipe", "(I)I"⟩, prog_7_method_24_code, 4, (some .int), 15, false, []),
  (⟨"TesseraHallModel", "knock", "()I"⟩, prog_7_method_25_code, 1, (some .int), 15, false, []),
  (⟨"TesseraHallModel", "ofCell", "(III)I"⟩, prog_7_method_26_code, 4, (some .int), 15, false, []),
  (⟨"TesseraHallModel", "ofLine", "(III)I"⟩, prog_7_method_28_code, 4, (some .int), 15, false, []),
  (⟨"TesseraHallModel", "lineNow", "(LTesseraHallModel$Board;II)I"⟩, prog_7_method_27_code, 3, (some .int), 15, true, []),
  (⟨"TesseraHallModel", "way", "(III)I"⟩, prog_7_method_29_code, 4, (some .int), 15, false, [])]
def zmd_7 : List zMd := [(⟨"TesseraHallModel$Board", "way", "(II)I"⟩, prog_8_method_12_code, 5, (some .int), 19, false, []),
  (⟨"TesseraHallModel", "ofBoard", "(II)I"⟩, prog_7_method_32_code, 3, (some .int), 15, false, []),
  (⟨"TesseraHallModel", "boardNow", "(LTesseraHallModel$Board;[II)I"⟩, prog_7_method_31_code, 8, (some .int), 15, true, []),
  (⟨"TesseraHallModel$Board", "broken", "()I"⟩, prog_8_method_22_code, 3, (some .int), 19, false, []),
  (⟨"TesseraHallModel", "settled", "(LTesseraHallModel$Board;[I)I"⟩, prog_7_method_30_code, 8, (some .int), 15, true, []),
  (⟨"TesseraHallModel", "text", "(I)Ljava/lang/String;"⟩, prog_7_method_33_code, 5, (some (.object "java/lang/String")), 15, false, []),
  (⟨"TesseraHallModel", "picture", "(II)I"⟩, prog_7_method_34_code, 4, (some .int), 15, false, []),
  (⟨"TesseraHallModel", "chance", "(II)D"⟩, prog_7_method_37_code, 3, (some .double), 15, false, []),
  (⟨"TesseraHallModel", "chance", "([II)D"⟩, prog_7_method_36_code, 2, (some .double), 15, true, []),
  (⟨"TesseraHallModel", "dark", "([II)I"⟩, prog_7_method_35_code, 7, (some .int), 15, true, []),
  (⟨"TesseraHallModel", "blur", "(II)D"⟩, prog_7_method_40_code, 4, (some .double), 15, false, []),
  (⟨"TesseraHallModel", "loose", "(LTesseraHallModel$Board;)D"⟩, prog_7_method_38_code, 6, (some .double), 15, true, []),
  (⟨"TesseraHallModel", "fog", "(LTesseraHallModel$Board;[I)F"⟩, prog_7_method_39_code, 5, (some .float), 15, true, []),
  (⟨"TesseraHallModel", "many", "(I)I"⟩, prog_7_method_42_code, 2, (some .int), 15, false, []),
  (⟨"TesseraHallModel", "manyNow", "(I)I"⟩, prog_7_method_41_code, 7, (some .int), 15, false, []),
  (⟨"TesseraHallModel", "hint", "(I)I"⟩, prog_7_method_44_code, 2, (some .int), 15, false, []),
  (⟨"TesseraHallModel", "hintNow", "(LTesseraHallModel$Board;)I"⟩, prog_7_method_43_code, 5, (some .int), 15, true, []),
  (⟨"TesseraHallModel", "toss", "(I)I"⟩, prog_7_method_46_code, 2, (some .int), 15, false, []),
  (⟨"TesseraHallModel", "tossNow", "(LTesseraHallModel$Board;[I)I"⟩, prog_7_method_45_code, 8, (some .int), 15, true, []),
  (⟨"TesseraHallModel", "would", "(IIZI)I"⟩, prog_7_method_47_code, 7, (some .int), 15, false, []),
  (⟨"TesseraHallModel", "needs", "(I)I"⟩, prog_7_method_50_code, 2, (some .int), 15, false, []),
  (⟨"TesseraHallModel", "needsNow", "(LTesseraHallModel$Board;[I)I"⟩, prog_7_method_49_code, 5, (some .int), 15, true, []),
  (⟨"TesseraHallModel", "isOne", "([III)Z"⟩, prog_7_method_48_code, 5, (some .boolean), 15, true, []),
  (⟨"TesseraHallModel", "alike", "(II)I"⟩, prog_7_method_53_code, 3, (some .int), 15, false, []),
  (⟨"TesseraHallModel", "alikeNow", "(II)I"⟩, prog_7_method_52_code, 5, (some .int), 15, false, []),
  (⟨"TesseraHallModel", "areAlike", "(LTesseraHallModel$Board;LTesseraHallModel$Board;)Z"⟩, prog_7_method_51_code, 3, (some .boolean), 15, true, []),
  (⟨"TesseraHallModel", "digest", "()J"⟩, prog_7_method_54_code, 8, (some .long), 15, false, []),
  (⟨"TesseraHallModel", "thrown", "()I"⟩, prog_7_method_2_code, 1, (some .int), 15, false, []),
  (⟨"TesseraHallLaw", "law", "([I)Z"⟩, code, 8, (some .boolean), 5, true, [])]
def zmds : List (List zMd) := [zmd_0, zmd_1, zmd_2, zmd_3, zmd_4, zmd_5, zmd_6, zmd_7]
def zmd (j : Nat) : Option zMd := match zmds[j / 30]? with | some l => l[j % 30]? | none => none
/-- the place of the law itself: behind all others -/
def zlw : Nat := 238
def zMok (j : Nat) (r : zMd) : Prop := plainFor r.1 = true ∧ r.1.cls ≠ "java/lang/invoke/MethodHandle" ∧ r.1.cls ≠ "java/lang/invoke/VarHandle" ∧ zon[r.2.2.2.2.1]? = some r.1.cls ∧ r.2.2.1 ≤ 45 ∧ Jvm.Cond.initialized r.1.cls ∈ zWS ∧ (if r.2.2.2.2.2.2.isEmpty then Jvm.Cond.code r.1 r.2.1 r.2.2.1 r.2.2.2.1 ∈ zWS else Jvm.Cond.codeWith r.1 r.2.1 r.2.2.1 r.2.2.2.1 r.2.2.2.2.2.2 ∈ zWS)
theorem zM0 : ∀ r, zmd_0[0]? = some r → zMok 0 r := fun r h => (Option.some.inj h) ▸ ⟨by decide +kernel, by decide +kernel, by decide +kernel, rfl, by decide, (zw (zin1 (List.mem_of_getElem? (i := 1) rfl)) rfl), (zw (zin1 (List.mem_of_getElem? (i := 37) rfl)) rfl)⟩
theorem zM1 : ∀ r, zmd_0[1]? = some r → zMok 1 r := fun r h => (Option.some.inj h) ▸ ⟨by decide +kernel, by decide +kernel, by decide +kernel, rfl, by decide, (zw (zin1 (List.mem_of_getElem? (i := 2) rfl)) rfl), (zw (zin1 (List.mem_of_getElem? (i := 47) rfl)) rfl)⟩
theorem zM2 : ∀ r, zmd_0[2]? = some r → zMok 2 r := fun r h => (Option.some.inj h) ▸ ⟨by decide +kernel, by decide +kernel, by decide +kernel, rfl, by decide, (zw (zin1 (List.mem_of_getElem? (i := 2) rfl)) rfl), (zw (zin1 (List.mem_of_getElem? (i := 52) rfl)) rfl)⟩
theorem zM3 : ∀ r, zmd_0[3]? = some r → zMok 3 r := fun r h => (Option.some.inj h) ▸ ⟨by decide +kernel, by decide +kernel, by decide +kernel, rfl, by decide, (zw (zin1 (List.mem_of_getElem? (i := 2) rfl)) rfl), (zw (zin1 (List.mem_of_getElem? (i := 56) rfl)) rfl)⟩
theorem zM4 : ∀ r, zmd_0[4]? = some r → zMok 4 r := fun r h => (Option.some.inj h) ▸ ⟨by decide +kernel, by decide +kernel, by decide +kernel, rfl, by decide, (zw (zin1 (List.mem_of_getElem? (i := 2) rfl)) rfl), (zw (zin1 (List.mem_of_getElem? (i := 60) rfl)) rfl)⟩
theorem zM5 : ∀ r, zmd_0[5]? = some r → zMok 5 r := fun r h => (Option.some.inj h) ▸ ⟨by decide +kernel, by decide +kernel, by decide +kernel, rfl, by decide, (zw (zin1 (List.mem_of_getElem? (i := 2) rfl)) rfl), (zw (zin1 (List.mem_of_getElem? (i := 64) rfl)) rfl)⟩
theorem zM6 : ∀ r, zmd_0[6]? = some r → zMok 6 r := fun r h => (Option.some.inj h) ▸ ⟨by decide +kernel, by decide +kernel, by decide +kernel, rfl, by decide, (zw (zin1 (List.mem_of_getElem? (i := 2) rfl)) rfl), (zw (zin1 (List.mem_of_getElem? (i := 68) rfl)) rfl)⟩
theorem zM7 : ∀ r, zmd_0[7]? = some r → zMok 7 r := fun r h => (Option.some.inj h) ▸ ⟨by decide +kernel, by decide +kernel, by decide +kernel, rfl, by decide, (zw (zin1 (List.mem_of_getElem? (i := 1) rfl)) rfl), (zw (zin1 (List.mem_of_getElem? (i := 71) rfl)) rfl)⟩
theorem zM8 : ∀ r, zmd_0[8]? = some r → zMok 8 r := fun r h => (Option.some.inj h) ▸ ⟨by decide +kernel, by decide +kernel, by decide +kernel, rfl, by decide, (zw (zin1 (List.mem_of_getElem? (i := 3) rfl)) rfl), (zw (zin1 (List.mem_of_getElem? (i := 100) rfl)) rfl)⟩
theorem zM9 : ∀ r, zmd_0[9]? = some r → zMok 9 r := fun r h => (Option.some.inj h) ▸ ⟨by decide +kernel, by decide +kernel, by decide +kernel, rfl, by decide, (zw (zin1 (List.mem_of_getElem? (i := 1) rfl)) rfl), (zw (zin1 (List.mem_of_getElem? (i := 158) rfl)) rfl)⟩
theorem zM10 : ∀ r, zmd_0[10]? = some r → zMok 10 r := fun r h => (Option.some.inj h) ▸ ⟨by decide +kernel, by decide +kernel, by decide +kernel, rfl, by decide, (zw (zin1 (List.mem_of_getElem? (i := 1) rfl)) rfl), (zw (zin1 (List.mem_of_getElem? (i := 162) rfl)) rfl)⟩
theorem zM11 : ∀ r, zmd_0[11]? = some r → zMok 11 r := fun r h => (Option.some.inj h) ▸ ⟨by decide +kernel, by decide +kernel, by decide +kernel, rfl, by decide, (zw (zin1 (List.mem_of_getElem? (i := 1) rfl)) rfl), (zw (zin1 (List.mem_of_getElem? (i := 168) rfl)) rfl)⟩
theorem zM12 : ∀ r, zmd_0[12]? = some r → zMok 12 r := fun r h => (Option.some.inj h) ▸ ⟨by decide +kernel, by decide +kernel, by decide +kernel, rfl, by decide, (zw (zin1 (List.mem_of_getElem? (i := 1) rfl)) rfl), (zw (zin1 (List.mem_of_getElem? (i := 171) rfl)) rfl)⟩
theorem zM13 : ∀ r, zmd_0[13]? = some r → zMok 13 r := fun r h => (Option.some.inj h) ▸ ⟨by decide +kernel, by decide +kernel, by decide +kernel, rfl, by decide, (zw (zin1 (List.mem_of_getElem? (i := 1) rfl)) rfl), (zw (zin2 (List.mem_of_getElem? (i := 3) rfl)) rfl)⟩
theorem zM14 : ∀ r, zmd_0[14]? = some r → zMok 14 r := fun r h => (Option.some.inj h) ▸ ⟨by decide +kernel, by decide +kernel, by decide +kernel, rfl, by decide, (zw (zin1 (List.mem_of_getElem? (i := 2) rfl)) rfl), (zw (zin2 (List.mem_of_getElem? (i := 23) rfl)) rfl)⟩
theorem zM15 : ∀ r, zmd_0[15]? = some r → zMok 15 r := fun r h => (Option.some.inj h) ▸ ⟨by decide +kernel, by decide +kernel, by decide +kernel, rfl, by decide, (zw (zin1 (List.mem_of_getElem? (i := 2) rfl)) rfl), (zw (zin2 (List.mem_of_getElem? (i := 27) rfl)) rfl)⟩
theorem zM16 : ∀ r, zmd_0[16]? = some r → zMok 16 r := fun r h => (Option.some.inj h) ▸ ⟨by decide +kernel, by decide +kernel, by decide +kernel, rfl, by decide, (zw (zin1 (List.mem_of_getElem? (i := 2) rfl)) rfl), (zw (zin2 (List.mem_of_getElem? (i := 31) rfl)) rfl)⟩
theorem zM17 : ∀ r, zmd_0[17]? = some r → zMok 17 r := fun r h => (Option.some.inj h) ▸ ⟨by decide +kernel, by decide +kernel, by decide +kernel, rfl, by decide, (zw (zin1 (List.mem_of_getElem? (i := 1) rfl)) rfl), (zw (zin2 (List.mem_of_getElem? (i := 35) rfl)) rfl)⟩
theorem zM18 : ∀ r, zmd_0[18]? = some r → zMok 18 r := fun r h => (Option.some.inj h) ▸ ⟨by decide +kernel, by decide +kernel, by decide +kernel, rfl, by decide, (zw (zin1 (List.mem_of_getElem? (i := 1) rfl)) rfl), (zw (zin2 (List.mem_of_getElem? (i := 39) rfl)) rfl)⟩
theorem zM19 : ∀ r, zmd_0[19]? = some r → zMok 19 r := fun r h => (Option.some.inj h) ▸ ⟨by decide +kernel, by decide +kernel, by decide +kernel, rfl, by decide, (zw (zin1 (List.mem_of_getElem? (i := 2) rfl)) rfl), (zw (zin2 (List.mem_of_getElem? (i := 43) rfl)) rfl)⟩
theorem zM20 : ∀ r, zmd_0[20]? = some r → zMok 20 r := fun r h => (Option.some.inj h) ▸ ⟨by decide +kernel, by decide +kernel, by decide +kernel, rfl, by decide, (zw (zin1 (List.mem_of_getElem? (i := 2) rfl)) rfl), (zw (zin2 (List.mem_of_getElem? (i := 47) rfl)) rfl)⟩
theorem zM21 : ∀ r, zmd_0[21]? = some r → zMok 21 r := fun r h => (Option.some.inj h) ▸ ⟨by decide +kernel, by decide +kernel, by decide +kernel, rfl, by decide, (zw (zin1 (List.mem_of_getElem? (i := 2) rfl)) rfl), (zw (zin2 (List.mem_of_getElem? (i := 53) rfl)) rfl)⟩
theorem zM22 : ∀ r, zmd_0[22]? = some r → zMok 22 r := fun r h => (Option.some.inj h) ▸ ⟨by decide +kernel, by decide +kernel, by decide +kernel, rfl, by decide, (zw (zin1 (List.mem_of_getElem? (i := 3) rfl)) rfl), (zw (zin2 (List.mem_of_getElem? (i := 57) rfl)) rfl)⟩
theorem zM23 : ∀ r, zmd_0[23]? = some r → zMok 23 r := fun r h => (Option.some.inj h) ▸ ⟨by decide +kernel, by decide +kernel, by decide +kernel, rfl, by decide, (zw (zin1 (List.mem_of_getElem? (i := 3) rfl)) rfl), (zw (zin2 (List.mem_of_getElem? (i := 61) rfl)) rfl)⟩
theorem zM24 : ∀ r, zmd_0[24]? = some r → zMok 24 r := fun r h => (Option.some.inj h) ▸ ⟨by decide +kernel, by decide +kernel, by decide +kernel, rfl, by decide, (zw (zin1 (List.mem_of_getElem? (i := 2) rfl)) rfl), (zw (zin2 (List.mem_of_getElem? (i := 67) rfl)) rfl)⟩
theorem zM25 : ∀ r, zmd_0[25]? = some r → zMok 25 r := fun r h => (Option.some.inj h) ▸ ⟨by decide +kernel, by decide +kernel, by decide +kernel, rfl, by decide, (zw (zin1 (List.mem_of_getElem? (i := 2) rfl)) rfl), (zw (zin2 (List.mem_of_getElem? (i := 74) rfl)) rfl)⟩
theorem zM26 : ∀ r, zmd_0[26]? = some r → zMok 26 r := fun r h => (Option.some.inj h) ▸ ⟨by decide +kernel, by decide +kernel, by decide +kernel, rfl, by decide, (zw (zin1 (List.mem_of_getElem? (i := 2) rfl)) rfl), (zw (zin2 (List.mem_of_getElem? (i := 78) rfl)) rfl)⟩
theorem zM27 : ∀ r, zmd_0[27]? = some r → zMok 27 r := fun r h => (Option.some.inj h) ▸ ⟨by decide +kernel, by decide +kernel, by decide +kernel, rfl, by decide, (zw (zin1 (List.mem_of_getElem? (i := 2) rfl)) rfl), (zw (zin2 (List.mem_of_getElem? (i := 82) rfl)) rfl)⟩
theorem zM28 : ∀ r, zmd_0[28]? = some r → zMok 28 r := fun r h => (Option.some.inj h) ▸ ⟨by decide +kernel, by decide +kernel, by decide +kernel, rfl, by decide, (zw (zin1 (List.mem_of_getElem? (i := 1) rfl)) rfl), (zw (zin2 (List.mem_of_getElem? (i := 85) rfl)) rfl)⟩
theorem zM29 : ∀ r, zmd_0[29]? = some r → zMok 29 r := fun r h => (Option.some.inj h) ▸ ⟨by decide +kernel, by decide +kernel, by decide +kernel, rfl, by decide, (zw (zin1 (List.mem_of_getElem? (i := 22) rfl)) rfl), (zw (zin2 (List.mem_of_getElem? (i := 88) rfl)) rfl)⟩
theorem zM30 : ∀ r, zmd_1[0]? = some r → zMok 30 r := fun r h => (Option.some.inj h) ▸ ⟨by decide +kernel, by decide +kernel, by decide +kernel, rfl, by decide, (zw (zin1 (List.mem_of_getElem? (i := 3) rfl)) rfl), (zw (zin2 (List.mem_of_getElem? (i := 95) rfl)) rfl)⟩
theorem zM31 : ∀ r, zmd_1[1]? = some r → zMok 31 r := fun r h => (Option.some.inj h) ▸ ⟨by decide +kernel, by decide +kernel, by decide +kernel, rfl, by decide, (zw (zin1 (List.mem_of_getElem? (i := 3) rfl)) rfl), (zw (zin2 (List.mem_of_getElem? (i := 99) rfl)) rfl)⟩
theorem zM32 : ∀ r, zmd_1[2]? = some r → zMok 32 r := fun r h => (Option.some.inj h) ▸ ⟨by decide +kernel, by decide +kernel, by decide +kernel, rfl, by decide, (zw (zin1 (List.mem_of_getElem? (i := 3) rfl)) rfl), (zw (zin2 (List.mem_of_getElem? (i := 103) rfl)) rfl)⟩
theorem zM33 : ∀ r, zmd_1[3]? = some r → zMok 33 r := fun r h => (Option.some.inj h) ▸ ⟨by decide +kernel, by decide +kernel, by decide +kernel, rfl, by decide, (zw (zin1 (List.mem_of_getElem? (i := 3) rfl)) rfl), (zw (zin2 (List.mem_of_getElem? (i := 107) rfl)) rfl)⟩
theorem zM34 : ∀ r, zmd_1[4]? = some r → zMok 34 r := fun r h => (Option.some.inj h) ▸ ⟨by decide +kernel, by decide +kernel, by decide +kernel, rfl, by decide, (zw (zin1 (List.mem_of_getElem? (i := 3) rfl)) rfl), (zw (zin2 (List.mem_of_getElem? (i := 112) rfl)) rfl)⟩
theorem zM35 : ∀ r, zmd_1[5]? = some r → zMok 35 r := fun r h => (Option.some.inj h) ▸ ⟨by decide +kernel, by decide +kernel, by decide +kernel, rfl, by decide, (zw (zin1 (List.mem_of_getElem? (i := 2) rfl)) rfl), (zw (zin2 (List.mem_of_getElem? (i := 116) rfl)) rfl)⟩
theorem zM36 : ∀ r, zmd_1[6]? = some r → zMok 36 r := fun r h => (Option.some.inj h) ▸ ⟨by decide +kernel, by decide +kernel, by decide +kernel, rfl, by decide, (zw (zin1 (List.mem_of_getElem? (i := 2) rfl)) rfl), (zw (zin2 (List.mem_of_getElem? (i := 120) rfl)) rfl)⟩
theorem zM37 : ∀ r, zmd_1[7]? = some r → zMok 37 r := fun r h => (Option.some.inj h) ▸ ⟨by decide +kernel, by decide +kernel, by decide +kernel, rfl, by decide, (zw (zin1 (List.mem_of_getElem? (i := 3) rfl)) rfl), (zw (zin2 (List.mem_of_getElem? (i := 124) rfl)) rfl)⟩
theorem zM38 : ∀ r, zmd_1[8]? = some r → zMok 38 r := fun r h => (Option.some.inj h) ▸ ⟨by decide +kernel, by decide +kernel, by decide +kernel, rfl, by decide, (zw (zin1 (List.mem_of_getElem? (i := 2) rfl)) rfl), (zw (zin2 (List.mem_of_getElem? (i := 128) rfl)) rfl)⟩
theorem zM39 : ∀ r, zmd_1[9]? = some r → zMok 39 r := fun r h => (Option.some.inj h) ▸ ⟨by decide +kernel, by decide +kernel, by decide +kernel, rfl, by decide, (zw (zin1 (List.mem_of_getElem? (i := 1) rfl)) rfl), (zw (zin2 (List.mem_of_getElem? (i := 133) rfl)) rfl)⟩
theorem zM40 : ∀ r, zmd_1[10]? = some r → zMok 40 r := fun r h => (Option.some.inj h) ▸ ⟨by decide +kernel, by decide +kernel, by decide +kernel, rfl, by decide, (zw (zin1 (List.mem_of_getElem? (i := 1) rfl)) rfl), (zw (zin2 (List.mem_of_getElem? (i := 136) rfl)) rfl)⟩
theorem zM41 : ∀ r, zmd_1[11]? = some r → zMok 41 r := fun r h => (Option.some.inj h) ▸ ⟨by decide +kernel, by decide +kernel, by decide +kernel, rfl, by decide, (zw (zin1 (List.mem_of_getElem? (i := 2) rfl)) rfl), (zw (zin2 (List.mem_of_getElem? (i := 141) rfl)) rfl)⟩
theorem zM42 : ∀ r, zmd_1[12]? = some r → zMok 42 r := fun r h => (Option.some.inj h) ▸ ⟨by decide +kernel, by decide +kernel, by decide +kernel, rfl, by decide, (zw (zin1 (List.mem_of_getElem? (i := 1) rfl)) rfl), (zw (zin2 (List.mem_of_getElem? (i := 146) rfl)) rfl)⟩
theorem zM43 : ∀ r, zmd_1[13]? = some r → zMok 43 r := fun r h => (Option.some.inj h) ▸ ⟨by decide +kernel, by decide +kernel, by decide +kernel, rfl, by decide, (zw (zin1 (List.mem_of_getElem? (i := 1) rfl)) rfl), (zw (zin2 (List.mem_of_getElem? (i := 149) rfl)) rfl)⟩
theorem zM44 : ∀ r, zmd_1[14]? = some r → zMok 44 r := fun r h => (Option.some.inj h) ▸ ⟨by decide +kernel, by decide +kernel, by decide +kernel, rfl, by decide, (zw (zin1 (List.mem_of_getElem? (i := 1) rfl)) rfl), (zw (zin2 (List.mem_of_getElem? (i := 154) rfl)) rfl)⟩
theorem zM45 : ∀ r, zmd_1[15]? = some r → zMok 45 r := fun r h => (Option.some.inj h) ▸ ⟨by decide +kernel, by decide +kernel, by decide +kernel, rfl, by decide, (zw (zin1 (List.mem_of_getElem? (i := 2) rfl)) rfl), (zw (zin2 (List.mem_of_getElem? (i := 160) rfl)) rfl)⟩
theorem zM46 : ∀ r, zmd_1[16]? = some r → zMok 46 r := fun r h => (Option.some.inj h) ▸ ⟨by decide +kernel, by decide +kernel, by decide +kernel, rfl, by decide, (zw (zin1 (List.mem_of_getElem? (i := 1) rfl)) rfl), (zw (zin2 (List.mem_of_getElem? (i := 165) rfl)) rfl)⟩
theorem zM47 : ∀ r, zmd_1[17]? = some r → zMok 47 r := fun r h => (Option.some.inj h) ▸ ⟨by decide +kernel, by decide +kernel, by decide +kernel, rfl, by decide, (zw (zin1 (List.mem_of_getElem? (i := 1) rfl)) rfl), (zw (zin2 (List.mem_of_getElem? (i := 171) rfl)) rfl)⟩
theorem zM48 : ∀ r, zmd_1[18]? = some r → zMok 48 r := fun r h => (Option.some.inj h) ▸ ⟨by decide +kernel, by decide +kernel, by decide +kernel, rfl, by decide, (zw (zin1 (List.mem_of_getElem? (i := 3) rfl)) rfl), (zw (zin2 (List.mem_of_getElem? (i := 176) rfl)) rfl)⟩
theorem zM49 : ∀ r, zmd_1[19]? = some r → zMok 49 r := fun r h => (Option.some.inj h) ▸ ⟨by decide +kernel, by decide +kernel, by decide +kernel, rfl, by decide, (zw (zin1 (List.mem_of_getElem? (i := 1) rfl)) rfl), (zw (zin2 (List.mem_of_getElem? (i := 181) rfl)) rfl)⟩
theorem zM50 : ∀ r, zmd_1[20]? = some r → zMok 50 r := fun r h => (Option.some.inj h) ▸ ⟨by decide +kernel, by decide +kernel, by decide +kernel, rfl, by decide, (zw (zin1 (List.mem_of_getElem? (i := 2) rfl)) rfl), (zw (zin2 (List.mem_of_getElem? (i := 185) rfl)) rfl)⟩
theorem zM51 : ∀ r, zmd_1[21]? = some r → zMok 51 r := fun r h => (Option.some.inj h) ▸ ⟨by decide +kernel, by decide +kernel, by decide +kernel, rfl, by decide, (zw (zin1 (List.mem_of_getElem? (i := 2) rfl)) rfl), (zw (zin2 (List.mem_of_getElem? (i := 189) rfl)) rfl)⟩
theorem zM52 : ∀ r, zmd_1[22]? = some r → zMok 52 r := fun r h => (Option.some.inj h) ▸ ⟨by decide +kernel, by decide +kernel, by decide +kernel, rfl, by decide, (zw (zin1 (List.mem_of_getElem? (i := 3) rfl)) rfl), (zw (zin2 (List.mem_of_getElem? (i := 193) rfl)) rfl)⟩
theorem zM53 : ∀ r, zmd_1[23]? = some r → zMok 53 r := fun r h => (Option.some.inj h) ▸ ⟨by decide +kernel, by decide +kernel, by decide +kernel, rfl, by decide, (zw (zin1 (List.mem_of_getElem? (i := 3) rfl)) rfl), (zw (zin2 (List.mem_of_getElem? (i := 199) rfl)) rfl)⟩
theorem zM54 : ∀ r, zmd_1[24]? = some r → zMok 54 r := fun r h => (Option.some.inj h) ▸ ⟨by decide +kernel, by decide +kernel, by decide +kernel, rfl, by decide, (zw (zin1 (List.mem_of_getElem? (i := 3) rfl)) rfl), (zw (zin2 (List.mem_of_getElem? (i := 203) rfl)) rfl)⟩
theorem zM55 : ∀ r, zmd_1[25]? = some r → zMok 55 r := fun r h => (Option.some.inj h) ▸ ⟨by decide +kernel, by decide +kernel, by decide +kernel, rfl, by decide, (zw (zin1 (List.mem_of_getElem? (i := 1) rfl)) rfl), (zw (zin2 (List.mem_of_getElem? (i := 207) rfl)) rfl)⟩
theorem zM56 : ∀ r, zmd_1[26]? = some r → zMok 56 r := fun r h => (Option.some.inj h) ▸ ⟨by decide +kernel, by decide +kernel, by decide +kernel, rfl, by decide, (zw (zin1 (List.mem_of_getElem? (i := 1) rfl)) rfl), (zw (zin2 (List.mem_of_getElem? (i := 211) rfl)) rfl)⟩
theorem zM57 : ∀ r, zmd_1[27]? = some r → zMok 57 r := fun r h => (Option.some.inj h) ▸ ⟨by decide +kernel, by decide +kernel, by decide +kernel, rfl, by decide, (zw (zin1 (List.mem_of_getElem? (i := 3) rfl)) rfl), (zw (zin2 (List.mem_of_getElem? (i := 216) rfl)) rfl)⟩
theorem zM58 : ∀ r, zmd_1[28]? = some r → zMok 58 r := fun r h => (Option.some.inj h) ▸ ⟨by decide +kernel, by decide +kernel, by decide +kernel, rfl, by decide, (zw (zin1 (List.mem_of_getElem? (i := 1) rfl)) rfl), (zw (zin2 (List.mem_of_getElem? (i := 221) rfl)) rfl)⟩
theorem zM59 : ∀ r, zmd_1[29]? = some r → zMok 59 r := fun r h => (Option.some.inj h) ▸ ⟨by decide +kernel, by decide +kernel, by decide +kernel, rfl, by decide, (zw (zin1 (List.mem_of_getElem? (i := 3) rfl)) rfl), (zw (zin2 (List.mem_of_getElem? (i := 225) rfl)) rfl)⟩
theorem zM60 : ∀ r, zmd_2[0]? = some r → zMok 60 r := fun r h => (Option.some.inj h) ▸ ⟨by decide +kernel, by decide +kernel, by decide +kernel, rfl, by decide, (zw (zin1 (List.mem_of_getElem? (i := 3) rfl)) rfl), (zw (zin2 (List.mem_of_getElem? (i := 229) rfl)) rfl)⟩
theorem zM61 : ∀ r, zmd_2[1]? = some r → zMok 61 r := fun r h => (Option.some.inj h) ▸ ⟨by decide +kernel, by decide +kernel, by decide +kernel, rfl, by decide, (zw (zin1 (List.mem_of_getElem? (i := 1) rfl)) rfl), (zw (zin2 (List.mem_of_getElem? (i := 233) rfl)) rfl)⟩
theorem zM62 : ∀ r, zmd_2[2]? = some r → zMok 62 r := fun r h => (Option.some.inj h) ▸ ⟨by decide +kernel, by decide +kernel, by decide +kernel, rfl, by decide, (zw (zin1 (List.mem_of_getElem? (i := 2) rfl)) rfl), (zw (zin2 (List.mem_of_getElem? (i := 237) rfl)) rfl)⟩
theorem zM63 : ∀ r, zmd_2[3]? = some r → zMok 63 r := fun r h => (Option.some.inj h) ▸ ⟨by decide +kernel, by decide +kernel, by decide +kernel, rfl, by decide, (zw (zin1 (List.mem_of_getElem? (i := 2) rfl)) rfl), (zw (zin3 (List.mem_of_getElem? (i := 1) rfl)) rfl)⟩
theorem zM64 : ∀ r, zmd_2[4]? = some r → zMok 64 r := fun r h => (Option.some.inj h) ▸ ⟨by decide +kernel, by decide +kernel, by decide +kernel, rfl, by decide, (zw (zin1 (List.mem_of_getElem? (i := 2) rfl)) rfl), (zw (zin3 (List.mem_of_getElem? (i := 5) rfl)) rfl)⟩
theorem zM65 : ∀ r, zmd_2[5]? = some r → zMok 65 r := fun r h => (Option.some.inj h) ▸ ⟨by decide +kernel, by decide +kernel, by decide +kernel, rfl, by decide, (zw (zin1 (List.mem_of_getElem? (i := 1) rfl)) rfl), (zw (zin3 (List.mem_of_getElem? (i := 8) rfl)) rfl)⟩
theorem zM66 : ∀ r, zmd_2[6]? = some r → zMok 66 r := fun r h => (Option.some.inj h) ▸ ⟨by decide +kernel, by decide +kernel, by decide +kernel, rfl, by decide, (zw (zin1 (List.mem_of_getElem? (i := 8) rfl)) rfl), (zw (zin3 (List.mem_of_getElem? (i := 13) rfl)) rfl)⟩
theorem zM67 : ∀ r, zmd_2[7]? = some r → zMok 67 r := fun r h => (Option.some.inj h) ▸ ⟨by decide +kernel, by decide +kernel, by decide +kernel, rfl, by decide, (zw (zin1 (List.mem_of_getElem? (i := 0) rfl)) rfl), (zw (zin3 (List.mem_of_getElem? (i := 27) rfl)) rfl)⟩
theorem zM68 : ∀ r, zmd_2[8]? = some r → zMok 68 r := fun r h => (Option.some.inj h) ▸ ⟨by decide +kernel, by decide +kernel, by decide +kernel, rfl, by decide, (zw (zin1 (List.mem_of_getElem? (i := 1) rfl)) rfl), (zw (zin3 (List.mem_of_getElem? (i := 33) rfl)) rfl)⟩
theorem zM69 : ∀ r, zmd_2[9]? = some r → zMok 69 r := fun r h => (Option.some.inj h) ▸ ⟨by decide +kernel, by decide +kernel, by decide +kernel, rfl, by decide, (zw (zin1 (List.mem_of_getElem? (i := 14) rfl)) rfl), (zw (zin3 (List.mem_of_getElem? (i := 54) rfl)) rfl)⟩
theorem zM70 : ∀ r, zmd_2[10]? = some r → zMok 70 r := fun r h => (Option.some.inj h) ▸ ⟨by decide +kernel, by decide +kernel, by decide +kernel, rfl, by decide, (zw (zin1 (List.mem_of_getElem? (i := 0) rfl)) rfl), (zw (zin3 (List.mem_of_getElem? (i := 87) rfl)) rfl)⟩
theorem zM71 : ∀ r, zmd_2[11]? = some r → zMok 71 r := fun r h => (Option.some.inj h) ▸ ⟨by decide +kernel, by decide +kernel, by decide +kernel, rfl, by decide, (zw (zin1 (List.mem_of_getElem? (i := 1) rfl)) rfl), (zw (zin3 (List.mem_of_getElem? (i := 92) rfl)) rfl)⟩
theorem zM72 : ∀ r, zmd_2[12]? = some r → zMok 72 r := fun r h => (Option.some.inj h) ▸ ⟨by decide +kernel, by decide +kernel, by decide +kernel, rfl, by decide, (zw (zin1 (List.mem_of_getElem? (i := 1) rfl)) rfl), (zw (zin3 (List.mem_of_getElem? (i := 95) rfl)) rfl)⟩
theorem zM73 : ∀ r, zmd_2[13]? = some r → zMok 73 r := fun r h => (Option.some.inj h) ▸ ⟨by decide +kernel, by decide +kernel, by decide +kernel, rfl, by decide, (zw (zin1 (List.mem_of_getElem? (i := 0) rfl)) rfl), (zw (zin3 (List.mem_of_getElem? (i := 100) rfl)) rfl)⟩
theorem zM74 : ∀ r, zmd_2[14]? = some r → zMok 74 r := fun r h => (Option.some.inj h) ▸ ⟨by decide +kernel, by decide +kernel, by decide +kernel, rfl, by decide, (zw (zin1 (List.mem_of_getElem? (i := 1) rfl)) rfl), (zw (zin3 (List.mem_of_getElem? (i := 104) rfl)) rfl)⟩
theorem zM75 : ∀ r, zmd_2[15]? = some r → zMok 75 r := fun r h => (Option.some.inj h) ▸ ⟨by decide +kernel, by decide +kernel, by decide +kernel, rfl, by decide, (zw (zin1 (List.mem_of_getElem? (i := 0) rfl)) rfl), (zw (zin3 (List.mem_of_getElem? (i := 107) rfl)) rfl)⟩
theorem zM76 : ∀ r, zmd_2[16]? = some r → zMok 76 r := fun r h => (Option.some.inj h) ▸ ⟨by decide +kernel, by decide +kernel, by decide +kernel, rfl, by decide, (zw (zin1 (List.mem_of_getElem? (i := 1) rfl)) rfl), (zw (zin3 (List.mem_of_getElem? (i := 111) rfl)) rfl)⟩
theorem zM77 : ∀ r, zmd_2[17]? = some r → zMok 77 r := fun r h => (Option.some.inj h) ▸ ⟨by decide +kernel, by decide +kernel, by decide +kernel, rfl, by decide, (zw (zin1 (List.mem_of_getElem? (i := 1) rfl)) rfl), (zw (zin3 (List.mem_of_getElem? (i := 114) rfl)) rfl)⟩
theorem zM78 : ∀ r, zmd_2[18]? = some r → zMok 78 r := fun r h => (Option.some.inj h) ▸ ⟨by decide +kernel, by decide +kernel, by decide +kernel, rfl, by decide, (zw (zin1 (List.mem_of_getElem? (i := 1) rfl)) rfl), (zw (zin3 (List.mem_of_getElem? (i := 119) rfl)) rfl)⟩
theorem zM79 : ∀ r, zmd_2[19]? = some r → zMok 79 r := fun r h => (Option.some.inj h) ▸ ⟨by decide +kernel, by decide +kernel, by decide +kernel, rfl, by decide, (zw (zin1 (List.mem_of_getElem? (i := 1) rfl)) rfl), (zw (zin3 (List.mem_of_getElem? (i := 123) rfl)) rfl)⟩
theorem zM80 : ∀ r, zmd_2[20]? = some r → zMok 80 r := fun r h => (Option.some.inj h) ▸ ⟨by decide +kernel, by decide +kernel, by decide +kernel, rfl, by decide, (zw (zin1 (List.mem_of_getElem? (i := 0) rfl)) rfl), (zw (zin3 (List.mem_of_getElem? (i := 127) rfl)) rfl)⟩
theorem zM81 : ∀ r, zmd_2[21]? = some r → zMok 81 r := fun r h => (Option.some.inj h) ▸ ⟨by decide +kernel, by decide +kernel, by decide +kernel, rfl, by decide, (zw (zin1 (List.mem_of_getElem? (i := 1) rfl)) rfl), (zw (zin3 (List.mem_of_getElem? (i := 131) rfl)) rfl)⟩
theorem zM82 : ∀ r, zmd_2[22]? = some r → zMok 82 r := fun r h => (Option.some.inj h) ▸ ⟨by decide +kernel, by decide +kernel, by decide +kernel, rfl, by decide, (zw (zin1 (List.mem_of_getElem? (i := 0) rfl)) rfl), (zw (zin3 (List.mem_of_getElem? (i := 135) rfl)) rfl)⟩
theorem zM83 : ∀ r, zmd_2[23]? = some r → zMok 83 r := fun r h => (Option.some.inj h) ▸ ⟨by decide +kernel, by decide +kernel, by decide +kernel, rfl, by decide, (zw (zin1 (List.mem_of_getElem? (i := 1) rfl)) rfl), (zw (zin3 (List.mem_of_getElem? (i := 139) rfl)) rfl)⟩
theorem zM84 : ∀ r, zmd_2[24]? = some r → zMok 84 r := fun r h => (Option.some.inj h) ▸ ⟨by decide +kernel, by decide +kernel, by decide +kernel, rfl, by decide, (zw (zin1 (List.mem_of_getElem? (i := 14) rfl)) rfl), (zw (zin3 (List.mem_of_getElem? (i := 144) rfl)) rfl)⟩
theorem zM85 : ∀ r, zmd_2[25]? = some r → zMok 85 r := fun r h => (Option.some.inj h) ▸ ⟨by decide +kernel, by decide +kernel, by decide +kernel, rfl, by decide, (zw (zin1 (List.mem_of_getElem? (i := 0) rfl)) rfl), (zw (zin3 (List.mem_of_getElem? (i := 148) rfl)) rfl)⟩
theorem zM86 : ∀ r, zmd_2[26]? = some r → zMok 86 r := fun r h => (Option.some.inj h) ▸ ⟨by decide +kernel, by decide +kernel, by decide +kernel, rfl, by decide, (zw (zin1 (List.mem_of_getElem? (i := 1) rfl)) rfl), (zw (zin3 (List.mem_of_getElem? (i := 152) rfl)) rfl)⟩
theorem zM87 : ∀ r, zmd_2[27]? = some r → zMok 87 r := fun r h => (Option.some.inj h) ▸ ⟨by decide +kernel, by decide +kernel, by decide +kernel, rfl, by decide, (zw (zin1 (List.mem_of_getElem? (i := 14) rfl)) rfl), (zw (zin3 (List.mem_of_getElem? (i := 157) rfl)) rfl)⟩
theorem zM88 : ∀ r, zmd_2[28]? = some r → zMok 88 r := fun r h => (Option.some.inj h) ▸ ⟨by decide +kernel, by decide +kernel, by decide +kernel, rfl, by decide, (zw (zin1 (List.mem_of_getElem? (i := 14) rfl)) rfl), (zw (zin3 (List.mem_of_getElem? (i := 161) rfl)) rfl)⟩
theorem zM89 : ∀ r, zmd_2[29]? = some r → zMok 89 r := fun r h => (Option.some.inj h) ▸ ⟨by decide +kernel, by decide +kernel, by decide +kernel, rfl, by decide, (zw (zin1 (List.mem_of_getElem? (i := 0) rfl)) rfl), (zw (zin3 (List.mem_of_getElem? (i := 164) rfl)) rfl)⟩
theorem zM90 : ∀ r, zmd_3[0]? = some r → zMok 90 r := fun r h => (Option.some.inj h) ▸ ⟨by decide +kernel, by decide +kernel, by decide +kernel, rfl, by decide, (zw (zin1 (List.mem_of_getElem? (i := 1) rfl)) rfl), (zw (zin3 (List.mem_of_getElem? (i := 168) rfl)) rfl)⟩
theorem zM91 : ∀ r, zmd_3[1]? = some r → zMok 91 r := fun r h => (Option.some.inj h) ▸ ⟨by decide +kernel, by decide +kernel, by decide +kernel, rfl, by decide, (zw (zin1 (List.mem_of_getElem? (i := 1) rfl)) rfl), (zw (zin3 (List.mem_of_getElem? (i := 172) rfl)) rfl)⟩
theorem zM92 : ∀ r, zmd_3[2]? = some r → zMok 92 r := fun r h => (Option.some.inj h) ▸ ⟨by decide +kernel, by decide +kernel, by decide +kernel, rfl, by decide, (zw (zin1 (List.mem_of_getElem? (i := 2) rfl)) rfl), (zw (zin3 (List.mem_of_getElem? (i := 177) rfl)) rfl)⟩
theorem zM93 : ∀ r, zmd_3[3]? = some r → zMok 93 r := fun r h => (Option.some.inj h) ▸ ⟨by decide +kernel, by decide +kernel, by decide +kernel, rfl, by decide, (zw (zin1 (List.mem_of_getElem? (i := 2) rfl)) rfl), (zw (zin3 (List.mem_of_getElem? (i := 181) rfl)) rfl)⟩
theorem zM94 : ∀ r, zmd_3[4]? = some r → zMok 94 r := fun r h => (Option.some.inj h) ▸ ⟨by decide +kernel, by decide +kernel, by decide +kernel, rfl, by decide, (zw (zin1 (List.mem_of_getElem? (i := 0) rfl)) rfl), (zw (zin3 (List.mem_of_getElem? (i := 185) rfl)) rfl)⟩
theorem zM95 : ∀ r, zmd_3[5]? = some r → zMok 95 r := fun r h => (Option.some.inj h) ▸ ⟨by decide +kernel, by decide +kernel, by decide +kernel, rfl, by decide, (zw (zin1 (List.mem_of_getElem? (i := 1) rfl)) rfl), (zw (zin3 (List.mem_of_getElem? (i := 189) rfl)) rfl)⟩
theorem zM96 : ∀ r, zmd_3[6]? = some r → zMok 96 r := fun r h => (Option.some.inj h) ▸ ⟨by decide +kernel, by decide +kernel, by decide +kernel, rfl, by decide, (zw (zin1 (List.mem_of_getElem? (i := 2) rfl)) rfl), (zw (zin3 (List.mem_of_getElem? (i := 195) rfl)) rfl)⟩
theorem zM97 : ∀ r, zmd_3[7]? = some r → zMok 97 r := fun r h => (Option.some.inj h) ▸ ⟨by decide +kernel, by decide +kernel, by decide +kernel, rfl, by decide, (zw (zin1 (List.mem_of_getElem? (i := 0) rfl)) rfl), (zw (zin3 (List.mem_of_getElem? (i := 198) rfl)) rfl)⟩
theorem zM98 : ∀ r, zmd_3[8]? = some r → zMok 98 r := fun r h => (Option.some.inj h) ▸ ⟨by decide +kernel, by decide +kernel, by decide +kernel, rfl, by decide, (zw (zin1 (List.mem_of_getElem? (i := 1) rfl)) rfl), (zw (zin3 (List.mem_of_getElem? (i := 202) rfl)) rfl)⟩
theorem zM99 : ∀ r, zmd_3[9]? = some r → zMok 99 r := fun r h => (Option.some.inj h) ▸ ⟨by decide +kernel, by decide +kernel, by decide +kernel, rfl, by decide, (zw (zin1 (List.mem_of_getElem? (i := 2) rfl)) rfl), (zw (zin3 (List.mem_of_getElem? (i := 207) rfl)) rfl)⟩
theorem zM100 : ∀ r, zmd_3[10]? = some r → zMok 100 r := fun r h => (Option.some.inj h) ▸ ⟨by decide +kernel, by decide +kernel, by decide +kernel, rfl, by decide, (zw (zin1 (List.mem_of_getElem? (i := 2) rfl)) rfl), (zw (zin3 (List.mem_of_getElem? (i := 211) rfl)) rfl)⟩
theorem zM101 : ∀ r, zmd_3[11]? = some r → zMok 101 r := fun r h => (Option.some.inj h) ▸ ⟨by decide +kernel, by decide +kernel, by decide +kernel, rfl, by decide, (zw (zin1 (List.mem_of_getElem? (i := 1) rfl)) rfl), (zw (zin3 (List.mem_of_getElem? (i := 214) rfl)) rfl)⟩
theorem zM102 : ∀ r, zmd_3[12]? = some r → zMok 102 r := fun r h => (Option.some.inj h) ▸ ⟨by decide +kernel, by decide +kernel, by decide +kernel, rfl, by decide, (zw (zin1 (List.mem_of_getElem? (i := 0) rfl)) rfl), (zw (zin3 (List.mem_of_getElem? (i := 219) rfl)) rfl)⟩
theorem zM103 : ∀ r, zmd_3[13]? = some r → zMok 103 r := fun r h => (Option.some.inj h) ▸ ⟨by decide +kernel, by decide +kernel, by decide +kernel, rfl, by decide, (zw (zin1 (List.mem_of_getElem? (i := 1) rfl)) rfl), (zw (zin3 (List.mem_of_getElem? (i := 223) rfl)) rfl)⟩
theorem zM104 : ∀ r, zmd_3[14]? = some r → zMok 104 r := fun r h => (Option.some.inj h) ▸ ⟨by decide +kernel, by decide +kernel, by decide +kernel, rfl, by decide, (zw (zin1 (List.mem_of_getElem? (i := 0) rfl)) rfl), (zw (zin3 (List.mem_of_getElem? (i := 226) rfl)) rfl)⟩
theorem zM105 : ∀ r, zmd_3[15]? = some r → zMok 105 r := fun r h => (Option.some.inj h) ▸ ⟨by decide +kernel, by decide +kernel, by decide +kernel, rfl, by decide, (zw (zin1 (List.mem_of_getElem? (i := 0) rfl)) rfl), (zw (zin3 (List.mem_of_getElem? (i := 230) rfl)) rfl)⟩
theorem zM106 : ∀ r, zmd_3[16]? = some r → zMok 106 r := fun r h => (Option.some.inj h) ▸ ⟨by decide +kernel, by decide +kernel, by decide +kernel, rfl, by decide, (zw (zin1 (List.mem_of_getElem? (i := 0) rfl)) rfl), (zw (zin3 (List.mem_of_getElem? (i := 234) rfl)) rfl)⟩
theorem zM107 : ∀ r, zmd_3[17]? = some r → zMok 107 r := fun r h => (Option.some.inj h) ▸ ⟨by decide +kernel, by decide +kernel, by decide +kernel, rfl, by decide, (zw (zin1 (List.mem_of_getElem? (i := 0) rfl)) rfl), (zw (zin3 (List.mem_of_getElem? (i := 238) rfl)) rfl)⟩
theorem zM108 : ∀ r, zmd_3[18]? = some r → zMok 108 r := fun r h => (Option.some.inj h) ▸ ⟨by decide +kernel, by decide +kernel, by decide +kernel, rfl, by decide, (zw (zin1 (List.mem_of_getElem? (i := 0) rfl)) rfl), (zw (zin4 (List.mem_of_getElem? (i := 2) rfl)) rfl)⟩
theorem zM109 : ∀ r, zmd_3[19]? = some r → zMok 109 r := fun r h => (Option.some.inj h) ▸ ⟨by decide +kernel, by decide +kernel, by decide +kernel, rfl, by decide, (zw (zin1 (List.mem_of_getElem? (i := 1) rfl)) rfl), (zw (zin4 (List.mem_of_getElem? (i := 6) rfl)) rfl)⟩
theorem zM110 : ∀ r, zmd_3[20]? = some r → zMok 110 r := fun r h => (Option.some.inj h) ▸ ⟨by decide +kernel, by decide +kernel, by decide +kernel, rfl, by decide, (zw (zin1 (List.mem_of_getElem? (i := 27) rfl)) rfl), (zw (zin4 (List.mem_of_getElem? (i := 11) rfl)) rfl)⟩
theorem zM111 : ∀ r, zmd_3[21]? = some r → zMok 111 r := fun r h => (Option.some.inj h) ▸ ⟨by decide +kernel, by decide +kernel, by decide +kernel, rfl, by decide, (zw (zin1 (List.mem_of_getElem? (i := 26) rfl)) rfl), (zw (zin4 (List.mem_of_getElem? (i := 14) rfl)) rfl)⟩
theorem zM112 : ∀ r, zmd_3[22]? = some r → zMok 112 r := fun r h => (Option.some.inj h) ▸ ⟨by decide +kernel, by decide +kernel, by decide +kernel, rfl, by decide, (zw (zin1 (List.mem_of_getElem? (i := 27) rfl)) rfl), (zw (zin4 (List.mem_of_getElem? (i := 41) rfl)) rfl)⟩
theorem zM113 : ∀ r, zmd_3[23]? = some r → zMok 113 r := fun r h => (Option.some.inj h) ▸ ⟨by decide +kernel, by decide +kernel, by decide +kernel, rfl, by decide, (zw (zin1 (List.mem_of_getElem? (i := 26) rfl)) rfl), (zw (zin4 (List.mem_of_getElem? (i := 44) rfl)) rfl)⟩
theorem zM114 : ∀ r, zmd_3[24]? = some r → zMok 114 r := fun r h => (Option.some.inj h) ▸ ⟨by decide +kernel, by decide +kernel, by decide +kernel, rfl, by decide, (zw (zin1 (List.mem_of_getElem? (i := 26) rfl)) rfl), (zw (zin4 (List.mem_of_getElem? (i := 48) rfl)) rfl)⟩
theorem zM115 : ∀ r, zmd_3[25]? = some r → zMok 115 r := fun r h => (Option.some.inj h) ▸ ⟨by decide +kernel, by decide +kernel, by decide +kernel, rfl, by decide, (zw (zin1 (List.mem_of_getElem? (i := 26) rfl)) rfl), (zw (zin4 (List.mem_of_getElem? (i := 52) rfl)) rfl)⟩
theorem zM116 : ∀ r, zmd_3[26]? = some r → zMok 116 r := fun r h => (Option.some.inj h) ▸ ⟨by decide +kernel, by decide +kernel, by decide +kernel, rfl, by decide, (zw (zin1 (List.mem_of_getElem? (i := 16) rfl)) rfl), (zw (zin4 (List.mem_of_getElem? (i := 55) rfl)) rfl)⟩
theorem zM117 : ∀ r, zmd_3[27]? = some r → zMok 117 r := fun r h => (Option.some.inj h) ▸ ⟨by decide +kernel, by decide +kernel, by decide +kernel, rfl, by decide, (zw (zin1 (List.mem_of_getElem? (i := 17) rfl)) rfl), (zw (zin4 (List.mem_of_getElem? (i := 58) rfl)) rfl)⟩
theorem zM118 : ∀ r, zmd_3[28]? = some r → zMok 118 r := fun r h => (Option.some.inj h) ▸ ⟨by decide +kernel, by decide +kernel, by decide +kernel, rfl, by decide, (zw (zin1 (List.mem_of_getElem? (i := 18) rfl)) rfl), (zw (zin4 (List.mem_of_getElem? (i := 66) rfl)) rfl)⟩
theorem zM119 : ∀ r, zmd_3[29]? = some r → zMok 119 r := fun r h => (Option.some.inj h) ▸ ⟨by decide +kernel, by decide +kernel, by decide +kernel, rfl, by decide, (zw (zin1 (List.mem_of_getElem? (i := 17) rfl)) rfl), (zw (zin4 (List.mem_of_getElem? (i := 76) rfl)) rfl)⟩
theorem zM120 : ∀ r, zmd_4[0]? = some r → zMok 120 r := fun r h => (Option.some.inj h) ▸ ⟨by decide +kernel, by decide +kernel, by decide +kernel, rfl, by decide, (zw (zin1 (List.mem_of_getElem? (i := 26) rfl)) rfl), (zw (zin4 (List.mem_of_getElem? (i := 82) rfl)) rfl)⟩
theorem zM121 : ∀ r, zmd_4[1]? = some r → zMok 121 r := fun r h => (Option.some.inj h) ▸ ⟨by decide +kernel, by decide +kernel, by decide +kernel, rfl, by decide, (zw (zin1 (List.mem_of_getElem? (i := 30) rfl)) rfl), (zw (zin4 (List.mem_of_getElem? (i := 85) rfl)) rfl)⟩
theorem zM122 : ∀ r, zmd_4[2]? = some r → zMok 122 r := fun r h => (Option.some.inj h) ▸ ⟨by decide +kernel, by decide +kernel, by decide +kernel, rfl, by decide, (zw (zin1 (List.mem_of_getElem? (i := 24) rfl)) rfl), (zw (zin4 (List.mem_of_getElem? (i := 130) rfl)) rfl)⟩
theorem zM123 : ∀ r, zmd_4[3]? = some r → zMok 123 r := fun r h => (Option.some.inj h) ▸ ⟨by decide +kernel, by decide +kernel, by decide +kernel, rfl, by decide, (zw (zin1 (List.mem_of_getElem? (i := 1) rfl)) rfl), (zw (zin4 (List.mem_of_getElem? (i := 134) rfl)) rfl)⟩
theorem zM124 : ∀ r, zmd_4[4]? = some r → zMok 124 r := fun r h => (Option.some.inj h) ▸ ⟨by decide +kernel, by decide +kernel, by decide +kernel, rfl, by decide, (zw (zin1 (List.mem_of_getElem? (i := 27) rfl)) rfl), (zw (zin4 (List.mem_of_getElem? (i := 138) rfl)) rfl)⟩
theorem zM125 : ∀ r, zmd_4[5]? = some r → zMok 125 r := fun r h => (Option.some.inj h) ▸ ⟨by decide +kernel, by decide +kernel, by decide +kernel, rfl, by decide, (zw (zin1 (List.mem_of_getElem? (i := 28) rfl)) rfl), (zw (zin4 (List.mem_of_getElem? (i := 143) rfl)) rfl)⟩
theorem zM126 : ∀ r, zmd_4[6]? = some r → zMok 126 r := fun r h => (Option.some.inj h) ▸ ⟨by decide +kernel, by decide +kernel, by decide +kernel, rfl, by decide, (zw (zin1 (List.mem_of_getElem? (i := 28) rfl)) rfl), (zw (zin4 (List.mem_of_getElem? (i := 146) rfl)) rfl)⟩
theorem zM127 : ∀ r, zmd_4[7]? = some r → zMok 127 r := fun r h => (Option.some.inj h) ▸ ⟨by decide +kernel, by decide +kernel, by decide +kernel, rfl, by decide, (zw (zin1 (List.mem_of_getElem? (i := 26) rfl)) rfl), (zw (zin4 (List.mem_of_getElem? (i := 152) rfl)) rfl)⟩
theorem zM128 : ∀ r, zmd_4[8]? = some r → zMok 128 r := fun r h => (Option.some.inj h) ▸ ⟨by decide +kernel, by decide +kernel, by decide +kernel, rfl, by decide, (zw (zin1 (List.mem_of_getElem? (i := 27) rfl)) rfl), (zw (zin4 (List.mem_of_getElem? (i := 158) rfl)) rfl)⟩
theorem zM129 : ∀ r, zmd_4[9]? = some r → zMok 129 r := fun r h => (Option.some.inj h) ▸ ⟨by decide +kernel, by decide +kernel, by decide +kernel, rfl, by decide, (zw (zin1 (List.mem_of_getElem? (i := 26) rfl)) rfl), (zw (zin4 (List.mem_of_getElem? (i := 160) rfl)) rfl)⟩
theorem zM130 : ∀ r, zmd_4[10]? = some r → zMok 130 r := fun r h => (Option.some.inj h) ▸ ⟨by decide +kernel, by decide +kernel, by decide +kernel, rfl, by decide, (zw (zin1 (List.mem_of_getElem? (i := 18) rfl)) rfl), (zw (zin4 (List.mem_of_getElem? (i := 164) rfl)) rfl)⟩
theorem zM131 : ∀ r, zmd_4[11]? = some r → zMok 131 r := fun r h => (Option.some.inj h) ▸ ⟨by decide +kernel, by decide +kernel, by decide +kernel, rfl, by decide, (zw (zin1 (List.mem_of_getElem? (i := 18) rfl)) rfl), (zw (zin4 (List.mem_of_getElem? (i := 167) rfl)) rfl)⟩
theorem zM132 : ∀ r, zmd_4[12]? = some r → zMok 132 r := fun r h => (Option.some.inj h) ▸ ⟨by decide +kernel, by decide +kernel, by decide +kernel, rfl, by decide, (zw (zin1 (List.mem_of_getElem? (i := 18) rfl)) rfl), (zw (zin4 (List.mem_of_getElem? (i := 170) rfl)) rfl)⟩
theorem zM133 : ∀ r, zmd_4[13]? = some r → zMok 133 r := fun r h => (Option.some.inj h) ▸ ⟨by decide +kernel, by decide +kernel, by decide +kernel, rfl, by decide, (zw (zin1 (List.mem_of_getElem? (i := 28) rfl)) rfl), (zw (zin4 (List.mem_of_getElem? (i := 226) rfl)) rfl)⟩
theorem zM134 : ∀ r, zmd_4[14]? = some r → zMok 134 r := fun r h => (Option.some.inj h) ▸ ⟨by decide +kernel, by decide +kernel, by decide +kernel, rfl, by decide, (zw (zin1 (List.mem_of_getElem? (i := 28) rfl)) rfl), (zw (zin4 (List.mem_of_getElem? (i := 230) rfl)) rfl)⟩
theorem zM135 : ∀ r, zmd_4[15]? = some r → zMok 135 r := fun r h => (Option.some.inj h) ▸ ⟨by decide +kernel, by decide +kernel, by decide +kernel, rfl, by decide, (zw (zin1 (List.mem_of_getElem? (i := 0) rfl)) rfl), (zw (zin5 (List.mem_of_getElem? (i := 35) rfl)) rfl)⟩
theorem zM136 : ∀ r, zmd_4[16]? = some r → zMok 136 r := fun r h => (Option.some.inj h) ▸ ⟨by decide +kernel, by decide +kernel, by decide +kernel, rfl, by decide, (zw (zin1 (List.mem_of_getElem? (i := 0) rfl)) rfl), (zw (zin5 (List.mem_of_getElem? (i := 39) rfl)) rfl)⟩
theorem zM137 : ∀ r, zmd_4[17]? = some r → zMok 137 r := fun r h => (Option.some.inj h) ▸ ⟨by decide +kernel, by decide +kernel, by decide +kernel, rfl, by decide, (zw (zin1 (List.mem_of_getElem? (i := 1) rfl)) rfl), (zw (zin5 (List.mem_of_getElem? (i := 43) rfl)) rfl)⟩
theorem zM138 : ∀ r, zmd_4[18]? = some r → zMok 138 r := fun r h => (Option.some.inj h) ▸ ⟨by decide +kernel, by decide +kernel, by decide +kernel, rfl, by decide, (zw (zin1 (List.mem_of_getElem? (i := 0) rfl)) rfl), (zw (zin5 (List.mem_of_getElem? (i := 46) rfl)) rfl)⟩
theorem zM139 : ∀ r, zmd_4[19]? = some r → zMok 139 r := fun r h => (Option.some.inj h) ▸ ⟨by decide +kernel, by decide +kernel, by decide +kernel, rfl, by decide, (zw (zin1 (List.mem_of_getElem? (i := 0) rfl)) rfl), (zw (zin5 (List.mem_of_getElem? (i := 50) rfl)) rfl)⟩
theorem zM140 : ∀ r, zmd_4[20]? = some r → zMok 140 r := fun r h => (Option.some.inj h) ▸ ⟨by decide +kernel, by decide +kernel, by decide +kernel, rfl, by decide, (zw (zin1 (List.mem_of_getElem? (i := 0) rfl)) rfl), (zw (zin5 (List.mem_of_getElem? (i := 54) rfl)) rfl)⟩
theorem zM141 : ∀ r, zmd_4[21]? = some r → zMok 141 r := fun r h => (Option.some.inj h) ▸ ⟨by decide +kernel, by decide +kernel, by decide +kernel, rfl, by decide, (zw (zin1 (List.mem_of_getElem? (i := 0) rfl)) rfl), (zw (zin5 (List.mem_of_getElem? (i := 58) rfl)) rfl)⟩
theorem zM142 : ∀ r, zmd_4[22]? = some r → zMok 142 r := fun r h => (Option.some.inj h) ▸ ⟨by decide +kernel, by decide +kernel, by decide +kernel, rfl, by decide, (zw (zin1 (List.mem_of_getElem? (i := 0) rfl)) rfl), (zw (zin5 (List.mem_of_getElem? (i := 62) rfl)) rfl)⟩
theorem zM143 : ∀ r, zmd_4[23]? = some r → zMok 143 r := fun r h => (Option.some.inj h) ▸ ⟨by decide +kernel, by decide +kernel, by decide +kernel, rfl, by decide, (zw (zin1 (List.mem_of_getElem? (i := 1) rfl)) rfl), (zw (zin5 (List.mem_of_getElem? (i := 66) rfl)) rfl)⟩
theorem zM144 : ∀ r, zmd_4[24]? = some r → zMok 144 r := fun r h => (Option.some.inj h) ▸ ⟨by decide +kernel, by decide +kernel, by decide +kernel, rfl, by decide, (zw (zin1 (List.mem_of_getElem? (i := 0) rfl)) rfl), (zw (zin5 (List.mem_of_getElem? (i := 69) rfl)) rfl)⟩
theorem zM145 : ∀ r, zmd_4[25]? = some r → zMok 145 r := fun r h => (Option.some.inj h) ▸ ⟨by decide +kernel, by decide +kernel, by decide +kernel, rfl, by decide, (zw (zin1 (List.mem_of_getElem? (i := 0) rfl)) rfl), (zw (zin5 (List.mem_of_getElem? (i := 73) rfl)) rfl)⟩
theorem zM146 : ∀ r, zmd_4[26]? = some r → zMok 146 r := fun r h => (Option.some.inj h) ▸ ⟨by decide +kernel, by decide +kernel, by decide +kernel, rfl, by decide, (zw (zin1 (List.mem_of_getElem? (i := 4) rfl)) rfl), (zw (zin5 (List.mem_of_getElem? (i := 79) rfl)) rfl)⟩
theorem zM147 : ∀ r, zmd_4[27]? = some r → zMok 147 r := fun r h => (Option.some.inj h) ▸ ⟨by decide +kernel, by decide +kernel, by decide +kernel, rfl, by decide, (zw (zin1 (List.mem_of_getElem? (i := 7) rfl)) rfl), (zw (zin5 (List.mem_of_getElem? (i := 85) rfl)) rfl)⟩
theorem zM148 : ∀ r, zmd_4[28]? = some r → zMok 148 r := fun r h => (Option.some.inj h) ▸ ⟨by decide +kernel, by decide +kernel, by decide +kernel, rfl, by decide, (zw (zin1 (List.mem_of_getElem? (i := 6) rfl)) rfl), (zw (zin5 (List.mem_of_getElem? (i := 88) rfl)) rfl)⟩
theorem zM149 : ∀ r, zmd_4[29]? = some r → zMok 149 r := fun r h => (Option.some.inj h) ▸ ⟨by decide +kernel, by decide +kernel, by decide +kernel, rfl, by decide, (zw (zin1 (List.mem_of_getElem? (i := 5) rfl)) rfl), (zw (zin5 (List.mem_of_getElem? (i := 91) rfl)) rfl)⟩
theorem zM150 : ∀ r, zmd_5[0]? = some r → zMok 150 r := fun r h => (Option.some.inj h) ▸ ⟨by decide +kernel, by decide +kernel, by decide +kernel, rfl, by decide, (zw (zin1 (List.mem_of_getElem? (i := 4) rfl)) rfl), (zw (zin5 (List.mem_of_getElem? (i := 124) rfl)) rfl)⟩
theorem zM151 : ∀ r, zmd_5[1]? = some r → zMok 151 r := fun r h => (Option.some.inj h) ▸ ⟨by decide +kernel, by decide +kernel, by decide +kernel, rfl, by decide, (zw (zin1 (List.mem_of_getElem? (i := 4) rfl)) rfl), (zw (zin5 (List.mem_of_getElem? (i := 127) rfl)) rfl)⟩
theorem zM152 : ∀ r, zmd_5[2]? = some r → zMok 152 r := fun r h => (Option.some.inj h) ▸ ⟨by decide +kernel, by decide +kernel, by decide +kernel, rfl, by decide, (zw (zin1 (List.mem_of_getElem? (i := 4) rfl)) rfl), (zw (zin5 (List.mem_of_getElem? (i := 131) rfl)) rfl)⟩
theorem zM153 : ∀ r, zmd_5[3]? = some r → zMok 153 r := fun r h => (Option.some.inj h) ▸ ⟨by decide +kernel, by decide +kernel, by decide +kernel, rfl, by decide, (zw (zin1 (List.mem_of_getElem? (i := 7) rfl)) rfl), (zw (zin5 (List.mem_of_getElem? (i := 141) rfl)) rfl)⟩
theorem zM154 : ∀ r, zmd_5[4]? = some r → zMok 154 r := fun r h => (Option.some.inj h) ▸ ⟨by decide +kernel, by decide +kernel, by decide +kernel, rfl, by decide, (zw (zin1 (List.mem_of_getElem? (i := 15) rfl)) rfl), (zw (zin5 (List.mem_of_getElem? (i := 146) rfl)) rfl)⟩
theorem zM155 : ∀ r, zmd_5[5]? = some r → zMok 155 r := fun r h => (Option.some.inj h) ▸ ⟨by decide +kernel, by decide +kernel, by decide +kernel, rfl, by decide, (zw (zin1 (List.mem_of_getElem? (i := 15) rfl)) rfl), (zw (zin5 (List.mem_of_getElem? (i := 153) rfl)) rfl)⟩
theorem zM156 : ∀ r, zmd_5[6]? = some r → zMok 156 r := fun r h => (Option.some.inj h) ▸ ⟨by decide +kernel, by decide +kernel, by decide +kernel, rfl, by decide, (zw (zin1 (List.mem_of_getElem? (i := 15) rfl)) rfl), (zw (zin5 (List.mem_of_getElem? (i := 157) rfl)) rfl)⟩
theorem zM157 : ∀ r, zmd_5[7]? = some r → zMok 157 r := fun r h => (Option.some.inj h) ▸ ⟨by decide +kernel, by decide +kernel, by decide +kernel, rfl, by decide, (zw (zin1 (List.mem_of_getElem? (i := 7) rfl)) rfl), (zw (zin5 (List.mem_of_getElem? (i := 195) rfl)) rfl)⟩
theorem zM158 : ∀ r, zmd_5[8]? = some r → zMok 158 r := fun r h => (Option.some.inj h) ▸ ⟨by decide +kernel, by decide +kernel, by decide +kernel, rfl, by decide, (zw (zin1 (List.mem_of_getElem? (i := 7) rfl)) rfl), (zw (zin5 (List.mem_of_getElem? (i := 199) rfl)) rfl)⟩
theorem zM159 : ∀ r, zmd_5[9]? = some r → zMok 159 r := fun r h => (Option.some.inj h) ▸ ⟨by decide +kernel, by decide +kernel, by decide +kernel, rfl, by decide, (zw (zin1 (List.mem_of_getElem? (i := 7) rfl)) rfl), (zw (zin5 (List.mem_of_getElem? (i := 203) rfl)) rfl)⟩
theorem zM160 : ∀ r, zmd_5[10]? = some r → zMok 160 r := fun r h => (Option.some.inj h) ▸ ⟨by decide +kernel, by decide +kernel, by decide +kernel, rfl, by decide, (zw (zin1 (List.mem_of_getElem? (i := 7) rfl)) rfl), (zw (zin5 (List.mem_of_getElem? (i := 207) rfl)) rfl)⟩
theorem zM161 : ∀ r, zmd_5[11]? = some r → zMok 161 r := fun r h => (Option.some.inj h) ▸ ⟨by decide +kernel, by decide +kernel, by decide +kernel, rfl, by decide, (zw (zin1 (List.mem_of_getElem? (i := 4) rfl)) rfl), (zw (zin6 (List.mem_of_getElem? (i := 1) rfl)) rfl)⟩
theorem zM162 : ∀ r, zmd_5[12]? = some r → zMok 162 r := fun r h => (Option.some.inj h) ▸ ⟨by decide +kernel, by decide +kernel, by decide +kernel, rfl, by decide, (zw (zin1 (List.mem_of_getElem? (i := 4) rfl)) rfl), (zw (zin6 (List.mem_of_getElem? (i := 5) rfl)) rfl)⟩
theorem zM163 : ∀ r, zmd_5[13]? = some r → zMok 163 r := fun r h => (Option.some.inj h) ▸ ⟨by decide +kernel, by decide +kernel, by decide +kernel, rfl, by decide, (zw (zin1 (List.mem_of_getElem? (i := 4) rfl)) rfl), (zw (zin6 (List.mem_of_getElem? (i := 9) rfl)) rfl)⟩
theorem zM164 : ∀ r, zmd_5[14]? = some r → zMok 164 r := fun r h => (Option.some.inj h) ▸ ⟨by decide +kernel, by decide +kernel, by decide +kernel, rfl, by decide, (zw (zin1 (List.mem_of_getElem? (i := 7) rfl)) rfl), (zw (zin6 (List.mem_of_getElem? (i := 18) rfl)) rfl)⟩
theorem zM165 : ∀ r, zmd_5[15]? = some r → zMok 165 r := fun r h => (Option.some.inj h) ▸ ⟨by decide +kernel, by decide +kernel, by decide +kernel, rfl, by decide, (zw (zin1 (List.mem_of_getElem? (i := 23) rfl)) rfl), (zw (zin6 (List.mem_of_getElem? (i := 21) rfl)) rfl)⟩
theorem zM166 : ∀ r, zmd_5[16]? = some r → zMok 166 r := fun r h => (Option.some.inj h) ▸ ⟨by decide +kernel, by decide +kernel, by decide +kernel, rfl, by decide, (zw (zin1 (List.mem_of_getElem? (i := 7) rfl)) rfl), (zw (zin6 (List.mem_of_getElem? (i := 26) rfl)) rfl)⟩
theorem zM167 : ∀ r, zmd_5[17]? = some r → zMok 167 r := fun r h => (Option.some.inj h) ▸ ⟨by decide +kernel, by decide +kernel, by decide +kernel, rfl, by decide, (zw (zin1 (List.mem_of_getElem? (i := 15) rfl)) rfl), (zw (zin6 (List.mem_of_getElem? (i := 30) rfl)) rfl)⟩
theorem zM168 : ∀ r, zmd_5[18]? = some r → zMok 168 r := fun r h => (Option.some.inj h) ▸ ⟨by decide +kernel, by decide +kernel, by decide +kernel, rfl, by decide, (zw (zin1 (List.mem_of_getElem? (i := 15) rfl)) rfl), (zw (zin6 (List.mem_of_getElem? (i := 34) rfl)) rfl)⟩
theorem zM169 : ∀ r, zmd_5[19]? = some r → zMok 169 r := fun r h => (Option.some.inj h) ▸ ⟨by decide +kernel, by decide +kernel, by decide +kernel, rfl, by decide, (zw (zin1 (List.mem_of_getElem? (i := 4) rfl)) rfl), (zw (zin6 (List.mem_of_getElem? (i := 37) rfl)) rfl)⟩
theorem zM170 : ∀ r, zmd_5[20]? = some r → zMok 170 r := fun r h => (Option.some.inj h) ▸ ⟨by decide +kernel, by decide +kernel, by decide +kernel, rfl, by decide, (zw (zin1 (List.mem_of_getElem? (i := 4) rfl)) rfl), (zw (zin6 (List.mem_of_getElem? (i := 40) rfl)) rfl)⟩
theorem zM171 : ∀ r, zmd_5[21]? = some r → zMok 171 r := fun r h => (Option.some.inj h) ▸ ⟨by decide +kernel, by decide +kernel, by decide +kernel, rfl, by decide, (zw (zin1 (List.mem_of_getElem? (i := 15) rfl)) rfl), (zw (zin6 (List.mem_of_getElem? (i := 44) rfl)) rfl)⟩
theorem zM172 : ∀ r, zmd_5[22]? = some r → zMok 172 r := fun r h => (Option.some.inj h) ▸ ⟨by decide +kernel, by decide +kernel, by decide +kernel, rfl, by decide, (zw (zin1 (List.mem_of_getElem? (i := 15) rfl)) rfl), (zw (zin6 (List.mem_of_getElem? (i := 49) rfl)) rfl)⟩
theorem zM173 : ∀ r, zmd_5[23]? = some r → zMok 173 r := fun r h => (Option.some.inj h) ▸ ⟨by decide +kernel, by decide +kernel, by decide +kernel, rfl, by decide, (zw (zin1 (List.mem_of_getElem? (i := 15) rfl)) rfl), (zw (zin6 (List.mem_of_getElem? (i := 53) rfl)) rfl)⟩
theorem zM174 : ∀ r, zmd_5[24]? = some r → zMok 174 r := fun r h => (Option.some.inj h) ▸ ⟨by decide +kernel, by decide +kernel, by decide +kernel, rfl, by decide, (zw (zin1 (List.mem_of_getElem? (i := 15) rfl)) rfl), (zw (zin6 (List.mem_of_getElem? (i := 57) rfl)) rfl)⟩
theorem zM175 : ∀ r, zmd_5[25]? = some r → zMok 175 r := fun r h => (Option.some.inj h) ▸ ⟨by decide +kernel, by decide +kernel, by decide +kernel, rfl, by decide, (zw (zin1 (List.mem_of_getElem? (i := 4) rfl)) rfl), (zw (zin6 (List.mem_of_getElem? (i := 60) rfl)) rfl)⟩
theorem zM176 : ∀ r, zmd_5[26]? = some r → zMok 176 r := fun r h => (Option.some.inj h) ▸ ⟨by decide +kernel, by decide +kernel, by decide +kernel, rfl, by decide, (zw (zin1 (List.mem_of_getElem? (i := 4) rfl)) rfl), (zw (zin6 (List.mem_of_getElem? (i := 63) rfl)) rfl)⟩
theorem zM177 : ∀ r, zmd_5[27]? = some r → zMok 177 r := fun r h => (Option.some.inj h) ▸ ⟨by decide +kernel, by decide +kernel, by decide +kernel, rfl, by decide, (zw (zin1 (List.mem_of_getElem? (i := 4) rfl)) rfl), (zw (zin6 (List.mem_of_getElem? (i := 68) rfl)) rfl)⟩
theorem zM178 : ∀ r, zmd_5[28]? = some r → zMok 178 r := fun r h => (Option.some.inj h) ▸ ⟨by decide +kernel, by decide +kernel, by decide +kernel, rfl, by decide, (zw (zin1 (List.mem_of_getElem? (i := 4) rfl)) rfl), (zw (zin6 (List.mem_of_getElem? (i := 72) rfl)) rfl)⟩
theorem zM179 : ∀ r, zmd_5[29]? = some r → zMok 179 r := fun r h => (Option.some.inj h) ▸ ⟨by decide +kernel, by decide +kernel, by decide +kernel, rfl, by decide, (zw (zin1 (List.mem_of_getElem? (i := 4) rfl)) rfl), (zw (zin6 (List.mem_of_getElem? (i := 76) rfl)) rfl)⟩
theorem zM180 : ∀ r, zmd_6[0]? = some r → zMok 180 r := fun r h => (Option.some.inj h) ▸ ⟨by decide +kernel, by decide +kernel, by decide +kernel, rfl, by decide, (zw (zin1 (List.mem_of_getElem? (i := 15) rfl)) rfl), (zw (zin6 (List.mem_of_getElem? (i := 82) rfl)) rfl)⟩
theorem zM181 : ∀ r, zmd_6[1]? = some r → zMok 181 r := fun r h => (Option.some.inj h) ▸ ⟨by decide +kernel, by decide +kernel, by decide +kernel, rfl, by decide, (zw (zin1 (List.mem_of_getElem? (i := 15) rfl)) rfl), (zw (zin6 (List.mem_of_getElem? (i := 88) rfl)) rfl)⟩
theorem zM182 : ∀ r, zmd_6[2]? = some r → zMok 182 r := fun r h => (Option.some.inj h) ▸ ⟨by decide +kernel, by decide +kernel, by decide +kernel, rfl, by decide, (zw (zin1 (List.mem_of_getElem? (i := 15) rfl)) rfl), (zw (zin6 (List.mem_of_getElem? (i := 92) rfl)) rfl)⟩
theorem zM183 : ∀ r, zmd_6[3]? = some r → zMok 183 r := fun r h => (Option.some.inj h) ▸ ⟨by decide +kernel, by decide +kernel, by decide +kernel, rfl, by decide, (zw (zin1 (List.mem_of_getElem? (i := 15) rfl)) rfl), (zw (zin6 (List.mem_of_getElem? (i := 97) rfl)) rfl)⟩
theorem zM184 : ∀ r, zmd_6[4]? = some r → zMok 184 r := fun r h => (Option.some.inj h) ▸ ⟨by decide +kernel, by decide +kernel, by decide +kernel, rfl, by decide, (zw (zin1 (List.mem_of_getElem? (i := 15) rfl)) rfl), (zw (zin6 (List.mem_of_getElem? (i := 104) rfl)) rfl)⟩
theorem zM185 : ∀ r, zmd_6[5]? = some r → zMok 185 r := fun r h => (Option.some.inj h) ▸ ⟨by decide +kernel, by decide +kernel, by decide +kernel, rfl, by decide, (zw (zin1 (List.mem_of_getElem? (i := 15) rfl)) rfl), (zw (zin6 (List.mem_of_getElem? (i := 108) rfl)) rfl)⟩
theorem zM186 : ∀ r, zmd_6[6]? = some r → zMok 186 r := fun r h => (Option.some.inj h) ▸ ⟨by decide +kernel, by decide +kernel, by decide +kernel, rfl, by decide, (zw (zin1 (List.mem_of_getElem? (i := 4) rfl)) rfl), (zw (zin6 (List.mem_of_getElem? (i := 113) rfl)) rfl)⟩
theorem zM187 : ∀ r, zmd_6[7]? = some r → zMok 187 r := fun r h => (Option.some.inj h) ▸ ⟨by decide +kernel, by decide +kernel, by decide +kernel, rfl, by decide, (zw (zin1 (List.mem_of_getElem? (i := 15) rfl)) rfl), (zw (zin6 (List.mem_of_getElem? (i := 117) rfl)) rfl)⟩
theorem zM188 : ∀ r, zmd_6[8]? = some r → zMok 188 r := fun r h => (Option.some.inj h) ▸ ⟨by decide +kernel, by decide +kernel, by decide +kernel, rfl, by decide, (zw (zin1 (List.mem_of_getElem? (i := 15) rfl)) rfl), (zw (zin6 (List.mem_of_getElem? (i := 122) rfl)) rfl)⟩
theorem zM189 : ∀ r, zmd_6[9]? = some r → zMok 189 r := fun r h => (Option.some.inj h) ▸ ⟨by decide +kernel, by decide +kernel, by decide +kernel, rfl, by decide, (zw (zin1 (List.mem_of_getElem? (i := 4) rfl)) rfl), (zw (zin6 (List.mem_of_getElem? (i := 126) rfl)) rfl)⟩
theorem zM190 : ∀ r, zmd_6[10]? = some r → zMok 190 r := fun r h => (Option.some.inj h) ▸ ⟨by decide +kernel, by decide +kernel, by decide +kernel, rfl, by decide, (zw (zin1 (List.mem_of_getElem? (i := 4) rfl)) rfl), (zw (zin6 (List.mem_of_getElem? (i := 130) rfl)) rfl)⟩
theorem zM191 : ∀ r, zmd_6[11]? = some r → zMok 191 r := fun r h => (Option.some.inj h) ▸ ⟨by decide +kernel, by decide +kernel, by decide +kernel, rfl, by decide, (zw (zin1 (List.mem_of_getElem? (i := 15) rfl)) rfl), (zw (zin6 (List.mem_of_getElem? (i := 135) rfl)) rfl)⟩
theorem zM192 : ∀ r, zmd_6[12]? = some r → zMok 192 r := fun r h => (Option.some.inj h) ▸ ⟨by decide +kernel, by decide +kernel, by decide +kernel, rfl, by decide, (zw (zin1 (List.mem_of_getElem? (i := 25) rfl)) rfl), (zw (zin6 (List.mem_of_getElem? (i := 138) rfl)) rfl)⟩
theorem zM193 : ∀ r, zmd_6[13]? = some r → zMok 193 r := fun r h => (Option.some.inj h) ▸ ⟨by decide +kernel, by decide +kernel, by decide +kernel, rfl, by decide, (zw (zin1 (List.mem_of_getElem? (i := 4) rfl)) rfl), (zw (zin6 (List.mem_of_getElem? (i := 156) rfl)) rfl)⟩
theorem zM194 : ∀ r, zmd_6[14]? = some r → zMok 194 r := fun r h => (Option.some.inj h) ▸ ⟨by decide +kernel, by decide +kernel, by decide +kernel, rfl, by decide, (zw (zin1 (List.mem_of_getElem? (i := 7) rfl)) rfl), (zw (zin6 (List.mem_of_getElem? (i := 165) rfl)) rfl)⟩
theorem zM195 : ∀ r, zmd_6[15]? = some r → zMok 195 r := fun r h => (Option.some.inj h) ▸ ⟨by decide +kernel, by decide +kernel, by decide +kernel, rfl, by decide, (zw (zin1 (List.mem_of_getElem? (i := 7) rfl)) rfl), (zw (zin6 (List.mem_of_getElem? (i := 169) rfl)) rfl)⟩
theorem zM196 : ∀ r, zmd_6[16]? = some r → zMok 196 r := fun r h => (Option.some.inj h) ▸ ⟨by decide +kernel, by decide +kernel, by decide +kernel, rfl, by decide, (zw (zin1 (List.mem_of_getElem? (i := 4) rfl)) rfl), (zw (zin6 (List.mem_of_getElem? (i := 174) rfl)) rfl)⟩
theorem zM197 : ∀ r, zmd_6[17]? = some r → zMok 197 r := fun r h => (Option.some.inj h) ▸ ⟨by decide +kernel, by decide +kernel, by decide +kernel, rfl, by decide, (zw (zin1 (List.mem_of_getElem? (i := 15) rfl)) rfl), (zw (zin6 (List.mem_of_getElem? (i := 178) rfl)) rfl)⟩
theorem zM198 : ∀ r, zmd_6[18]? = some r → zMok 198 r := fun r h => (Option.some.inj h) ▸ ⟨by decide +kernel, by decide +kernel, by decide +kernel, rfl, by decide, (zw (zin1 (List.mem_of_getElem? (i := 15) rfl)) rfl), (zw (zin6 (List.mem_of_getElem? (i := 182) rfl)) rfl)⟩
theorem zM199 : ∀ r, zmd_6[19]? = some r → zMok 199 r := fun r h => (Option.some.inj h) ▸ ⟨by decide +kernel, by decide +kernel, by decide +kernel, rfl, by decide, (zw (zin1 (List.mem_of_getElem? (i := 15) rfl)) rfl), (zw (zin6 (List.mem_of_getElem? (i := 188) rfl)) rfl)⟩
theorem zM200 : ∀ r, zmd_6[20]? = some r → zMok 200 r := fun r h => (Option.some.inj h) ▸ ⟨by decide +kernel, by decide +kernel, by decide +kernel, rfl, by decide, (zw (zin1 (List.mem_of_getElem? (i := 4) rfl)) rfl), (zw (zin6 (List.mem_of_getElem? (i := 191) rfl)) rfl)⟩
theorem zM201 : ∀ r, zmd_6[21]? = some r → zMok 201 r := fun r h => (Option.some.inj h) ▸ ⟨by decide +kernel, by decide +kernel, by decide +kernel, rfl, by decide, (zw (zin1 (List.mem_of_getElem? (i := 4) rfl)) rfl), (zw (zin6 (List.mem_of_getElem? (i := 195) rfl)) rfl)⟩
theorem zM202 : ∀ r, zmd_6[22]? = some r → zMok 202 r := fun r h => (Option.some.inj h) ▸ ⟨by decide +kernel, by decide +kernel, by decide +kernel, rfl, by decide, (zw (zin1 (List.mem_of_getElem? (i := 15) rfl)) rfl), (zw (zin6 (List.mem_of_getElem? (i := 200) rfl)) rfl)⟩
theorem zM203 : ∀ r, zmd_6[23]? = some r → zMok 203 r := fun r h => (Option.some.inj h) ▸ ⟨by decide +kernel, by decide +kernel, by decide +kernel, rfl, by decide, (zw (zin1 (List.mem_of_getElem? (i := 4) rfl)) rfl), (zw (zin6 (List.mem_of_getElem? (i := 204) rfl)) rfl)⟩
theorem zM204 : ∀ r, zmd_6[24]? = some r → zMok 204 r := fun r h => (Option.some.inj h) ▸ ⟨by decide +kernel, by decide +kernel, by decide +kernel, rfl, by decide, (zw (zin1 (List.mem_of_getElem? (i := 4) rfl)) rfl), (zw (zin6 (List.mem_of_getElem? (i := 210) rfl)) rfl)⟩
theorem zM205 : ∀ r, zmd_6[25]? = some r → zMok 205 r := fun r h => (Option.some.inj h) ▸ ⟨by decide +kernel, by decide +kernel, by decide +kernel, rfl, by decide, (zw (zin1 (List.mem_of_getElem? (i := 4) rfl)) rfl), (zw (zin6 (List.mem_of_getElem? (i := 214) rfl)) rfl)⟩
theorem zM206 : ∀ r, zmd_6[26]? = some r → zMok 206 r := fun r h => (Option.some.inj h) ▸ ⟨by decide +kernel, by decide +kernel, by decide +kernel, rfl, by decide, (zw (zin1 (List.mem_of_getElem? (i := 4) rfl)) rfl), (zw (zin6 (List.mem_of_getElem? (i := 218) rfl)) rfl)⟩
theorem zM207 : ∀ r, zmd_6[27]? = some r → zMok 207 r := fun r h => (Option.some.inj h) ▸ ⟨by decide +kernel, by decide +kernel, by decide +kernel, rfl, by decide, (zw (zin1 (List.mem_of_getElem? (i := 4) rfl)) rfl), (zw (zin6 (List.mem_of_getElem? (i := 222) rfl)) rfl)⟩
theorem zM208 : ∀ r, zmd_6[28]? = some r → zMok 208 r := fun r h => (Option.some.inj h) ▸ ⟨by decide +kernel, by decide +kernel, by decide +kernel, rfl, by decide, (zw (zin1 (List.mem_of_getElem? (i := 4) rfl)) rfl), (zw (zin6 (List.mem_of_getElem? (i := 225) rfl)) rfl)⟩
theorem zM209 : ∀ r, zmd_6[29]? = some r → zMok 209 r := fun r h => (Option.some.inj h) ▸ ⟨by decide +kernel, by decide +kernel, by decide +kernel, rfl, by decide, (zw (zin1 (List.mem_of_getElem? (i := 4) rfl)) rfl), (zw (zin6 (List.mem_of_getElem? (i := 230) rfl)) rfl)⟩
theorem zM210 : ∀ r, zmd_7[0]? = some r → zMok 210 r := fun r h => (Option.some.inj h) ▸ ⟨by decide +kernel, by decide +kernel, by decide +kernel, rfl, by decide, (zw (zin1 (List.mem_of_getElem? (i := 15) rfl)) rfl), (zw (zin6 (List.mem_of_getElem? (i := 234) rfl)) rfl)⟩
theorem zM211 : ∀ r, zmd_7[1]? = some r → zMok 211 r := fun r h => (Option.some.inj h) ▸ ⟨by decide +kernel, by decide +kernel, by decide +kernel, rfl, by decide, (zw (zin1 (List.mem_of_getElem? (i := 4) rfl)) rfl), (zw (zin6 (List.mem_of_getElem? (i := 238) rfl)) rfl)⟩
theorem zM212 : ∀ r, zmd_7[2]? = some r → zMok 212 r := fun r h => (Option.some.inj h) ▸ ⟨by decide +kernel, by decide +kernel, by decide +kernel, rfl, by decide, (zw (zin1 (List.mem_of_getElem? (i := 4) rfl)) rfl), (zw (zin7 (List.mem_of_getElem? (i := 2) rfl)) rfl)⟩
theorem zM213 : ∀ r, zmd_7[3]? = some r → zMok 213 r := fun r h => (Option.some.inj h) ▸ ⟨by decide +kernel, by decide +kernel, by decide +kernel, rfl, by decide, (zw (zin1 (List.mem_of_getElem? (i := 15) rfl)) rfl), (zw (zin7 (List.mem_of_getElem? (i := 6) rfl)) rfl)⟩
theorem zM214 : ∀ r, zmd_7[4]? = some r → zMok 214 r := fun r h => (Option.some.inj h) ▸ ⟨by decide +kernel, by decide +kernel, by decide +kernel, rfl, by decide, (zw (zin1 (List.mem_of_getElem? (i := 4) rfl)) rfl), (zw (zin7 (List.mem_of_getElem? (i := 9) rfl)) rfl)⟩
theorem zM215 : ∀ r, zmd_7[5]? = some r → zMok 215 r := fun r h => (Option.some.inj h) ▸ ⟨by decide +kernel, by decide +kernel, by decide +kernel, rfl, by decide, (zw (zin1 (List.mem_of_getElem? (i := 4) rfl)) rfl), (zw (zin7 (List.mem_of_getElem? (i := 13) rfl)) rfl)⟩
theorem zM216 : ∀ r, zmd_7[6]? = some r → zMok 216 r := fun r h => (Option.some.inj h) ▸ ⟨by decide +kernel, by decide +kernel, by decide +kernel, rfl, by decide, (zw (zin1 (List.mem_of_getElem? (i := 4) rfl)) rfl), (zw (zin7 (List.mem_of_getElem? (i := 22) rfl)) rfl)⟩
theorem zM217 : ∀ r, zmd_7[7]? = some r → zMok 217 r := fun r h => (Option.some.inj h) ▸ ⟨by decide +kernel, by decide +kernel, by decide +kernel, rfl, by decide, (zw (zin1 (List.mem_of_getElem? (i := 4) rfl)) rfl), (zw (zin7 (List.mem_of_getElem? (i := 26) rfl)) rfl)⟩
theorem zM218 : ∀ r, zmd_7[8]? = some r → zMok 218 r := fun r h => (Option.some.inj h) ▸ ⟨by decide +kernel, by decide +kernel, by decide +kernel, rfl, by decide, (zw (zin1 (List.mem_of_getElem? (i := 4) rfl)) rfl), (zw (zin7 (List.mem_of_getElem? (i := 29) rfl)) rfl)⟩
theorem zM219 : ∀ r, zmd_7[9]? = some r → zMok 219 r := fun r h => (Option.some.inj h) ▸ ⟨by decide +kernel, by decide +kernel, by decide +kernel, rfl, by decide, (zw (zin1 (List.mem_of_getElem? (i := 4) rfl)) rfl), (zw (zin7 (List.mem_of_getElem? (i := 32) rfl)) rfl)⟩
theorem zM220 : ∀ r, zmd_7[10]? = some r → zMok 220 r := fun r h => (Option.some.inj h) ▸ ⟨by decide +kernel, by decide +kernel, by decide +kernel, rfl, by decide, (zw (zin1 (List.mem_of_getElem? (i := 4) rfl)) rfl), (zw (zin7 (List.mem_of_getElem? (i := 36) rfl)) rfl)⟩
theorem zM221 : ∀ r, zmd_7[11]? = some r → zMok 221 r := fun r h => (Option.some.inj h) ▸ ⟨by decide +kernel, by decide +kernel, by decide +kernel, rfl, by decide, (zw (zin1 (List.mem_of_getElem? (i := 4) rfl)) rfl), (zw (zin7 (List.mem_of_getElem? (i := 39) rfl)) rfl)⟩
theorem zM222 : ∀ r, zmd_7[12]? = some r → zMok 222 r := fun r h => (Option.some.inj h) ▸ ⟨by decide +kernel, by decide +kernel, by decide +kernel, rfl, by decide, (zw (zin1 (List.mem_of_getElem? (i := 4) rfl)) rfl), (zw (zin7 (List.mem_of_getElem? (i := 42) rfl)) rfl)⟩
theorem zM223 : ∀ r, zmd_7[13]? = some r → zMok 223 r := fun r h => (Option.some.inj h) ▸ ⟨by decide +kernel, by decide +kernel, by decide +kernel, rfl, by decide, (zw (zin1 (List.mem_of_getElem? (i := 4) rfl)) rfl), (zw (zin7 (List.mem_of_getElem? (i := 54) rfl)) rfl)⟩
theorem zM224 : ∀ r, zmd_7[14]? = some r → zMok 224 r := fun r h => (Option.some.inj h) ▸ ⟨by decide +kernel, by decide +kernel, by decide +kernel, rfl, by decide, (zw (zin1 (List.mem_of_getElem? (i := 4) rfl)) rfl), (zw (zin7 (List.mem_of_getElem? (i := 58) rfl)) rfl)⟩
theorem zM225 : ∀ r, zmd_7[15]? = some r → zMok 225 r := fun r h => (Option.some.inj h) ▸ ⟨by decide +kernel, by decide +kernel, by decide +kernel, rfl, by decide, (zw (zin1 (List.mem_of_getElem? (i := 4) rfl)) rfl), (zw (zin7 (List.mem_of_getElem? (i := 62) rfl)) rfl)⟩
theorem zM226 : ∀ r, zmd_7[16]? = some r → zMok 226 r := fun r h => (Option.some.inj h) ▸ ⟨by decide +kernel, by decide +kernel, by decide +kernel, rfl, by decide, (zw (zin1 (List.mem_of_getElem? (i := 4) rfl)) rfl), (zw (zin7 (List.mem_of_getElem? (i := 65) rfl)) rfl)⟩
theorem zM227 : ∀ r, zmd_7[17]? = some r → zMok 227 r := fun r h => (Option.some.inj h) ▸ ⟨by decide +kernel, by decide +kernel, by decide +kernel, rfl, by decide, (zw (zin1 (List.mem_of_getElem? (i := 4) rfl)) rfl), (zw (zin7 (List.mem_of_getElem? (i := 70) rfl)) rfl)⟩
theorem zM228 : ∀ r, zmd_7[18]? = some r → zMok 228 r := fun r h => (Option.some.inj h) ▸ ⟨by decide +kernel, by decide +kernel, by decide +kernel, rfl, by decide, (zw (zin1 (List.mem_of_getElem? (i := 4) rfl)) rfl), (zw (zin7 (List.mem_of_getElem? (i := 73) rfl)) rfl)⟩
theorem zM229 : ∀ r, zmd_7[19]? = some r → zMok 229 r := fun r h => (Option.some.inj h) ▸ ⟨by decide +kernel, by decide +kernel, by decide +kernel, rfl, by decide, (zw (zin1 (List.mem_of_getElem? (i := 4) rfl)) rfl), (zw (zin7 (List.mem_of_getElem? (i := 88) rfl)) rfl)⟩
theorem zM230 : ∀ r, zmd_7[20]? = some r → zMok 230 r := fun r h => (Option.some.inj h) ▸ ⟨by decide +kernel, by decide +kernel, by decide +kernel, rfl, by decide, (zw (zin1 (List.mem_of_getElem? (i := 4) rfl)) rfl), (zw (zin7 (List.mem_of_getElem? (i := 93) rfl)) rfl)⟩
theorem zM231 : ∀ r, zmd_7[21]? = some r → zMok 231 r := fun r h => (Option.some.inj h) ▸ ⟨by decide +kernel, by decide +kernel, by decide +kernel, rfl, by decide, (zw (zin1 (List.mem_of_getElem? (i := 4) rfl)) rfl), (zw (zin7 (List.mem_of_getElem? (i := 96) rfl)) rfl)⟩
theorem zM232 : ∀ r, zmd_7[22]? = some r → zMok 232 r := fun r h => (Option.some.inj h) ▸ ⟨by decide +kernel, by decide +kernel, by decide +kernel, rfl, by decide, (zw (zin1 (List.mem_of_getElem? (i := 4) rfl)) rfl), (zw (zin7 (List.mem_of_getElem? (i := 99) rfl)) rfl)⟩
theorem zM233 : ∀ r, zmd_7[23]? = some r → zMok 233 r := fun r h => (Option.some.inj h) ▸ ⟨by decide +kernel, by decide +kernel, by decide +kernel, rfl, by decide, (zw (zin1 (List.mem_of_getElem? (i := 4) rfl)) rfl), (zw (zin7 (List.mem_of_getElem? (i := 104) rfl)) rfl)⟩
theorem zM234 : ∀ r, zmd_7[24]? = some r → zMok 234 r := fun r h => (Option.some.inj h) ▸ ⟨by decide +kernel, by decide +kernel, by decide +kernel, rfl, by decide, (zw (zin1 (List.mem_of_getElem? (i := 4) rfl)) rfl), (zw (zin7 (List.mem_of_getElem? (i := 108) rfl)) rfl)⟩
theorem zM235 : ∀ r, zmd_7[25]? = some r → zMok 235 r := fun r h => (Option.some.inj h) ▸ ⟨by decide +kernel, by decide +kernel, by decide +kernel, rfl, by decide, (zw (zin1 (List.mem_of_getElem? (i := 4) rfl)) rfl), (zw (zin7 (List.mem_of_getElem? (i := 111) rfl)) rfl)⟩
theorem zM236 : ∀ r, zmd_7[26]? = some r → zMok 236 r := fun r h => (Option.some.inj h) ▸ ⟨by decide +kernel, by decide +kernel, by decide +kernel, rfl, by decide, (zw (zin1 (List.mem_of_getElem? (i := 4) rfl)) rfl), (zw (zin7 (List.mem_of_getElem? (i := 115) rfl)) rfl)⟩
theorem zM237 : ∀ r, zmd_7[27]? = some r → zMok 237 r := fun r h => (Option.some.inj h) ▸ ⟨by decide +kernel, by decide +kernel, by decide +kernel, rfl, by decide, (zw (zin1 (List.mem_of_getElem? (i := 4) rfl)) rfl), (zw (zin5 (List.mem_of_getElem? (i := 120) rfl)) rfl)⟩
theorem zM_ok : ∀ (j : Nat) (r : zMd), j < 238 → zmd j = some r → zMok j r := by
  intro j r hj h
  match j, hj, h with
  | 0, _, h => exact zM0 r h
  | 1, _, h => exact zM1 r h
  | 2, _, h => exact zM2 r h
  | 3, _, h => exact zM3 r h
  | 4, _, h => exact zM4 r h
  | 5, _, h => exact zM5 r h
  | 6, _, h => exact zM6 r h
  | 7, _, h => exact zM7 r h
  | 8, _, h => exact zM8 r h
  | 9, _, h => exact zM9 r h
  | 10, _, h => exact zM10 r h
  | 11, _, h => exact zM11 r h
  | 12, _, h => exact zM12 r h
  | 13, _, h => exact zM13 r h
  | 14, _, h => exact zM14 r h
  | 15, _, h => exact zM15 r h
  | 16, _, h => exact zM16 r h
  | 17, _, h => exact zM17 r h
  | 18, _, h => exact zM18 r h
  | 19, _, h => exact zM19 r h
  | 20, _, h => exact zM20 r h
  | 21, _, h => exact zM21 r h
  | 22, _, h => exact zM22 r h
  | 23, _, h => exact zM23 r h
  | 24, _, h => exact zM24 r h
  | 25, _, h => exact zM25 r h
  | 26, _, h => exact zM26 r h
  | 27, _, h => exact zM27 r h
  | 28, _, h => exact zM28 r h
  | 29, _, h => exact zM29 r h
  | 30, _, h => exact zM30 r h
  | 31, _, h => exact zM31 r h
  | 32, _, h => exact zM32 r h
  | 33, _, h => exact zM33 r h
  | 34, _, h => exact zM34 r h
  | 35, _, h => exact zM35 r h
  | 36, _, h => exact zM36 r h
  | 37, _, h => exact zM37 r h
  | 38, _, h => exact zM38 r h
  | 39, _, h => exact zM39 r h
  | 40, _, h => exact zM40 r h
  | 41, _, h => exact zM41 r h
  | 42, _, h => exact zM42 r h
  | 43, _, h => exact zM43 r h
  | 44, _, h => exact zM44 r h
  | 45, _, h => exact zM45 r h
  | 46, _, h => exact zM46 r h
  | 47, _, h => exact zM47 r h
  | 48, _, h => exact zM48 r h
  | 49, _, h => exact zM49 r h
  | 50, _, h => exact zM50 r h
  | 51, _, h => exact zM51 r h
  | 52, _, h => exact zM52 r h
  | 53, _, h => exact zM53 r h
  | 54, _, h => exact zM54 r h
  | 55, _, h => exact zM55 r h
  | 56, _, h => exact zM56 r h
  | 57, _, h => exact zM57 r h
  | 58, _, h => exact zM58 r h
  | 59, _, h => exact zM59 r h
  | 60, _, h => exact zM60 r h
  | 61, _, h => exact zM61 r h
  | 62, _, h => exact zM62 r h
  | 63, _, h => exact zM63 r h
  | 64, _, h => exact zM64 r h
  | 65, _, h => exact zM65 r h
  | 66, _, h => exact zM66 r h
  | 67, _, h => exact zM67 r h
  | 68, _, h => exact zM68 r h
  | 69, _, h => exact zM69 r h
  | 70, _, h => exact zM70 r h
  | 71, _, h => exact zM71 r h
  | 72, _, h => exact zM72 r h
  | 73, _, h => exact zM73 r h
  | 74, _, h => exact zM74 r h
  | 75, _, h => exact zM75 r h
  | 76, _, h => exact zM76 r h
  | 77, _, h => exact zM77 r h
  | 78, _, h => exact zM78 r h
  | 79, _, h => exact zM79 r h
  | 80, _, h => exact zM80 r h
  | 81, _, h => exact zM81 r h
  | 82, _, h => exact zM82 r h
  | 83, _, h => exact zM83 r h
  | 84, _, h => exact zM84 r h
  | 85, _, h => exact zM85 r h
  | 86, _, h => exact zM86 r h
  | 87, _, h => exact zM87 r h
  | 88, _, h => exact zM88 r h
  | 89, _, h => exact zM89 r h
  | 90, _, h => exact zM90 r h
  | 91, _, h => exact zM91 r h
  | 92, _, h => exact zM92 r h
  | 93, _, h => exact zM93 r h
  | 94, _, h => exact zM94 r h
  | 95, _, h => exact zM95 r h
  | 96, _, h => exact zM96 r h
  | 97, _, h => exact zM97 r h
  | 98, _, h => exact zM98 r h
  | 99, _, h => exact zM99 r h
  | 100, _, h => exact zM100 r h
  | 101, _, h => exact zM101 r h
  | 102, _, h => exact zM102 r h
  | 103, _, h => exact zM103 r h
  | 104, _, h => exact zM104 r h
  | 105, _, h => exact zM105 r h
  | 106, _, h => exact zM106 r h
  | 107, _, h => exact zM107 r h
  | 108, _, h => exact zM108 r h
  | 109, _, h => exact zM109 r h
  | 110, _, h => exact zM110 r h
  | 111, _, h => exact zM111 r h
  | 112, _, h => exact zM112 r h
  | 113, _, h => exact zM113 r h
  | 114, _, h => exact zM114 r h
  | 115, _, h => exact zM115 r h
  | 116, _, h => exact zM116 r h
  | 117, _, h => exact zM117 r h
  | 118, _, h => exact zM118 r h
  | 119, _, h => exact zM119 r h
  | 120, _, h => exact zM120 r h
  | 121, _, h => exact zM121 r h
  | 122, _, h => exact zM122 r h
  | 123, _, h => exact zM123 r h
  | 124, _, h => exact zM124 r h
  | 125, _, h => exact zM125 r h
  | 126, _, h => exact zM126 r h
  | 127, _, h => exact zM127 r h
  | 128, _, h => exact zM128 r h
  | 129, _, h => exact zM129 r h
  | 130, _, h => exact zM130 r h
  | 131, _, h => exact zM131 r h
  | 132, _, h => exact zM132 r h
  | 133, _, h => exact zM133 r h
  | 134, _, h => exact zM134 r h
  | 135, _, h => exact zM135 r h
  | 136, _, h => exact zM136 r h
  | 137, _, h => exact zM137 r h
  | 138, _, h => exact zM138 r h
  | 139, _, h => exact zM139 r h
  | 140, _, h => exact zM140 r h
  | 141, _, h => exact zM141 r h
  | 142, _, h => exact zM142 r h
  | 143, _, h => exact zM143 r h
  | 144, _, h => exact zM144 r h
  | 145, _, h => exact zM145 r h
  | 146, _, h => exact zM146 r h
  | 147, _, h => exact zM147 r h
  | 148, _, h => exact zM148 r h
  | 149, _, h => exact zM149 r h
  | 150, _, h => exact zM150 r h
  | 151, _, h => exact zM151 r h
  | 152, _, h => exact zM152 r h
  | 153, _, h => exact zM153 r h
  | 154, _, h => exact zM154 r h
  | 155, _, h => exact zM155 r h
  | 156, _, h => exact zM156 r h
  | 157, _, h => exact zM157 r h
  | 158, _, h => exact zM158 r h
  | 159, _, h => exact zM159 r h
  | 160, _, h => exact zM160 r h
  | 161, _, h => exact zM161 r h
  | 162, _, h => exact zM162 r h
  | 163, _, h => exact zM163 r h
  | 164, _, h => exact zM164 r h
  | 165, _, h => exact zM165 r h
  | 166, _, h => exact zM166 r h
  | 167, _, h => exact zM167 r h
  | 168, _, h => exact zM168 r h
  | 169, _, h => exact zM169 r h
  | 170, _, h => exact zM170 r h
  | 171, _, h => exact zM171 r h
  | 172, _, h => exact zM172 r h
  | 173, _, h => exact zM173 r h
  | 174, _, h => exact zM174 r h
  | 175, _, h => exact zM175 r h
  | 176, _, h => exact zM176 r h
  | 177, _, h => exact zM177 r h
  | 178, _, h => exact zM178 r h
  | 179, _, h => exact zM179 r h
  | 180, _, h => exact zM180 r h
  | 181, _, h => exact zM181 r h
  | 182, _, h => exact zM182 r h
  | 183, _, h => exact zM183 r h
  | 184, _, h => exact zM184 r h
  | 185, _, h => exact zM185 r h
  | 186, _, h => exact zM186 r h
  | 187, _, h => exact zM187 r h
  | 188, _, h => exact zM188 r h
  | 189, _, h => exact zM189 r h
  | 190, _, h => exact zM190 r h
  | 191, _, h => exact zM191 r h
  | 192, _, h => exact zM192 r h
  | 193, _, h => exact zM193 r h
  | 194, _, h => exact zM194 r h
  | 195, _, h => exact zM195 r h
  | 196, _, h => exact zM196 r h
  | 197, _, h => exact zM197 r h
  | 198, _, h => exact zM198 r h
  | 199, _, h => exact zM199 r h
  | 200, _, h => exact zM200 r h
  | 201, _, h => exact zM201 r h
  | 202, _, h => exact zM202 r h
  | 203, _, h => exact zM203 r h
  | 204, _, h => exact zM204 r h
  | 205, _, h => exact zM205 r h
  | 206, _, h => exact zM206 r h
  | 207, _, h => exact zM207 r h
  | 208, _, h => exact zM208 r h
  | 209, _, h => exact zM209 r h
  | 210, _, h => exact zM210 r h
  | 211, _, h => exact zM211 r h
  | 212, _, h => exact zM212 r h
  | 213, _, h => exact zM213 r h
  | 214, _, h => exact zM214 r h
  | 215, _, h => exact zM215 r h
  | 216, _, h => exact zM216 r h
  | 217, _, h => exact zM217 r h
  | 218, _, h => exact zM218 r h
  | 219, _, h => exact zM219 r h
  | 220, _, h => exact zM220 r h
  | 221, _, h => exact zM221 r h
  | 222, _, h => exact zM222 r h
  | 223, _, h => exact zM223 r h
  | 224, _, h => exact zM224 r h
  | 225, _, h => exact zM225 r h
  | 226, _, h => exact zM226 r h
  | 227, _, h => exact zM227 r h
  | 228, _, h => exact zM228 r h
  | 229, _, h => exact zM229 r h
  | 230, _, h => exact zM230 r h
  | 231, _, h => exact zM231 r h
  | 232, _, h => exact zM232 r h
  | 233, _, h => exact zM233 r h
  | 234, _, h => exact zM234 r h
  | 235, _, h => exact zM235 r h
  | 236, _, h => exact zM236 r h
  | 237, _, h => exact zM237 r h
  | k + 238, hj, _ => exact absurd hj (by omega)
