/-! ===== PLAIN LEAN: walking the pure machine, a rule an instruction ===== -/
def zat (j pc : Nat) (i : Instr) (pc' : Nat) (x : zAux) : Prop := ∃ n, zins j pc = some (i, n, x) ∧ pc + n = pc'
/-- behind a call -/
def zbk (E : zEnv) (d j pc pc' : Nat) (L : zLc) (r : List Value) (Q : zOut → zPH → Prop) : zOut → zPH → Prop
  | .inl v, h => zwp E d j (pc', L, v.toList ++ r, h) Q
  | .inr e, h => zthr False j pc e L h (fun y => zwp E d j y Q) Q
/-- a throw's cell -/
def zex (h : zPH) : zPH := (h.1, h.2.1 + 1, h.2.2 + 6)
theorem zset_at {h : zPH} {a : Nat} {c : zCel} : (zset h a c).1 a = some c := if_pos rfl
theorem zset_ne {h : zPH} {a b : Nat} {c : zCel} {o : Option zCel} (hn : b ≠ a) (hb : h.1 b = o) : (zset h a c).1 b = o := (if_neg hn).trans hb
theorem zset_set {h : zPH} {a : Nat} {c c' : zCel} : zset (zset h a c) a c' = zset h a c' := by
  unfold zset
  refine Prod.ext (funext fun b => ?_) rfl
  by_cases hb : b = a <;> simp [hb]
theorem zne_tag {h : zPH} {a b t t' : Nat} {vs ws : List Value} (ha : h.1 a = some (t, vs)) (hb : h.1 b = some (t', ws)) (ht : t ≠ t') : a ≠ b := by
  intro e
  subst e
  rw [ha] at hb
  exact ht (congrArg Prod.fst (Option.some.inj hb))
theorem zalloc_at {h : zPH} {c : zCel} {n : Nat} : (zalloc h c n).1 h.2.1 = some c := if_pos rfl
theorem zalloc_ne {h : zPH} {b : Nat} {c : zCel} {n : Nat} {o : Option zCel} (hn : b ≠ h.2.1) (hb : h.1 b = o) : (zalloc h c n).1 b = o := (if_neg hn).trans hb
theorem zis_at {l : List Int32} {i : Int32} (hi : i.toNatClampNeg < l.length) : (zis l)[i.toNatClampNeg]? = some (.int (l.getD i.toNatClampNeg 0)) := by
  unfold zis
  rw [List.getElem?_map, List.getD_eq_getElem?_getD, List.getElem?_eq_getElem hi]
  rfl
theorem zis_set (l : List Int32) (k : Nat) (v : Int32) : (zis l).set k (.int v) = zis (l.set k v) := by
  unfold zis
  rw [List.map_set]
theorem zis_rep (n : Nat) (v : Int32) : List.replicate n (.int v) = zis (List.replicate n v) := by
  unfold zis
  rw [List.map_replicate]
theorem zis_len (l : List Int32) : (zis l).length = l.length := by simp [zis]
section ZR
variable {E : zEnv} {d j pc pc' : Nat} {L L' : zLc} {st r : List Value} {h : zPH} {Q : zOut → zPH → Prop} {x : zAux}
theorem zwp_to {i : Instr} (hi : zat j pc i pc' x) (K : ∀ n, pc + n = pc' → zact False E (zrt j) i n x pc L st h (fun y => zwp E d j y Q) Q (zwc E d j pc n L h Q)) : zwp E d j (pc, L, st, h) Q := by
  obtain ⟨n, h1, h2⟩ := hi
  rw [zwp_at h1]
  exact K n h2
theorem zr_iconst {k : Int} {v : Int32} (hi : zat j pc (.iconst k) pc' x) (hv : Int32.ofInt k = v) (K : zwp E d j (pc', L, .int v :: st, h) Q) : zwp E d j (pc, L, st, h) Q := zwp_to hi fun n e => by
  subst e
  subst hv
  exact K
theorem zr_bipush {k : Int} {v : Int32} (hi : zat j pc (.bipush k) pc' x) (hv : (Int8.ofInt k).toInt32 = v) (K : zwp E d j (pc', L, .int v :: st, h) Q) : zwp E d j (pc, L, st, h) Q := zwp_to hi fun n e => by
  subst e
  subst hv
  exact K
theorem zr_sipush {k : Int} {v : Int32} (hi : zat j pc (.sipush k) pc' x) (hv : (Int16.ofInt k).toInt32 = v) (K : zwp E d j (pc', L, .int v :: st, h) Q) : zwp E d j (pc, L, st, h) Q := zwp_to hi fun n e => by
  subst e
  subst hv
  exact K
theorem zr_lconst {k : Fin 2} {v : Int64} (hi : zat j pc (.lconst k) pc' x) (hv : Int64.ofNat k.val = v) (K : zwp E d j (pc', L, .long v :: st, h) Q) : zwp E d j (pc, L, st, h) Q := zwp_to hi fun n e => by
  subst e
  subst hv
  exact K
theorem zr_fconst0 (hi : zat j pc (.fconst 0) pc' x) (K : zwp E d j (pc', L, .float FP.fconst0 :: st, h) Q) : zwp E d j (pc, L, st, h) Q := zwp_to hi fun n e => by
  subst e
  exact K
theorem zr_fconst1 (hi : zat j pc (.fconst 1) pc' x) (K : zwp E d j (pc', L, .float FP.fconst1 :: st, h) Q) : zwp E d j (pc, L, st, h) Q := zwp_to hi fun n e => by
  subst e
  exact K
theorem zr_dconst0 (hi : zat j pc (.dconst 0) pc' x) (K : zwp E d j (pc', L, .double FP.dconst0 :: st, h) Q) : zwp E d j (pc, L, st, h) Q := zwp_to hi fun n e => by
  subst e
  exact K
theorem zr_dconst1 (hi : zat j pc (.dconst 1) pc' x) (K : zwp E d j (pc', L, .double FP.dconst1 :: st, h) Q) : zwp E d j (pc, L, st, h) Q := zwp_to hi fun n e => by
  subst e
  exact K
theorem zr_null (hi : zat j pc (.aconst_null) pc' x) (K : zwp E d j (pc', L, .null :: st, h) Q) : zwp E d j (pc, L, st, h) Q := zwp_to hi fun n e => by
  subst e
  exact K
theorem zr_ldci {k a1 a2 a3 : Nat} {v : Int32} (hi : zat j pc (.ldc k) pc' (0, a1, a2, a3, .int v)) (K : zwp E d j (pc', L, .int v :: st, h) Q) : zwp E d j (pc, L, st, h) Q := zwp_to hi fun n e => by
  subst e
  exact K
theorem zr_ldcs {k i a2 a3 : Nat} {a4 : Value} (hi : zat j pc (.ldc k) pc' (1, i, a2, a3, a4)) (K : zwp E d j (pc', L, .ref (E.2 i) :: st, h) Q) : zwp E d j (pc, L, st, h) Q := zwp_to hi fun n e => by
  subst e
  exact K
theorem zr_ldcw {k a1 a2 a3 : Nat} {v : Int32} (hi : zat j pc (.ldc_w k) pc' (0, a1, a2, a3, .int v)) (K : zwp E d j (pc', L, .int v :: st, h) Q) : zwp E d j (pc, L, st, h) Q := zwp_to hi fun n e => by
  subst e
  exact K
theorem zr_ldc2l {k a1 a2 a3 : Nat} {v : Int64} (hi : zat j pc (.ldc2_w k) pc' (0, a1, a2, a3, .long v)) (K : zwp E d j (pc', L, .long v :: st, h) Q) : zwp E d j (pc, L, st, h) Q := zwp_to hi fun n e => by
  subst e
  exact K
theorem zr_ldc2d {k a1 a2 a3 : Nat} {v : UInt64} (hi : zat j pc (.ldc2_w k) pc' (0, a1, a2, a3, .double v)) (K : zwp E d j (pc', L, .double v :: st, h) Q) : zwp E d j (pc, L, st, h) Q := zwp_to hi fun n e => by
  subst e
  exact K
theorem zr_iload {k : Nat} {y : Int32} (hi : zat j pc (.iload k) pc' x) (hl : L[k]? = some (some (.int y))) (K : zwp E d j (pc', L, .int y :: st, h) Q) : zwp E d j (pc, L, st, h) Q := zwp_to hi fun n e => by
  subst e
  show zget False L k _
  unfold zget
  rw [hl]
  exact K
theorem zr_iload_n {k : Fin 4} {y : Int32} (hi : zat j pc (.iload_n k) pc' x) (hl : L[k.val]? = some (some (.int y))) (K : zwp E d j (pc', L, .int y :: st, h) Q) : zwp E d j (pc, L, st, h) Q := zwp_to hi fun n e => by
  subst e
  show zget False L k.val _
  unfold zget
  rw [hl]
  exact K
theorem zr_lload {k : Nat} {y : Int64} (hi : zat j pc (.lload k) pc' x) (hl : L[k]? = some (some (.long y))) (K : zwp E d j (pc', L, .long y :: st, h) Q) : zwp E d j (pc, L, st, h) Q := zwp_to hi fun n e => by
  subst e
  show zget False L k _
  unfold zget
  rw [hl]
  exact K
theorem zr_lload_n {k : Fin 4} {y : Int64} (hi : zat j pc (.lload_n k) pc' x) (hl : L[k.val]? = some (some (.long y))) (K : zwp E d j (pc', L, .long y :: st, h) Q) : zwp E d j (pc, L, st, h) Q := zwp_to hi fun n e => by
  subst e
  show zget False L k.val _
  unfold zget
  rw [hl]
  exact K
theorem zr_dload {k : Nat} {y : UInt64} (hi : zat j pc (.dload k) pc' x) (hl : L[k]? = some (some (.double y))) (K : zwp E d j (pc', L, .double y :: st, h) Q) : zwp E d j (pc, L, st, h) Q := zwp_to hi fun n e => by
  subst e
  show zget False L k _
  unfold zget
  rw [hl]
  exact K
theorem zr_dload_n {k : Fin 4} {y : UInt64} (hi : zat j pc (.dload_n k) pc' x) (hl : L[k.val]? = some (some (.double y))) (K : zwp E d j (pc', L, .double y :: st, h) Q) : zwp E d j (pc, L, st, h) Q := zwp_to hi fun n e => by
  subst e
  show zget False L k.val _
  unfold zget
  rw [hl]
  exact K
theorem zr_fload {k : Nat} {y : UInt32} (hi : zat j pc (.fload k) pc' x) (hl : L[k]? = some (some (.float y))) (K : zwp E d j (pc', L, .float y :: st, h) Q) : zwp E d j (pc, L, st, h) Q := zwp_to hi fun n e => by
  subst e
  show zget False L k _
  unfold zget
  rw [hl]
  exact K
theorem zr_fload_n {k : Fin 4} {y : UInt32} (hi : zat j pc (.fload_n k) pc' x) (hl : L[k.val]? = some (some (.float y))) (K : zwp E d j (pc', L, .float y :: st, h) Q) : zwp E d j (pc, L, st, h) Q := zwp_to hi fun n e => by
  subst e
  show zget False L k.val _
  unfold zget
  rw [hl]
  exact K
theorem zr_aload {k : Nat} {y : Nat} (hi : zat j pc (.aload k) pc' x) (hl : L[k]? = some (some (.ref y))) (K : zwp E d j (pc', L, .ref y :: st, h) Q) : zwp E d j (pc, L, st, h) Q := zwp_to hi fun n e => by
  subst e
  show zget False L k _
  unfold zget
  rw [hl]
  exact K
theorem zr_aload_n {k : Fin 4} {y : Nat} (hi : zat j pc (.aload_n k) pc' x) (hl : L[k.val]? = some (some (.ref y))) (K : zwp E d j (pc', L, .ref y :: st, h) Q) : zwp E d j (pc, L, st, h) Q := zwp_to hi fun n e => by
  subst e
  show zget False L k.val _
  unfold zget
  rw [hl]
  exact K
theorem zr_aload_N {k : Nat} (hi : zat j pc (.aload k) pc' x) (hl : L[k]? = some (some .null)) (K : zwp E d j (pc', L, .null :: st, h) Q) : zwp E d j (pc, L, st, h) Q := zwp_to hi fun n e => by
  subst e
  show zget False L k _
  unfold zget
  rw [hl]
  exact K
theorem zr_aload_n_N {k : Fin 4} (hi : zat j pc (.aload_n k) pc' x) (hl : L[k.val]? = some (some .null)) (K : zwp E d j (pc', L, .null :: st, h) Q) : zwp E d j (pc, L, st, h) Q := zwp_to hi fun n e => by
  subst e
  show zget False L k.val _
  unfold zget
  rw [hl]
  exact K
theorem zr_istore {k : Nat} {y : Int32} (hi : zat j pc (.istore k) pc' x) (hk : Nat.blt k L.length = true) (hL : zput L k (some (.int y)) = L') (K : zwp E d j (pc', L', st, h) Q) : zwp E d j (pc, L, .int y :: st, h) Q := zwp_to hi fun n e => by
  subst e
  subst hL
  show zif False (Nat.blt k L.length) _
  rw [hk]
  exact K
theorem zr_istore_n {k : Fin 4} {y : Int32} (hi : zat j pc (.istore_n k) pc' x) (hk : Nat.blt k.val L.length = true) (hL : zput L k.val (some (.int y)) = L') (K : zwp E d j (pc', L', st, h) Q) : zwp E d j (pc, L, .int y :: st, h) Q := zwp_to hi fun n e => by
  subst e
  subst hL
  show zif False (Nat.blt k.val L.length) _
  rw [hk]
  exact K
theorem zr_fstore {k : Nat} {y : UInt32} (hi : zat j pc (.fstore k) pc' x) (hk : Nat.blt k L.length = true) (hL : zput L k (some (.float y)) = L') (K : zwp E d j (pc', L', st, h) Q) : zwp E d j (pc, L, .float y :: st, h) Q := zwp_to hi fun n e => by
  subst e
  subst hL
  show zif False (Nat.blt k L.length) _
  rw [hk]
  exact K
theorem zr_fstore_n {k : Fin 4} {y : UInt32} (hi : zat j pc (.fstore_n k) pc' x) (hk : Nat.blt k.val L.length = true) (hL : zput L k.val (some (.float y)) = L') (K : zwp E d j (pc', L', st, h) Q) : zwp E d j (pc, L, .float y :: st, h) Q := zwp_to hi fun n e => by
  subst e
  subst hL
  show zif False (Nat.blt k.val L.length) _
  rw [hk]
  exact K
theorem zr_astore {k : Nat} {y : Nat} (hi : zat j pc (.astore k) pc' x) (hk : Nat.blt k L.length = true) (hL : zput L k (some (.ref y)) = L') (K : zwp E d j (pc', L', st, h) Q) : zwp E d j (pc, L, .ref y :: st, h) Q := zwp_to hi fun n e => by
  subst e
  subst hL
  show zif False (Nat.blt k L.length) _
  rw [hk]
  exact K
theorem zr_astore_n {k : Fin 4} {y : Nat} (hi : zat j pc (.astore_n k) pc' x) (hk : Nat.blt k.val L.length = true) (hL : zput L k.val (some (.ref y)) = L') (K : zwp E d j (pc', L', st, h) Q) : zwp E d j (pc, L, .ref y :: st, h) Q := zwp_to hi fun n e => by
  subst e
  subst hL
  show zif False (Nat.blt k.val L.length) _
  rw [hk]
  exact K
theorem zr_astore_N {k : Nat} (hi : zat j pc (.astore k) pc' x) (hk : Nat.blt k L.length = true) (hL : zput L k (some .null) = L') (K : zwp E d j (pc', L', st, h) Q) : zwp E d j (pc, L, .null :: st, h) Q := zwp_to hi fun n e => by
  subst e
  subst hL
  show zif False (Nat.blt k L.length) _
  rw [hk]
  exact K
theorem zr_astore_n_N {k : Fin 4} (hi : zat j pc (.astore_n k) pc' x) (hk : Nat.blt k.val L.length = true) (hL : zput L k.val (some .null) = L') (K : zwp E d j (pc', L', st, h) Q) : zwp E d j (pc, L, .null :: st, h) Q := zwp_to hi fun n e => by
  subst e
  subst hL
  show zif False (Nat.blt k.val L.length) _
  rw [hk]
  exact K
theorem zr_lstore {k : Nat} {y : Int64} (hi : zat j pc (.lstore k) pc' x) (hk : Nat.blt (k + 1) L.length = true) (hL : zput2 L k (.long y) = L') (K : zwp E d j (pc', L', st, h) Q) : zwp E d j (pc, L, .long y :: st, h) Q := zwp_to hi fun n e => by
  subst e
  subst hL
  show zif False (Nat.blt (k + 1) L.length) _
  rw [hk]
  exact K
theorem zr_lstore_n {k : Fin 4} {y : Int64} (hi : zat j pc (.lstore_n k) pc' x) (hk : Nat.blt (k.val + 1) L.length = true) (hL : zput2 L k.val (.long y) = L') (K : zwp E d j (pc', L', st, h) Q) : zwp E d j (pc, L, .long y :: st, h) Q := zwp_to hi fun n e => by
  subst e
  subst hL
  show zif False (Nat.blt (k.val + 1) L.length) _
  rw [hk]
  exact K
theorem zr_dstore {k : Nat} {y : UInt64} (hi : zat j pc (.dstore k) pc' x) (hk : Nat.blt (k + 1) L.length = true) (hL : zput2 L k (.double y) = L') (K : zwp E d j (pc', L', st, h) Q) : zwp E d j (pc, L, .double y :: st, h) Q := zwp_to hi fun n e => by
  subst e
  subst hL
  show zif False (Nat.blt (k + 1) L.length) _
  rw [hk]
  exact K
theorem zr_dstore_n {k : Fin 4} {y : UInt64} (hi : zat j pc (.dstore_n k) pc' x) (hk : Nat.blt (k.val + 1) L.length = true) (hL : zput2 L k.val (.double y) = L') (K : zwp E d j (pc', L', st, h) Q) : zwp E d j (pc, L, .double y :: st, h) Q := zwp_to hi fun n e => by
  subst e
  subst hL
  show zif False (Nat.blt (k.val + 1) L.length) _
  rw [hk]
  exact K
theorem zr_iinc {k : Nat} {q : Int} {y z : Int32} (hi : zat j pc (.iinc k q) pc' x) (hl : L[k]? = some (some (.int y))) (hq : Int32.ofInt q = z) (hk : Nat.blt k L.length = true) (hL : zput L k (some (.int (y + z))) = L') (K : zwp E d j (pc', L', st, h) Q) : zwp E d j (pc, L, st, h) Q := zwp_to hi fun n e => by
  subst e
  subst hL
  subst hq
  show zget False L k _
  unfold zget
  rw [hl]
  show zif False (Nat.blt k L.length) _
  rw [hk]
  exact K
theorem zr_pop {v : Value} (hi : zat j pc (.pop) pc' x) (hc : zcat v = 1) (K : zwp E d j (pc', L, st, h) Q) : zwp E d j (pc, L, v :: st, h) Q := zwp_to hi fun n e => by
  subst e
  show zif False (Nat.beq (zcat v) 1) _
  rw [hc]
  exact K
theorem zr_pop2 {v : Value} (hi : zat j pc (.pop2) pc' x) (hc : zcat v = 2) (K : zwp E d j (pc', L, st, h) Q) : zwp E d j (pc, L, v :: st, h) Q := zwp_to hi fun n e => by
  subst e
  show zif False (Nat.beq (zcat v) 2) _
  rw [hc]
  exact K
theorem zr_dup {v : Value} (hi : zat j pc (.dup) pc' x) (hc : zcat v = 1) (K : zwp E d j (pc', L, v :: v :: st, h) Q) : zwp E d j (pc, L, v :: st, h) Q := zwp_to hi fun n e => by
  subst e
  show zif False (Nat.beq (zcat v) 1) _
  rw [hc]
  exact K
theorem zr_dup_x1 {v w : Value} (hi : zat j pc (.dup_x1) pc' x) (hc : zcat v = 1) (hc2 : zcat w = 1) (K : zwp E d j (pc', L, v :: w :: v :: st, h) Q) : zwp E d j (pc, L, v :: w :: st, h) Q := zwp_to hi fun n e => by
  subst e
  show zif False (Nat.beq (zcat v) 1) (zif False (Nat.beq (zcat w) 1) _)
  rw [hc, hc2]
  exact K
theorem zr_dup2 {v w : Value} (hi : zat j pc (.dup2) pc' x) (hc : zcat v = 1) (hc2 : zcat w = 1) (K : zwp E d j (pc', L, v :: w :: v :: w :: st, h) Q) : zwp E d j (pc, L, v :: w :: st, h) Q := zwp_to hi fun n e => by
  subst e
  show zif False (Nat.beq (zcat v) 1) (zif False (Nat.beq (zcat w) 1) _)
  rw [hc, hc2]
  exact K
theorem zr_iadd {a b : Int32} (hi : zat j pc (.iadd) pc' x) (K : zwp E d j (pc', L, .int (a + b) :: st, h) Q) : zwp E d j (pc, L, .int b :: .int a :: st, h) Q := zwp_to hi fun n e => by
  subst e
  exact K
theorem zr_isub {a b : Int32} (hi : zat j pc (.isub) pc' x) (K : zwp E d j (pc', L, .int (a - b) :: st, h) Q) : zwp E d j (pc, L, .int b :: .int a :: st, h) Q := zwp_to hi fun n e => by
  subst e
  exact K
theorem zr_imul {a b : Int32} (hi : zat j pc (.imul) pc' x) (K : zwp E d j (pc', L, .int (a * b) :: st, h) Q) : zwp E d j (pc, L, .int b :: .int a :: st, h) Q := zwp_to hi fun n e => by
  subst e
  exact K
theorem zr_iand {a b : Int32} (hi : zat j pc (.iand) pc' x) (K : zwp E d j (pc', L, .int (a &&& b) :: st, h) Q) : zwp E d j (pc, L, .int b :: .int a :: st, h) Q := zwp_to hi fun n e => by
  subst e
  exact K
theorem zr_ior {a b : Int32} (hi : zat j pc (.ior) pc' x) (K : zwp E d j (pc', L, .int (a ||| b) :: st, h) Q) : zwp E d j (pc, L, .int b :: .int a :: st, h) Q := zwp_to hi fun n e => by
  subst e
  exact K
theorem zr_ixor {a b : Int32} (hi : zat j pc (.ixor) pc' x) (K : zwp E d j (pc', L, .int (a ^^^ b) :: st, h) Q) : zwp E d j (pc, L, .int b :: .int a :: st, h) Q := zwp_to hi fun n e => by
  subst e
  exact K
theorem zr_ishl {a b : Int32} (hi : zat j pc (.ishl) pc' x) (K : zwp E d j (pc', L, .int (a <<< (b &&& 31)) :: st, h) Q) : zwp E d j (pc, L, .int b :: .int a :: st, h) Q := zwp_to hi fun n e => by
  subst e
  exact K
theorem zr_ishr {a b : Int32} (hi : zat j pc (.ishr) pc' x) (K : zwp E d j (pc', L, .int (a >>> (b &&& 31)) :: st, h) Q) : zwp E d j (pc, L, .int b :: .int a :: st, h) Q := zwp_to hi fun n e => by
  subst e
  exact K
theorem zr_iushr {a b : Int32} (hi : zat j pc (.iushr) pc' x) (K : zwp E d j (pc', L, .int ((a.toUInt32 >>> (b.toUInt32 &&& Int32.toUInt32 31)).toInt32) :: st, h) Q) : zwp E d j (pc, L, .int b :: .int a :: st, h) Q := zwp_to hi fun n e => by
  subst e
  exact K
theorem zr_idiv {a b : Int32} (hi : zat j pc (.idiv) pc' x) (hb : ¬ b = 0) (K : zwp E d j (pc', L, .int (a / b) :: st, h) Q) : zwp E d j (pc, L, .int b :: .int a :: st, h) Q := zwp_to hi fun n e => by
  subst e
  show zif False (!decide (b = 0)) _
  rw [decide_eq_false hb]
  exact K
theorem zr_irem {a b : Int32} (hi : zat j pc (.irem) pc' x) (hb : ¬ b = 0) (K : zwp E d j (pc', L, .int (a - a / b * b) :: st, h) Q) : zwp E d j (pc, L, .int b :: .int a :: st, h) Q := zwp_to hi fun n e => by
  subst e
  show zif False (!decide (b = 0)) _
  rw [decide_eq_false hb]
  exact K
theorem zr_ladd {a b : Int64} (hi : zat j pc (.ladd) pc' x) (K : zwp E d j (pc', L, .long (a + b) :: st, h) Q) : zwp E d j (pc, L, .long b :: .long a :: st, h) Q := zwp_to hi fun n e => by
  subst e
  exact K
theorem zr_lmul {a b : Int64} (hi : zat j pc (.lmul) pc' x) (K : zwp E d j (pc', L, .long (a * b) :: st, h) Q) : zwp E d j (pc, L, .long b :: .long a :: st, h) Q := zwp_to hi fun n e => by
  subst e
  exact K
theorem zr_lcmp {a b : Int64} (hi : zat j pc (.lcmp) pc' x) (K : zwp E d j (pc', L, .int (lg_cmp a b) :: st, h) Q) : zwp E d j (pc, L, .long b :: .long a :: st, h) Q := zwp_to hi fun n e => by
  subst e
  exact K
theorem zr_dadd {a b : UInt64} (hi : zat j pc (.dadd) pc' x) (hz : zn64 (FP.dadd a b) = true) (K : zwp E d j (pc', L, .double (FP.dadd a b) :: st, h) Q) : zwp E d j (pc, L, .double b :: .double a :: st, h) Q := zwp_to hi fun n e => by
  subst e
  show zif False (zn64 (FP.dadd a b)) _
  rw [hz]
  exact K
theorem zr_dsub {a b : UInt64} (hi : zat j pc (.dsub) pc' x) (hz : zn64 (FP.dsub a b) = true) (K : zwp E d j (pc', L, .double (FP.dsub a b) :: st, h) Q) : zwp E d j (pc, L, .double b :: .double a :: st, h) Q := zwp_to hi fun n e => by
  subst e
  show zif False (zn64 (FP.dsub a b)) _
  rw [hz]
  exact K
theorem zr_dmul {a b : UInt64} (hi : zat j pc (.dmul) pc' x) (hz : zn64 (FP.dmul a b) = true) (K : zwp E d j (pc', L, .double (FP.dmul a b) :: st, h) Q) : zwp E d j (pc, L, .double b :: .double a :: st, h) Q := zwp_to hi fun n e => by
  subst e
  show zif False (zn64 (FP.dmul a b)) _
  rw [hz]
  exact K
theorem zr_ddiv {a b : UInt64} (hi : zat j pc (.ddiv) pc' x) (hz : zn64 (FP.ddiv a b) = true) (K : zwp E d j (pc', L, .double (FP.ddiv a b) :: st, h) Q) : zwp E d j (pc, L, .double b :: .double a :: st, h) Q := zwp_to hi fun n e => by
  subst e
  show zif False (zn64 (FP.ddiv a b)) _
  rw [hz]
  exact K
theorem zr_fadd {a b : UInt32} (hi : zat j pc (.fadd) pc' x) (hz : zn32 (FP.fadd a b) = true) (K : zwp E d j (pc', L, .float (FP.fadd a b) :: st, h) Q) : zwp E d j (pc, L, .float b :: .float a :: st, h) Q := zwp_to hi fun n e => by
  subst e
  show zif False (zn32 (FP.fadd a b)) _
  rw [hz]
  exact K
theorem zr_fsub {a b : UInt32} (hi : zat j pc (.fsub) pc' x) (hz : zn32 (FP.fsub a b) = true) (K : zwp E d j (pc', L, .float (FP.fsub a b) :: st, h) Q) : zwp E d j (pc, L, .float b :: .float a :: st, h) Q := zwp_to hi fun n e => by
  subst e
  show zif False (zn32 (FP.fsub a b)) _
  rw [hz]
  exact K
theorem zr_fdiv {a b : UInt32} (hi : zat j pc (.fdiv) pc' x) (hz : zn32 (FP.fdiv a b) = true) (K : zwp E d j (pc', L, .float (FP.fdiv a b) :: st, h) Q) : zwp E d j (pc, L, .float b :: .float a :: st, h) Q := zwp_to hi fun n e => by
  subst e
  show zif False (zn32 (FP.fdiv a b)) _
  rw [hz]
  exact K
theorem zr_dcmp {a b : UInt64} {k : CmpOp} (hi : zat j pc (.dcmp k) pc' x) (K : zwp E d j (pc', L, .int (Op.cmpValue (FP.dcmp a b) k) :: st, h) Q) : zwp E d j (pc, L, .double b :: .double a :: st, h) Q := zwp_to hi fun n e => by
  subst e
  exact K
theorem zr_fcmp {a b : UInt32} {k : CmpOp} (hi : zat j pc (.fcmp k) pc' x) (K : zwp E d j (pc', L, .int (Op.cmpValue (FP.fcmp a b) k) :: st, h) Q) : zwp E d j (pc, L, .float b :: .float a :: st, h) Q := zwp_to hi fun n e => by
  subst e
  exact K
theorem zr_ineg {a : Int32} (hi : zat j pc (.ineg) pc' x) (K : zwp E d j (pc', L, .int (-a) :: st, h) Q) : zwp E d j (pc, L, .int a :: st, h) Q := zwp_to hi fun n e => by
  subst e
  exact K
theorem zr_i2l {a : Int32} (hi : zat j pc (.i2l) pc' x) (K : zwp E d j (pc', L, .long (a.toInt64) :: st, h) Q) : zwp E d j (pc, L, .int a :: st, h) Q := zwp_to hi fun n e => by
  subst e
  exact K
theorem zr_i2d {a : Int32} (hi : zat j pc (.i2d) pc' x) (K : zwp E d j (pc', L, .double (FP.i2d a) :: st, h) Q) : zwp E d j (pc, L, .int a :: st, h) Q := zwp_to hi fun n e => by
  subst e
  exact K
theorem zr_i2f {a : Int32} (hi : zat j pc (.i2f) pc' x) (K : zwp E d j (pc', L, .float (FP.i2f a) :: st, h) Q) : zwp E d j (pc, L, .int a :: st, h) Q := zwp_to hi fun n e => by
  subst e
  exact K
theorem zr_i2b {a : Int32} (hi : zat j pc (.i2b) pc' x) (K : zwp E d j (pc', L, .int (a.toInt8.toInt32) :: st, h) Q) : zwp E d j (pc, L, .int a :: st, h) Q := zwp_to hi fun n e => by
  subst e
  exact K
theorem zr_i2c {a : Int32} (hi : zat j pc (.i2c) pc' x) (K : zwp E d j (pc', L, .int ((a.toUInt32 % 65536).toInt32) :: st, h) Q) : zwp E d j (pc, L, .int a :: st, h) Q := zwp_to hi fun n e => by
  subst e
  exact K
theorem zr_dneg {a : UInt64} (hi : zat j pc (.dneg) pc' x) (K : zwp E d j (pc', L, .double (FP.dneg a) :: st, h) Q) : zwp E d j (pc, L, .double a :: st, h) Q := zwp_to hi fun n e => by
  subst e
  exact K
theorem zr_d2i {a : UInt64} (hi : zat j pc (.d2i) pc' x) (K : zwp E d j (pc', L, .int (FP.d2i a) :: st, h) Q) : zwp E d j (pc, L, .double a :: st, h) Q := zwp_to hi fun n e => by
  subst e
  exact K
theorem zr_d2l {a : UInt64} (hi : zat j pc (.d2l) pc' x) (K : zwp E d j (pc', L, .long (FP.d2l a) :: st, h) Q) : zwp E d j (pc, L, .double a :: st, h) Q := zwp_to hi fun n e => by
  subst e
  exact K
theorem zr_f2d {a : UInt32} (hi : zat j pc (.f2d) pc' x) (hz : zn64 (FP.f2d a) = true) (K : zwp E d j (pc', L, .double (FP.f2d a) :: st, h) Q) : zwp E d j (pc, L, .float a :: st, h) Q := zwp_to hi fun n e => by
  subst e
  show zif False (zn64 (FP.f2d a)) _
  rw [hz]
  exact K
theorem zr_if_eq {a : Int32} {off : Int} {t : Nat} (hi : zat j pc (.ifCond .eq off) pc' x) (ht : ztg pc off = t) (K1 : a = 0 → zwp E d j (t, L, st, h) Q) (K2 : ¬ a = 0 → zwp E d j (pc', L, st, h) Q) : zwp E d j (pc, L, .int a :: st, h) Q := zwp_to hi fun n e => by
  subst e; subst ht
  show zbr (decide (a = 0)) _ _
  by_cases hc : a = 0
  · rw [decide_eq_true hc]; exact K1 hc
  · rw [decide_eq_false hc]; exact K2 hc
theorem zr_icmp_eq {a b : Int32} {off : Int} {t : Nat} (hi : zat j pc (.if_icmp .eq off) pc' x) (ht : ztg pc off = t) (K1 : a = b → zwp E d j (t, L, st, h) Q) (K2 : ¬ a = b → zwp E d j (pc', L, st, h) Q) : zwp E d j (pc, L, .int b :: .int a :: st, h) Q := zwp_to hi fun n e => by
  subst e; subst ht
  show zbr (decide (a = b)) _ _
  by_cases hc : a = b
  · rw [decide_eq_true hc]; exact K1 hc
  · rw [decide_eq_false hc]; exact K2 hc
theorem zr_if_ne {a : Int32} {off : Int} {t : Nat} (hi : zat j pc (.ifCond .ne off) pc' x) (ht : ztg pc off = t) (K1 : a ≠ 0 → zwp E d j (t, L, st, h) Q) (K2 : a = 0 → zwp E d j (pc', L, st, h) Q) : zwp E d j (pc, L, .int a :: st, h) Q := zwp_to hi fun n e => by
  subst e; subst ht
  show zbr (!decide (a = 0)) _ _
  by_cases hc : a = 0
  · rw [decide_eq_true hc]; exact K2 hc
  · rw [decide_eq_false hc]; exact K1 hc
theorem zr_icmp_ne {a b : Int32} {off : Int} {t : Nat} (hi : zat j pc (.if_icmp .ne off) pc' x) (ht : ztg pc off = t) (K1 : a ≠ b → zwp E d j (t, L, st, h) Q) (K2 : a = b → zwp E d j (pc', L, st, h) Q) : zwp E d j (pc, L, .int b :: .int a :: st, h) Q := zwp_to hi fun n e => by
  subst e; subst ht
  show zbr (!decide (a = b)) _ _
  by_cases hc : a = b
  · rw [decide_eq_true hc]; exact K2 hc
  · rw [decide_eq_false hc]; exact K1 hc
theorem zr_if_lt {a : Int32} {off : Int} {t : Nat} (hi : zat j pc (.ifCond .lt off) pc' x) (ht : ztg pc off = t) (K1 : a < 0 → zwp E d j (t, L, st, h) Q) (K2 : ¬ a < 0 → zwp E d j (pc', L, st, h) Q) : zwp E d j (pc, L, .int a :: st, h) Q := zwp_to hi fun n e => by
  subst e; subst ht
  show zbr (decide (a < 0)) _ _
  by_cases hc : a < 0
  · rw [decide_eq_true hc]; exact K1 hc
  · rw [decide_eq_false hc]; exact K2 hc
theorem zr_icmp_lt {a b : Int32} {off : Int} {t : Nat} (hi : zat j pc (.if_icmp .lt off) pc' x) (ht : ztg pc off = t) (K1 : a < b → zwp E d j (t, L, st, h) Q) (K2 : ¬ a < b → zwp E d j (pc', L, st, h) Q) : zwp E d j (pc, L, .int b :: .int a :: st, h) Q := zwp_to hi fun n e => by
  subst e; subst ht
  show zbr (decide (a < b)) _ _
  by_cases hc : a < b
  · rw [decide_eq_true hc]; exact K1 hc
  · rw [decide_eq_false hc]; exact K2 hc
theorem zr_if_ge {a : Int32} {off : Int} {t : Nat} (hi : zat j pc (.ifCond .ge off) pc' x) (ht : ztg pc off = t) (K1 : 0 ≤ a → zwp E d j (t, L, st, h) Q) (K2 : ¬ 0 ≤ a → zwp E d j (pc', L, st, h) Q) : zwp E d j (pc, L, .int a :: st, h) Q := zwp_to hi fun n e => by
  subst e; subst ht
  show zbr (decide (0 ≤ a)) _ _
  by_cases hc : 0 ≤ a
  · rw [decide_eq_true hc]; exact K1 hc
  · rw [decide_eq_false hc]; exact K2 hc
theorem zr_icmp_ge {a b : Int32} {off : Int} {t : Nat} (hi : zat j pc (.if_icmp .ge off) pc' x) (ht : ztg pc off = t) (K1 : b ≤ a → zwp E d j (t, L, st, h) Q) (K2 : ¬ b ≤ a → zwp E d j (pc', L, st, h) Q) : zwp E d j (pc, L, .int b :: .int a :: st, h) Q := zwp_to hi fun n e => by
  subst e; subst ht
  show zbr (decide (b ≤ a)) _ _
  by_cases hc : b ≤ a
  · rw [decide_eq_true hc]; exact K1 hc
  · rw [decide_eq_false hc]; exact K2 hc
theorem zr_if_gt {a : Int32} {off : Int} {t : Nat} (hi : zat j pc (.ifCond .gt off) pc' x) (ht : ztg pc off = t) (K1 : 0 < a → zwp E d j (t, L, st, h) Q) (K2 : ¬ 0 < a → zwp E d j (pc', L, st, h) Q) : zwp E d j (pc, L, .int a :: st, h) Q := zwp_to hi fun n e => by
  subst e; subst ht
  show zbr (decide (0 < a)) _ _
  by_cases hc : 0 < a
  · rw [decide_eq_true hc]; exact K1 hc
  · rw [decide_eq_false hc]; exact K2 hc
theorem zr_icmp_gt {a b : Int32} {off : Int} {t : Nat} (hi : zat j pc (.if_icmp .gt off) pc' x) (ht : ztg pc off = t) (K1 : b < a → zwp E d j (t, L, st, h) Q) (K2 : ¬ b < a → zwp E d j (pc', L, st, h) Q) : zwp E d j (pc, L, .int b :: .int a :: st, h) Q := zwp_to hi fun n e => by
  subst e; subst ht
  show zbr (decide (b < a)) _ _
  by_cases hc : b < a
  · rw [decide_eq_true hc]; exact K1 hc
  · rw [decide_eq_false hc]; exact K2 hc
theorem zr_if_le {a : Int32} {off : Int} {t : Nat} (hi : zat j pc (.ifCond .le off) pc' x) (ht : ztg pc off = t) (K1 : a ≤ 0 → zwp E d j (t, L, st, h) Q) (K2 : ¬ a ≤ 0 → zwp E d j (pc', L, st, h) Q) : zwp E d j (pc, L, .int a :: st, h) Q := zwp_to hi fun n e => by
  subst e; subst ht
  show zbr (decide (a ≤ 0)) _ _
  by_cases hc : a ≤ 0
  · rw [decide_eq_true hc]; exact K1 hc
  · rw [decide_eq_false hc]; exact K2 hc
theorem zr_icmp_le {a b : Int32} {off : Int} {t : Nat} (hi : zat j pc (.if_icmp .le off) pc' x) (ht : ztg pc off = t) (K1 : a ≤ b → zwp E d j (t, L, st, h) Q) (K2 : ¬ a ≤ b → zwp E d j (pc', L, st, h) Q) : zwp E d j (pc, L, .int b :: .int a :: st, h) Q := zwp_to hi fun n e => by
  subst e; subst ht
  show zbr (decide (a ≤ b)) _ _
  by_cases hc : a ≤ b
  · rw [decide_eq_true hc]; exact K1 hc
  · rw [decide_eq_false hc]; exact K2 hc
theorem zr_acmp_eq {a b : Nat} {off : Int} {t : Nat} (hi : zat j pc (.if_acmp .eq off) pc' x) (ht : ztg pc off = t) (K1 : a = b → zwp E d j (t, L, st, h) Q) (K2 : a ≠ b → zwp E d j (pc', L, st, h) Q) : zwp E d j (pc, L, .ref b :: .ref a :: st, h) Q := zwp_to hi fun n e => by
  subst e; subst ht
  show zbr (decide (a = b)) _ _
  by_cases hc : a = b
  · rw [decide_eq_true hc]; exact K1 hc
  · rw [decide_eq_false hc]; exact K2 hc
theorem zr_acmp_ne {a b : Nat} {off : Int} {t : Nat} (hi : zat j pc (.if_acmp .ne off) pc' x) (ht : ztg pc off = t) (K1 : a ≠ b → zwp E d j (t, L, st, h) Q) (K2 : a = b → zwp E d j (pc', L, st, h) Q) : zwp E d j (pc, L, .ref b :: .ref a :: st, h) Q := zwp_to hi fun n e => by
  subst e; subst ht
  show zbr (!decide (a = b)) _ _
  by_cases hc : a = b
  · rw [decide_eq_true hc]; exact K2 hc
  · rw [decide_eq_false hc]; exact K1 hc
theorem zr_ifnull {a : Nat} {off : Int} (hi : zat j pc (.ifnull off) pc' x) (K : zwp E d j (pc', L, st, h) Q) : zwp E d j (pc, L, .ref a :: st, h) Q := zwp_to hi fun n e => by
  subst e
  exact K
theorem zr_ifnull_N {off : Int} {t : Nat} (hi : zat j pc (.ifnull off) pc' x) (ht : ztg pc off = t) (K : zwp E d j (t, L, st, h) Q) : zwp E d j (pc, L, .null :: st, h) Q := zwp_to hi fun n e => by
  subst e; subst ht
  exact K
theorem zr_ifnonnull {a : Nat} {off : Int} {t : Nat} (hi : zat j pc (.ifnonnull off) pc' x) (ht : ztg pc off = t) (K : zwp E d j (t, L, st, h) Q) : zwp E d j (pc, L, .ref a :: st, h) Q := zwp_to hi fun n e => by
  subst e; subst ht
  exact K
theorem zr_ifnonnull_N {off : Int} (hi : zat j pc (.ifnonnull off) pc' x) (K : zwp E d j (pc', L, st, h) Q) : zwp E d j (pc, L, .null :: st, h) Q := zwp_to hi fun n e => by
  subst e
  exact K
theorem zr_goto {off : Int} {t : Nat} (hi : zat j pc (.goto off) pc' x) (ht : ztg pc off = t) (K : zwp E d j (t, L, st, h) Q) : zwp E d j (pc, L, st, h) Q := zwp_to hi fun n e => by
  subst e; subst ht
  exact K
theorem zr_table {y : Int32} {df lo hi' : Int} {offs : Array Int} {t : Nat} (hi : zat j pc (.tableswitch df lo hi' offs) pc' x) (ht : ztg pc df = t) (Kd : (y.toInt < lo ∨ hi' < y.toInt) → zwp E d j (t, L, st, h) Q)
    (Ki : ¬ (y.toInt < lo ∨ hi' < y.toInt) → match offs[(y.toInt - lo).toNat]? with | some off => zwp E d j (ztg pc off, L, st, h) Q | none => False) : zwp E d j (pc, L, .int y :: st, h) Q := zwp_to hi fun n e => by
  subst e; subst ht
  show zbr (decide (y.toInt < lo) || decide (hi' < y.toInt)) _ _
  by_cases hc : y.toInt < lo ∨ hi' < y.toInt
  · rw [show (decide (y.toInt < lo) || decide (hi' < y.toInt)) = true by simpa using hc]
    exact Kd hc
  · rw [show (decide (y.toInt < lo) || decide (hi' < y.toInt)) = false by simpa using hc]
    have hk := Ki hc
    show (match offs[(y.toInt - lo).toNat]? with | some off => _ | none => _)
    split <;> rename_i ho <;> rw [ho] at hk <;> exact hk
theorem zr_getfield {k t q f g a : Nat} {v0 w : Value} {vs : List Value} (hi : zat j pc (.getfield k) pc' (t, q, f, g, v0)) (hc : h.1 a = some (t, vs)) (hw : vs[q]? = some w) (K : zwp E d j (pc', L, w :: st, h) Q) : zwp E d j (pc, L, .ref a :: st, h) Q := zwp_to hi fun n e => by
  subst e
  dsimp only [zact]
  show zob False h (.ref a) t _
  unfold zob
  dsimp only
  rw [hc]
  dsimp only
  rw [show Nat.beq t t = true from Nat.beq_refl t]
  show zix False vs q _
  unfold zix
  rw [hw]
  exact K
theorem zr_putfield {k t q f g a : Nat} {v0 w : Value} {vs vs' : List Value} (hi : zat j pc (.putfield k) pc' (t, q, f, g, v0)) (hc : h.1 a = some (t, vs)) (hf : zfit f w = true) (hv : vs.set q w = vs') (K : zwp E d j (pc', L, st, zset h a (t, vs')) Q) : zwp E d j (pc, L, w :: .ref a :: st, h) Q := zwp_to hi fun n e => by
  subst e; subst hv
  dsimp only [zact]
  show zob False h (.ref a) t _
  unfold zob
  dsimp only
  rw [hc]
  dsimp only
  rw [show Nat.beq t t = true from Nat.beq_refl t]
  show zif False (zfit f w) _
  rw [hf]
  exact K
theorem zr_putfield' {k t q f g a : Nat} {v0 w : Value} {vs vs' : List Value} (hi : zat j pc (.putfield k) pc' (t, q, f, g, v0)) (hf : zfit f w = true) (hv : vs.set q w = vs') (K : zwp E d j (pc', L, st, zset h a (t, vs')) Q) : zwp E d j (pc, L, w :: .ref a :: st, zset h a (t, vs)) Q :=
  zr_putfield hi zset_at hf hv (by rw [zset_set]; exact K)
theorem zr_getstatic {k i q f g : Nat} {v0 w : Value} (hi : zat j pc (.getstatic k) pc' (i, q, f, g, v0)) (hb : Nat.blt i zsts.length = true) (hw : E.1 i = w) (K : zwp E d j (pc', L, w :: st, h) Q) : zwp E d j (pc, L, st, h) Q := zwp_to hi fun n e => by
  subst e; subst hw
  show zif False (Nat.blt i zsts.length) _
  rw [hb]
  exact K
theorem zr_new {k t n a1 a2 : Nat} {a3 : Value} {dd : List Value} (hi : zat j pc (.new k) pc' (t, n, a1, a2, a3)) (ht : Nat.blt t 64 = true) (hd : zdf[t]? = some dd) (K : zwp E d j (pc', L, .ref h.2.1 :: st, zalloc h (t, dd) n) Q) : zwp E d j (pc, L, st, h) Q := zwp_to hi fun m e => by
  subst e
  show (match Nat.blt t 64 with | true => _ | false => _)
  rw [ht]
  show (match zdf[t]? with | some d => _ | none => _)
  rw [hd]
  exact K
theorem zr_throw {k n a1 a2 : Nat} {a3 : Value} {b : Nat} (hi : zat j pc (.new k) pc' (b, n, a1, a2, a3)) (ht : Nat.blt b 64 = false) (hb : Nat.ble 1000 b = true) (hs : Nat.ble (zwt st) 8 = true) (K : Q (.inr (b - 1000)) (zex h)) : zwp E d j (pc, L, st, h) Q := zwp_to hi fun m e => by
  subst e
  show (match Nat.blt b 64 with | true => _ | false => _)
  rw [ht]
  show zif False (Nat.ble 1000 b) (zif False (Nat.ble (zwt st) 8) _)
  rw [hb, hs]
  exact K
theorem zr_newarray {at' : ArrayType} {t n a1 a2 : Nat} {a3 : Value} {y : Int32} (hi : zat j pc (.newarray at') pc' (t, n, a1, a2, a3)) (hy : ¬ y < 0) (hl : y.toNatClampNeg ≤ 1000000) (ht : Nat.blt t 66 = true) (K : zwp E d j (pc', L, .ref h.2.1 :: st, zalloc h (t, zis (List.replicate y.toNatClampNeg 0)) y.toNatClampNeg) Q) : zwp E d j (pc, L, .int y :: st, h) Q := zwp_to hi fun m e => by
  subst e
  show (if y < 0 then _ else zif False (Nat.ble y.toNatClampNeg 1000000) (zif False (Nat.blt t 66) _))
  rw [if_neg hy, show Nat.ble y.toNatClampNeg 1000000 = true from Nat.ble_eq_true_of_le hl, ht]
  rw [zis_rep]
  exact K
theorem zr_anewarray {k t n a1 a2 : Nat} {a3 : Value} {y : Int32} (hi : zat j pc (.anewarray k) pc' (t, n, a1, a2, a3)) (hy : ¬ y < 0) (hl : y.toNatClampNeg ≤ 1000000) (K : zwp E d j (pc', L, .ref h.2.1 :: st, zalloc h (t, List.replicate y.toNatClampNeg .null) y.toNatClampNeg) Q) : zwp E d j (pc, L, .int y :: st, h) Q := zwp_to hi fun m e => by
  subst e
  show (if y < 0 then _ else zif False (Nat.ble y.toNatClampNeg 1000000) _)
  rw [if_neg hy, show Nat.ble y.toNatClampNeg 1000000 = true from Nat.ble_eq_true_of_le hl]
  exact K
theorem zr_mul2 {k dd n a1 a2 : Nat} {a3 : Value} {y z : Int32} (hi : zat j pc (.multianewarray k dd) pc' (2, n, a1, a2, a3)) (hy : ¬ y < 0) (hz : ¬ z < 0) (ly : y.toNatClampNeg ≤ 1000) (lz : z.toNatClampNeg ≤ 1000) (K : zwp E d j (pc', L, .ref h.2.1 :: st, zalloc2 h z.toNatClampNeg y.toNatClampNeg) Q) : zwp E d j (pc, L, .int y :: .int z :: st, h) Q := zwp_to hi fun m e => by
  subst e
  show (if y < 0 then _ else if z < 0 then _ else zif False (Nat.ble y.toNatClampNeg 1000) (zif False (Nat.ble z.toNatClampNeg 1000) _))
  rw [if_neg hy, if_neg hz, show Nat.ble y.toNatClampNeg 1000 = true from Nat.ble_eq_true_of_le ly, show Nat.ble z.toNatClampNeg 1000 = true from Nat.ble_eq_true_of_le lz]
  exact K
theorem zr_mul3 {k dd n a1 a2 : Nat} {a3 : Value} {q y z : Int32} (hi : zat j pc (.multianewarray k dd) pc' (3, n, a1, a2, a3)) (hq : ¬ q < 0) (hy : ¬ y < 0) (hz : ¬ z < 0) (lq : q.toNatClampNeg ≤ 1000) (ly : y.toNatClampNeg ≤ 1000) (lz : z.toNatClampNeg ≤ 1000) (K : zwp E d j (pc', L, .ref h.2.1 :: st, zalloc3 h z.toNatClampNeg y.toNatClampNeg q.toNatClampNeg) Q) : zwp E d j (pc, L, .int q :: .int y :: .int z :: st, h) Q := zwp_to hi fun m e => by
  subst e
  show (if q < 0 then _ else if y < 0 then _ else if z < 0 then _ else zif False (Nat.ble q.toNatClampNeg 1000) (zif False (Nat.ble y.toNatClampNeg 1000) (zif False (Nat.ble z.toNatClampNeg 1000) _)))
  rw [if_neg hq, if_neg hy, if_neg hz, show Nat.ble q.toNatClampNeg 1000 = true from Nat.ble_eq_true_of_le lq, show Nat.ble y.toNatClampNeg 1000 = true from Nat.ble_eq_true_of_le ly, show Nat.ble z.toNatClampNeg 1000 = true from Nat.ble_eq_true_of_le lz]
  exact K
theorem zan_go {h : zPH} {a t : Nat} {vs : List Value} {F : Nat → Nat → List Value → Prop} (hc : h.1 a = some (t, vs)) (K : F a t vs) : zan False h (.ref a) F := by
  unfold zan
  dsimp only
  rw [hc]
  exact K
theorem zob_go {h : zPH} {a t : Nat} {vs : List Value} {F : Nat → List Value → Prop} (hc : h.1 a = some (t, vs)) (K : F a vs) : zob False h (.ref a) t F := by
  unfold zob
  dsimp only
  rw [hc]
  dsimp only
  rw [show Nat.beq t t = true from Nat.beq_refl t]
  exact K
theorem zel_go {vs : List Value} {i : Int32} {w : Value} {F : Nat → Value → Prop} (hi : ¬ i < 0) (hw : vs[i.toNatClampNeg]? = some w) (K : F i.toNatClampNeg w) : zel False vs i F := by
  unfold zel
  rw [if_neg hi, hw]
  exact K
theorem zif_go {b : Bool} {X : Prop} (hb : b = true) (K : X) : zif False b X := by rw [hb]; exact K
theorem zr_arraylength {a t : Nat} {vs : List Value} {v : Int32} (hi : zat j pc .arraylength pc' x) (hc : h.1 a = some (t, vs)) (ht : Nat.ble 64 t = true) (hv : Int32.ofNat vs.length = v) (K : zwp E d j (pc', L, .int v :: st, h) Q) : zwp E d j (pc, L, .ref a :: st, h) Q := zwp_to hi fun m e => by
  subst e; subst hv
  dsimp only [zact]
  refine zan_go hc ?_
  refine zif_go ht ?_
  exact K
theorem zr_iaload {a t : Nat} {l : List Int32} {i : Int32} (hi : zat j pc .iaload pc' x) (hc : h.1 a = some (t, zis l)) (ht : (Nat.beq t 64 || Nat.beq t 96) = true) (hb : ¬ i < 0 ∧ i.toNatClampNeg < l.length) (K : zwp E d j (pc', L, .int (l.getD i.toNatClampNeg 0) :: st, h) Q) : zwp E d j (pc, L, .int i :: .ref a :: st, h) Q := zwp_to hi fun m e => by
  subst e
  dsimp only [zact]
  refine zan_go hc ?_
  refine zif_go ht ?_
  refine zel_go hb.1 (zis_at hb.2) ?_
  exact K
theorem zr_baload {a : Nat} {l : List Int32} {i : Int32} (hi : zat j pc .baload pc' x) (hc : h.1 a = some (65, zis l)) (hb : ¬ i < 0 ∧ i.toNatClampNeg < l.length) (K : zwp E d j (pc', L, .int (l.getD i.toNatClampNeg 0) :: st, h) Q) : zwp E d j (pc, L, .int i :: .ref a :: st, h) Q := zwp_to hi fun m e => by
  subst e
  dsimp only [zact]
  refine zan_go hc ?_
  refine zif_go rfl ?_
  refine zel_go hb.1 (zis_at hb.2) ?_
  exact K
theorem zr_aaload {a t : Nat} {vs : List Value} {w : Value} {i : Int32} (hi : zat j pc .aaload pc' x) (hc : h.1 a = some (t, vs)) (ht : (Nat.ble 66 t && Nat.ble t 69) = true) (hb : ¬ i < 0 ∧ vs[i.toNatClampNeg]? = some w) (K : zwp E d j (pc', L, w :: st, h) Q) : zwp E d j (pc, L, .int i :: .ref a :: st, h) Q := zwp_to hi fun m e => by
  subst e
  dsimp only [zact]
  refine zan_go hc ?_
  refine zif_go ht ?_
  refine zel_go hb.1 hb.2 ?_
  exact K
theorem zr_iastore {a : Nat} {l l' : List Int32} {i v : Int32} (hi : zat j pc .iastore pc' x) (hc : h.1 a = some (64, zis l)) (hb : ¬ i < 0 ∧ i.toNatClampNeg < l.length) (hl : l.set i.toNatClampNeg v = l') (K : zwp E d j (pc', L, st, zset h a (64, zis l')) Q) : zwp E d j (pc, L, .int v :: .int i :: .ref a :: st, h) Q := zwp_to hi fun m e => by
  subst e; subst hl
  dsimp only [zact]
  refine zob_go hc ?_
  refine zel_go hb.1 (zis_at hb.2) ?_
  exact by rw [zis_set]; exact K
theorem zr_iastore' {a : Nat} {l l' : List Int32} {i v : Int32} (hi : zat j pc .iastore pc' x) (hb : ¬ i < 0 ∧ i.toNatClampNeg < l.length) (hl : l.set i.toNatClampNeg v = l') (K : zwp E d j (pc', L, st, zset h a (64, zis l')) Q) : zwp E d j (pc, L, .int v :: .int i :: .ref a :: st, zset h a (64, zis l)) Q :=
  zr_iastore hi zset_at hb hl (by rw [zset_set]; exact K)
theorem zr_bastore {a : Nat} {l l' : List Int32} {i v : Int32} (hi : zat j pc .bastore pc' x) (hc : h.1 a = some (65, zis l)) (hb : ¬ i < 0 ∧ i.toNatClampNeg < l.length) (hl : l.set i.toNatClampNeg v.toInt8.toInt32 = l') (K : zwp E d j (pc', L, st, zset h a (65, zis l')) Q) : zwp E d j (pc, L, .int v :: .int i :: .ref a :: st, h) Q := zwp_to hi fun m e => by
  subst e; subst hl
  dsimp only [zact]
  refine zob_go hc ?_
  refine zel_go hb.1 (zis_at hb.2) ?_
  exact by rw [zis_set]; exact K
theorem zr_aastore {a b t tb : Nat} {vs vs' ws : List Value} {w : Value} {i : Int32} (hi : zat j pc .aastore pc' x) (hc : h.1 a = some (t, vs)) (hcb : h.1 b = some (tb, ws)) (ht : zasg t tb = true) (hb : ¬ i < 0 ∧ vs[i.toNatClampNeg]? = some w) (hl : vs.set i.toNatClampNeg (.ref b) = vs') (K : zwp E d j (pc', L, st, zset h a (t, vs')) Q) : zwp E d j (pc, L, .ref b :: .int i :: .ref a :: st, h) Q := zwp_to hi fun m e => by
  subst e; subst hl
  dsimp only [zact]
  refine zan_go hc ?_
  refine zan_go hcb ?_
  refine zif_go ht ?_
  refine zel_go hb.1 hb.2 ?_
  exact K
theorem zr_aastore_N {a t : Nat} {vs vs' : List Value} {w : Value} {i : Int32} (hi : zat j pc .aastore pc' x) (hc : h.1 a = some (t, vs)) (ht : (Nat.beq t 68 || Nat.beq t 69) = true) (hb : ¬ i < 0 ∧ vs[i.toNatClampNeg]? = some w) (hl : vs.set i.toNatClampNeg .null = vs') (K : zwp E d j (pc', L, st, zset h a (t, vs')) Q) : zwp E d j (pc, L, .null :: .int i :: .ref a :: st, h) Q := zwp_to hi fun m e => by
  subst e; subst hl
  dsimp only [zact]
  refine zan_go hc ?_
  refine zif_go ht ?_
  refine zel_go hb.1 hb.2 ?_
  exact K
theorem zr_checkcast {k t q f g a : Nat} {v0 : Value} {vs : List Value} (hi : zat j pc (.checkcast k) pc' (t, q, f, g, v0)) (hc : h.1 a = some (t, vs)) (ht : Nat.blt t 64 = true) (K : zwp E d j (pc', L, .ref a :: st, h) Q) : zwp E d j (pc, L, .ref a :: st, h) Q := zwp_to hi fun m e => by
  subst e
  dsimp only [zact]
  refine zob_go hc ?_
  refine zif_go ht ?_
  exact K
/-! ### returns -/
theorem zr_ireturn {y : Int32} (hi : zat j pc .ireturn pc' x) (hr : zrt j = some .int) (K : Q (.inl (some (.int y))) h) : zwp E d j (pc, L, [.int y], h) Q := zwp_to hi fun n e => by
  show (match zrt j with | some .int => _ | some .boolean => _ | some .byte => _ | some .char => _ | _ => _)
  rw [hr]
  exact K
theorem zr_zreturn {y : Int32} (hi : zat j pc .ireturn pc' x) (hr : zrt j = some .boolean) (hy : y = 0 ∨ y = 1) (K : Q (.inl (some (.int y))) h) : zwp E d j (pc, L, [.int y], h) Q := zwp_to hi fun n e => by
  show (match zrt j with | some .int => _ | some .boolean => _ | some .byte => _ | some .char => _ | _ => _)
  rw [hr]
  show (if y = 0 then _ else if y = 1 then _ else _)
  rcases hy with rfl | rfl
  · rw [if_pos rfl]; exact K
  · rw [if_neg (by decide), if_pos rfl]; exact K
theorem zr_breturn {y : Int32} (hi : zat j pc .ireturn pc' x) (hr : zrt j = some .byte) (hy : y.toInt8.toInt32 = y) (K : Q (.inl (some (.int y))) h) : zwp E d j (pc, L, [.int y], h) Q := zwp_to hi fun n e => by
  show (match zrt j with | some .int => _ | some .boolean => _ | some .byte => _ | some .char => _ | _ => _)
  rw [hr]
  dsimp only [zact]
  refine zif_go (beq_iff_eq.mpr hy) ?_
  exact K
theorem zr_creturn {y : Int32} (hi : zat j pc .ireturn pc' x) (hr : zrt j = some .char) (hy : (y.toUInt32 % 65536).toInt32 = y) (K : Q (.inl (some (.int y))) h) : zwp E d j (pc, L, [.int y], h) Q := zwp_to hi fun n e => by
  show (match zrt j with | some .int => _ | some .boolean => _ | some .byte => _ | some .char => _ | _ => _)
  rw [hr]
  dsimp only [zact]
  refine zif_go (beq_iff_eq.mpr hy) ?_
  exact K
theorem zr_lreturn {y : Int64} (hi : zat j pc .lreturn pc' x) (hr : zrt j = some .long) (K : Q (.inl (some (.long y))) h) : zwp E d j (pc, L, [.long y], h) Q := zwp_to hi fun n e => by
  show (match zrt j with | some .long => _ | _ => _)
  rw [hr]
  exact K
theorem zr_dreturn {y : UInt64} (hi : zat j pc .dreturn pc' x) (hr : zrt j = some .double) (K : Q (.inl (some (.double y))) h) : zwp E d j (pc, L, [.double y], h) Q := zwp_to hi fun n e => by
  show (match zrt j with | some .double => _ | _ => _)
  rw [hr]
  exact K
theorem zr_freturn {y : UInt32} (hi : zat j pc .freturn pc' x) (hr : zrt j = some .float) (K : Q (.inl (some (.float y))) h) : zwp E d j (pc, L, [.float y], h) Q := zwp_to hi fun n e => by
  show (match zrt j with | some .float => _ | _ => _)
  rw [hr]
  exact K
theorem zr_areturn {a : Nat} (hi : zat j pc .areturn pc' x) (hr : (match zrt j with | some (.object _) => true | some (.array _) => true | _ => false) = true) (K : Q (.inl (some (.ref a))) h) : zwp E d j (pc, L, [.ref a], h) Q := zwp_to hi fun n e => by
  show (match zrt j with | some (.object _) => _ | some (.array _) => _ | _ => _)
  split at hr
  · first | exact K | (rename_i h1; rw [h1]; exact K)
  · first | exact K | (rename_i h1; rw [h1]; exact K)
  · cases hr
theorem zr_areturn_N (hi : zat j pc .areturn pc' x) (hr : (match zrt j with | some (.object _) => true | some (.array _) => true | _ => false) = true) (K : Q (.inl (some .null)) h) : zwp E d j (pc, L, [.null], h) Q := zwp_to hi fun n e => by
  show (match zrt j with | some (.object _) => _ | some (.array _) => _ | _ => _)
  split at hr
  · first | exact K | (rename_i h1; rw [h1]; exact K)
  · first | exact K | (rename_i h1; rw [h1]; exact K)
  · cases hr
theorem zr_return (hi : zat j pc .return_ pc' x) (hr : zrt j = none) (K : Q (.inl none) h) : zwp E d j (pc, L, [], h) Q := zwp_to hi fun n e => by
  show (match zrt j with | none => _ | _ => _)
  rw [hr]
  exact K
/-! ### calls -/
theorem zwc_go {n j' : Nat} {as : List Value} (e : pc + n = pc') (hl : Nat.ble (zargs as).length (zml j') = true) (K : zcall E d j' as h (zbk E (d + 1) j pc pc' L r Q)) : zwc E (d + 1) j pc n L h Q j' as r := by
  subst e
  show zif False (Nat.ble (zargs as).length (zml j')) _
  rw [hl]
  refine zwp_mono K fun o h' ho => ?_
  rcases o with v | e
  · exact ho
  · exact ho
theorem zr_static {k kd j' nn a3 : Nat} {a4 : Value} {as : List Value} (hi : zat j pc (.invokestatic k) pc' (kd, j', nn, a3, a4)) (hk : (Nat.beq kd 3 || (Nat.beq kd 4 || Nat.beq kd 9)) = true) (hs : zsp nn [] st = some (as, r)) (hw : Nat.ble (zwt r) 8 = true) (hl : Nat.ble (zargs as).length (zml j') = true) (K : zcall E d j' as h (zbk E (d + 1) j pc pc' L r Q)) : zwp E (d + 1) j (pc, L, st, h) Q := zwp_to hi fun n e => by
  have h3 : kd = 3 ∨ kd = 4 ∨ kd = 9 := by
    rcases Bool.or_eq_true_iff.mp hk with h | h
    · exact Or.inl (znq h)
    · rcases Bool.or_eq_true_iff.mp h with h | h
      · exact Or.inr (Or.inl (znq h))
      · exact Or.inr (Or.inr (znq h))
  have key : zif False (Nat.beq kd 3 || (Nat.beq kd 4 || Nat.beq kd 9)) (match zsp nn [] st with | some (as, r) => zif False (Nat.ble (zwt r) 8) (zwc E (d + 1) j pc n L h Q j' as r) | none => False) := by
    rw [hk, hs]
    refine zif_go rfl ?_
    refine zif_go hw ?_
    exact zwc_go e hl K
  rcases h3 with rfl | rfl | rfl <;> exact key
theorem zr_special {k kd j' nn a3 b : Nat} {a4 : Value} {as : List Value} (hi : zat j pc (.invokespecial k) pc' (kd, j', nn, a3, a4)) (hk : (Nat.beq kd 5 || Nat.beq kd 6) = true) (hs : zsp nn [] st = some (as, .ref b :: r)) (hw : Nat.ble (zwt r) 8 = true) (hl : Nat.ble (zargs (.ref b :: as)).length (zml j') = true) (K : zcall E d j' (.ref b :: as) h (zbk E (d + 1) j pc pc' L r Q)) : zwp E (d + 1) j (pc, L, st, h) Q := zwp_to hi fun n e => by
  have h3 : kd = 5 ∨ kd = 6 := (Bool.or_eq_true_iff.mp hk).imp znq znq
  have key : zif False (Nat.beq kd 5 || Nat.beq kd 6) (match zsp nn [] st with | some (as, .ref b :: r) => zif False (Nat.ble (zwt r) 8) (zwc E (d + 1) j pc n L h Q j' (.ref b :: as) r) | _ => False) := by
    rw [hk, hs]
    refine zif_go rfl ?_
    refine zif_go hw ?_
    exact zwc_go e hl K
  rcases h3 with rfl | rfl <;> exact key
theorem zr_super {k j' nn t b : Nat} {a4 : Value} {as vs : List Value} (hi : zat j pc (.invokespecial k) pc' (7, j', nn, t, a4)) (hs : zsp nn [] st = some (as, .ref b :: r)) (hc : h.1 b = some (t, vs)) (hw : Nat.ble (zwt r) 8 = true) (hl : Nat.ble (zargs (.ref b :: as)).length (zml j') = true) (K : zcall E d j' (.ref b :: as) h (zbk E (d + 1) j pc pc' L r Q)) : zwp E (d + 1) j (pc, L, st, h) Q := zwp_to hi fun n e => by
  show (match zsp nn [] st with | some (as, v :: r) => zob False h v t fun b _ => zif False (Nat.ble (zwt r) 8) (zwc E (d + 1) j pc n L h Q j' (.ref b :: as) r) | _ => False)
  rw [hs]
  dsimp only [zact]
  refine zob_go hc ?_
  refine zif_go hw ?_
  exact zwc_go e hl K
theorem zr_virtual {k kd j' nn t b : Nat} {a4 : Value} {as vs : List Value} (hi : zat j pc (.invokevirtual k) pc' (kd, j', nn, t, a4)) (hk : (Nat.beq kd 0 || Nat.beq kd 2) = true) (hs : zsp nn [] st = some (as, .ref b :: r)) (hc : h.1 b = some (t, vs)) (hw : Nat.ble (zwt r) 8 = true) (hl : Nat.ble (zargs (.ref b :: as)).length (zml j') = true) (K : zcall E d j' (.ref b :: as) h (zbk E (d + 1) j pc pc' L r Q)) : zwp E (d + 1) j (pc, L, st, h) Q := zwp_to hi fun n e => by
  show zif False (Nat.beq kd 0 || Nat.beq kd 2) (match zsp nn [] st with | some (as, v :: r) => zob False h v t fun b _ => zif False (Nat.ble (zwt r) 8) (zwc E (d + 1) j pc n L h Q j' (.ref b :: as) r) | _ => False)
  rw [hk, hs]
  refine zif_go rfl ?_
  refine zob_go hc ?_
  refine zif_go hw ?_
  exact zwc_go e hl K
theorem zr_iface {k kc j' nn t b : Nat} {a4 : Value} {as vs : List Value} (hi : zat j pc (.invokeinterface k kc) pc' (8, j', nn, t, a4)) (hs : zsp nn [] st = some (as, .ref b :: r)) (hc : h.1 b = some (t, vs)) (hw : Nat.ble (zwt r) 8 = true) (hl : Nat.ble (zargs (.ref b :: as)).length (zml j') = true) (K : zcall E d j' (.ref b :: as) h (zbk E (d + 1) j pc pc' L r Q)) : zwp E (d + 1) j (pc, L, st, h) Q := zwp_to hi fun n e => by
  show zif False (Nat.beq 8 8) (match zsp nn [] st with | some (as, v :: r) => zob False h v t fun b _ => zif False (Nat.ble (zwt r) 8) (zwc E (d + 1) j pc n L h Q j' (.ref b :: as) r) | _ => False)
  rw [hs]
  dsimp only [zact]
  refine zif_go rfl ?_
  refine zob_go hc ?_
  refine zif_go hw ?_
  exact zwc_go e hl K
theorem zr_obj {k nn t a : Nat} {a3 : Nat} {a4 : Value} (hi : zat j pc (.invokespecial k) pc' (20, nn, t, a3, a4)) (hw : Nat.ble (zwt st) 8 = true) (K : zwp E d j (pc', L, st, h) Q) : zwp E d j (pc, L, .ref a :: st, h) Q := zwp_to hi fun n e => by
  subst e
  dsimp only [zact]
  refine zif_go hw ?_
  exact K
/-- int arrays copied -/
def zcpi (f g : List Int32) (sp dp n : Nat) : List Int32 := g.take dp ++ ((f.drop sp).take n ++ g.drop (dp + n))
theorem zcpy_is (f g : List Int32) (sp dp n : Nat) : zcpy (zis f) (zis g) sp dp n = zis (zcpi f g sp dp n) := by
  unfold zcpy zcpi zis
  simp [List.map_take, List.map_drop]
theorem zfit0_is (l : List Int32) (sp n : Nat) : (((zis l).drop sp).take n).all (zfit 0) = true := by
  rw [List.all_eq_true]
  intro v hv
  have h1 : v ∈ zis l := List.mem_of_mem_drop (List.mem_of_mem_take hv)
  obtain ⟨y, -, rfl⟩ := List.mem_map.mp h1
  rfl
theorem zr_copy {k nn t a3 a b : Nat} {a4 : Value} {f g : List Int32} {sp dp q : Int32} (hi : zat j pc (.invokestatic k) pc' (21, nn, t, a3, a4)) (ha : h.1 a = some (64, zis f)) (hb : h.1 b = some (64, zis g)) (hq : ¬ q < 0) (hdp : ¬ dp < 0) (hsp : ¬ sp < 0) (h1 : sp.toNatClampNeg + q.toNatClampNeg ≤ f.length) (h2 : dp.toNatClampNeg + q.toNatClampNeg ≤ g.length) (hw : Nat.ble (zwt st) 8 = true)
    (K : zwp E d j (pc', L, st, zset h b (64, zis (zcpi f g sp.toNatClampNeg dp.toNatClampNeg q.toNatClampNeg))) Q) : zwp E d j (pc, L, .int q :: .int dp :: .ref b :: .int sp :: .ref a :: st, h) Q := zwp_to hi fun n e => by
  subst e
  show zan False h (.ref a) fun _ tv f => zan False h (.ref b) fun b tw g => zif False (Nat.beq tv tw && (Nat.beq tw 64 || Nat.beq tw 65)) (if q < 0 then False else if dp < 0 then False else if sp < 0 then False else zif False (Nat.ble (sp.toNatClampNeg + q.toNatClampNeg) f.length) (zif False (Nat.ble (dp.toNatClampNeg + q.toNatClampNeg) g.length) (zif False (((f.drop sp.toNatClampNeg).take q.toNatClampNeg).all (zfit (zcpf tw))) (zif False (Nat.ble (zwt st) 8) (zwp E d j (pc + n, L, st, zset h b (tw, zcpy f g sp.toNatClampNeg dp.toNatClampNeg q.toNatClampNeg)) Q)))))
  refine zan_go ha (zan_go hb (zif_go rfl ?_))
  rw [if_neg hq, if_neg hdp, if_neg hsp]
  refine zif_go (by rw [zis_len]; exact Nat.ble_eq_true_of_le h1) (zif_go (by rw [zis_len]; exact Nat.ble_eq_true_of_le h2) (zif_go (zfit0_is _ _ _) (zif_go hw ?_)))
  rw [zcpy_is]
  exact K
/-- byte arrays copied; what is copied is bytes -/
theorem zr_copyb {k nn t a3 a b : Nat} {a4 : Value} {f g : List Int32} {sp dp q : Int32} (hi : zat j pc (.invokestatic k) pc' (21, nn, t, a3, a4)) (ha : h.1 a = some (65, zis f)) (hb : h.1 b = some (65, zis g)) (hf : ∀ y ∈ f, y.toInt8.toInt32 = y) (hq : ¬ q < 0) (hdp : ¬ dp < 0) (hsp : ¬ sp < 0) (h1 : sp.toNatClampNeg + q.toNatClampNeg ≤ f.length) (h2 : dp.toNatClampNeg + q.toNatClampNeg ≤ g.length) (hw : Nat.ble (zwt st) 8 = true)
    (K : zwp E d j (pc', L, st, zset h b (65, zis (zcpi f g sp.toNatClampNeg dp.toNatClampNeg q.toNatClampNeg))) Q) : zwp E d j (pc, L, .int q :: .int dp :: .ref b :: .int sp :: .ref a :: st, h) Q := zwp_to hi fun n e => by
  subst e
  show zan False h (.ref a) fun _ tv f => zan False h (.ref b) fun b tw g => zif False (Nat.beq tv tw && (Nat.beq tw 64 || Nat.beq tw 65)) (if q < 0 then False else if dp < 0 then False else if sp < 0 then False else zif False (Nat.ble (sp.toNatClampNeg + q.toNatClampNeg) f.length) (zif False (Nat.ble (dp.toNatClampNeg + q.toNatClampNeg) g.length) (zif False (((f.drop sp.toNatClampNeg).take q.toNatClampNeg).all (zfit (zcpf tw))) (zif False (Nat.ble (zwt st) 8) (zwp E d j (pc + n, L, st, zset h b (tw, zcpy f g sp.toNatClampNeg dp.toNatClampNeg q.toNatClampNeg)) Q)))))
  refine zan_go ha (zan_go hb (zif_go rfl ?_))
  rw [if_neg hq, if_neg hdp, if_neg hsp]
  refine zif_go (by rw [zis_len]; exact Nat.ble_eq_true_of_le h1) (zif_go (by rw [zis_len]; exact Nat.ble_eq_true_of_le h2) (zif_go ?_ (zif_go hw ?_)))
  · rw [List.all_eq_true]
    intro v hv
    have h9 : v ∈ zis f := List.mem_of_mem_drop (List.mem_of_mem_take hv)
    obtain ⟨y, hy, rfl⟩ := List.mem_map.mp h9
    exact beq_iff_eq.mpr (hf y hy)
  · rw [zcpy_is]
    exact K
theorem zr_fmin {k nn t a3 : Nat} {a4 : Value} {a b : UInt32} (hi : zat j pc (.invokestatic k) pc' (25, nn, t, a3, a4)) (ha : zn32 a = true) (hb : zn32 b = true) (hw : Nat.ble (zwt st) 8 = true) (K : zwp E d j (pc', L, .float (Native.java_lang_Math.nans.pick32 false a b) :: st, h) Q) : zwp E d j (pc, L, .float b :: .float a :: st, h) Q := zwp_to hi fun n e => by
  subst e
  dsimp only [zact]
  refine zif_go ha ?_
  refine zif_go hb ?_
  refine zif_go hw ?_
  exact K
theorem zr_dabs {k nn t a3 : Nat} {a4 : Value} {a : UInt64} (hi : zat j pc (.invokestatic k) pc' (26, nn, t, a3, a4)) (ha : zn64 a = true) (hw : Nat.ble (zwt st) 8 = true) (K : zwp E d j (pc', L, .double (a &&& 0x7fffffffffffffff) :: st, h) Q) : zwp E d j (pc, L, .double a :: st, h) Q := zwp_to hi fun n e => by
  subst e
  dsimp only [zact]
  refine zif_go ha ?_
  refine zif_go hw ?_
  exact K
end ZR
/-! ### behind a call that threw; more calls may stand open -/
def zhh (j : Nat) : List (Nat × Nat × Nat × Nat) := match zmd j with
  | some r => r.2.2.2.2.2.2
  | none => [(0, 0, 0, 0)]
theorem zthr_no {j pc e : Nat} {L : zLc} {h : zPH} {K : zCfg → Prop} {Q : zOut → zPH → Prop} (hj : zhh j = []) (hQ : Q (.inr e) h) : zthr False j pc e L h K Q := by
  unfold zhh at hj
  unfold zthr
  split at hj
  · rename_i r hr
    rw [hr]
    dsimp only
    rw [hj]
    exact hQ
  · cases hj
theorem zbk_no {E : zEnv} {d j pc pc' e : Nat} {L : zLc} {r : List Value} {h : zPH} {Q : zOut → zPH → Prop} (hj : zhh j = []) (hQ : Q (.inr e) h) : zbk E d j pc pc' L r Q (.inr e) h := by
  show zthr False j pc e L h (fun y => zwp E d j y Q) Q
  exact zthr_no hj hQ
theorem zrun_dep (E : zEnv) : ∀ (n d j : Nat) (y : zCfg) (q : zOut × zPH), zrun E n d j y = some q → zrun E n (d + 1) j y = some q
  | 0, _, _, _, _, hq => by rw [zrun] at hq; cases hq
  | n + 1, d, j, (pc, ls, st, h), q, hq => by
    rw [zrun_eq] at hq ⊢
    cases hi : zins j pc with
    | none => rw [hi] at hq; cases hq
    | some z =>
      obtain ⟨i, len, x⟩ := z
      rw [hi] at hq
      dsimp only at hq ⊢
      cases hf : zfree E (zrt j) i len x pc ls st h with
      | inl u => rw [hf] at hq; cases hq
      | inr f =>
        rw [hf] at hq
        rcases f with y | o | ⟨j', as, r⟩
        · exact zrun_dep E n d j y q hq
        · exact hq
        · show zcr E n (d + 1) j pc len ls h j' as r = some q
          have hq : zcr E n d j pc len ls h j' as r = some q := hq
          unfold zcr at hq ⊢
          cases d with
          | zero => cases hq
          | succ d' =>
            dsimp only at hq ⊢
            cases hbl : Nat.ble (zargs as).length (zml j') with
            | false => rw [hbl] at hq; cases hq
            | true =>
              rw [hbl] at hq
              dsimp only at hq ⊢
              cases hc : zrun E n d' j' (0, zent j' as, [], h) with
              | none => rw [hc] at hq; cases hq
              | some oh =>
                rw [hc] at hq
                rw [zrun_dep E n d' j' _ oh hc]
                obtain ⟨o | e, h'⟩ := oh
                · exact zrun_dep E n (d' + 1) j _ q hq
                · exact zthr_mono (fun y q hy => zrun_dep E n (d' + 1) j y q hy) hq
theorem zwp_dep {E : zEnv} {d d' j : Nat} {y : zCfg} {Q : zOut → zPH → Prop} (hd : d ≤ d') (hw : zwp E d j y Q) : zwp E d' j y Q := by
  induction hd with
  | refl => exact hw
  | step _ ih =>
    obtain ⟨n, q, h1, h2⟩ := ih
    exact ⟨n, q, zrun_dep E n _ j y q h1, h2⟩
theorem zcall_dep {E : zEnv} {d d' j : Nat} {as : List Value} {h : zPH} {Q : zOut → zPH → Prop} (hd : d ≤ d') (hw : zcall E d j as h Q) : zcall E d' j as h Q := zwp_dep hd hw
theorem zcall_mono {E : zEnv} {d j : Nat} {as : List Value} {h : zPH} {Q Q' : zOut → zPH → Prop} (hw : zcall E d j as h Q) (hQ : ∀ o h, Q o h → Q' o h) : zcall E d j as h Q' := zwp_mono hw hQ
/-- from the end of a loop to its start -/
theorem zdown {P : Nat → Prop} {n : Nat} (hn : P n) (hs : ∀ k, k < n → P (k + 1) → P k) : ∀ k, k ≤ n → P k := by
  intro k hk
  induction h : n - k generalizing k with
  | zero => have : k = n := by omega
            rw [this]; exact hn
  | succ m ih => exact hs k (by omega) (ih (k + 1) (by omega) (by omega))
