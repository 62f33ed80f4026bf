/-! ===== texts ===== -/
theorem zJ_shr0 (a : Nat) : zJ a >>> (zJ 0 &&& 31) = zJ a := by
  apply Int32.toBitVec.inj
  show BitVec.sshiftRight' (zJ a).toBitVec ((zJ 0 &&& 31).toBitVec.smod 32) = (zJ a).toBitVec
  have : (zJ 0 &&& 31).toBitVec.smod 32 = 0#32 := by decide
  rw [this]
  simp [BitVec.sshiftRight']
theorem zr_ishr0 {E : zEnv} {d j pc pc' : Nat} {L : zLc} {st : List Value} {h : zPH} {Q : zOut → zPH → Prop} {x : zAux} {a : Nat} (hi : zat j pc (.ishr) pc' x) (K : zwp E d j (pc', L, .int (zJ a) :: st, h) Q) : zwp E d j (pc, L, .int (zJ 0) :: .int (zJ a) :: st, h) Q := zr_ishr hi (by rw [zJ_shr0]; exact K)
theorem zr_ishl0 {E : zEnv} {d j pc pc' : Nat} {L : zLc} {st : List Value} {h : zPH} {Q : zOut → zPH → Prop} {x : zAux} {a : Nat} (hi : zat j pc (.ishl) pc' x) (K : zwp E d j (pc', L, .int (zJ a) :: st, h) Q) : zwp E d j (pc, L, .int (zJ 0) :: .int (zJ a) :: st, h) Q := zr_ishlN hi (by omega) (by rw [Nat.pow_zero, Nat.mul_one]; exact K)
/-- one cell is written -/
theorem zw_c {E : zEnv} {d j pc : Nat} {L : zLc} {st : List Value} {h : zPH} {Q : zOut → zPH → Prop} {N a t : Nat} {vs : List Value} {c : zCel} (hc : h.1 a = some (t, vs)) (ht : t < 96) (hN : N ≤ a) (K : ∀ h1, yFr (fun x => N ≤ x) h h1 0 0 → h1.1 a = some c → (∀ b o, b ≠ a → h.1 b = o → h1.1 b = o) → h1.2 = h.2 → zwp E d j (pc, L, st, h1) Q) : zwp E d j (pc, L, st, zset h a c) Q :=
  K _ (yFr.set hc ht hN) zset_at (fun _ _ hb e => zset_ne hb e) rfl
/-- a new cell -/
theorem zw_n {E : zEnv} {d j pc n : Nat} {L : zLc} {st : List Value} {h : zPH} {Q : zOut → zPH → Prop} {c : zCel} (K : ∀ h1 a, (∀ P, yFr P h h1 1 n) → a = h.2.1 → h1.1 a = some c → (∀ b o, b ≠ a → h.1 b = o → h1.1 b = o) → h1.2.1 = h.2.1 + 1 → zwp E d j (pc, L, .ref a :: st, h1) Q) : zwp E d j (pc, L, .ref h.2.1 :: st, zalloc h c n) Q :=
  K _ _ (fun P => yFr.alloc P h c n) rfl zalloc_at (fun _ _ hb e => zalloc_ne hb e) rfl
/-- a builder: where, its row, the row's signs, how many -/
def ySX (N : Nat) (h : zPH) (s v : Nat) (l : List Int32) (ml : Int32) (n : Nat) : Prop := N ≤ s ∧ N ≤ v ∧ s < h.2.1 ∧ v < h.2.1 ∧ h.1 s = some (5, [.ref v, .int (zJ 0), .int ml, .int (zJ n)]) ∧ h.1 v = some (65, zis l) ∧ n ≤ l.length ∧ (∀ y ∈ l, y.toInt8.toInt32 = y)
theorem zbyte (x : Int32) : x.toInt8.toInt32.toInt8.toInt32 = x.toInt8.toInt32 := by simp
theorem zbytes {l : List Int32} {k : Nat} {x : Int32} (h : ∀ y ∈ l, y.toInt8.toInt32 = y) : ∀ y ∈ l.set k x.toInt8.toInt32, y.toInt8.toInt32 = y := by
  intro y hy
  rcases List.mem_or_eq_of_mem_set hy with q | q
  · exact h y q
  · rw [q]; exact zbyte x
theorem zbytes_cp {f : List Int32} {m sp n : Nat} (h : ∀ y ∈ f, y.toInt8.toInt32 = y) : ∀ y ∈ zcpi f (List.replicate m 0) sp 0 n, y.toInt8.toInt32 = y := by
  intro y hy
  unfold zcpi at hy
  rcases List.mem_append.mp hy with q | q
  · have := List.mem_of_mem_take q
    rw [List.eq_of_mem_replicate this]
    rfl
  · rcases List.mem_append.mp q with q | q
    · exact h y (List.mem_of_mem_drop (List.mem_of_mem_take q))
    · have := List.mem_of_mem_drop q
      rw [List.eq_of_mem_replicate this]
      rfl
theorem c117 {E : zEnv} {h : zPH} {Q : zOut → zPH → Prop} {m n : Nat} (hm : m < 1000) (hn : n < 1000) (K : Q (.inl (some (.int (zJ (max m n))))) h) : zcall E 0 117 [.int (zJ m), .int (zJ n)] h Q := by
  show zwp E _ 117 (0, [some (.int (zJ _)), some (.int (zJ _))], [], _) Q
  refine zr_iload_n zi117_0 rfl ?_
  refine zr_iload_n zi117_1 rfl ?_
  refine zr_icmp_ltN zi117_2 rfl (by omega) (by omega) (fun q2 => ?_) (fun q2 => ?_)
  · rw [Nat.max_eq_right (by omega)] at K
    refine zr_iload_n zi117_9 rfl ?_
    refine zr_ireturn zi117_10 rfl ?_
    exact K
  · rw [Nat.max_eq_left q2] at K
    refine zr_iload_n zi117_5 rfl ?_
    refine zr_goto zi117_6 rfl ?_
    refine zr_ireturn zi117_10 rfl ?_
    exact K
theorem c119 {E : zEnv} {h : zPH} {Q : zOut → zPH → Prop} {m n : Nat} (hm : m < 1000) (hn : n < 1000) (K : Q (.inl (some (.int (zJ (min m n))))) h) : zcall E 0 119 [.int (zJ m), .int (zJ n)] h Q := by
  show zwp E _ 119 (0, [some (.int (zJ _)), some (.int (zJ _))], [], _) Q
  refine zr_iload_n zi119_0 rfl ?_
  refine zr_iload_n zi119_1 rfl ?_
  refine zr_icmp_gtN zi119_2 rfl (by omega) (by omega) (fun q2 => ?_) (fun q2 => ?_)
  · rw [Nat.min_eq_right (by omega)] at K
    refine zr_iload_n zi119_9 rfl ?_
    refine zr_ireturn zi119_10 rfl ?_
    exact K
  · rw [Nat.min_eq_left q2] at K
    refine zr_iload_n zi119_5 rfl ?_
    refine zr_goto zi119_6 rfl ?_
    refine zr_ireturn zi119_10 rfl ?_
    exact K
theorem c116 {E : zEnv} {h : zPH} {Q : zOut → zPH → Prop} {o m p : Nat} (ho : 0 < o ∧ o < 400) (hm : m < 400) (hp : p < 400) (K : Q (.inl (some (.int (zJ (o + max m p))))) h) : zcall E 1 116 [.int (zJ o), .int (zJ m), .int (zJ p)] h Q := by
  show zwp E _ 116 (0, [some (.int (zJ _)), some (.int (zJ _)), some (.int (zJ _)), none], [], _) Q
  have hmx : max m p < 400 := by omega
  refine zr_iload_n zi116_0 rfl ?_
  refine zr_iload_n zi116_1 rfl ?_
  refine zr_iload_n zi116_2 rfl ?_
  refine zr_static zi116_3 rfl rfl rfl rfl ?_
  refine zcall_dep (d := 0) (Nat.le_of_ble_eq_true rfl) (c117 (by omega) (by omega) (zbk_v ?_))
  refine zr_iaddN zi116_6 ?_
  refine zr_istore_n (L' := [some (.int (zJ _)), some (.int (zJ _)), some (.int (zJ _)), some (.int (zJ _))]) zi116_7 rfl rfl ?_
  refine zr_iconst (v := zJ 0) zi116_8 rfl ?_
  refine zr_iload_n zi116_9 rfl ?_
  refine zr_icmp_geN zi116_10 rfl (by omega) (by omega) (fun q10 => absurd q10 (by omega)) (fun q10 => ?_)
  refine zr_iload_n zi116_13 rfl ?_
  refine zr_ldci (v := zJ 2147483639) zi116_14 ?_
  refine zr_icmp_gtN zi116_16 rfl (by omega) (by omega) (fun q16 => absurd q16 (by omega)) (fun q16 => ?_)
  refine zr_iload_n zi116_19 rfl ?_
  refine zr_ireturn zi116_20 rfl ?_
  exact K
theorem zr_bastoreN {E : zEnv} {d j pc pc' : Nat} {L : zLc} {st : List Value} {h : zPH} {Q : zOut → zPH → Prop} {x : zAux} {a : Nat} {l : List Int32} {i : Nat} {v : Int32} (hi : zat j pc .bastore pc' x) (hc : h.1 a = some (65, zis l)) (hj : i < 2147483648) (hb : i < l.length) (K : zwp E d j (pc', L, st, zset h a (65, zis (l.set i v.toInt8.toInt32))) Q) : zwp E d j (pc, L, .int v :: .int (zJ i) :: .ref a :: st, h) Q :=
  zr_bastore hi hc ⟨zJ_nn hj, by rw [zJ_c hj]; exact hb⟩ (by rw [zJ_c hj]) K
theorem zr_copybN {E : zEnv} {d j pc pc' : Nat} {L : zLc} {st : List Value} {h : zPH} {Q : zOut → zPH → Prop} {k nn t a3 a b : Nat} {a4 : Value} {f g : List Int32} {sp dp q : Nat} (hi : zat j pc (.invokestatic k) pc' (21, nn, t, a3, a4)) (ha : h.1 a = some (65, zis f)) (hb : h.1 b = some (65, zis g)) (hf : ∀ y ∈ f, y.toInt8.toInt32 = y) (hs : sp < 2147483648 ∧ dp < 2147483648 ∧ q < 2147483648) (h1 : sp + q ≤ f.length) (h2 : dp + q ≤ g.length) (hw : Nat.ble (zwt st) 8 = true)
    (K : zwp E d j (pc', L, st, zset h b (65, zis (zcpi f g sp dp q))) Q) : zwp E d j (pc, L, .int (zJ q) :: .int (zJ dp) :: .ref b :: .int (zJ sp) :: .ref a :: st, h) Q :=
  zr_copyb hi ha hb hf (zJ_nn hs.2.2) (zJ_nn hs.2.1) (zJ_nn hs.1) (by rw [zJ_c hs.1, zJ_c hs.2.2]; exact h1) (by rw [zJ_c hs.2.1, zJ_c hs.2.2]; exact h2) hw (by rw [zJ_c hs.1, zJ_c hs.2.1, zJ_c hs.2.2]; exact K)
theorem c120 {E : zEnv} {h : zPH} {Q : zOut → zPH → Prop} (S : ySs E h) {N s v n : Nat} {l : List Int32} {ml : Int32} (X : ySX N h s v l ml n) (K : Q (.inl (some (.int (zB true)))) h) : zcall E 0 120 [.ref s] h Q := by
  obtain ⟨xs, xv, xsl, xvl, Xs, Xv, xn, xb⟩ := X
  have Sx := S
  obtain ⟨⟨aSH, eSH, lSH, hSH⟩, ⟨aDK, eDK, lDK, hDK⟩, eCS, ⟨aEL, eEL, lEL, hEL⟩⟩ := Sx
  show zwp E _ 120 (0, [some (.ref _)], [], _) Q
  refine zr_getstatic zi120_0 rfl (show E.1 2 = .int (zJ 1) from eCS) ?_
  refine zr_if_eqN zi120_3 rfl (by omega) (fun q3 => absurd q3 (by omega)) (fun q3 => ?_)
  refine zr_aload_n zi120_6 rfl ?_
  refine zr_getfield zi120_7 Xs rfl ?_
  refine zr_if_neN zi120_10 rfl (by omega) (fun q10 => absurd q10 (by omega)) (fun q10 => ?_)
  refine zr_iconst (v := zB true) zi120_13 rfl ?_
  refine zr_goto zi120_14 rfl ?_
  refine zr_zreturnB zi120_18 rfl ?_
  exact K
theorem c121 {E : zEnv} {h : zPH} {Q : zOut → zPH → Prop} {n : Nat} (hn : n < 256) (K : Q (.inl (some (.int (zB true)))) h) : zcall E 0 121 [.int (zJ n)] h Q := by
  show zwp E _ 121 (0, [some (.int (zJ _))], [], _) Q
  refine zr_iload_n zi121_0 rfl ?_
  refine zr_sipush (v := zJ 255) zi121_1 rfl ?_
  refine zr_icmp_gtN zi121_4 rfl (by omega) (by omega) (fun q4 => absurd q4 (by omega)) (fun q4 => ?_)
  refine zr_iconst (v := zB true) zi121_7 rfl ?_
  refine zr_goto zi121_8 rfl ?_
  refine zr_zreturnB zi121_12 rfl ?_
  exact K
theorem c127 {E : zEnv} {h : zPH} {Q : zOut → zPH → Prop} {N s v n : Nat} {l : List Int32} {ml : Int32} (X : ySX N h s v l ml n) (K : Q (.inl (some (.ref v))) h) : zcall E 0 127 [.ref s] h Q := by
  obtain ⟨xs, xv, xsl, xvl, Xs, Xv, xn, xb⟩ := X
  show zwp E _ 127 (0, [some (.ref _)], [], _) Q
  refine zr_aload_n zi127_0 rfl ?_
  refine zr_getfield zi127_1 Xs rfl ?_
  refine zr_areturn zi127_4 rfl ?_
  exact K
theorem c129 {E : zEnv} {h : zPH} {Q : zOut → zPH → Prop} {N s v n : Nat} {l : List Int32} {ml : Int32} (X : ySX N h s v l ml n) (K : Q (.inl (some (.int (zJ n)))) h) : zcall E 0 129 [.ref s] h Q := by
  obtain ⟨xs, xv, xsl, xvl, Xs, Xv, xn, xb⟩ := X
  show zwp E _ 129 (0, [some (.ref _)], [], _) Q
  refine zr_aload_n zi129_0 rfl ?_
  refine zr_getfield zi129_1 Xs rfl ?_
  refine zr_ireturn zi129_4 rfl ?_
  exact K
theorem c128 {E : zEnv} {h : zPH} {Q : zOut → zPH → Prop} {N s v n : Nat} {l : List Int32} {ml : Int32} (X : ySX N h s v l ml n) (K : Q (.inl (some (.int (zJ n)))) h) : zcall E 1 128 [.ref s] h Q := by
  have X0 := X
  obtain ⟨xs, xv, xsl, xvl, Xs, Xv, xn, xb⟩ := X
  show zwp E _ 128 (0, [some (.ref _)], [], _) Q
  refine zr_aload_n zi128_0 rfl ?_
  refine zr_super zi128_1 rfl Xs rfl rfl ?_
  refine zcall_dep (d := 0) (Nat.le_of_ble_eq_true rfl) (c129 X0 (zbk_v ?_))
  refine zr_ireturn zi128_4 rfl ?_
  exact K
theorem c118 {E : zEnv} {h : zPH} {Q : zOut → zPH → Prop} {N v m : Nat} {l : List Int32} (hN : N ≤ h.2.1) (Xv : h.1 v = some (65, zis l)) (hv : v < h.2.1) (hb : ∀ y ∈ l, y.toInt8.toInt32 = y) (hl : l.length < m) (hm : m < 400) (K : ∀ h1 v1, yFr (fun x => N ≤ x) h h1 1 (m) → N ≤ v1 → v1 = h.2.1 → h1.1 v1 = some (65, zis (zcpi l (List.replicate (m) 0) 0 0 (l.length))) → (∀ b o, b ≠ v1 → h.1 b = o → h1.1 b = o) → h1.2.1 = h.2.1 + 1 → Q (.inl (some (.ref v1))) h1) : zcall E 1 118 [.ref v, .int (zJ m)] h Q := by
  show zwp E _ 118 (0, [some (.ref _), some (.int (zJ _)), none], [], _) Q
  refine zr_iload_n zi118_0 rfl ?_
  refine zr_aload_n zi118_1 rfl ?_
  refine zr_arraylength (v := zJ l.length) zi118_2 Xv rfl (zlenJ rfl) ?_
  refine zr_icmp_neN zi118_3 rfl (by omega) (by omega) (fun q3 => ?_) (fun q3 => absurd q3 (by omega))
  refine zr_iload_n zi118_14 rfl ?_
  refine zr_newarrayN zi118_15 (by omega) rfl ?_
  refine zw_n (fun h15 u F15 ev15 Xu15 N15 n15 => ?_)
  have Xv15 := N15 v _ (by omega) Xv
  refine zr_astore_n (L' := [some (.ref _), some (.int (zJ _)), some (.ref _)]) zi118_17 rfl rfl ?_
  refine zr_aload_n zi118_18 rfl ?_
  refine zr_iconst (v := zJ 0) zi118_19 rfl ?_
  refine zr_aload_n zi118_20 rfl ?_
  refine zr_iconst (v := zJ 0) zi118_21 rfl ?_
  refine zr_aload_n zi118_22 rfl ?_
  refine zr_arraylength (v := zJ l.length) zi118_23 Xv15 rfl (zlenJ rfl) ?_
  refine zr_iload_n zi118_24 rfl ?_
  refine zr_static zi118_25 rfl rfl rfl rfl ?_
  refine zcall_dep (d := 0) (Nat.le_of_ble_eq_true rfl) (c119 (by omega) (by omega) (zbk_v ?_))
  have hq28 : min l.length m = l.length := by omega
  rw [hq28]
  refine zr_copybN (q := l.length) zi118_28 Xv15 Xu15 hb ⟨by omega, by omega, by omega⟩ (by omega) (by rw [List.length_replicate]; omega) rfl ?_
  refine zw_c (N := N) Xu15 (by decide) (by omega) (fun h28 F28 Xu28 N28 d28 => ?_)
  have Xv28 := N28 v _ (by omega) Xv15
  have n28 := congrArg Prod.fst d28
  refine zr_aload_n zi118_31 rfl ?_
  refine zr_areturn zi118_32 rfl ?_
  exact K _ u ((F15 _).trans F28) (by omega) ev15 Xu28 (fun b o q e => N28 b o q (N15 b o q e)) (by omega)
theorem c132 {E : zEnv} {h : zPH} {Q : zOut → zPH → Prop} {m n : Nat} (hm : m ≤ n) (hn : n < 400) (K : Q (.inl none) h) : zcall E 2 132 [.int (zJ m), .int (zJ n)] h Q := by
  show zwp E _ 132 (0, [some (.int (zJ _)), some (.int (zJ _))], [], _) Q
  refine zr_iload_n zi132_0 rfl ?_
  refine zr_iload_n zi132_1 rfl ?_
  refine zr_icmp_geN zi132_2 rfl (by omega) (by omega) (fun q2 => ?_) (fun q2 => absurd q2 (by omega))
  refine zr_return zi132_37 rfl ?_
  exact K
theorem c131 {E : zEnv} {h : zPH} {Q : zOut → zPH → Prop} {N v n : Nat} {l : List Int32} (hN : N ≤ h.2.1) (Xv : h.1 v = some (65, zis l)) (hv : v < h.2.1) (hb : ∀ y ∈ l, y.toInt8.toInt32 = y) (hn : n < l.length) (hl : l.length < 400) (K : ∀ h1 v1, yFr (fun x => N ≤ x) h h1 1 (n) → N ≤ v1 → v1 = h.2.1 → h1.1 v1 = some (65, zis (zcpi l (List.replicate (n) 0) 0 0 (n))) → (∀ b o, b ≠ v1 → h.1 b = o → h1.1 b = o) → h1.2.1 = h.2.1 + 1 → Q (.inl (some (.ref v1))) h1) : zcall E 3 131 [.ref v, .int (zJ 0), .int (zJ n)] h Q := by
  show zwp E _ 131 (0, [some (.ref _), some (.int (zJ _)), some (.int (zJ _)), none, none], [], _) Q
  refine zr_iload_n zi131_0 rfl ?_
  refine zr_iload_n zi131_1 rfl ?_
  refine zr_static zi131_2 rfl rfl rfl rfl ?_
  refine zcall_dep (d := 2) (Nat.le_of_ble_eq_true rfl) (c132 (by omega) (by omega) (zbk_0 ?_))
  refine zr_iload_n zi131_5 rfl ?_
  refine zr_iload_n zi131_6 rfl ?_
  refine zr_isubN zi131_7 (by omega) ?_
  refine zr_istore_n (L' := [some (.ref _), some (.int (zJ _)), some (.int (zJ _)), some (.int (zJ _)), none]) zi131_8 rfl rfl ?_
  refine zr_iload_n zi131_9 rfl ?_
  refine zr_newarrayN zi131_10 (by omega) rfl ?_
  refine zw_n (fun h10 u F10 ev10 Xu10 N10 n10 => ?_)
  have Xv10 := N10 v _ (by omega) Xv
  refine zr_astore (L' := [some (.ref _), some (.int (zJ _)), some (.int (zJ _)), some (.int (zJ _)), some (.ref _)]) zi131_12 rfl rfl ?_
  refine zr_aload_n zi131_14 rfl ?_
  refine zr_iload_n zi131_15 rfl ?_
  refine zr_aload zi131_16 rfl ?_
  refine zr_iconst (v := zJ 0) zi131_18 rfl ?_
  refine zr_aload_n zi131_19 rfl ?_
  refine zr_arraylength (v := zJ l.length) zi131_20 Xv10 rfl (zlenJ rfl) ?_
  refine zr_iload_n zi131_21 rfl ?_
  refine zr_isubN zi131_22 (by omega) ?_
  refine zr_iload_n zi131_23 rfl ?_
  refine zr_static zi131_24 rfl rfl rfl rfl ?_
  refine zcall_dep (d := 0) (Nat.le_of_ble_eq_true rfl) (c119 (by omega) (by omega) (zbk_v ?_))
  have hq27 : min (l.length - 0) (n - 0) = n := by omega
  rw [hq27]
  refine zr_copybN (q := n) zi131_27 Xv10 Xu10 hb ⟨by omega, by omega, by omega⟩ (by omega) (by rw [List.length_replicate]; omega) rfl ?_
  refine zw_c (N := N) Xu10 (by decide) (by omega) (fun h27 F27 Xu27 N27 d27 => ?_)
  have Xv27 := N27 v _ (by omega) Xv10
  have n27 := congrArg Prod.fst d27
  refine zr_aload zi131_30 rfl ?_
  refine zr_areturn zi131_32 rfl ?_
  exact K _ u ((F10 _).trans F27) (by omega) ev10 Xu27 (fun b o q e => N27 b o q (N10 b o q e)) (by omega)
theorem c130 {E : zEnv} {h : zPH} {Q : zOut → zPH → Prop} {N v n : Nat} {l : List Int32} (hN : N ≤ h.2.1) (Xv : h.1 v = some (65, zis l)) (hv : v < h.2.1) (hb : ∀ y ∈ l, y.toInt8.toInt32 = y) (hn : n < l.length) (hl : l.length < 400) (K : ∀ h1 v1, yFr (fun x => N ≤ x) h h1 1 (n) → N ≤ v1 → v1 = h.2.1 → h1.1 v1 = some (65, zis (zcpi l (List.replicate (n) 0) 0 0 (n))) → (∀ b o, b ≠ v1 → h.1 b = o → h1.1 b = o) → h1.2.1 = h.2.1 + 1 → Q (.inl (some (.ref v1))) h1) : zcall E 4 130 [.ref v, .int (zJ 0), .int (zJ n)] h Q := by
  show zwp E _ 130 (0, [some (.ref _), some (.int (zJ _)), some (.int (zJ _))], [], _) Q
  refine zr_iload_n zi130_0 rfl ?_
  refine zr_if_neN zi130_1 rfl (by omega) (fun q1 => absurd q1 (by omega)) (fun q1 => ?_)
  refine zr_iload_n zi130_4 rfl ?_
  refine zr_aload_n zi130_5 rfl ?_
  refine zr_arraylength (v := zJ l.length) zi130_6 Xv rfl (zlenJ rfl) ?_
  refine zr_icmp_eqN zi130_7 rfl (by omega) (by omega) (fun q7 => absurd q7 (by omega)) (fun q7 => ?_)
  refine zr_aload_n zi130_10 rfl ?_
  refine zr_iload_n zi130_11 rfl ?_
  refine zr_iload_n zi130_12 rfl ?_
  refine zr_static zi130_13 rfl rfl rfl rfl ?_
  refine zcall_dep (d := 3) (Nat.le_of_ble_eq_true rfl) (c131 hN Xv hv hb hn hl (fun h13 v13 F13 L13 ev13 X13 N13 n13 => zbk_v ?_))
  refine zr_areturn zi130_16 rfl ?_
  exact K _ _ F13 L13 ev13 X13 N13 n13
theorem zJ_sub_le {a b : Nat} (ha : a < 1000000) (hb : b < 1000000) : (zJ a - zJ b ≤ 0) ↔ a ≤ b := by
  have e : zJ a - zJ b = Int32.ofInt ((a : Int) - b) := by rw [Int32.ofInt_sub, Int32.ofInt_eq_ofNat, Int32.ofInt_eq_ofNat]; rfl
  rw [e, Int32.le_iff_toInt_le, Int32.toInt_ofInt_of_le (by omega) (by omega)]
  show (a : Int) - b ≤ 0 ↔ _
  omega
theorem c115 {E : zEnv} {h : zPH} {Q : zOut → zPH → Prop} {N s v n : Nat} {l : List Int32} {ml : Int32} (X : ySX N h s v l ml n) {m : Nat} (hm : l.length ≤ m) (hm2 : m < 300) (hl0 : 0 < l.length) (K : Q (.inl (some (.int (zJ (l.length + max (m - l.length) (l.length + 2)))))) h) : zcall E 2 115 [.ref s, .int (zJ m)] h Q := by
  obtain ⟨xs, xv, xsl, xvl, Xs, Xv, xn, xb⟩ := X
  show zwp E _ 115 (0, [some (.ref _), some (.int (zJ _)), none, none, none, none], [], _) Q
  refine zr_aload_n zi115_0 rfl ?_
  refine zr_getfield zi115_1 Xs rfl ?_
  refine zr_arraylength (v := zJ l.length) zi115_4 Xv rfl (zlenJ rfl) ?_
  refine zr_istore_n (L' := [some (.ref _), some (.int (zJ _)), some (.int (zJ _)), none, none, none]) zi115_5 rfl rfl ?_
  refine zr_iload_n zi115_6 rfl ?_
  refine zr_aload_n zi115_7 rfl ?_
  refine zr_getfield zi115_8 Xs rfl ?_
  refine zr_ishl0 zi115_11 ?_
  refine zr_istore_n (L' := [some (.ref _), some (.int (zJ _)), some (.int (zJ _)), some (.int (zJ _)), none, none]) zi115_12 rfl rfl ?_
  refine zr_iload_n zi115_13 rfl ?_
  refine zr_iload_n zi115_14 rfl ?_
  refine zr_isubN zi115_15 (by omega) ?_
  refine zr_istore (L' := [some (.ref _), some (.int (zJ _)), some (.int (zJ _)), some (.int (zJ _)), some (.int (zJ _)), none]) zi115_16 rfl rfl ?_
  refine zr_iload_n zi115_18 rfl ?_
  refine zr_iload zi115_19 rfl ?_
  refine zr_iload_n zi115_21 rfl ?_
  refine zr_iconst (v := zJ 2) zi115_22 rfl ?_
  refine zr_aload_n zi115_23 rfl ?_
  refine zr_getfield zi115_24 Xs rfl ?_
  refine zr_ishlN zi115_27 (by omega) ?_
  refine zr_iaddN zi115_28 ?_
  refine zr_static zi115_29 rfl rfl rfl rfl ?_
  refine zcall_dep (d := 1) (Nat.le_of_ble_eq_true rfl) (c116 (by omega) (by omega) (by omega) (zbk_v ?_))
  refine zr_istore (L' := [some (.ref _), some (.int (zJ _)), some (.int (zJ _)), some (.int (zJ _)), some (.int (zJ _)), some (.int (zJ _))]) zi115_32 rfl rfl ?_
  refine zr_iload zi115_34 rfl ?_
  refine zr_ldci (v := zJ 2147483647) zi115_36 ?_
  refine zr_icmp_neN zi115_38 rfl (by omega) (by omega) (fun q38 => ?_) (fun q38 => absurd q38 (by omega))
  refine zr_iload zi115_51 rfl ?_
  refine zr_aload_n zi115_53 rfl ?_
  refine zr_getfield zi115_54 Xs rfl ?_
  refine zr_ishr0 zi115_57 ?_
  refine zr_ireturn zi115_58 rfl ?_
  exact K
theorem c114 {E : zEnv} {h : zPH} {Q : zOut → zPH → Prop} {N s v n : Nat} {l : List Int32} {ml : Int32} (X : ySX N h s v l ml n) (hl : l.length = 16 ∨ l.length = 34) (hn : n < 33) (hg : l.length = 16 → n ≤ 16) (K : ∀ h1 v1 l1 m1 s1, yFr (fun x => N ≤ x) h h1 m1 s1 → ySX N h1 s v1 l1 ml n → n + 1 ≤ l1.length → ((l1.length = l.length ∧ m1 = 0 ∧ s1 = 0) ∨ (l.length = 16 ∧ l1.length = 34 ∧ m1 = 1 ∧ s1 = 34)) → Q (.inl none) h1) : zcall E 3 114 [.ref s, .int (zJ (n + 1))] h Q := by
  have X0 := X
  obtain ⟨xs, xv, xsl, xvl, Xs, Xv, xn, xb⟩ := X
  have hsv : s ≠ v := zne_tag Xs Xv (by decide)
  show zwp E _ 114 (0, [some (.ref _), some (.int (zJ _)), none], [], _) Q
  refine zr_aload_n zi114_0 rfl ?_
  refine zr_getfield zi114_1 Xs rfl ?_
  refine zr_arraylength (v := zJ l.length) zi114_4 Xv rfl (zlenJ rfl) ?_
  refine zr_aload_n zi114_5 rfl ?_
  refine zr_getfield zi114_6 Xs rfl ?_
  refine zr_ishr0 zi114_9 ?_
  refine zr_istore_n (L' := [some (.ref _), some (.int (zJ _)), some (.int (zJ _))]) zi114_10 rfl rfl ?_
  refine zr_iload_n zi114_11 rfl ?_
  refine zr_iload_n zi114_12 rfl ?_
  refine zr_isub zi114_13 ?_
  refine zr_if_le zi114_14 rfl (fun q14 => ?_) (fun q14 => ?_)
  · have q15 := (zJ_sub_le (a := n + 1) (b := l.length) (by omega) (by omega)).mp q14
    refine zr_return zi114_38 rfl ?_
    exact K _ _ _ 0 0 (yFr.refl _ _) X0 (by omega) (by omega)
  · have q15 : l.length < n + 1 := Nat.lt_of_not_le fun z => q14 ((zJ_sub_le (a := n + 1) (b := l.length) (by omega) (by omega)).mpr z)
    refine zr_aload_n zi114_17 rfl ?_
    refine zr_aload_n zi114_18 rfl ?_
    refine zr_getfield zi114_19 Xs rfl ?_
    refine zr_aload_n zi114_22 rfl ?_
    refine zr_iload_n zi114_23 rfl ?_
    refine zr_virtual zi114_24 rfl rfl Xs rfl rfl ?_
    refine zcall_dep (d := 2) (Nat.le_of_ble_eq_true rfl) (c115 X0 (m := n + 1) (by omega) (by omega) (by omega) (zbk_v ?_))
    rw [show l.length + max (n + 1 - l.length) (l.length + 2) = 34 by omega]
    refine zr_aload_n zi114_27 rfl ?_
    refine zr_getfield zi114_28 Xs rfl ?_
    refine zr_ishl0 zi114_31 ?_
    refine zr_static zi114_32 rfl rfl rfl rfl ?_
    refine zcall_dep (d := 1) (Nat.le_of_ble_eq_true rfl) (c118 (N := N) (by omega) Xv xvl xb (by omega) (by omega) (fun h32 u F32 Lu ev32 Xu32 N32 n32 => zbk_v ?_))
    have Xs32 := N32 s _ (by omega) Xs
    have Xv32 := N32 v _ (by omega) Xv
    refine zr_putfield zi114_35 Xs32 rfl rfl ?_
    refine zw_c (N := N) Xs32 (by decide) (by omega) (fun h35 F35 Xs35 N35 d35 => ?_)
    have Xv35 := N35 v _ (by omega) Xv32
    have Xu35 := N35 u _ (by omega) Xu32
    have n35 := congrArg Prod.fst d35
    refine zr_return zi114_38 rfl ?_
    refine K _ u _ _ _ (F32.trans F35) ⟨xs, Lu, by omega, by omega, Xs35, Xu35, ?_, zbytes_cp xb⟩ ?_ ?_
    · rw [zcpi_len (by omega) (by rw [List.length_replicate]; omega), List.length_replicate]; omega
    · rw [zcpi_len (by omega) (by rw [List.length_replicate]; omega), List.length_replicate]; omega
    · rw [zcpi_len (by omega) (by rw [List.length_replicate]; omega), List.length_replicate]; omega
theorem c113 {E : zEnv} {h : zPH} {Q : zOut → zPH → Prop} (S : ySs E h) {N s v n : Nat} {l : List Int32} {ml : Int32} (X : ySX N h s v l ml n) (hl : l.length = 16 ∨ l.length = 34) (hn : n < 33) (hg : l.length = 16 → n ≤ 16) {c : Nat} (hc : c < 256) (K : ∀ h1 v1 l1 m1 s1, yFr (fun x => N ≤ x) h h1 m1 s1 → ySX N h1 s v1 l1 ml (n + 1) → n + 1 ≤ l1.length → ((l1.length = l.length ∧ m1 = 0 ∧ s1 = 0) ∨ (l.length = 16 ∧ l1.length = 34 ∧ m1 = 1 ∧ s1 = 34)) → Q (.inl (some (.ref s))) h1) : zcall E 4 113 [.ref s, .int (zJ c)] h Q := by
  have X0 := X
  obtain ⟨xs, xv, xsl, xvl, Xs, Xv, xn, xb⟩ := X
  have hsv : s ≠ v := zne_tag Xs Xv (by decide)
  show zwp E _ 113 (0, [some (.ref _), some (.int (zJ _))], [], _) Q
  refine zr_aload_n zi113_0 rfl ?_
  refine zr_aload_n zi113_1 rfl ?_
  refine zr_getfield zi113_2 Xs rfl ?_
  refine zr_iconst (v := zJ 1) zi113_5 rfl ?_
  refine zr_iaddN zi113_6 ?_
  refine zr_virtual zi113_7 rfl rfl Xs rfl rfl ?_
  refine zcall_dep (d := 3) (Nat.le_of_ble_eq_true rfl) (c114 X0 hl hn hg (fun h7 v7 l7 m7 s7 F7 X7 Z7 D7 => zbk_0 ?_))
  have S7 := F7.ss S
  have Y7 := X7
  obtain ⟨ys, yv, ysl, yvl, Ys, Yv, yn, yb⟩ := Y7
  have hsv7 : s ≠ v7 := zne_tag Ys Yv (by decide)
  refine zr_aload_n zi113_10 rfl ?_
  refine zr_virtual zi113_11 rfl rfl Ys rfl rfl ?_
  refine zcall_dep (d := 0) (Nat.le_of_ble_eq_true rfl) (c120 S7 X7 (zbk_v ?_))
  refine zr_if_eqB zi113_14 rfl (fun q14 => absurd q14 (by decide)) (fun q14 => ?_)
  refine zr_iload_n zi113_17 rfl ?_
  refine zr_static zi113_18 rfl rfl rfl rfl ?_
  refine zcall_dep (d := 0) (Nat.le_of_ble_eq_true rfl) (c121 (by omega) (zbk_v ?_))
  refine zr_if_eqB zi113_21 rfl (fun q21 => absurd q21 (by decide)) (fun q21 => ?_)
  refine zr_aload_n zi113_24 rfl ?_
  refine zr_getfield zi113_25 Ys rfl ?_
  refine zr_aload_n zi113_28 rfl ?_
  refine zr_dup zi113_29 rfl ?_
  refine zr_getfield zi113_30 Ys rfl ?_
  refine zr_dup_x1 zi113_33 rfl rfl ?_
  refine zr_iconst (v := zJ 1) zi113_34 rfl ?_
  refine zr_iaddN zi113_35 ?_
  refine zr_putfield zi113_36 Ys rfl rfl ?_
  refine zw_c (N := N) Ys (by decide) (by omega) (fun h36 F36 Xs36 N36 d36 => ?_)
  have Xv36 := N36 v7 _ (by omega) Yv
  have n36 := congrArg Prod.fst d36
  have S36 := F36.ss S7
  refine zr_iload_n zi113_39 rfl ?_
  refine zr_i2b zi113_40 ?_
  refine zr_bastoreN zi113_41 Xv36 (by omega) (by first | omega | (simp only [List.length_set, zpt_len]; omega)) ?_
  refine zw_c (N := N) Xv36 (by decide) (by omega) (fun h41 F41 Xv41 N41 d41 => ?_)
  have Xs41 := N41 s _ (by omega) Xs36
  have n41 := congrArg Prod.fst d41
  have S41 := F41.ss S36
  refine zr_goto zi113_42 rfl ?_
  refine zr_aload_n zi113_75 rfl ?_
  refine zr_areturn zi113_76 rfl ?_
  exact K _ v7 _ m7 s7 ((F7.trans F36).trans F41) ⟨ys, yv, by omega, by omega, Xs41, Xv41, by rw [List.length_set]; exact Z7, zbytes yb⟩ (by rw [List.length_set]; exact Z7) (by rw [List.length_set]; exact D7)
theorem c112 {E : zEnv} {h : zPH} {Q : zOut → zPH → Prop} (S : ySs E h) {N s v n : Nat} {l : List Int32} {ml : Int32} (X : ySX N h s v l ml n) (hl : l.length = 16 ∨ l.length = 34) (hn : n < 33) (hg : l.length = 16 → n ≤ 16) {c : Nat} (hc : c < 256) (K : ∀ h1 v1 l1 m1 s1, yFr (fun x => N ≤ x) h h1 m1 s1 → ySX N h1 s v1 l1 ml (n + 1) → n + 1 ≤ l1.length → ((l1.length = l.length ∧ m1 = 0 ∧ s1 = 0) ∨ (l.length = 16 ∧ l1.length = 34 ∧ m1 = 1 ∧ s1 = 34)) → Q (.inl (some (.ref s))) h1) : zcall E 5 112 [.ref s, .int (zJ c)] h Q := by
  have X0 := X
  obtain ⟨xs, xv, xsl, xvl, Xs, Xv, xn, xb⟩ := X
  show zwp E _ 112 (0, [some (.ref _), some (.int (zJ _))], [], _) Q
  refine zr_aload_n zi112_0 rfl ?_
  refine zr_iload_n zi112_1 rfl ?_
  refine zr_super zi112_2 rfl Xs rfl rfl ?_
  refine zcall_dep (d := 4) (Nat.le_of_ble_eq_true rfl) (c113 S X0 hl hn hg hc (fun h2 v2 l2 m2 s2 F2 X2 Z2 D2 => zbk_v ?_))
  refine zr_pop zi112_5 rfl ?_
  refine zr_aload_n zi112_6 rfl ?_
  refine zr_areturn zi112_7 rfl ?_
  exact K _ _ _ _ _ F2 X2 Z2 D2
