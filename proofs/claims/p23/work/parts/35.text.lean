/-! ===== texts ===== -/
theorem zJ_shr0 (a : Nat) : zJ a >>> (zJ 0 &&& 31) = zJ a := by
  apply Int32.toBitVec.inj
  show BitVec.sshiftRight' (zJ a).toBitVec ((zJ 0 &&& 31).toBitVec.smod 32) = (zJ a).toBitVec
  have : (zJ 0 &&& 31).toBitVec.smod 32 = 0#32 := by decide
  rw [this]
  simp [BitVec.sshiftRight']
theorem zr_ishr0 {E : zEnv} {d j pc pc' : Nat} {L : zLc} {st : List Value} {h : zPH} {Q : zOut → zPH → Prop} {x : zAux} {a : Nat} (hi : zat j pc (.ishr) pc' x) (K : zwp E d j (pc', L, .int (zJ a) :: st, h) Q) : zwp E d j (pc, L, .int (zJ 0) :: .int (zJ a) :: st, h) Q := zr_ishr hi (by rw [zJ_shr0]; exact K)
theorem zr_ishl0 {E : zEnv} {d j pc pc' : Nat} {L : zLc} {st : List Value} {h : zPH} {Q : zOut → zPH → Prop} {x : zAux} {a : Nat} (hi : zat j pc (.ishl) pc' x) (K : zwp E d j (pc', L, .int (zJ a) :: st, h) Q) : zwp E d j (pc, L, .int (zJ 0) :: .int (zJ a) :: st, h) Q := zr_ishlN hi (by omega) (by rw [Nat.pow_zero, Nat.mul_one]; exact K)
/-- one cell is written -/
theorem zw_c {E : zEnv} {d j pc : Nat} {L : zLc} {st : List Value} {h : zPH} {Q : zOut → zPH → Prop} {N a t : Nat} {vs : List Value} {c : zCel} (hc : h.1 a = some (t, vs)) (ht : t < 96) (hN : N ≤ a) (K : ∀ h1, yFr (fun x => N ≤ x) h h1 0 0 → h1.1 a = some c → (∀ b o, b ≠ a → h.1 b = o → h1.1 b = o) → h1.2 = h.2 → zwp E d j (pc, L, st, h1) Q) : zwp E d j (pc, L, st, zset h a c) Q :=
  K _ (yFr.set hc ht hN) zset_at (fun _ _ hb e => zset_ne hb e) rfl
/-- a new cell -/
theorem zw_n {E : zEnv} {d j pc n : Nat} {L : zLc} {st : List Value} {h : zPH} {Q : zOut → zPH → Prop} {c : zCel} (K : ∀ h1 a, (∀ P, yFr P h h1 1 n) → a = h.2.1 → h1.1 a = some c → (∀ b o, b ≠ a → h.1 b = o → h1.1 b = o) → h1.2.1 = h.2.1 + 1 → zwp E d j (pc, L, .ref a :: st, h1) Q) : zwp E d j (pc, L, .ref h.2.1 :: st, zalloc h c n) Q :=
  K _ _ (fun P => yFr.alloc P h c n) rfl zalloc_at (fun _ _ hb e => zalloc_ne hb e) rfl
/-- a builder: where, its row, the row's signs, how many -/
def ySX (N : Nat) (h : zPH) (s v : Nat) (l : List Int32) (ml : Int32) (n : Nat) : Prop := N ≤ s ∧ N ≤ v ∧ s < h.2.1 ∧ v < h.2.1 ∧ h.1 s = some (5, [.ref v, .int (zJ 0), .int ml, .int (zJ n)]) ∧ h.1 v = some (65, zis l) ∧ n ≤ l.length ∧ (∀ y ∈ l, y.toInt8.toInt32 = y)
theorem zbyte (x : Int32) : x.toInt8.toInt32.toInt8.toInt32 = x.toInt8.toInt32 := by simp
theorem zbytes {l : List Int32} {k : Nat} {x : Int32} (h : ∀ y ∈ l, y.toInt8.toInt32 = y) : ∀ y ∈ l.set k x.toInt8.toInt32, y.toInt8.toInt32 = y := by
  intro y hy
  rcases List.mem_or_eq_of_mem_set hy with q | q
  · exact h y q
  · rw [q]; exact zbyte x
theorem zbytes_cp {f : List Int32} {m sp n : Nat} (h : ∀ y ∈ f, y.toInt8.toInt32 = y) : ∀ y ∈ zcpi f (List.replicate m 0) sp 0 n, y.toInt8.toInt32 = y := by
  intro y hy
  unfold zcpi at hy
  rcases List.mem_append.mp hy with q | q
  · have := List.mem_of_mem_take q
    rw [List.eq_of_mem_replicate this]
    rfl
  · rcases List.mem_append.mp q with q | q
    · exact h y (List.mem_of_mem_drop (List.mem_of_mem_take q))
    · have := List.mem_of_mem_drop q
      rw [List.eq_of_mem_replicate this]
      rfl
theorem c117 {E : zEnv} {h : zPH} {Q : zOut → zPH → Prop} {m n : Nat} (hm : m < 1000) (hn : n < 1000) (K : Q (.inl (some (.int (zJ (max m n))))) h) : zcall E 0 117 [.int (zJ m), .int (zJ n)] h Q := by
  show zwp E _ 117 (0, [some (.int (zJ _)), some (.int (zJ _))], [], _) Q
  refine zr_iload_n zi117_0 rfl ?_
  refine zr_iload_n zi117_1 rfl ?_
  refine zr_icmp_ltN zi117_2 rfl (by omega) (by omega) (fun q2 => ?_) (fun q2 => ?_)
  · rw [Nat.max_eq_right (by omega)] at K
    refine zr_iload_n zi117_9 rfl ?_
    refine zr_ireturn zi117_10 rfl ?_
    exact K
  · rw [Nat.max_eq_left q2] at K
    refine zr_iload_n zi117_5 rfl ?_
    refine zr_goto zi117_6 rfl ?_
    refine zr_ireturn zi117_10 rfl ?_
    exact K
theorem c119 {E : zEnv} {h : zPH} {Q : zOut → zPH → Prop} {m n : Nat} (hm : m < 1000) (hn : n < 1000) (K : Q (.inl (some (.int (zJ (min m n))))) h) : zcall E 0 119 [.int (zJ m), .int (zJ n)] h Q := by
  show zwp E _ 119 (0, [some (.int (zJ _)), some (.int (zJ _))], [], _) Q
  refine zr_iload_n zi119_0 rfl ?_
  refine zr_iload_n zi119_1 rfl ?_
  refine zr_icmp_gtN zi119_2 rfl (by omega) (by omega) (fun q2 => ?_) (fun q2 => ?_)
  · rw [Nat.min_eq_right (by omega)] at K
    refine zr_iload_n zi119_9 rfl ?_
    refine zr_ireturn zi119_10 rfl ?_
    exact K
  · rw [Nat.min_eq_left q2] at K
    refine zr_iload_n zi119_5 rfl ?_
    refine zr_goto zi119_6 rfl ?_
    refine zr_ireturn zi119_10 rfl ?_
    exact K
theorem c116 {E : zEnv} {h : zPH} {Q : zOut → zPH → Prop} {o m p : Nat} (ho : 0 < o ∧ o < 400) (hm : m < 400) (hp : p < 400) (K : Q (.inl (some (.int (zJ (o + max m p))))) h) : zcall E 1 116 [.int (zJ o), .int (zJ m), .int (zJ p)] h Q := by
  show zwp E _ 116 (0, [some (.int (zJ _)), some (.int (zJ _)), some (.int (zJ _)), none], [], _) Q
  have hmx : max m p < 400 := by omega
  refine zr_iload_n zi116_0 rfl ?_
  refine zr_iload_n zi116_1 rfl ?_
  refine zr_iload_n zi116_2 rfl ?_
  refine zr_static zi116_3 rfl rfl rfl rfl ?_
  refine zcall_dep (d := 0) (Nat.le_of_ble_eq_true rfl) (c117 (by omega) (by omega) (zbk_v ?_))
  refine zr_iaddN zi116_6 ?_
  refine zr_istore_n (L' := [some (.int (zJ _)), some (.int (zJ _)), some (.int (zJ _)), some (.int (zJ _))]) zi116_7 rfl rfl ?_
  refine zr_iconst (v := zJ 0) zi116_8 rfl ?_
  refine zr_iload_n zi116_9 rfl ?_
  refine zr_icmp_geN zi116_10 rfl (by omega) (by omega) (fun q10 => absurd q10 (by omega)) (fun q10 => ?_)
  refine zr_iload_n zi116_13 rfl ?_
  refine zr_ldci (v := zJ 2147483639) zi116_14 ?_
  refine zr_icmp_gtN zi116_16 rfl (by omega) (by omega) (fun q16 => absurd q16 (by omega)) (fun q16 => ?_)
  refine zr_iload_n zi116_19 rfl ?_
  refine zr_ireturn zi116_20 rfl ?_
  exact K
theorem zr_bastoreN {E : zEnv} {d j pc pc' : Nat} {L : zLc} {st : List Value} {h : zPH} {Q : zOut → zPH → Prop} {x : zAux} {a : Nat} {l : List Int32} {i : Nat} {v : Int32} (hi : zat j pc .bastore pc' x) (hc : h.1 a = some (65, zis l)) (hj : i < 2147483648) (hb : i < l.length) (K : zwp E d j (pc', L, st, zset h a (65, zis (l.set i v.toInt8.toInt32))) Q) : zwp E d j (pc, L, .int v :: .int (zJ i) :: .ref a :: st, h) Q :=
  zr_bastore hi hc ⟨zJ_nn hj, by rw [zJ_c hj]; exact hb⟩ (by rw [zJ_c hj]) K
theorem zr_copybN {E : zEnv} {d j pc pc' : Nat} {L : zLc} {st : List Value} {h : zPH} {Q : zOut → zPH → Prop} {k nn t a3 a b : Nat} {a4 : Value} {f g : List Int32} {sp dp q : Nat} (hi : zat j pc (.invokestatic k) pc' (21, nn, t, a3, a4)) (ha : h.1 a = some (65, zis f)) (hb : h.1 b = some (65, zis g)) (hf : ∀ y ∈ f, y.toInt8.toInt32 = y) (hs : sp < 2147483648 ∧ dp < 2147483648 ∧ q < 2147483648) (h1 : sp + q ≤ f.length) (h2 : dp + q ≤ g.length) (hw : Nat.ble (zwt st) 8 = true)
    (K : zwp E d j (pc', L, st, zset h b (65, zis (zcpi f g sp dp q))) Q) : zwp E d j (pc, L, .int (zJ q) :: .int (zJ dp) :: .ref b :: .int (zJ sp) :: .ref a :: st, h) Q :=
  zr_copyb hi ha hb hf (zJ_nn hs.2.2) (zJ_nn hs.2.1) (zJ_nn hs.1) (by rw [zJ_c hs.1, zJ_c hs.2.2]; exact h1) (by rw [zJ_c hs.2.1, zJ_c hs.2.2]; exact h2) hw (by rw [zJ_c hs.1, zJ_c hs.2.1, zJ_c hs.2.2]; exact K)
theorem c120 {E : zEnv} {h : zPH} {Q : zOut → zPH → Prop} (S : ySs E h) {N s v n : Nat} {l : List Int32} {ml : Int32} (X : ySX N h s v l ml n) (K : Q (.inl (some (.int (zB true)))) h) : zcall E 0 120 [.ref s] h Q := by
  obtain ⟨xs, xv, xsl, xvl, Xs, Xv, xn, xb⟩ := X
  have Sx := S
  obtain ⟨⟨aSH, eSH, lSH, hSH⟩, ⟨aDK, eDK, lDK, hDK⟩, eCS, ⟨aEL, eEL, lEL, hEL⟩⟩ := Sx
  show zwp E _ 120 (0, [some (.ref _)], [], _) Q
  refine zr_getstatic zi120_0 rfl (show E.1 2 = .int (zJ 1) from eCS) ?_
  refine zr_if_eqN zi120_3 rfl (by omega) (fun q3 => absurd q3 (by omega)) (fun q3 => ?_)
  refine zr_aload_n zi120_6 rfl ?_
  refine zr_getfield zi120_7 Xs rfl ?_
  refine zr_if_neN zi120_10 rfl (by omega) (fun q10 => absurd q10 (by omega)) (fun q10 => ?_)
  refine zr_iconst (v := zB true) zi120_13 rfl ?_
  refine zr_goto zi120_14 rfl ?_
  refine zr_zreturnB zi120_18 rfl ?_
  exact K
theorem c121 {E : zEnv} {h : zPH} {Q : zOut → zPH → Prop} {n : Nat} (hn : n < 256) (K : Q (.inl (some (.int (zB true)))) h) : zcall E 0 121 [.int (zJ n)] h Q := by
  show zwp E _ 121 (0, [some (.int (zJ _))], [], _) Q
  refine zr_iload_n zi121_0 rfl ?_
  refine zr_sipush (v := zJ 255) zi121_1 rfl ?_
  refine zr_icmp_gtN zi121_4 rfl (by omega) (by omega) (fun q4 => absurd q4 (by omega)) (fun q4 => ?_)
  refine zr_iconst (v := zB true) zi121_7 rfl ?_
  refine zr_goto zi121_8 rfl ?_
  refine zr_zreturnB zi121_12 rfl ?_
  exact K
theorem c127 {E : zEnv} {h : zPH} {Q : zOut → zPH → Prop} {N s v n : Nat} {l : List Int32} {ml : Int32} (X : ySX N h s v l ml n) (K : Q (.inl (some (.ref v))) h) : zcall E 0 127 [.ref s] h Q := by
  obtain ⟨xs, xv, xsl, xvl, Xs, Xv, xn, xb⟩ := X
  show zwp E _ 127 (0, [some (.ref _)], [], _) Q
  refine zr_aload_n zi127_0 rfl ?_
  refine zr_getfield zi127_1 Xs rfl ?_
  refine zr_areturn zi127_4 rfl ?_
  exact K
theorem c129 {E : zEnv} {h : zPH} {Q : zOut → zPH → Prop} {N s v n : Nat} {l : List Int32} {ml : Int32} (X : ySX N h s v l ml n) (K : Q (.inl (some (.int (zJ n)))) h) : zcall E 0 129 [.ref s] h Q := by
  obtain ⟨xs, xv, xsl, xvl, Xs, Xv, xn, xb⟩ := X
  show zwp E _ 129 (0, [some (.ref _)], [], _) Q
  refine zr_aload_n zi129_0 rfl ?_
  refine zr_getfield zi129_1 Xs rfl ?_
  refine zr_ireturn zi129_4 rfl ?_
  exact K
theorem c128 {E : zEnv} {h : zPH} {Q : zOut → zPH → Prop} {N s v n : Nat} {l : List Int32} {ml : Int32} (X : ySX N h s v l ml n) (K : Q (.inl (some (.int (zJ n)))) h) : zcall E 1 128 [.ref s] h Q := by
  have X0 := X
  obtain ⟨xs, xv, xsl, xvl, Xs, Xv, xn, xb⟩ := X
  show zwp E _ 128 (0, [some (.ref _)], [], _) Q
  refine zr_aload_n zi128_0 rfl ?_
  refine zr_super zi128_1 rfl Xs rfl rfl ?_
  refine zcall_dep (d := 0) (Nat.le_of_ble_eq_true rfl) (c129 X0 (zbk_v ?_))
  refine zr_ireturn zi128_4 rfl ?_
  exact K
theorem c118 {E : zEnv} {h : zPH} {Q : zOut → zPH → Prop} {N v m : Nat} {l : List Int32} (hN : N ≤ h.2.1) (Xv : h.1 v = some (65, zis l)) (hv : v < h.2.1) (hb : ∀ y ∈ l, y.toInt8.toInt32 = y) (hl : l.length < m) (hm : m < 400) (K : ∀ h1 v1, yFr (fun x => N ≤ x) h h1 1 (m) → N ≤ v1 → v1 = h.2.1 → h1.1 v1 = some (65, zis (zcpi l (List.replicate (m) 0) 0 0 (l.length))) → (∀ b o, b ≠ v1 → h.1 b = o → h1.1 b = o) → h1.2.1 = h.2.1 + 1 → Q (.inl (some (.ref v1))) h1) : zcall E 1 118 [.ref v, .int (zJ m)] h Q := by
  show zwp E _ 118 (0, [some (.ref _), some (.int (zJ _)), none], [], _) Q
  refine zr_iload_n zi118_0 rfl ?_
  refine zr_aload_n zi118_1 rfl ?_
  refine zr_arraylength (v := zJ l.length) zi118_2 Xv rfl (zlenJ rfl) ?_
  refine zr_icmp_neN zi118_3 rfl (by omega) (by omega) (fun q3 => ?_) (fun q3 => absurd q3 (by omega))
  refine zr_iload_n zi118_14 rfl ?_
  refine zr_newarrayN zi118_15 (by omega) rfl ?_
  refine zw_n (fun h15 u F15 ev15 Xu15 N15 n15 => ?_)
  have Xv15 := N15 v _ (by omega) Xv
  refine zr_astore_n (L' := [some (.ref _), some (.int (zJ _)), some (.ref _)]) zi118_17 rfl rfl ?_
  refine zr_aload_n zi118_18 rfl ?_
  refine zr_iconst (v := zJ 0) zi118_19 rfl ?_
  refine zr_aload_n zi118_20 rfl ?_
  refine zr_iconst (v := zJ 0) zi118_21 rfl ?_
  refine zr_aload_n zi118_22 rfl ?_
  refine zr_arraylength (v := zJ l.length) zi118_23 Xv15 rfl (zlenJ rfl) ?_
  refine zr_iload_n zi118_24 rfl ?_
  refine zr_static zi118_25 rfl rfl rfl rfl ?_
  refine zcall_dep (d := 0) (Nat.le_of_ble_eq_true rfl) (c119 (by omega) (by omega) (zbk_v ?_))
  have hq28 : min l.length m = l.length := by omega
  rw [hq28]
  refine zr_copybN (q := l.length) zi118_28 Xv15 Xu15 hb ⟨by omega, by omega, by omega⟩ (by omega) (by rw [List.length_replicate]; omega) rfl ?_
  refine zw_c (N := N) Xu15 (by decide) (by omega) (fun h28 F28 Xu28 N28 d28 => ?_)
  have Xv28 := N28 v _ (by omega) Xv15
  have n28 := congrArg Prod.fst d28
  refine zr_aload_n zi118_31 rfl ?_
  refine zr_areturn zi118_32 rfl ?_
  exact K _ u ((F15 _).trans F28) (by omega) ev15 Xu28 (fun b o q e => N28 b o q (N15 b o q e)) (by omega)
theorem c132 {E : zEnv} {h : zPH} {Q : zOut → zPH → Prop} {m n : Nat} (hm : m ≤ n) (hn : n < 400) (K : Q (.inl none) h) : zcall E 2 132 [.int (zJ m), .int (zJ n)] h Q := by
  show zwp E _ 132 (0, [some (.int (zJ _)), some (.int (zJ _))], [], _) Q
  refine zr_iload_n zi132_0 rfl ?_
  refine zr_iload_n zi132_1 rfl ?_
  refine zr_icmp_geN zi132_2 rfl (by omega) (by omega) (fun q2 => ?_) (fun q2 => absurd q2 (by omega))
  refine zr_return zi132_37 rfl ?_
  exact K
theorem c131 {E : zEnv} {h : zPH} {Q : zOut → zPH → Prop} {N v n : Nat} {l : List Int32} (hN : N ≤ h.2.1) (Xv : h.1 v = some (65, zis l)) (hv : v < h.2.1) (hb : ∀ y ∈ l, y.toInt8.toInt32 = y) (hn : n < l.length) (hl : l.length < 400) (K : ∀ h1 v1, yFr (fun x => N ≤ x) h h1 1 (n) → N ≤ v1 → v1 = h.2.1 → h1.1 v1 = some (65, zis (zcpi l (List.replicate (n) 0) 0 0 (n))) → (∀ b o, b ≠ v1 → h.1 b = o → h1.1 b = o) → h1.2.1 = h.2.1 + 1 → Q (.inl (some (.ref v1))) h1) : zcall E 3 131 [.ref v, .int (zJ 0), .int (zJ n)] h Q := by
  show zwp E _ 131 (0, [some (.ref _), some (.int (zJ _)), some (.int (zJ _)), none, none], [], _) Q
  refine zr_iload_n zi131_0 rfl ?_
  refine zr_iload_n zi131_1 rfl ?_
  refine zr_static zi131_2 rfl rfl rfl rfl ?_
  refine zcall_dep (d := 2) (Nat.le_of_ble_eq_true rfl) (c132 (by omega) (by omega) (zbk_0 ?_))
  refine zr_iload_n zi131_5 rfl ?_
  refine zr_iload_n zi131_6 rfl ?_
  refine zr_isubN zi131_7 (by omega) ?_
  refine zr_istore_n (L' := [some (.ref _), some (.int (zJ _)), some (.int (zJ _)), some (.int (zJ _)), none]) zi131_8 rfl rfl ?_
  refine zr_iload_n zi131_9 rfl ?_
  refine zr_newarrayN zi131_10 (by omega) rfl ?_
  refine zw_n (fun h10 u F10 ev10 Xu10 N10 n10 => ?_)
  have Xv10 := N10 v _ (by omega) Xv
  refine zr_astore (L' := [some (.ref _), some (.int (zJ _)), some (.int (zJ _)), some (.int (zJ _)), some (.ref _)]) zi131_12 rfl rfl ?_
  refine zr_aload_n zi131_14 rfl ?_
  refine zr_iload_n zi131_15 rfl ?_
  refine zr_aload zi131_16 rfl ?_
  refine zr_iconst (v := zJ 0) zi131_18 rfl ?_
  refine zr_aload_n zi131_19 rfl ?_
  refine zr_arraylength (v := zJ l.length) zi131_20 Xv10 rfl (zlenJ rfl) ?_
  refine zr_iload_n zi131_21 rfl ?_
  refine zr_isubN zi131_22 (by omega) ?_
  refine zr_iload_n zi131_23 rfl ?_
  refine zr_static zi131_24 rfl rfl rfl rfl ?_
  refine zcall_dep (d := 0) (Nat.le_of_ble_eq_true rfl) (c119 (by omega) (by omega) (zbk_v ?_))
  have hq27 : min (l.length - 0) (n - 0) = n := by omega
  rw [hq27]
  refine zr_copybN (q := n) zi131_27 Xv10 Xu10 hb ⟨by omega, by omega, by omega⟩ (by omega) (by rw [List.length_replicate]; omega) rfl ?_
  refine zw_c (N := N) Xu10 (by decide) (by omega) (fun h27 F27 Xu27 N27 d27 => ?_)
  have Xv27 := N27 v _ (by omega) Xv10
  have n27 := congrArg Prod.fst d27
  refine zr_aload zi131_30 rfl ?_
  refine zr_areturn zi131_32 rfl ?_
  exact K _ u ((F10 _).trans F27) (by omega) ev10 Xu27 (fun b o q e => N27 b o q (N10 b o q e)) (by omega)
theorem c130 {E : zEnv} {h : zPH} {Q : zOut → zPH → Prop} {N v n : Nat} {l : List Int32} (hN : N ≤ h.2.1) (Xv : h.1 v = some (65, zis l)) (hv : v < h.2.1) (hb : ∀ y ∈ l, y.toInt8.toInt32 = y) (hn : n < l.length) (hl : l.length < 400) (K : ∀ h1 v1, yFr (fun x => N ≤ x) h h1 1 (n) → N ≤ v1 → v1 = h.2.1 → h1.1 v1 = some (65, zis (zcpi l (List.replicate (n) 0) 0 0 (n))) → (∀ b o, b ≠ v1 → h.1 b = o → h1.1 b = o) → h1.2.1 = h.2.1 + 1 → Q (.inl (some (.ref v1))) h1) : zcall E 4 130 [.ref v, .int (zJ 0), .int (zJ n)] h Q := by
  show zwp E _ 130 (0, [some (.ref _), some (.int (zJ _)), some (.int (zJ _))], [], _) Q
  refine zr_iload_n zi130_0 rfl ?_
  refine zr_if_neN zi130_1 rfl (by omega) (fun q1 => absurd q1 (by omega)) (fun q1 => ?_)
  refine zr_iload_n zi130_4 rfl ?_
  refine zr_aload_n zi130_5 rfl ?_
  refine zr_arraylength (v := zJ l.length) zi130_6 Xv rfl (zlenJ rfl) ?_
  refine zr_icmp_eqN zi130_7 rfl (by omega) (by omega) (fun q7 => absurd q7 (by omega)) (fun q7 => ?_)
  refine zr_aload_n zi130_10 rfl ?_
  refine zr_iload_n zi130_11 rfl ?_
  refine zr_iload_n zi130_12 rfl ?_
  refine zr_static zi130_13 rfl rfl rfl rfl ?_
  refine zcall_dep (d := 3) (Nat.le_of_ble_eq_true rfl) (c131 hN Xv hv hb hn hl (fun h13 v13 F13 L13 ev13 X13 N13 n13 => zbk_v ?_))
  refine zr_areturn zi130_16 rfl ?_
  exact K _ _ F13 L13 ev13 X13 N13 n13
theorem zJ_sub_le {a b : Nat} (ha : a < 1000000) (hb : b < 1000000) : (zJ a - zJ b ≤ 0) ↔ a ≤ b := by
  have e : zJ a - zJ b = Int32.ofInt ((a : Int) - b) := by rw [Int32.ofInt_sub, Int32.ofInt_eq_ofNat, Int32.ofInt_eq_ofNat]; rfl
  rw [e, Int32.le_iff_toInt_le, Int32.toInt_ofInt_of_le (by omega) (by omega)]
  show (a : Int) - b ≤ 0 ↔ _
  omega
theorem c115 {E : zEnv} {h : zPH} {Q : zOut → zPH → Prop} {N s v n : Nat} {l : List Int32} {ml : Int32} (X : ySX N h s v l ml n) {m : Nat} (hm : l.length ≤ m) (hm2 : m < 300) (hl0 : 0 < l.length) (K : Q (.inl (some (.int (zJ (l.length + max (m - l.length) (l.length + 2)))))) h) : zcall E 2 115 [.ref s, .int (zJ m)] h Q := by
  obtain ⟨xs, xv, xsl, xvl, Xs, Xv, xn, xb⟩ := X
  show zwp E _ 115 (0, [some (.ref _), some (.int (zJ _)), none, none, none, none], [], _) Q
  refine zr_aload_n zi115_0 rfl ?_
  refine zr_getfield zi115_1 Xs rfl ?_
  refine zr_arraylength (v := zJ l.length) zi115_4 Xv rfl (zlenJ rfl) ?_
  refine zr_istore_n (L' := [some (.ref _), some (.int (zJ _)), some (.int (zJ _)), none, none, none]) zi115_5 rfl rfl ?_
  refine zr_iload_n zi115_6 rfl ?_
  refine zr_aload_n zi115_7 rfl ?_
  refine zr_getfield zi115_8 Xs rfl ?_
  refine zr_ishl0 zi115_11 ?_
  refine zr_istore_n (L' := [some (.ref _), some (.int (zJ _)), some (.int (zJ _)), some (.int (zJ _)), none, none]) zi115_12 rfl rfl ?_
  refine zr_iload_n zi115_13 rfl ?_
  refine zr_iload_n zi115_14 rfl ?_
  refine zr_isubN zi115_15 (by omega) ?_
  refine zr_istore (L' := [some (.ref _), some (.int (zJ _)), some (.int (zJ _)), some (.int (zJ _)), some (.int (zJ _)), none]) zi115_16 rfl rfl ?_
  refine zr_iload_n zi115_18 rfl ?_
  refine zr_iload zi115_19 rfl ?_
  refine zr_iload_n zi115_21 rfl ?_
  refine zr_iconst (v := zJ 2) zi115_22 rfl ?_
  refine zr_aload_n zi115_23 rfl ?_
  refine zr_getfield zi115_24 Xs rfl ?_
  refine zr_ishlN zi115_27 (by omega) ?_
  refine zr_iaddN zi115_28 ?_
  refine zr_static zi115_29 rfl rfl rfl rfl ?_
  refine zcall_dep (d := 1) (Nat.le_of_ble_eq_true rfl) (c116 (by omega) (by omega) (by omega) (zbk_v ?_))
  refine zr_istore (L' := [some (.ref _), some (.int (zJ _)), some (.int (zJ _)), some (.int (zJ _)), some (.int (zJ _)), some (.int (zJ _))]) zi115_32 rfl rfl ?_
  refine zr_iload zi115_34 rfl ?_
  refine zr_ldci (v := zJ 2147483647) zi115_36 ?_
  refine zr_icmp_neN zi115_38 rfl (by omega) (by omega) (fun q38 => ?_) (fun q38 => absurd q38 (by omega))
  refine zr_iload zi115_51 rfl ?_
  refine zr_aload_n zi115_53 rfl ?_
  refine zr_getfield zi115_54 Xs rfl ?_
  refine zr_ishr0 zi115_57 ?_
  refine zr_ireturn zi115_58 rfl ?_
  exact K
theorem c114 {E : zEnv} {h : zPH} {Q : zOut → zPH → Prop} {N s v n : Nat} {l : List Int32} {ml : Int32} (X : ySX N h s v l ml n) (hl : l.length = 16 ∨ l.length = 34) (hn : n < 33) (hg : l.length = 16 → n ≤ 16) (K : ∀ h1 v1 l1 m1 s1, yFr (fun x => N ≤ x) h h1 m1 s1 → ySX N h1 s v1 l1 ml n → n + 1 ≤ l1.length → ((l1.length = l.length ∧ m1 = 0 ∧ s1 = 0) ∨ (l.length = 16 ∧ l1.length = 34 ∧ m1 = 1 ∧ s1 = 34)) → Q (.inl none) h1) : zcall E 3 114 [.ref s, .int (zJ (n + 1))] h Q := by
  have X0 := X
  obtain ⟨xs, xv, xsl, xvl, Xs, Xv, xn, xb⟩ := X
  have hsv : s ≠ v := zne_tag Xs Xv (by decide)
  show zwp E _ 114 (0, [some (.ref _), some (.int (zJ _)), none], [], _) Q
  refine zr_aload_n zi114_0 rfl ?_
  refine zr_getfield zi114_1 Xs rfl ?_
  refine zr_arraylength (v := zJ l.length) zi114_4 Xv rfl (zlenJ rfl) ?_
  refine zr_aload_n zi114_5 rfl ?_
  refine zr_getfield zi114_6 Xs rfl ?_
  refine zr_ishr0 zi114_9 ?_
  refine zr_istore_n (L' := [some (.ref _), some (.int (zJ _)), some (.int (zJ _))]) zi114_10 rfl rfl ?_
  refine zr_iload_n zi114_11 rfl ?_
  refine zr_iload_n zi114_12 rfl ?_
  refine zr_isub zi114_13 ?_
  refine zr_if_le zi114_14 rfl (fun q14 => ?_) (fun q14 => ?_)
  · have q15 := (zJ_sub_le (a := n + 1) (b := l.length) (by omega) (by omega)).mp q14
    refine zr_return zi114_38 rfl ?_
    exact K _ _ _ 0 0 (yFr.refl _ _) X0 (by omega) (by omega)
  · have q15 : l.length < n + 1 := Nat.lt_of_not_le fun z => q14 ((zJ_sub_le (a := n + 1) (b := l.length) (by omega) (by omega)).mpr z)
    refine zr_aload_n zi114_17 rfl ?_
    refine zr_aload_n zi114_18 rfl ?_
    refine zr_getfield zi114_19 Xs rfl ?_
    refine zr_aload_n zi114_22 rfl ?_
    refine zr_iload_n zi114_23 rfl ?_
    refine zr_virtual zi114_24 rfl rfl Xs rfl rfl ?_
    refine zcall_dep (d := 2) (Nat.le_of_ble_eq_true rfl) (c115 X0 (m := n + 1) (by omega) (by omega) (by omega) (zbk_v ?_))
    rw [show l.length + max (n + 1 - l.length) (l.length + 2) = 34 by omega]
    refine zr_aload_n zi114_27 rfl ?_
    refine zr_getfield zi114_28 Xs rfl ?_
    refine zr_ishl0 zi114_31 ?_
    refine zr_static zi114_32 rfl rfl rfl rfl ?_
    refine zcall_dep (d := 1) (Nat.le_of_ble_eq_true rfl) (c118 (N := N) (by omega) Xv xvl xb (by omega) (by omega) (fun h32 u F32 Lu ev32 Xu32 N32 n32 => zbk_v ?_))
    have Xs32 := N32 s _ (by omega) Xs
    have Xv32 := N32 v _ (by omega) Xv
    refine zr_putfield zi114_35 Xs32 rfl rfl ?_
    refine zw_c (N := N) Xs32 (by decide) (by omega) (fun h35 F35 Xs35 N35 d35 => ?_)
    have Xv35 := N35 v _ (by omega) Xv32
    have Xu35 := N35 u _ (by omega) Xu32
    have n35 := congrArg Prod.fst d35
    refine zr_return zi114_38 rfl ?_
    refine K _ u _ _ _ (F32.trans F35) ⟨xs, Lu, by omega, by omega, Xs35, Xu35, ?_, zbytes_cp xb⟩ ?_ ?_
    · rw [zcpi_len (by omega) (by rw [List.length_replicate]; omega), List.length_replicate]; omega
    · rw [zcpi_len (by omega) (by rw [List.length_replicate]; omega), List.length_replicate]; omega
    · rw [zcpi_len (by omega) (by rw [List.length_replicate]; omega), List.length_replicate]; omega
theorem c113 {E : zEnv} {h : zPH} {Q : zOut → zPH → Prop} (S : ySs E h) {N s v n : Nat} {l : List Int32} {ml : Int32} (X : ySX N h s v l ml n) (hl : l.length = 16 ∨ l.length = 34) (hn : n < 33) (hg : l.length = 16 → n ≤ 16) {c : Nat} (hc : c < 256) (K : ∀ h1 v1 l1 m1 s1, yFr (fun x => N ≤ x) h h1 m1 s1 → ySX N h1 s v1 l1 ml (n + 1) → n + 1 ≤ l1.length → ((l1.length = l.length ∧ m1 = 0 ∧ s1 = 0) ∨ (l.length = 16 ∧ l1.length = 34 ∧ m1 = 1 ∧ s1 = 34)) → Q (.inl (some (.ref s))) h1) : zcall E 4 113 [.ref s, .int (zJ c)] h Q := by
  have X0 := X
  obtain ⟨xs, xv, xsl, xvl, Xs, Xv, xn, xb⟩ := X
  have hsv : s ≠ v := zne_tag Xs Xv (by decide)
  show zwp E _ 113 (0, [some (.ref _), some (.int (zJ _))], [], _) Q
  refine zr_aload_n zi113_0 rfl ?_
  refine zr_aload_n zi113_1 rfl ?_
  refine zr_getfield zi113_2 Xs rfl ?_
  refine zr_iconst (v := zJ 1) zi113_5 rfl ?_
  refine zr_iaddN zi113_6 ?_
  refine zr_virtual zi113_7 rfl rfl Xs rfl rfl ?_
  refine zcall_dep (d := 3) (Nat.le_of_ble_eq_true rfl) (c114 X0 hl hn hg (fun h7 v7 l7 m7 s7 F7 X7 Z7 D7 => zbk_0 ?_))
  have S7 := F7.ss S
  have Y7 := X7
  obtain ⟨ys, yv, ysl, yvl, Ys, Yv, yn, yb⟩ := Y7
  have hsv7 : s ≠ v7 := zne_tag Ys Yv (by decide)
  refine zr_aload_n zi113_10 rfl ?_
  refine zr_virtual zi113_11 rfl rfl Ys rfl rfl ?_
  refine zcall_dep (d := 0) (Nat.le_of_ble_eq_true rfl) (c120 S7 X7 (zbk_v ?_))
  refine zr_if_eqB zi113_14 rfl (fun q14 => absurd q14 (by decide)) (fun q14 => ?_)
  refine zr_iload_n zi113_17 rfl ?_
  refine zr_static zi113_18 rfl rfl rfl rfl ?_
  refine zcall_dep (d := 0) (Nat.le_of_ble_eq_true rfl) (c121 (by omega) (zbk_v ?_))
  refine zr_if_eqB zi113_21 rfl (fun q21 => absurd q21 (by decide)) (fun q21 => ?_)
  refine zr_aload_n zi113_24 rfl ?_
  refine zr_getfield zi113_25 Ys rfl ?_
  refine zr_aload_n zi113_28 rfl ?_
  refine zr_dup zi113_29 rfl ?_
  refine zr_getfield zi113_30 Ys rfl ?_
  refine zr_dup_x1 zi113_33 rfl rfl ?_
  refine zr_iconst (v := zJ 1) zi113_34 rfl ?_
  refine zr_iaddN zi113_35 ?_
  refine zr_putfield zi113_36 Ys rfl rfl ?_
  refine zw_c (N := N) Ys (by decide) (by omega) (fun h36 F36 Xs36 N36 d36 => ?_)
  have Xv36 := N36 v7 _ (by omega) Yv
  have n36 := congrArg Prod.fst d36
  have S36 := F36.ss S7
  refine zr_iload_n zi113_39 rfl ?_
  refine zr_i2b zi113_40 ?_
  refine zr_bastoreN zi113_41 Xv36 (by omega) (by first | omega | (simp only [List.length_set, zpt_len]; omega)) ?_
  refine zw_c (N := N) Xv36 (by decide) (by omega) (fun h41 F41 Xv41 N41 d41 => ?_)
  have Xs41 := N41 s _ (by omega) Xs36
  have n41 := congrArg Prod.fst d41
  have S41 := F41.ss S36
  refine zr_goto zi113_42 rfl ?_
  refine zr_aload_n zi113_75 rfl ?_
  refine zr_areturn zi113_76 rfl ?_
  exact K _ v7 _ m7 s7 ((F7.trans F36).trans F41) ⟨ys, yv, by omega, by omega, Xs41, Xv41, by rw [List.length_set]; exact Z7, zbytes yb⟩ (by rw [List.length_set]; exact Z7) (by rw [List.length_set]; exact D7)
theorem c112 {E : zEnv} {h : zPH} {Q : zOut → zPH → Prop} (S : ySs E h) {N s v n : Nat} {l : List Int32} {ml : Int32} (X : ySX N h s v l ml n) (hl : l.length = 16 ∨ l.length = 34) (hn : n < 33) (hg : l.length = 16 → n ≤ 16) {c : Nat} (hc : c < 256) (K : ∀ h1 v1 l1 m1 s1, yFr (fun x => N ≤ x) h h1 m1 s1 → ySX N h1 s v1 l1 ml (n + 1) → n + 1 ≤ l1.length → ((l1.length = l.length ∧ m1 = 0 ∧ s1 = 0) ∨ (l.length = 16 ∧ l1.length = 34 ∧ m1 = 1 ∧ s1 = 34)) → Q (.inl (some (.ref s))) h1) : zcall E 5 112 [.ref s, .int (zJ c)] h Q := by
  have X0 := X
  obtain ⟨xs, xv, xsl, xvl, Xs, Xv, xn, xb⟩ := X
  show zwp E _ 112 (0, [some (.ref _), some (.int (zJ _))], [], _) Q
  refine zr_aload_n zi112_0 rfl ?_
  refine zr_iload_n zi112_1 rfl ?_
  refine zr_super zi112_2 rfl Xs rfl rfl ?_
  refine zcall_dep (d := 4) (Nat.le_of_ble_eq_true rfl) (c113 S X0 hl hn hg hc (fun h2 v2 l2 m2 s2 F2 X2 Z2 D2 => zbk_v ?_))
  refine zr_pop zi112_5 rfl ?_
  refine zr_aload_n zi112_6 rfl ?_
  refine zr_areturn zi112_7 rfl ?_
  exact K _ _ _ _ _ F2 X2 Z2 D2
theorem c111 {E : zEnv} {h : zPH} {Q : zOut → zPH → Prop} (S : ySs E h) {N s : Nat} (hN : N ≤ s) (hs : s < h.2.1) (Xs : h.1 s = some (5, [.null, .int 0, .int 0, .int 0])) (K : ∀ h1 v, yFr (fun x => N ≤ x) h h1 1 16 → ySX N h1 s v (List.replicate 16 0) 0 0 → Q (.inl none) h1) : zcall E 0 111 [.ref s, .int (zJ 16)] h Q := by
  have Sx := S
  obtain ⟨⟨aSH, eSH, lSH, hSH⟩, ⟨aDK, eDK, lDK, hDK⟩, eCS, ⟨aEL, eEL, lEL, hEL⟩⟩ := Sx
  show zwp E _ 111 (0, [some (.ref _), some (.int (zJ _))], [], _) Q
  refine zr_aload_n zi111_0 rfl ?_
  refine zr_obj zi111_1 rfl ?_
  refine zr_getstatic zi111_4 rfl (show E.1 2 = .int (zJ 1) from eCS) ?_
  refine zr_if_eqN zi111_7 rfl (by omega) (fun q7 => absurd q7 (by omega)) (fun q7 => ?_)
  refine zr_aload_n zi111_10 rfl ?_
  refine zr_iload_n zi111_11 rfl ?_
  refine zr_newarrayN zi111_12 (by omega) rfl ?_
  refine zw_n (fun h12 v F12 ev12 Xv12 N12 n12 => ?_)
  have Xs12 := N12 s _ (by omega) Xs
  refine zr_putfield zi111_14 Xs12 rfl rfl ?_
  refine zw_c (N := N) Xs12 (by decide) (by omega) (fun h14 F14 Xs14 N14 d14 => ?_)
  have Xv14 := N14 v _ (by omega) Xv12
  have n14 := congrArg Prod.fst d14
  refine zr_aload_n zi111_17 rfl ?_
  refine zr_iconst (v := zJ 0) zi111_18 rfl ?_
  refine zr_putfield zi111_19 Xs14 rfl rfl ?_
  refine zw_c (N := N) Xs14 (by decide) (by omega) (fun h19 F19 Xs19 N19 d19 => ?_)
  have Xv19 := N19 v _ (by omega) Xv14
  have n19 := congrArg Prod.fst d19
  refine zr_goto zi111_22 rfl ?_
  refine zr_return zi111_38 rfl ?_
  exact K _ v (((F12 (fun x => N ≤ x)).trans F14).trans F19) ⟨hN, by omega, by omega, by omega, Xs19, Xv19, by omega, fun y hy => by rw [List.eq_of_mem_replicate hy]; rfl⟩
theorem c110 {E : zEnv} {h : zPH} {Q : zOut → zPH → Prop} (S : ySs E h) {N s : Nat} (hN : N ≤ s) (hs : s < h.2.1) (Xs : h.1 s = some (5, [.null, .int 0, .int 0, .int 0])) (K : ∀ h1 v, yFr (fun x => N ≤ x) h h1 1 16 → ySX N h1 s v (List.replicate 16 0) 0 0 → Q (.inl none) h1) : zcall E 1 110 [.ref s] h Q := by
  show zwp E _ 110 (0, [some (.ref _)], [], _) Q
  refine zr_aload_n zi110_0 rfl ?_
  refine zr_bipush (v := zJ 16) zi110_1 rfl ?_
  refine zr_special zi110_3 rfl rfl rfl rfl ?_
  refine zcall_dep (d := 0) (Nat.le_of_ble_eq_true rfl) (c111 S hN hs Xs (fun h3 v3 F3 X3 => zbk_0 ?_))
  refine zr_return zi110_6 rfl ?_
  exact K _ _ F3 X3
theorem c126 {E : zEnv} {h : zPH} {Q : zOut → zPH → Prop} (S : ySs E h) {N s v n : Nat} {l : List Int32} {ml : Int32} (X : ySX N h s v l ml n) {t : Nat} (hNt : N ≤ t) (ht : t < h.2.1) (Xt : h.1 t = some (6, [.null, .int 0, .int 0, .int 0])) (hn : n < l.length) (hl : l.length < 400) (K : ∀ h1, yFr (fun x => N ≤ x) h h1 1 n → Q (.inl none) h1) : zcall E 5 126 [.ref t, .ref s, .null] h Q := by
  have X0 := X
  obtain ⟨xs, xv, xsl, xvl, Xs, Xv, xn, xb⟩ := X
  have hsv : s ≠ v := zne_tag Xs Xv (by decide)
  have hts : t ≠ s := zne_tag Xt Xs (by decide)
  have htv : t ≠ v := zne_tag Xt Xv (by decide)
  show zwp E _ 126 (0, [some (.ref _), some (.ref _), some .null, none, none], [], _) Q
  refine zr_aload_n zi126_0 rfl ?_
  refine zr_obj zi126_1 rfl ?_
  refine zr_aload_n zi126_4 rfl ?_
  refine zr_virtual zi126_5 rfl rfl Xs rfl rfl ?_
  refine zcall_dep (d := 0) (Nat.le_of_ble_eq_true rfl) (c127 X0 (zbk_v ?_))
  refine zr_astore_n (L' := [some (.ref _), some (.ref _), some .null, some (.ref _), none]) zi126_8 rfl rfl ?_
  refine zr_aload_n zi126_9 rfl ?_
  refine zr_virtual zi126_10 rfl rfl Xs rfl rfl ?_
  refine zcall_dep (d := 1) (Nat.le_of_ble_eq_true rfl) (c128 X0 (zbk_v ?_))
  refine zr_istore (L' := [some (.ref _), some (.ref _), some .null, some (.ref _), some (.int (zJ _))]) zi126_13 rfl rfl ?_
  refine zr_aload_n zi126_15 rfl ?_
  refine zr_virtual zi126_16 rfl rfl Xs rfl rfl ?_
  refine zcall_dep (d := 0) (Nat.le_of_ble_eq_true rfl) (c120 S X0 (zbk_v ?_))
  refine zr_if_eqB zi126_19 rfl (fun q19 => absurd q19 (by decide)) (fun q19 => ?_)
  refine zr_aload_n zi126_22 rfl ?_
  refine zr_iconst (v := zJ 0) zi126_23 rfl ?_
  refine zr_putfield zi126_24 Xt rfl rfl ?_
  refine zw_c (N := N) Xt (by decide) (by omega) (fun h24 F24 Xt24 N24 d24 => ?_)
  have Xs24 := N24 s _ (by omega) Xs
  have Xv24 := N24 v _ (by omega) Xv
  have n24 := congrArg Prod.fst d24
  have S24 := F24.ss S
  refine zr_aload_n zi126_27 rfl ?_
  refine zr_aload_n zi126_28 rfl ?_
  refine zr_iconst (v := zJ 0) zi126_29 rfl ?_
  refine zr_iload zi126_30 rfl ?_
  refine zr_static zi126_32 rfl rfl rfl rfl ?_
  refine zcall_dep (d := 4) (Nat.le_of_ble_eq_true rfl) (c130 (N := N) (by omega) Xv24 (by omega) xb hn hl (fun h32 v32 F32 L32 ev32 X32 N32 n32 => zbk_v ?_))
  have Xt32 := N32 t _ (by omega) Xt24
  have Xs32 := N32 s _ (by omega) Xs24
  have Xv32 := N32 v _ (by omega) Xv24
  have S32 := F32.ss S24
  refine zr_putfield zi126_35 Xt32 rfl rfl ?_
  refine zw_c (N := N) Xt32 (by decide) (by omega) (fun h35 F35 Xt35 N35 d35 => ?_)
  have Xs35 := N35 s _ (by omega) Xs32
  have Xv35 := N35 v _ (by omega) Xv32
  have Xu35 := N35 v32 _ (by omega) X32
  have n35 := congrArg Prod.fst d35
  have S35 := F35.ss S32
  refine zr_goto zi126_38 rfl ?_
  refine zr_return zi126_97 rfl ?_
  exact K _ (((F24.trans F32).trans F35).mono (fun _ _ q => q) (by omega) (by omega))
theorem c125 {E : zEnv} {h : zPH} {Q : zOut → zPH → Prop} (S : ySs E h) {N s v n : Nat} {l : List Int32} {ml : Int32} (X : ySX N h s v l ml n) {t : Nat} (hNt : N ≤ t) (ht : t < h.2.1) (Xt : h.1 t = some (6, [.null, .int 0, .int 0, .int 0])) (hn : n < l.length) (hl : l.length < 400) (K : ∀ h1, yFr (fun x => N ≤ x) h h1 1 n → Q (.inl none) h1) : zcall E 6 125 [.ref t, .ref s] h Q := by
  show zwp E _ 125 (0, [some (.ref _), some (.ref _)], [], _) Q
  refine zr_aload_n zi125_0 rfl ?_
  refine zr_aload_n zi125_1 rfl ?_
  refine zr_null zi125_2 ?_
  refine zr_special zi125_3 rfl rfl rfl rfl ?_
  refine zcall_dep (d := 5) (Nat.le_of_ble_eq_true rfl) (c126 S X hNt ht Xt hn hl (fun h3 F3 => zbk_0 ?_))
  refine zr_return zi125_6 rfl ?_
  exact K _ F3
theorem c124 {E : zEnv} {h : zPH} {Q : zOut → zPH → Prop} (S : ySs E h) {N s v n : Nat} {l : List Int32} {ml : Int32} (X : ySX N h s v l ml n) (hn : n < l.length) (hl : l.length < 400) (K : ∀ h1 t, yFr (fun x => N ≤ x) h h1 2 (n + 4) → Q (.inl (some (.ref t))) h1) : zcall E 7 124 [.ref s] h Q := by
  have hN : N ≤ h.2.1 := by have := X.1; have := X.2.2.1; omega
  obtain ⟨xs, xv, xsl, xvl, Xs, Xv, xn, xb⟩ := X
  show zwp E _ 124 (0, [some (.ref _)], [], _) Q
  refine zr_new zi124_0 rfl rfl ?_
  refine zw_n (fun h0 t F0 ev0 Xt0 N0 n0 => ?_)
  have Xs0 := N0 s _ (by omega) Xs
  have Xv0 := N0 v _ (by omega) Xv
  refine zr_dup zi124_3 rfl ?_
  refine zr_aload_n zi124_4 rfl ?_
  refine zr_special zi124_5 rfl rfl rfl rfl ?_
  refine zcall_dep (d := 6) (Nat.le_of_ble_eq_true rfl) (c125 ((F0 (fun _ => True)).ss S) ⟨xs, xv, by omega, by omega, Xs0, Xv0, xn, xb⟩ (t := t) (by omega) (by omega) Xt0 hn hl (fun h5 F5 => zbk_0 ?_))
  refine zr_areturn zi124_8 rfl ?_
  exact K _ t (((F0 _).trans F5).mono (fun _ _ q => q) (by omega) (by omega))
theorem c123 {E : zEnv} {h : zPH} {Q : zOut → zPH → Prop} {x : Int32} (K : ∀ n, n < 256 → Q (.inl (some (.int (zJ n)))) h) : zcall E 0 123 [.int x] h Q := by
  show zwp E _ 123 (0, [some (.int _)], [], _) Q
  refine zr_iload_n zi123_0 rfl ?_
  refine zr_iconst (v := zJ 1) zi123_1 rfl ?_
  refine zr_icmp_ne zi123_2 rfl (fun q2 => ?_) (fun q2 => ?_)
  · refine zr_iload_n zi123_10 rfl ?_
    refine zr_iconst (v := zJ 2) zi123_11 rfl ?_
    refine zr_icmp_ne zi123_12 rfl (fun q12 => ?_) (fun q12 => ?_)
    · refine zr_bipush (v := zJ 63) zi123_20 rfl ?_
      refine zr_creturn zi123_22 rfl (by decide) ?_
      first | exact K 35 (by omega) | exact K 46 (by omega) | exact K 63 (by omega)
    · refine zr_bipush (v := zJ 46) zi123_15 rfl ?_
      refine zr_goto zi123_17 rfl ?_
      refine zr_creturn zi123_22 rfl (by decide) ?_
      first | exact K 35 (by omega) | exact K 46 (by omega) | exact K 63 (by omega)
  · refine zr_bipush (v := zJ 35) zi123_5 rfl ?_
    refine zr_goto zi123_7 rfl ?_
    refine zr_creturn zi123_22 rfl (by decide) ?_
    first | exact K 35 (by omega) | exact K 46 (by omega) | exact K 63 (by omega)
theorem c109 {E : zEnv} {h : zPH} {Q : zOut → zPH → Prop} (S : ySs E h) {a : Nat} {L : List yBS} {rf : Int32} {τ : yGS} {αt : yAS} (C : yC h a L rf τ αt) {x : Int32} (K : ∀ k b w hh cs cl fs α kp gd gu mi sp, L[k]? = some (b, (w, hh, cs, cl, fs), α, kp, gd, gu, mi, sp) → x = zJ k → ∀ s, yK Q h a L L rf 5 100 (.inl (some (.ref s)))) (X2 : ¬ zin x L.length → Q (.inr 2) (zex h)) : zcall E 8 109 [.ref a, .int x] h Q := by
  have H := C.1
  have hlen := C.len
  have hbl : (L.map (·.1)).length = L.length := by rw [List.length_map]
  show zwp E _ 109 (0, [some (.ref _), some (.int _), none, none, none, none], [], _) Q
  refine zr_aload_n zi109_0 rfl ?_
  refine zr_iload_n zi109_1 rfl ?_
  refine zr_virtual zi109_2 rfl rfl (H.1.at0 rfl) rfl rfl ?_
  refine zcall_dep (d := 0) (Nat.le_of_ble_eq_true rfl) (c13 C (fun k β hk ex => zbk_v ?_) (fun x2 => zbk_no rfl (X2 x2)))
  subst ex
  obtain ⟨b, ⟨w, hh, cs, cl, fs⟩, α, kp, gd, gu, mi, sp⟩ := β
  have B : yB h b w hh cs cl fs α kp gd gu mi sp := (C.bd hk).1
  have hab : a + 16 ≤ b := (C.bd hk).2
  obtain ⟨⟨gw1, gw2, gh1, gh2⟩, gcs, gcl, gfs⟩ := B.gr.2
  obtain ⟨bkp, bgd, bgu⟩ := B.2.2.2.2
  have hwh := zwh_b B.gr.2.1
  refine zr_getfield zi109_5 (B.1.at0 rfl) rfl ?_
  refine zr_astore_n (L' := [some (.ref _), some (.int (zJ _)), some (.ref _), none, none, none]) zi109_8 rfl rfl ?_
  refine zr_new zi109_9 rfl rfl ?_
  refine zw_n (fun h9 s F9 ev9 Xs9 N9 n9 => ?_)
  have hbn : b + 13 + 4 ≤ h.2.1 := B.gr.1.1
  have S9 := (F9 (fun _ => True)).ss S
  obtain ⟨N, hN⟩ : ∃ N, N = h.2.1 := ⟨_, rfl⟩
  refine zr_dup zi109_12 rfl ?_
  refine zr_special zi109_13 rfl rfl rfl rfl ?_
  refine zcall_dep (d := 1) (Nat.le_of_ble_eq_true rfl) (c110 S9 (N := N) (by omega) (by omega) Xs9 (fun h13 v13 F13 X13 => zbk_0 ?_))
  refine zr_astore_n (L' := [some (.ref _), some (.int (zJ _)), some (.ref _), some (.ref _), none, none]) zi109_16 rfl rfl ?_
  refine zr_iconst (v := zJ 0) zi109_17 rfl ?_
  refine zr_istore (L' := [some (.ref _), some (.int (zJ _)), some (.ref _), some (.ref _), some (.int (zJ _)), none]) zi109_18 rfl rfl ?_
  suffices key20 : ∀ h1 v1 l1 m1 s1 x5, (yFr (fun x => N ≤ x) h h1 m1 s1) → (ySX N h1 s v1 l1 0 (0 * (w + 1) - 1)) → (((l1.length = 16 ∧ m1 ≤ 2 ∧ s1 ≤ 20) ∨ (l1.length = 34 ∧ m1 ≤ 3 ∧ s1 ≤ 54))) → zwp E 8 109 (20, [some (.ref a), some (.int (zJ k)), some (.ref (b + 13)), some (.ref s), some (.int (zJ 0)), x5], [], h1) Q from key20 _ _ _ _ _ _ ((F9 _).trans F13) (by rw [Nat.zero_mul]; exact X13) (by left; exact ⟨List.length_replicate, by omega, by omega⟩)
  refine zloop (P := fun r => ∀ h1 v1 l1 m1 s1 x5, (yFr (fun x => N ≤ x) h h1 m1 s1) → (ySX N h1 s v1 l1 0 (r * (w + 1) - 1)) → (((l1.length = 16 ∧ m1 ≤ 2 ∧ s1 ≤ 20) ∨ (l1.length = 34 ∧ m1 ≤ 3 ∧ s1 ≤ 54))) → zwp E 8 109 (20, [some (.ref a), some (.int (zJ k)), some (.ref (b + 13)), some (.ref s), some (.int (zJ r)), x5], [], h1) Q) (n := hh) fun r hk20 ih20 => ?_
  intro h1 v1 l1 m1 s1 x5 F1 X1 Z1
  have S1 := F1.ss S
  have B1 := B.fr F1 (by intro x z1 z2 z3; omega)
  have hx1 := X1.2.2.2.2.2.2.1
  have hr5 : r * (w + 1) ≤ 5 * 6 := Nat.mul_le_mul (by omega) (by omega)
  refine zr_iload zi109_20 rfl ?_
  refine zr_aload_n zi109_22 rfl ?_
  refine zr_getfield zi109_23 (B1.gr.1.at0 rfl) rfl ?_
  refine zr_icmp_geN zi109_26 rfl (by omega) (by omega) (fun q26 => ?_) (fun q26 => ?_)
  · obtain rfl : hh = r := by omega
    have hne : hh * (w + 1) - 1 ≠ 16 ∧ hh * (w + 1) - 1 ≤ 29 := by rcases (show hh = 2 ∨ hh = 3 ∨ hh = 4 ∨ hh = 5 by omega) with rfl | rfl | rfl | rfl <;> omega
    refine zr_aload_n zi109_85 rfl ?_
    refine zr_virtual zi109_86 rfl rfl X1.2.2.2.2.1 rfl rfl ?_
    refine zcall_dep (d := 7) (Nat.le_of_ble_eq_true rfl) (c124 S1 X1 (by omega) (by omega) (fun h86 t86 F86 => zbk_v ?_))
    refine zr_areturn zi109_89 rfl ?_
    have FF := (F1.trans F86).mono (P' := fun x => N ≤ x) (m' := 5) (s' := 100) (fun _ _ q => q) (by omega) (by omega)
    exact K _ _ _ _ _ _ _ _ _ _ _ _ _ hk rfl _ _ _ _ _ (yEqA.refl L) (FF.mono (fun x hx q => by omega) (by omega) (by omega)) (C.fr FF (fun x z q => by have := z.2; have := H.ta.1.1; have : a + 6 + 10 ≤ h.2.1 := this; omega) (fun β hβ x z q => by have h4 := (yBt.gr4 (C.2.1 β hβ)); have := z.2; omega))
  · refine zr_iload zi109_29 rfl ?_
    refine zr_if_leN zi109_31 rfl (by omega) (fun q31 => ?_) (fun q31 => ?_)
    · refine zr_iconst (v := zJ 0) zi109_41 rfl ?_
      refine zr_istore (L' := [some (.ref _), some (.int (zJ _)), some (.ref _), some (.ref _), some (.int (zJ _)), some (.int (zJ _))]) zi109_42 rfl rfl ?_
      have hr0 : r = 0 := q31
      suffices key44 : ∀ h1 v1 l1 m1 s1, (yFr (fun x => N ≤ x) h h1 m1 s1) → (ySX N h1 s v1 l1 0 (r * (w + 1) + 0)) → (((l1.length = 16 ∧ m1 ≤ 2 ∧ s1 ≤ 20) ∨ (l1.length = 34 ∧ m1 ≤ 3 ∧ s1 ≤ 54))) → zwp E 8 109 (44, [some (.ref a), some (.int (zJ k)), some (.ref (b + 13)), some (.ref s), some (.int (zJ r)), some (.int (zJ 0))], [], h1) Q from key44 _ _ _ _ _ F1 (by rw [hr0, Nat.zero_mul]; rw [hr0, Nat.zero_mul] at X1; exact X1) Z1
      refine zloop (P := fun c => ∀ h1 v1 l1 m1 s1, (yFr (fun x => N ≤ x) h h1 m1 s1) → (ySX N h1 s v1 l1 0 (r * (w + 1) + c)) → (((l1.length = 16 ∧ m1 ≤ 2 ∧ s1 ≤ 20) ∨ (l1.length = 34 ∧ m1 ≤ 3 ∧ s1 ≤ 54))) → zwp E 8 109 (44, [some (.ref a), some (.int (zJ k)), some (.ref (b + 13)), some (.ref s), some (.int (zJ r)), some (.int (zJ c))], [], h1) Q) (n := w) fun c hk44 ih44 => ?_
      intro h1 v1 l1 m1 s1 F1 X1 Z1
      have S1 := F1.ss S
      have B1 := B.fr F1 (by intro x z1 z2 z3; omega)
      have hx1 := X1.2.2.2.2.2.2.1
      refine zr_iload zi109_44 rfl ?_
      refine zr_aload_n zi109_46 rfl ?_
      refine zr_getfield zi109_47 (B1.gr.1.at0 rfl) rfl ?_
      refine zr_icmp_geN zi109_50 rfl (by omega) (by omega) (fun q50 => ?_) (fun q50 => ?_)
      · obtain rfl : w = c := by omega
        refine zr_iincN (z := 1) (L' := [some (.ref _), some (.int (zJ _)), some (.ref _), some (.ref _), some (.int (zJ _)), some (.int (zJ _))]) zi109_79 rfl rfl rfl rfl ?_
        refine zr_goto zi109_82 rfl ?_
        exact ih20 (by omega) _ _ _ _ _ _ F1 (by rw [show (r + 1) * (w + 1) - 1 = r * (w + 1) + w by rw [Nat.add_mul]; omega]; exact X1) Z1
      · have hcl := ycl_b (w := w) (hh := hh) (i := r) (p := c) (by omega) (by rw [yln, if_pos q26]; exact q50)
        have hr4 : r * (w + 1) ≤ 4 * 6 := Nat.mul_le_mul (by omega) (by omega)
        refine zr_aload_n zi109_53 rfl ?_
        refine zr_aload_n zi109_54 rfl ?_
        refine zr_aload_n zi109_55 rfl ?_
        refine zr_iload zi109_56 rfl ?_
        refine zr_iload zi109_58 rfl ?_
        refine zr_virtual zi109_60 rfl rfl (B1.gr.1.at0 rfl) rfl rfl ?_
        refine zcall_dep (d := 0) (Nat.le_of_ble_eq_true rfl) (c21 B1.gr (by omega) (by omega) (zbk_v ?_))
        refine zr_virtual zi109_63 rfl rfl (B1.gr.1.at0 rfl) rfl rfl ?_
        refine zcall_dep (d := 0) (Nat.le_of_ble_eq_true rfl) (c16 B1.gr (by omega) (zbk_v ?_))
        refine zr_static zi109_66 rfl rfl rfl rfl ?_
        refine zcall_dep (d := 0) (Nat.le_of_ble_eq_true rfl) (c123 (fun n66 hn66 => zbk_v ?_))
        refine zr_virtual zi109_69 rfl rfl X1.2.2.2.2.1 rfl rfl ?_
        refine zcall_dep (d := 5) (Nat.le_of_ble_eq_true rfl) (c112 S1 X1 (by omega) (by omega) (by omega) (by omega) (fun h69 v69 l69 m69 s69 F69 X69 Z69 D69 => zbk_v ?_))
        have S69 := F69.ss S1
        have B69 := B1.fr F69 (by intro x z1 z2 z3; omega)
        refine zr_pop zi109_72 rfl ?_
        refine zr_iincN (z := 1) (L' := [some (.ref _), some (.int (zJ _)), some (.ref _), some (.ref _), some (.int (zJ _)), some (.int (zJ _))]) zi109_73 rfl rfl rfl rfl ?_
        refine zr_goto zi109_76 rfl ?_
        exact ih44 (by omega) _ _ _ _ _ (F1.trans F69) X69 (by omega)
    · have hr4 : r * (w + 1) ≤ 4 * 6 := Nat.mul_le_mul (by omega) (by omega)
      refine zr_aload_n zi109_34 rfl ?_
      refine zr_bipush (v := zJ 47) zi109_35 rfl ?_
      refine zr_virtual zi109_37 rfl rfl X1.2.2.2.2.1 rfl rfl ?_
      refine zcall_dep (d := 5) (Nat.le_of_ble_eq_true rfl) (c112 S1 X1 (by omega) (by omega) (by omega) (by omega) (fun h37 v37 l37 m37 s37 F37 X37 Z37 D37 => zbk_v ?_))
      have S37 := F37.ss S1
      have B37 := B1.fr F37 (by intro x z1 z2 z3; omega)
      refine zr_pop zi109_40 rfl ?_
      refine zr_iconst (v := zJ 0) zi109_41 rfl ?_
      refine zr_istore (L' := [some (.ref _), some (.int (zJ _)), some (.ref _), some (.ref _), some (.int (zJ _)), some (.int (zJ _))]) zi109_42 rfl rfl ?_
      suffices key44 : ∀ h1 v1 l1 m1 s1, (yFr (fun x => N ≤ x) h h1 m1 s1) → (ySX N h1 s v1 l1 0 (r * (w + 1) + 0)) → (((l1.length = 16 ∧ m1 ≤ 2 ∧ s1 ≤ 20) ∨ (l1.length = 34 ∧ m1 ≤ 3 ∧ s1 ≤ 54))) → zwp E 8 109 (44, [some (.ref a), some (.int (zJ k)), some (.ref (b + 13)), some (.ref s), some (.int (zJ r)), some (.int (zJ 0))], [], h1) Q from key44 _ _ _ _ _ (F1.trans F37) (by rw [show r * (w + 1) + 0 = r * (w + 1) - 1 + 1 by have := Nat.mul_le_mul (show 1 ≤ r by omega) (show 3 ≤ w + 1 by omega); omega]; exact X37) (by omega)
      refine zloop (P := fun c => ∀ h1 v1 l1 m1 s1, (yFr (fun x => N ≤ x) h h1 m1 s1) → (ySX N h1 s v1 l1 0 (r * (w + 1) + c)) → (((l1.length = 16 ∧ m1 ≤ 2 ∧ s1 ≤ 20) ∨ (l1.length = 34 ∧ m1 ≤ 3 ∧ s1 ≤ 54))) → zwp E 8 109 (44, [some (.ref a), some (.int (zJ k)), some (.ref (b + 13)), some (.ref s), some (.int (zJ r)), some (.int (zJ c))], [], h1) Q) (n := w) fun c hk44 ih44 => ?_
      intro h1 v1 l1 m1 s1 F1 X1 Z1
      have S1 := F1.ss S
      have B1 := B.fr F1 (by intro x z1 z2 z3; omega)
      have hx1 := X1.2.2.2.2.2.2.1
      refine zr_iload zi109_44 rfl ?_
      refine zr_aload_n zi109_46 rfl ?_
      refine zr_getfield zi109_47 (B1.gr.1.at0 rfl) rfl ?_
      refine zr_icmp_geN zi109_50 rfl (by omega) (by omega) (fun q50 => ?_) (fun q50 => ?_)
      · obtain rfl : w = c := by omega
        refine zr_iincN (z := 1) (L' := [some (.ref _), some (.int (zJ _)), some (.ref _), some (.ref _), some (.int (zJ _)), some (.int (zJ _))]) zi109_79 rfl rfl rfl rfl ?_
        refine zr_goto zi109_82 rfl ?_
        exact ih20 (by omega) _ _ _ _ _ _ F1 (by rw [show (r + 1) * (w + 1) - 1 = r * (w + 1) + w by rw [Nat.add_mul]; omega]; exact X1) Z1
      · have hcl := ycl_b (w := w) (hh := hh) (i := r) (p := c) (by omega) (by rw [yln, if_pos q26]; exact q50)
        have hr4 : r * (w + 1) ≤ 4 * 6 := Nat.mul_le_mul (by omega) (by omega)
        refine zr_aload_n zi109_53 rfl ?_
        refine zr_aload_n zi109_54 rfl ?_
        refine zr_aload_n zi109_55 rfl ?_
        refine zr_iload zi109_56 rfl ?_
        refine zr_iload zi109_58 rfl ?_
        refine zr_virtual zi109_60 rfl rfl (B1.gr.1.at0 rfl) rfl rfl ?_
        refine zcall_dep (d := 0) (Nat.le_of_ble_eq_true rfl) (c21 B1.gr (by omega) (by omega) (zbk_v ?_))
        refine zr_virtual zi109_63 rfl rfl (B1.gr.1.at0 rfl) rfl rfl ?_
        refine zcall_dep (d := 0) (Nat.le_of_ble_eq_true rfl) (c16 B1.gr (by omega) (zbk_v ?_))
        refine zr_static zi109_66 rfl rfl rfl rfl ?_
        refine zcall_dep (d := 0) (Nat.le_of_ble_eq_true rfl) (c123 (fun n66 hn66 => zbk_v ?_))
        refine zr_virtual zi109_69 rfl rfl X1.2.2.2.2.1 rfl rfl ?_
        refine zcall_dep (d := 5) (Nat.le_of_ble_eq_true rfl) (c112 S1 X1 (by omega) (by omega) (by omega) (by omega) (fun h69 v69 l69 m69 s69 F69 X69 Z69 D69 => zbk_v ?_))
        have S69 := F69.ss S1
        have B69 := B1.fr F69 (by intro x z1 z2 z3; omega)
        refine zr_pop zi109_72 rfl ?_
        refine zr_iincN (z := 1) (L' := [some (.ref _), some (.int (zJ _)), some (.ref _), some (.ref _), some (.int (zJ _)), some (.int (zJ _))]) zi109_73 rfl rfl rfl rfl ?_
        refine zr_goto zi109_76 rfl ?_
        exact ih44 (by omega) _ _ _ _ _ (F1.trans F69) X69 (by omega)

