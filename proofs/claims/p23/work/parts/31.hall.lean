/-! ===== the hall: its blocks, its boards ===== -/
abbrev yBS : Type := Nat × (Nat × Nat × List Int32 × List Int32 × List Int32) × yAS × List Int32 × List Int32 × Nat × Int32 × Int32
abbrev yGS : Type := Nat × Nat × List Int32 × List Int32 × List Int32
def yBt (h : zPH) (β : yBS) : Prop := yB h β.1 β.2.1.1 β.2.1.2.1 β.2.1.2.2.1 β.2.1.2.2.2.1 β.2.1.2.2.2.2 β.2.2.1 β.2.2.2.1 β.2.2.2.2.1 β.2.2.2.2.2.1 β.2.2.2.2.2.2.1 β.2.2.2.2.2.2.2
def yGt (h : zPH) (g : Nat) (τ : yGS) : Prop := yG h g τ.1 τ.2.1 τ.2.2.1 τ.2.2.2.1 τ.2.2.2.2
def zbs (bs : List Nat) : List Value := bs.map Value.ref ++ List.replicate (3 - bs.length) .null
def yH (h : zPH) (a : Nat) (bs : List Nat) (rf : Int32) (τ : yGS) (α : yAS) : Prop := yBk h a [(0, [.ref (a + 1), .ref (a + 2), .ref (a + 6), .int (zJ bs.length), .int rf]), (68, zbs bs)] ∧ yGt h (a + 2) τ ∧ yAt h (a + 6) α ∧ bs.length ≤ 3
def yC (h : zPH) (a : Nat) (L : List yBS) (rf : Int32) (τ : yGS) (α : yAS) : Prop := yH h a (L.map (·.1)) rf τ α ∧ (∀ β ∈ L, yBt h β) ∧ (∀ β ∈ L, a + 16 ≤ β.1) ∧ L.Pairwise (fun x y => x.1 + 17 ≤ y.1) ∧ (∀ β ∈ L, yAI β.2.2.1) ∧ yAI α
def yP (a b x : Nat) : Prop := yIv a 16 x ∨ yIv b 17 x
theorem yFr.inl {a b m s : Nat} {h h' : zPH} (F : yFr (yIv a 16) h h' m s) : yFr (yP a b) h h' m s := F.mono (fun _ _ q => Or.inl q) (Nat.le_refl _) (Nat.le_refl _)
theorem yFr.inr {a b m s : Nat} {h h' : zPH} (F : yFr (yIv b 17) h h' m s) : yFr (yP a b) h h' m s := F.mono (fun _ _ q => Or.inr q) (Nat.le_refl _) (Nat.le_refl _)
section YH
variable {h : zPH} {a : Nat} {bs : List Nat} {rf : Int32} {τ : yGS} {α : yAS}
theorem yH.tr (H : yH h a bs rf τ α) : yGt h (a + 2) τ := H.2.1
theorem yH.ta (H : yH h a bs rf τ α) : yAt h (a + 6) α := H.2.2.1
theorem yH.fr {P : Nat → Prop} {h' : zPH} {m s : Nat} (H : yH h a bs rf τ α) (F : yFr P h h' m s) (hd : ∀ x, a ≤ x → x < a + 16 → ¬ P x) : yH h' a bs rf τ α :=
  ⟨F.bk H.1 (fun x z1 z2 => hd x z1 (by have z2 : x < a + 2 := z2; omega)), yG.fr H.2.1 F (fun x z1 z2 => hd x (by omega) (by omega)), yA.fr H.2.2.1 F (fun x z1 z2 => hd x (by omega) (by omega)), H.2.2.2⟩
theorem yH.putTr {h' : zPH} {m s w hh : Nat} {cs cl fs : List Int32} (H : yH h a bs rf τ α) (F : yFr (yIv (a + 2) 4) h h' m s) (G : yG h' (a + 2) w hh cs cl fs) : yH h' a bs rf (w, hh, cs, cl, fs) α :=
  ⟨F.bk H.1 (fun x z1 z2 z3 => by have z2 : x < a + 2 := z2; have := z3.1; omega), G, yA.fr H.2.2.1 F (fun x z1 z2 z3 => by have := z3.2; omega), H.2.2.2⟩
theorem yH.putTa {h' : zPH} {m s : Nat} {α' : yAS} (H : yH h a bs rf τ α) (F : yFr (yIv (a + 6) 10) h h' m s) (A : yAt h' (a + 6) α') : yH h' a bs rf τ α' :=
  ⟨F.bk H.1 (fun x z1 z2 z3 => by have z2 : x < a + 2 := z2; have := z3.1; omega), yG.fr H.2.1 F (fun x z1 z2 z3 => by have := z3.1; omega), A, H.2.2.2⟩
variable {E : zEnv} {d j pc : Nat} {L : zLc} {st : List Value} {Q : zOut → zPH → Prop}
theorem yH.wob {rf' : Int32} (H : yH h a bs rf τ α) (K : ∀ h1, yFr (yIv a 16) h h1 0 0 → yH h1 a bs rf' τ α → zwp E d j (pc, L, st, h1) Q) : zwp E d j (pc, L, st, zset h a (0, [.ref (a + 1), .ref (a + 2), .ref (a + 6), .int (zJ bs.length), .int rf'])) Q :=
  zw_bk H.1 (k := 0) rfl (by omega) fun h1 F G => K h1 (F.mono (fun x _ q => ⟨q.1, by have : x < a + 2 := q.2; omega⟩) (Nat.le_refl _) (Nat.le_refl _)) ⟨G, yG.fr H.2.1 F (fun x z1 z2 z3 => by have : x < a + 2 := z3.2; omega), yA.fr H.2.2.1 F (fun x z1 z2 z3 => by have : x < a + 2 := z3.2; omega), H.2.2.2⟩
end YH
theorem yBt.fr {P : Nat → Prop} {h h' : zPH} {m s : Nat} {β : yBS} (B : yBt h β) (F : yFr P h h' m s) (hd : ∀ x, β.1 ≤ x → x < β.1 + 17 → ¬ P x) : yBt h' β := yB.fr B F hd
theorem zbs_lt {bs : List Nat} {k b : Nat} (hk : bs[k]? = some b) : (zbs bs)[k]? = some (.ref b) := by
  have hl : k < bs.length := by
    rcases Nat.lt_or_ge k bs.length with q | q
    · exact q
    · rw [List.getElem?_eq_none q] at hk; cases hk
  unfold zbs
  rw [List.getElem?_append_left (by rw [List.length_map]; exact hl), List.getElem?_map, hk]
  rfl
theorem zbs_ge {bs : List Nat} {k : Nat} (h3 : k < 3) (hb : bs.length ≤ 3) (hk : bs.length ≤ k) : (zbs bs)[k]? = some .null := by
  unfold zbs
  rw [List.getElem?_append_right (by rw [List.length_map]; exact hk), List.getElem?_replicate, if_pos (by rw [List.length_map]; omega)]
theorem zbs_len {bs : List Nat} (hb : bs.length ≤ 3) : (zbs bs).length = 3 := by
  unfold zbs
  rw [List.length_append, List.length_map, List.length_replicate]
  omega
section YC
variable {h h' : zPH} {a : Nat} {L : List yBS} {rf : Int32} {τ : yGS} {α : yAS}
theorem yC.bd {k : Nat} {β : yBS} (C : yC h a L rf τ α) (hk : L[k]? = some β) : yBt h β ∧ a + 16 ≤ β.1 := by
  have hm : β ∈ L := List.mem_of_getElem? hk
  exact ⟨C.2.1 β hm, C.2.2.1 β hm⟩
theorem yC.ai {k : Nat} {β : yBS} (C : yC h a L rf τ α) (hk : L[k]? = some β) : yAI β.2.2.1 := C.2.2.2.2.1 β (List.mem_of_getElem? hk)
theorem yC.ait (C : yC h a L rf τ α) : yAI α := C.2.2.2.2.2
theorem yC.len (C : yC h a L rf τ α) : L.length ≤ 3 := by
  have := C.1.2.2.2
  rw [List.length_map] at this
  exact this
theorem yC.fr {P : Nat → Prop} {m s : Nat} (C : yC h a L rf τ α) (F : yFr P h h' m s) (h1 : ∀ x, yIv a 16 x → ¬ P x) (h2 : ∀ β ∈ L, ∀ x, yIv β.1 17 x → ¬ P x) : yC h' a L rf τ α :=
  ⟨C.1.fr F (fun x z1 z2 => h1 x ⟨z1, z2⟩), fun β hβ => (C.2.1 β hβ).fr F (fun x z1 z2 => h2 β hβ x ⟨z1, z2⟩), C.2.2⟩
theorem ymem_set {k : Nat} {β' : yBS} {γ : yBS} (hγ : γ ∈ L.set k β') : γ = β' ∨ ∃ i, i ≠ k ∧ L[i]? = some γ := by
  obtain ⟨i, hi⟩ := List.getElem?_of_mem hγ
  by_cases q : k = i
  · subst q
    have hl : k < L.length := by
      rcases Nat.lt_or_ge k L.length with z | z
      · exact z
      · rw [List.getElem?_eq_none (by rw [List.length_set]; exact z)] at hi; cases hi
    rw [List.getElem?_set_self hl] at hi
    exact Or.inl (Option.some.inj hi).symm
  · rw [List.getElem?_set_ne q] at hi
    exact Or.inr ⟨i, fun e => q e.symm, hi⟩
theorem ypair {i k : Nat} {β γ : yBS} (hp : L.Pairwise (fun x y => x.1 + 17 ≤ y.1)) (hi : L[i]? = some γ) (hk : L[k]? = some β) (hn : i ≠ k) : γ.1 + 17 ≤ β.1 ∨ β.1 + 17 ≤ γ.1 := by
  have li : i < L.length := by
    rcases Nat.lt_or_ge i L.length with z | z
    · exact z
    · rw [List.getElem?_eq_none z] at hi; cases hi
  have lk : k < L.length := by
    rcases Nat.lt_or_ge k L.length with z | z
    · exact z
    · rw [List.getElem?_eq_none z] at hk; cases hk
  rw [List.getElem?_eq_getElem li] at hi
  rw [List.getElem?_eq_getElem lk] at hk
  cases hi
  cases hk
  have hq := List.pairwise_iff_getElem.mp hp
  rcases Nat.lt_or_ge i k with z | z
  · exact Or.inl (hq i k li lk z)
  · exact Or.inr (hq k i lk li (by omega))
theorem yC.upd {k m s : Nat} {β β' : yBS} {rf' : Int32} {τ' : yGS} {α' : yAS} (C : yC h a L rf τ α) (hk : L[k]? = some β) (F : yFr (yP a β.1) h h' m s) (H' : yH h' a (L.map (·.1)) rf' τ' α') (B' : yBt h' β') (hb : β'.1 = β.1) (ib : yAI β'.2.2.1) (ia : yAI α') : yC h' a (L.set k β') rf' τ' α' := by
  have hmap : (L.set k β').map (·.1) = L.map (·.1) := by
    rw [List.map_set]
    apply List.ext_getElem?
    intro i
    by_cases q : k = i
    · subst q
      have hl : k < (L.map (·.1)).length := by
        rcases Nat.lt_or_ge k L.length with z | z
        · rw [List.length_map]; exact z
        · rw [List.getElem?_eq_none z] at hk; cases hk
      rw [List.getElem?_set_self hl, List.getElem?_map, hk]
      show some β'.1 = some β.1
      rw [hb]
    · rw [List.getElem?_set_ne q]
  have hlow : ∀ γ ∈ L.set k β', a + 16 ≤ γ.1 := by
    intro γ hγ
    rcases ymem_set hγ with rfl | ⟨i, -, hi⟩
    · rw [hb]; exact (C.bd hk).2
    · exact (C.bd hi).2
  refine ⟨by rw [hmap]; exact H', fun γ hγ => ?_, hlow, ?_, fun γ hγ => ?_, ia⟩
  · rcases ymem_set hγ with rfl | ⟨i, hn, hi⟩
    · exact B'
    · have hd := ypair C.2.2.2.1 hi hk hn
      have hl := (C.bd hi).2
      refine (C.bd hi).1.fr F (fun x z1 z2 z3 => ?_)
      rcases z3 with z | z
      · have := z.2; omega
      · have := z.1; have := z.2; omega
  · rw [List.pairwise_iff_getElem]
    intro i j hi hj hij
    have hq := List.pairwise_iff_getElem.mp C.2.2.2.1
    rw [List.length_set] at hi hj
    have hkey : ∀ i (hi : i < L.length), ((L.set k β')[i]'(by rw [List.length_set]; exact hi)).1 = (L[i]).1 := by
      intro i hi
      rw [List.getElem_set]
      split
      · rename_i q
        subst q
        rw [hb]
        rw [List.getElem?_eq_getElem hi] at hk
        cases hk
        rfl
      · rfl
    rw [hkey i hi, hkey j hj]
    exact hq i j hi hj hij
  · rcases ymem_set hγ with rfl | ⟨i, -, hi⟩
    · exact ib
    · exact C.ai hi
end YC
/-! ### what an operation leaves -/
def yNoA (β : yBS) : Nat × (Nat × Nat × List Int32 × List Int32 × List Int32) × List Int32 × List Int32 × Nat × Int32 × Int32 := (β.1, β.2.1, β.2.2.2)
/-- the same boards, but for what their albums hold -/
def yEqA (L L1 : List yBS) : Prop := L1.map yNoA = L.map yNoA
theorem yEqA.refl (L : List yBS) : yEqA L L := rfl
theorem yEqA.trans {L L1 L2 : List yBS} (a : yEqA L L1) (b : yEqA L1 L2) : yEqA L L2 := Eq.trans b a
theorem yEqA_set {L : List yBS} {k : Nat} {β β' : yBS} (h : yNoA β' = yNoA β) : yEqA (L.set k β) (L.set k β') := by
  unfold yEqA
  rw [List.map_set, List.map_set, h]
theorem yset_self {L : List yBS} {k : Nat} {β : yBS} (hk : L[k]? = some β) : L.set k β = L := by
  apply List.ext_getElem?
  intro i
  by_cases q : k = i
  · subst q
    have hl : k < L.length := by
      rcases Nat.lt_or_ge k L.length with z | z
      · exact z
      · rw [List.getElem?_eq_none z] at hk; cases hk
    rw [List.getElem?_set_self hl, hk]
  · rw [List.getElem?_set_ne q]
theorem yEqA_self {L : List yBS} {k : Nat} {β β' : yBS} (hk : L[k]? = some β) (h : yNoA β' = yNoA β) : yEqA L (L.set k β') := by
  have := yEqA_set (L := L) (k := k) h
  rw [yset_self hk] at this
  exact this
theorem yEqA.map1 {L L1 : List yBS} (h : yEqA L L1) : L1.map (·.1) = L.map (·.1) := by
  have := congrArg (List.map (·.1)) h
  rw [List.map_map, List.map_map] at this
  exact this
theorem yEqA.len {L L1 : List yBS} (h : yEqA L L1) : L1.length = L.length := by
  have := congrArg List.length h
  rw [List.length_map, List.length_map] at this
  exact this
theorem yEqA.at {L L1 : List yBS} {k : Nat} {β : yBS} (h : yEqA L L1) (hk : L[k]? = some β) : ∃ β1, L1[k]? = some β1 ∧ yNoA β1 = yNoA β := by
  have := congrArg (fun l => l[k]?) h
  simp only [List.getElem?_map, hk] at this
  cases h1 : L1[k]? with
  | none => rw [h1] at this; cases this
  | some β1 => rw [h1] at this; exact ⟨β1, rfl, Option.some.inj this⟩
def yPb (a : Nat) (bs : List Nat) (x : Nat) : Prop := yIv a 16 x ∨ ∃ b ∈ bs, yIv b 17 x
theorem yFr.pb {a k m s : Nat} {h h' : zPH} {L : List yBS} {β : yBS} (hk : L[k]? = some β) (F : yFr (yP a β.1) h h' m s) : yFr (yPb a (L.map (·.1))) h h' m s :=
  F.mono (fun _ _ q => q.imp id (fun z => ⟨β.1, List.mem_map_of_mem (List.mem_of_getElem? hk), z⟩)) (Nat.le_refl _) (Nat.le_refl _)
theorem yFr.ph {a m s : Nat} {h h' : zPH} {bs : List Nat} (F : yFr (yIv a 16) h h' m s) : yFr (yPb a bs) h h' m s := F.mono (fun _ _ q => Or.inl q) (Nat.le_refl _) (Nat.le_refl _)
/-- what comes behind an operation: the boards LN (but for albums), the count rf -/
def yK (Q : zOut → zPH → Prop) (h : zPH) (a : Nat) (L LN : List yBS) (rf : Int32) (m s : Nat) (o : zOut) : Prop := ∀ h1 L1 τ1 α1, yEqA LN L1 → yFr (yPb a (L.map (·.1))) h h1 m s → yC h1 a L1 rf τ1 α1 → Q o h1
theorem yBt.mk {h : zPH} {b w hh : Nat} {cs cl fs : List Int32} {α : yAS} {kp gd : List Int32} {gu : Nat} {mi sp : Int32} (B : yB h b w hh cs cl fs α kp gd gu mi sp) : yBt h (b, (w, hh, cs, cl, fs), α, kp, gd, gu, mi, sp) := B
theorem yEqA_al {L : List yBS} {k b w hh : Nat} {cs cl fs : List Int32} {α α' : yAS} {kp gd : List Int32} {gu : Nat} {mi sp : Int32} (hk : L[k]? = some (b, (w, hh, cs, cl, fs), α, kp, gd, gu, mi, sp)) : yEqA L (L.set k (b, (w, hh, cs, cl, fs), α', kp, gd, gu, mi, sp)) := yEqA_self hk rfl
theorem yGt.out {h : zPH} {g w hh : Nat} {cs cl fs : List Int32} (G : yGt h g (w, hh, cs, cl, fs)) : yG h g w hh cs cl fs := G
theorem yBt.out {h : zPH} {b w hh : Nat} {cs cl fs : List Int32} {α : yAS} {kp gd : List Int32} {gu : Nat} {mi sp : Int32} (B : yBt h (b, (w, hh, cs, cl, fs), α, kp, gd, gu, mi, sp)) : yB h b w hh cs cl fs α kp gd gu mi sp := B
theorem yEqA.atT {L L1 : List yBS} {k b w hh : Nat} {cs cl fs : List Int32} {α : yAS} {kp gd : List Int32} {gu : Nat} {mi sp : Int32} (e : yEqA L L1) (hk : L[k]? = some (b, (w, hh, cs, cl, fs), α, kp, gd, gu, mi, sp)) : ∃ α1, L1[k]? = some (b, (w, hh, cs, cl, fs), α1, kp, gd, gu, mi, sp) := by
  obtain ⟨⟨b1, γ1, α1, r1⟩, h1, h2⟩ := e.at hk
  refine ⟨α1, ?_⟩
  rw [h1]
  unfold yNoA at h2
  simp only [Prod.mk.injEq] at h2
  obtain ⟨rfl, rfl, rfl⟩ := h2
  rfl
theorem yk_eq {L : List yBS} {k k' : Nat} {β β' : yBS} (h1 : L[k]? = some β) (h2 : L[k']? = some β') (e : zJ k = zJ k') (hl : L.length ≤ 3) : β = β' := by
  have l1 : k < L.length := by
    rcases Nat.lt_or_ge k L.length with z | z
    · exact z
    · rw [List.getElem?_eq_none z] at h1; cases h1
  have l2 : k' < L.length := by
    rcases Nat.lt_or_ge k' L.length with z | z
    · exact z
    · rw [List.getElem?_eq_none z] at h2; cases h2
  have := (zJ_eq (by omega) (by omega)).mp e
  subst this
  rw [h1] at h2
  exact Option.some.inj h2
theorem yFr.mp {a m s : Nat} {h h' : zPH} {L L1 : List yBS} (F : yFr (yPb a (L1.map (·.1))) h h' m s) (e : yEqA L L1) : yFr (yPb a (L.map (·.1))) h h' m s := by
  rw [← e.map1]
  exact F
