/-! ===== the law's own calls: what stays true ===== -/
def yO (h : zPH) (o : Nat) : Prop := ∃ u0 u1 u2, yBk h o [(3, [u0, u1, u2])]
/-- what was guessed lies on a board -/
def yI1 (gd : List Int32) (gu : Nat) : Prop := ∀ i, i < gu → ∃ c, c < 25 ∧ gd.getD i 0 = zJ c
def yI (L : List yBS) : Prop := ∀ (k : Nat) (β : yBS), L[k]? = some β → yI1 β.2.2.2.2.1 β.2.2.2.2.2.1
def yR (h : zPH) (a : Nat) (L L1 : List yBS) : Prop := ∀ x, yPb a (L1.map (·.1)) x → yPb a (L.map (·.1)) x ∨ h.2.1 ≤ x
def yT (h h1 : zPH) (a o : Nat) (L L1 : List yBS) (rf : Int32) (m s : Nat) : Prop := yFr (fun x => yPb a (L.map (·.1)) x ∨ x = o) h h1 m s ∧ (∃ τ1 α1, yC h1 a L1 rf τ1 α1) ∧ yO h1 o ∧ yR h a L L1 ∧ yI L1
section YT
variable {h h1 : zPH} {E : zEnv} {a o m s : Nat} {L L1 LN : List yBS} {rf : Int32} {τ : yGS} {αt : yAS}
theorem yI.eqA (I : yI L) (e : yEqA L L1) : yI L1 := by
  intro k β hk
  have h1 : (L1.map yNoA)[k]? = some (yNoA β) := by rw [List.getElem?_map, hk]; rfl
  rw [e, List.getElem?_map] at h1
  cases hL : L[k]? with
  | none => rw [hL] at h1; cases h1
  | some γ =>
    rw [hL] at h1
    have h2 : yNoA γ = yNoA β := Option.some.inj h1
    have h3 := I k γ hL
    have e1 : γ.2.2.2.2.1 = β.2.2.2.2.1 := congrArg (fun z => z.2.2.2.1) h2
    have e2 : γ.2.2.2.2.2.1 = β.2.2.2.2.2.1 := congrArg (fun z => z.2.2.2.2.1) h2
    rw [← e1, ← e2]
    exact h3
theorem yI.set {k : Nat} {β : yBS} (I : yI L) (hb : yI1 β.2.2.2.2.1 β.2.2.2.2.2.1) : yI (L.set k β) := by
  intro i γ hi
  rw [List.getElem?_set] at hi
  split at hi
  · split at hi
    · obtain rfl := Option.some.inj hi
      exact hb
    · cases hi
  · exact I i γ hi
theorem yI.app {β : yBS} (I : yI L) (hb : yI1 β.2.2.2.2.1 β.2.2.2.2.2.1) : yI (L ++ [β]) := by
  intro i γ hi
  rcases Nat.lt_or_ge i L.length with q | q
  · rw [List.getElem?_append_left q] at hi
    exact I i γ hi
  · rw [List.getElem?_append_right q] at hi
    rcases Nat.eq_zero_or_pos (i - L.length) with y | y
    · rw [y] at hi
      obtain rfl := Option.some.inj hi
      exact hb
    · rw [List.getElem?_eq_none (by show 1 ≤ _; omega)] at hi; cases hi
theorem ymap_set {k b : Nat} {β β' : yBS} (hk : L[k]? = some β) (hb : β'.1 = β.1) : (L.set k β').map (·.1) = L.map (·.1) := by
  apply List.ext_getElem?
  intro i
  rw [List.getElem?_map, List.getElem?_map, List.getElem?_set]
  split
  · rename_i q
    subst q
    have hl : k < L.length := by
      rcases Nat.lt_or_ge k L.length with q | q
      · exact q
      · rw [List.getElem?_eq_none q] at hk; cases hk
    rw [if_pos hl, hk]
    show some β'.1 = some β.1
    rw [hb]
  · rfl
theorem yR.map (e : L1.map (·.1) = L.map (·.1)) : yR h a L L1 := fun x z => by rw [e] at z; exact Or.inl z
theorem yR.app {β : yBS} (hb : h.2.1 ≤ β.1) : yR h a L (L ++ [β]) := by
  intro x z
  rcases z with z | ⟨b, hm, z⟩
  · exact Or.inl (Or.inl z)
  · rw [List.map_append] at hm
    rcases List.mem_append.mp hm with hm | hm
    · exact Or.inl (Or.inr ⟨b, hm, z⟩)
    · obtain rfl := List.mem_singleton.mp hm
      exact Or.inr (Nat.le_trans hb z.1)
theorem yT.ex (C : yC h a L rf τ αt) (O : yO h o) (I : yI L) : yT h (zex h) a o L L rf 1 6 := by
  obtain ⟨u0, u1, u2, G⟩ := O
  exact ⟨yFr.ex _ h, ⟨τ, αt, C.fr (yFr.ex (fun _ => False) h) (fun _ _ z => z) (fun _ _ _ _ z => z)⟩, ⟨u0, u1, u2, G.f1 (yFr.ex (fun _ => False) h) (fun z => z)⟩, yR.map rfl, I⟩
/-- the answer is put down -/
theorem zw_out {d j pc : Nat} {Ls : zLc} {st : List Value} {Q : zOut → zPH → Prop} {τ1 : yGS} {α1 : yAS} {u0 u1 u2 v0 v1 v2 : Value} (hO : ∀ x, yPb a (L.map (·.1)) x → x ≠ o) (G : yBk h o [(3, [u0, u1, u2])]) (hR : yR h a L LN) (I : yI LN) (e : yEqA LN L1) (F : yFr (yPb a (L.map (·.1))) h h1 m s) (C1 : yC h1 a L1 rf τ1 α1) (K : ∀ h2, yT h h2 a o L L1 rf m s → h2.1 o = some (3, [v0, v1, v2]) → zwp E d j (pc, Ls, st, h2) Q) : zwp E d j (pc, Ls, st, zset h1 o (3, [v0, v1, v2])) Q := by
  have hol : o + 1 ≤ h.2.1 := G.1
  have G1 := G.f1 F (fun z => hO o z rfl)
  have hR1 : yR h a L L1 := fun x z => hR x (by rw [e.map1] at z; exact z)
  have av : ∀ x, yPb a (L1.map (·.1)) x → ¬ yIv o 1 x := fun x z y => by
    have hx : x = o := by have := y.1; have := y.2; omega
    rcases hR1 x z with q | q
    · exact hO x q hx
    · omega
  refine zw_bkX0 (N := 1) G1 rfl (by decide) (Nat.le_refl _) (fun h2 F2 G2 e2 => K h2 ⟨?_, ⟨τ1, α1, C1.fr F2 (fun x z => av x (Or.inl z)) (fun β hβ x z => av x (Or.inr ⟨β.1, List.mem_map_of_mem hβ, z⟩))⟩, ⟨v0, v1, v2, G2⟩, hR1, I.eqA e⟩ (G2.at0 rfl))
  exact (F.mono (fun x _ z => Or.inl z) (Nat.le_refl _) (Nat.le_refl _)).trans (F2.mono (fun x _ z => Or.inr (by have := z.1; have := z.2; omega)) (Nat.le_refl _) (Nat.le_refl _))
theorem yT.fit {m' s' : Nat} (T : yT h h1 a o L L1 rf m s) (hm : m ≤ m') (hs : s ≤ s') : yT h h1 a o L L1 rf m' s' := ⟨T.1.fit hm hs, T.2⟩
end YT
/-- a throw that is caught -/
theorem zbk_th {E : zEnv} {d j pc pc' e hp q : Nat} {L : zLc} {st : List Value} {h : zPH} {Q : zOut → zPH → Prop} {r : zMd} (hm : zmd j = some r) {hh : Nat × Nat × Nat × Nat} {hs : List (Nat × Nat × Nat × Nat)} (hr : r.2.2.2.2.2.2 = hh :: hs) (hl : zhl j pc e r.2.2.2.2.1 (hh :: hs) = some (hp, q)) (hq : Nat.blt q L.length = true) (K : zwp E d j (hp, zput L q none, [], h) Q) : zbk E d j pc pc' L st Q (.inr e) h := by
  show zthr False j pc e L h (fun y => zwp E d j y Q) Q
  unfold zthr
  rw [hm]
  dsimp only
  rw [hr]
  dsimp only
  rw [hl]
  dsimp only
  exact zif_go hq K
