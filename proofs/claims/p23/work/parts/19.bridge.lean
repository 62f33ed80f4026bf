/-! ===== WHAT IS LEFT: the pure law ===== -/
def zLaw : Prop := ∀ (E : zEnv) (h0 : zPH) (b a0 a1 a3 : Nat) (l : List Int32), E.1 0 = .ref a0 → E.1 1 = .ref a1 → E.1 2 = .int 1 → E.1 3 = .ref a3 →
  h0.1 a0 = some (96, zis zSH) → h0.1 a1 = some (96, zis zDK) → h0.1 a3 = some (101, []) → h0.1 b = some (96, zis l) → l.length ≤ 2560 → (∀ a c, h0.1 a = some c → a < h0.2.1 ∧ 96 ≤ c.1) → h0.2.2 = 0 →
  zcall E 1300 zlw [.ref b] h0 (fun o h => o = .inl (some (.int 1)) ∧ h.2.1 ≤ h0.2.1 + 601024 ∧ h.2.2 ≤ 7293034)
theorem zlw_md : zmd zlw = some zlwr := rfl
theorem zbridge (hlaw : zLaw) {p : Program} {e : Env} {s : State} {m : MethodId} {below : List Frame} {meth : Method} {c : Code} (l : Launch) (hflags : l.flags = flags0) {b L : Nat} {xs : Nat → Int32} (hL : L ≤ 2560) (C0 : lw_At p s m meth c b L xs) : W p l e room_1 s m #[Value.ref b] below meth c s.heap [] 0 0 (lw_Z below #[Value.ref b] s) (entryFrame m ([Value.ref b] : List Value).toArray 8) := by
  obtain ⟨G, a0, a1, a3, hgb, hgH, hK, hts, e0, e1, e2, e3, g0, g1, g3, gb⟩ := zstart C0 (by omega)
  obtain ⟨hx, hb, hr, hml, hown, -, -, -, hlocks, -⟩ := C0
  have hl0 : l.stackTraces = false := by
    unfold Launch.stackTraces
    rw [hflags]
    decide
  have hro : ∀ a cc, zgr G a = some cc → a < s.heap.size ∧ 96 ≤ cc.1 := by
    intro a cc h
    obtain ⟨_, _, h1, -, h2, -⟩ := hK.2.2.2.2.2.2.2.2 a cc h
    rw [hgb] at h2
    exact ⟨h2, h1⟩
  obtain ⟨n, q, hrun, ho, hc1, hc2⟩ := hlaw (zgE G) (zgr G, s.heap.size, 0) b a0 a1 a3 ((List.range L).map xs) e0 e1 e2 e3 g0 g1 g3 gb (by simpa using hL) hro rfl
  have hc1 : q.2.2.1 ≤ s.heap.size + 601024 := hc1
  have hH : zH G (zgr G, s.heap.size, 0) s.heap := ⟨rfl, fun a cc h => Or.inr (Or.inr ⟨(hro a cc h).2, h⟩), fun z _ => by rw [hgH], by rw [hgb]; exact Nat.le_refl _⟩
  have hF : zFm G p l room_1 s m #[Value.ref b] meth c zlwr 1300 s.heap.size 0 q.2 :=
    ⟨hx, hb, hml, hr, hlocks, hown, rfl, hts, hK, hl0, (fun h => absurd h (by decide)), by decide, by decide, by show q.2.2.1 - s.heap.size ≤ 601024; omega, by show q.2.2.2 - 0 ≤ 7293034; omega⟩
  have hB : zBg G s c zlwr q s.heap.size := ⟨fun z _ => by rw [hgH], rfl, by rw [hgb]; exact Nat.le_refl _, Or.inr ⟨⟨_, ho⟩, rfl⟩⟩
  have hgo := zsound hl0 n 1300 zlw _ q hrun p e room_1 s m #[Value.ref b] below meth c zlwr s.heap.size 0 hF hB zlw_md
  have h1 := hgo s.heap [] ((lg_sl [.ref b] ++ List.replicate (8 - (lg_sl [Value.ref b]).length) Slot.unset).toArray) hH (fun z hz => by cases hz) (zL.entry (n := 8) (show 1 ≤ 8 by decide)) (Nat.le_refl _) (Nat.le_refl _)
  rw [lg_entry_eq]
  have h2 := W.cs (Nat.sub_self _).symm (Nat.sub_self _).symm h1
  intro T hT X
  obtain ⟨t, st, o, hrn, hend, hq⟩ := h2 T hT X
  refine ⟨t, st, o, hrn, hend, ?_⟩
  rcases hq with ⟨⟨v, hv, rfl, -⟩, L2, ⟨-, hW, hs⟩, hL2⟩ | ⟨z, rfl, E, ce, L2, ⟨k, hk, -⟩, -⟩
  · rw [ho] at hv
    have hv : some (.int 1) = v := Sum.inl.inj hv
    subst hv
    refine ⟨rfl, lw_closed (Drawn.sameBut.refl s.drawn lw_cs) ⟨_, rfl⟩ hW (hs.weaken (fun y hy hlt => ?_) (by show q.2.2.1 - s.heap.size ≤ 601024; omega) (by show q.2.2.2 - 0 ≤ 7293034; omega))⟩
    have h3 := hL2 y hy
    rw [hgb] at h3
    exact absurd hlt (Nat.not_lt.mpr h3)
  · rw [ho] at hk
    cases hk
