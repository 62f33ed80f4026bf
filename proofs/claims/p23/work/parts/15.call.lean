/-! ===== calls ===== -/
/-- the code word of a method -/
def zcw (r : zMd) : Jvm.Cond := if r.2.2.2.2.2.2.isEmpty then Jvm.Cond.code r.1 r.2.1 r.2.2.1 r.2.2.2.1 else Jvm.Cond.codeWith r.1 r.2.1 r.2.2.1 r.2.2.2.1 r.2.2.2.2.2.2
def zrm (d mc ms : Nat) : Room := { frames := d + 6, cells := mc, slots := ms, locals := 64 * d + 200 }
def zPc (G : zG) (as : List Value) (h : zPH) : Array Value → State → Prop := fun a U => a = as.toArray ∧ zH G h U.heap ∧ zKn G U
/-- what is owed of a callee whose run comes to q -/
def zMet (G : zG) (l : Launch) (j d : Nat) (as : List Value) (h : zPH) (q : zOut × zPH) : Prop := ∀ r, zmd j = some r → zMok j r →
  vx_Met l r.1 (zcw r :: zWS) (zrm d (q.2.2.1 - h.2.1) (q.2.2.2 - h.2.2)) (zPc G as h) (zQc G q) (zXC G q) (q.2.2.1 - h.2.1) (q.2.2.2 - h.2.2) (fun z => zgb G ≤ z)
theorem zPc_blind {G : zG} {as : List Value} {h : zPH} : FrameBlind (zPc G as h) := fun a U g mk ⟨h1, h2, h3⟩ => ⟨h1, h2, zKn.moved (U := U.calling g mk a) (State.WarmedH.refl U) h3⟩
theorem zgin {L : List Jvm.Cond} (h : ∀ w ∈ L, w ∈ zWS) : GoodIn zWS L := fun w hw => ⟨h w hw, good_of_word (List.mem_filter.mp (h w hw)).2⟩
theorem zcw_in {j : Nat} {r : zMd} (h : zMok j r) : zcw r ∈ zWS := by
  obtain ⟨-, -, -, -, -, -, h7⟩ := h
  unfold zcw
  split at h7
  · rename_i he
    rw [if_pos he]
    exact h7
  · rename_i he
    rw [if_neg he]
    exact h7
theorem zcw_ws {j : Nat} {r : zMd} (h : zMok j r) : ∀ w ∈ zcw r :: zWS, w ∈ zWS := List.forall_mem_cons.mpr ⟨zcw_in h, fun _ h => h⟩
theorem zhh_lt : ∀ (a : Nat) (l : List zMd), zmds[a]? = some l → l.all (fun r => r.2.2.2.2.2.2.all fun t => decide (t.2.2.2 < 100000)) = true := by
  intro a l h
  have h1 : zmds.all (fun l => l.all (fun r => r.2.2.2.2.2.2.all fun t => decide (t.2.2.2 < 100000))) = true := by decide +kernel
  exact List.all_eq_true.mp h1 l (List.mem_of_getElem? h)
theorem zhh_ok {j : Nat} {r : zMd} (h : zmd j = some r) : ∀ t ∈ r.2.2.2.2.2.2, t.2.2.2 < 100000 := by
  unfold zmd at h
  split at h
  · rename_i l hl
    have h1 := List.all_eq_true.mp (zhh_lt _ _ hl) r (List.mem_of_getElem? h)
    intro t ht
    exact of_decide_eq_true (List.all_eq_true.mp h1 t ht)
  · cases h
theorem zHt_t {o k e : Nat} (hk : k < 100000) (h : zlk zHt (o * 100000 + k) = some e) : zHok ((o, k), e) := by
  have h1 := zlk_mem h
  rw [zHt_eq] at h1
  obtain ⟨⟨⟨a, b⟩, f⟩, he, h2⟩ := List.mem_map.mp h1
  have h3 := zHl_ok _ he
  have e1 : a * 100000 + b = o * 100000 + k := congrArg Prod.fst h2
  have e2 : f = e := congrArg Prod.snd h2
  have hb : b < 100000 := by
    obtain ⟨_, _, _, _, _, h4, _⟩ := h3
    exact h4
  have ea : a = o := by omega
  have eb : b = k := by omega
  subst ea
  subst eb
  subst e2
  exact h3
section ZCL
variable {G : zG} {p : Program} {l : Launch} {e : Env} {R : Room} {s : State} {m : MethodId} {args : Array Value} {below : List Frame} {meth : Method} {c : Code}
variable {r : zMd} {d g0 k0 : Nat} {h : zPH} {x : zAux} {n pc j : Nat} {L : zLc} {st : List Value} {q : zOut × zPH}
/-- the handler that takes it, in the table; those ahead don't -/
theorem zhl_t {E o : Nat} {Es : String} : ∀ (hh : List (Nat × Nat × Nat × Nat)) (tab : List ExceptionTableEntry) {hp k : Nat}, tab.map (fun x => (x.startPc, x.endPc, x.handlerPc, x.catchType)) = hh → (∀ t ∈ hh, t.2.2.2 < 100000) → zhl j pc E o hh = some (hp, k) →
    ∃ (pre : List ExceptionTableEntry) (z : ExceptionTableEntry) (suf : List ExceptionTableEntry), tab = pre ++ z :: suf ∧ covers z pc = true ∧ zHok ((o, z.catchType), E) ∧
      (∀ y ∈ pre, covers y pc = false ∨ ∃ E', E' ≠ E ∧ zHok ((o, y.catchType), E')) ∧ ∃ (len : Nat) (x : zAux), (zins j z.handlerPc = some (.astore k, len, x) ∨ ∃ i : Fin 4, i.val = k ∧ zins j z.handlerPc = some (.astore_n i, len, x)) ∧ z.handlerPc + len = hp := by
  intro hh
  induction hh with
  | nil => intro tab hp k _ _ hz; cases hz
  | cons t hh ih =>
    intro tab hp k ht hlt hz
    cases tab with
    | nil => cases ht
    | cons z tab =>
      obtain ⟨ht1, ht2⟩ := List.cons.inj ht
      subst ht1
      have hcov : covers z pc = (Nat.ble z.startPc pc && Nat.blt pc z.endPc) := by
        unfold covers
        rw [Bool.eq_iff_iff]
        simp [Nat.blt, Nat.ble_eq, Nat.succ_le_iff]
      unfold zhl at hz
      cases hc : (Nat.ble z.startPc pc && Nat.blt pc z.endPc) with
      | false =>
        rw [hc] at hz
        obtain ⟨pre, z2, suf, h1, h2, h3, h4, h5⟩ := ih tab ht2 (fun t ht => hlt t (List.mem_cons_of_mem _ ht)) hz
        exact ⟨z :: pre, z2, suf, by rw [h1]; rfl, h2, h3, List.forall_mem_cons.mpr ⟨Or.inl (hcov.trans hc), h4⟩, h5⟩
      | true =>
        rw [hc] at hz
        dsimp only at hz
        cases hl : zlk zHt (o * 100000 + z.catchType) with
        | none => rw [hl] at hz; cases hz
        | some E' =>
          rw [hl] at hz
          have hok := zHt_t (hlt _ List.mem_cons_self) hl
          dsimp only at hz
          cases hE : Nat.beq E E' with
          | true =>
            rw [hE] at hz
            have hE := znq hE
            subst hE
            dsimp only at hz
            refine ⟨[], z, tab, rfl, hcov.trans hc, hok, (fun y hy => by cases hy), ?_⟩
            split at hz
            · rename_i k2 len x hi
              cases hz
              exact ⟨len, x, Or.inl hi, rfl⟩
            · rename_i k2 len x hi
              cases hz
              exact ⟨len, x, Or.inr ⟨k2, rfl, hi⟩, rfl⟩
            · cases hz
          | false =>
            rw [hE] at hz
            obtain ⟨pre, z2, suf, h1, h2, h3, h4, h5⟩ := ih tab ht2 (fun t ht => hlt t (List.mem_cons_of_mem _ ht)) hz
            exact ⟨z :: pre, z2, suf, by rw [h1]; rfl, h2, h3, List.forall_mem_cons.mpr ⟨Or.inr ⟨E', fun hq => (by rw [hq] at hE; rw [show Nat.beq E E = true from Nat.beq_refl E] at hE; cases hE), hok⟩, h4⟩, h5⟩
/-- what comes behind a callee's throw -/
theorem zs_thrown {h' : zPH} {E : Nat} {Es : String} {ce : Cell} {a : Addr} {H : Heap} {locs : List Loc} {ls : Array Slot} {rest : List Value} (hF : zFm G p l R s m args meth c r d g0 k0 q.2) (hB : zBg G s c r q g0) (hj : zmd j = some r) (hex : zexn[E]? = some Es) (hcell : H[a]? = some ce) (hv : ce.vm = .none) (hcl : s.vm.findClass Es = some ce.cls)
    (hH : zH G h' H) (hl : ∀ z ∈ locs, zgb G ≤ z.base) (hL : zL ls r.2.2.1 L) (hg : g0 ≤ h'.2.1) (hk : k0 ≤ h'.2.2)
    (ha : zthr False j pc E L h' (fun y => zge y.2.2.2 q.2 ∧ zGo G p l e R s m args below meth c (zQ G below args s q g0 k0) r.2.2.1 g0 k0 y) (fun o h => (o, h) = q)) :
    vx_W p l e R s m args below meth c H locs (h'.2.1 - g0) (h'.2.2 - k0) (zQ G below args s q g0 k0) (F0 m pc ls rest) a := by
  obtain ⟨hx, hb, hml, hr, hlocks, hown, hon, hts, hK, hl0, -, hR1, hR2, hR3, hR4⟩ := hF
  obtain ⟨hB1, hB2, hB3, hB4⟩ := hB
  unfold zthr at ha
  rw [hj] at ha
  dsimp only at ha
  split at ha
  · rename_i hnh
    subst ha
    have htab : c.exceptionTable.toList = [] := by
      rcases hB4 with hB4 | ⟨⟨v, hv⟩, -⟩
      · rw [hnh] at hB4
        exact List.map_eq_nil_iff.mp hB4
      · cases hv
    exact vx_out (by rw [htab]; intro z hz; cases hz) hlocks hcell hv hcl (fun t ht _ => ⟨E, rfl, hex, by rw [ht]; exact hH.2, by rw [ht, hH.1]; exact Nat.le_refl _⟩) hl (Nat.le_refl _) (Nat.le_refl _)
  · rename_i hh hne
    have htab : c.exceptionTable.toList.map (fun x => (x.startPc, x.endPc, x.handlerPc, x.catchType)) = r.2.2.2.2.2.2 := by
      rcases hB4 with hB4 | ⟨-, hB4⟩
      · exact hB4
      · exact absurd hB4 hne
    split at ha
    · rename_i hp k hz
      obtain ⟨hlt, ha⟩ := zif_t ha
      obtain ⟨pre, z, suf, h1, h2, h3, h4, len, xa, h5, h6⟩ := zhl_t (Es := Es) _ _ htab (zhh_ok hj) hz
      subst h6
      obtain ⟨own, nm, ho, hn, hz0, -, hw, hcast⟩ := h3
      cases zon_t ho hon
      cases Option.some.inj (hn.symm.trans hex)
      refine vx_catch hown pre z suf h1 (fun y hy => ?_) h2 hz0 (hts _ hw) (zxuse hcast (hK.2.2.2.1 _ hcast)) hcell hv hcl ?_
      · rcases h4 y hy with h | ⟨E', hE', own', nm', ho', hn', hz0', -, hw', -⟩
        · exact Or.inl h
        · cases zon_t ho' hon
          exact Or.inr ⟨hz0', nm', hts _ hw', hK.2.2.2.2.2.2.2.1 E E' _ _ hex hn' (Ne.symm hE')⟩
      · have hlt2 := zlt_t hL hlt
        rcases h5 with h5 | ⟨i, hi, h5⟩
        · obtain ⟨d1, d2, -⟩ := zins_d hj h5
          have d3 : Nat.beq 2 len = true := d2
          cases znq d3
          exact lv_astore hx hb d1 hL.has hlt2 rfl fun ls2 hl2 => ha.2 H locs ls2 hH hl (zL.put (Or.inr rfl) hL hl2) hg hk
        · obtain ⟨d1, d2, -⟩ := zins_d hj h5
          have d3 : Nat.beq 1 len = true := d2
          cases znq d3
          exact lv_astore_n hx hb d1 hi hL.has hlt2 rfl fun ls2 hl2 => ha.2 H locs ls2 hH hl (zL.put (Or.inr rfl) hL hl2) hg hk
    · exact ha.elim
/-- what a call gives: a run of the callee, and what comes behind it -/
def zCal (G : zG) (p : Program) (l : Launch) (e : Env) (R : Room) (s : State) (m : MethodId) (args : Array Value) (below : List Frame) (meth : Method) (c : Code) (r : zMd) (d g0 k0 : Nat) (q : zOut × zPH) (j pc n : Nat) (L : zLc) (h : zPH) (j' : Nat) (as rest : List Value) : Prop :=
  ∃ (d' : Nat) (q' : zOut × zPH), d = d' + 1 ∧ zMet G l j' d' as h q' ∧ zge h q'.2 ∧ zge q'.2 q.2 ∧
    (∀ v, q'.1 = .inl v → zGo G p l e R s m args below meth c (zQ G below args s q g0 k0) r.2.2.1 g0 k0 (pc + n, L, v.toList ++ rest, q'.2)) ∧
    (∀ E, q'.1 = .inr E → zthr False j pc E L q'.2 (fun y => zge y.2.2.2 q.2 ∧ zGo G p l e R s m args below meth c (zQ G below args s q g0 k0) r.2.2.1 g0 k0 y) (fun o h => (o, h) = q))
/-- behind the call -/
theorem zs_back {q' : zOut × zPH} {H : Heap} {locs : List Loc} {ls : Array Slot} {rest : List Value} (hF : zFm G p l R s m args meth c r d g0 k0 q.2) (hB : zBg G s c r q g0) (hj : zmd j = some r) (hl : ∀ z ∈ locs, zgb G ≤ z.base) (hL : zL ls r.2.2.1 L) (hg : g0 ≤ h.2.1) (hk : k0 ≤ h.2.2)
    (h1 : zge h q'.2) (h2 : zge q'.2 q.2)
    (k1 : ∀ v, q'.1 = .inl v → zGo G p l e R s m args below meth c (zQ G below args s q g0 k0) r.2.2.1 g0 k0 (pc + n, L, v.toList ++ rest, q'.2))
    (k2 : ∀ E, q'.1 = .inr E → zthr False j pc E L q'.2 (fun y => zge y.2.2.2 q.2 ∧ zGo G p l e R s m args below meth c (zQ G below args s q g0 k0) r.2.2.1 g0 k0 y) (fun o h => (o, h) = q))
    {as : Array Value}
    (hr : ∀ T : State, T.heap = H → Stand p l e R s m args below meth c T locs (h.2.1 - g0) (h.2.2 - k0) →
      (∃ (v : Option Value) (st₀ t T' : State) (L : List Loc), st₀.heap = H ∧ Stand p l e R s m args below meth c T' (locs ++ L) (h.2.1 - g0 + (q'.2.2.1 - h.2.1)) (h.2.2 - k0 + (q'.2.2.2 - h.2.2)) ∧ (∀ z ∈ L, zgb G ≤ z.base) ∧ T'.heap = t.heap ∧ T'.vm = t.vm ∧ zQc G q' as st₀ (.returned v) t ∧
        Goes p e below T (F0 m pc ls st) T' (F0 m (pc + n) ls (v.toList ++ rest))) ∨
      (∃ (a : Addr) (st₀ t T' : State) (L : List Loc) (E : String) (ce : Cell), st₀.heap = H ∧ Stand p l e R s m args below meth c T' (locs ++ L) (h.2.1 - g0 + (q'.2.2.1 - h.2.1)) (h.2.2 - k0 + (q'.2.2.2 - h.2.2)) ∧ (∀ z ∈ L, zgb G ≤ z.base) ∧ T'.heap = t.heap ∧ T'.vm = t.vm ∧ zXC G q' E st₀ t ∧ t.heap[a]? = some ce ∧ ce.vm = .none ∧ s.vm.findClass E = some ce.cls ∧
        Steps p.tables e below (T.setTop (F0 m pc ls st)) ((T'.setTop (F0 m pc ls rest)).pushFrame (.throwing a)))) :
    W p l e R s m args below meth c H locs (h.2.1 - g0) (h.2.2 - k0) (zQ G below args s q g0 k0) (F0 m pc ls st) := by
  intro T hT X
  have hc1 : h.2.1 - g0 + (q'.2.2.1 - h.2.1) = q'.2.2.1 - g0 := by have := h1.1; omega
  have hc2 : h.2.2 - k0 + (q'.2.2.2 - h.2.2) = q'.2.2.2 - k0 := by have := h1.2; omega
  have hg' : g0 ≤ q'.2.2.1 := Nat.le_trans hg h1.1
  have hk' : k0 ≤ q'.2.2.2 := Nat.le_trans hk h1.2
  have hll : ∀ L : List Loc, (∀ z ∈ L, zgb G ≤ z.base) → ∀ z ∈ locs ++ L, zgb G ≤ z.base := fun L hL z hz => (List.mem_append.mp hz).elim (hl z) (hL z)
  rcases hr T hT X with ⟨v, st₀, t, T', L2, -, X', hL2, e1, e2, ⟨v2, hv2, hv3, hH2⟩, stp⟩ | ⟨a, st₀, t, T', L2, Es, ce, -, X', hL2, e1, e2, ⟨E, hE, hex, hHx, hsz⟩, hce, hcv, hcl, stp⟩
  · cases hv3
    rw [hc1, hc2] at X'
    have k3 := k1 v hv2 T'.heap (locs ++ L2) ls (by rw [e1]; exact hH2) (hll L2 hL2) hL hg' hk'
    obtain ⟨t2, a1, b1⟩ := k3 T' rfl X'
    exact ⟨t2, stp t2 a1, b1⟩
  · rw [hc1, hc2] at X'
    have hsz2 : T'.heap.size = q'.2.2.1 := by
      have h3 := X'.heapSize
      have h4 : s.heap.size = g0 := hB.2.1
      rw [e1] at h3 ⊢
      omega
    have hH2 : zH G q'.2 T'.heap := ⟨hsz2, by rw [e1]; exact hHx⟩
    have k3 := zs_thrown (rest := rest) (e := e) (below := below) hF hB hj hex (H := T'.heap) (by rw [e1]; exact hce) hcv hcl hH2 (hll L2 hL2) hL hg' hk' (k2 E hE)
    obtain ⟨t2, a1, b1⟩ := k3 T' rfl X'
    exact ⟨t2, stp.trans a1, b1⟩
end ZCL
