/-! ===== an instruction of the pure machine is one of the machine: those that read and write cells ===== -/
theorem zcl_lt {t : Nat} {r : vw_C} (h : zcl[t]? = some r) : t < 64 := by
  have h1 := (List.getElem?_eq_some_iff.mp h).1
  have h2 : zcl.length ≤ 64 := by decide
  omega
theorem zar_lt {k : Nat} {ty : FieldType} (h : zar[k]? = some ty) : k < 32 := by
  have h1 := (List.getElem?_eq_some_iff.mp h).1
  have h2 : zar.length ≤ 32 := by decide
  omega
theorem znq {a b : Nat} (h : Nat.beq a b = true) : a = b := Nat.eq_of_beq_eq_true h
theorem zqF_t {a b : Nat} {x : zAux} {e : zFe} (h : zqF a b x e = true) : e = ((a, b), x.1, x.2.1, x.2.2.1, x.2.2.2.1) := by
  obtain ⟨⟨e1, e2⟩, e3, e4, e5, e6⟩ := e
  simp only [zqF, Bool.and_eq_true] at h
  obtain ⟨h1, h2, h3, h4, h5, h6⟩ := h
  rw [znq h1, znq h2, znq h3, znq h4, znq h5, znq h6]
theorem zq3_t {a b c : Nat} {e : (Nat × Nat) × Nat} (h : zq3 a b c e = true) : e = ((a, b), c) := by
  obtain ⟨⟨e1, e2⟩, e3⟩ := e
  simp only [zq3, Bool.and_eq_true] at h
  obtain ⟨h1, h2, h3⟩ := h
  rw [znq h1, znq h2, znq h3]
theorem zqK_t {a b c : Nat} {v : Value} {e : (Nat × Nat × Nat) × Value} (h : zqK a b c v e = true) : e = ((a, b, c), v) := by
  obtain ⟨⟨e1, e2, e3⟩, e4⟩ := e
  simp only [zqK, Bool.and_eq_true] at h
  obtain ⟨h1, h2, h3, h4⟩ := h
  have h4 := of_decide_eq_true h4
  rw [znq h1, znq h2, znq h3, ← h4]
theorem zqV_t {a b : Nat} {x : zAux} {e : zVe} (h : zqV a b x e = true) : e = ((a, b, x.1), x.2.1, x.2.2.1, x.2.2.2.1) := by
  obtain ⟨⟨e1, e2, e3⟩, e4, e5, e6⟩ := e
  simp only [zqV, Bool.and_eq_true] at h
  obtain ⟨h1, h2, h3, h4, h5, h6⟩ := h
  rw [znq h1, znq h2, znq h3, znq h4, znq h5, znq h6]
theorem zqT_t {a b : Nat} {x : zAux} {e : (Nat × Nat × Nat × Nat) × Nat × Nat} (h : zqT a b x e = true) : ∃ E t, e = ((a, b, x.2.1, x.2.2.1), E, t) ∧ x.1 = 1000 + E := by
  obtain ⟨⟨e1, e2, e3, e4⟩, e5, e6⟩ := e
  simp only [zqT, Bool.and_eq_true] at h
  obtain ⟨h1, h2, h3, h4, h5⟩ := h
  rw [znq h1, znq h2, znq h3, znq h4]
  exact ⟨e5, e6, rfl, (znq h5).symm⟩
theorem zany {α : Type} {l : List α} {f : α → Bool} {P : α → Prop} {y : α} (h : l.any f = true) (hf : ∀ e, f e = true → e = y) (hP : ∀ e ∈ l, P e) : P y := by
  obtain ⟨e, he, hfe⟩ := List.any_eq_true.mp h
  rw [← hf e hfe]
  exact hP e he
theorem zFl_t {a b : Nat} {x : zAux} (h : zFl.any (zqF a b x) = true) : zFok ((a, b), x.1, x.2.1, x.2.2.1, x.2.2.2.1) := zany h (fun _ => zqF_t) zFl_ok
theorem zSl_t {a b c : Nat} (h : zSl.any (zq3 a b c) = true) : zSok ((a, b), c) := zany h (fun _ => zq3_t) zSl_ok
theorem zNl_t {a b c : Nat} (h : zNl.any (zq3 a b c) = true) : zNok ((a, b), c) := zany h (fun _ => zq3_t) zNl_ok
theorem zAl_t {a b c : Nat} (h : zAl.any (zq3 a b c) = true) : zAok ((a, b), c) := zany h (fun _ => zq3_t) zAl_ok
theorem zGl_t {a b c : Nat} (h : zGl.any (zq3 a b c) = true) : zGok ((a, b), c) := zany h (fun _ => zq3_t) zGl_ok
theorem zLl_t {a b c : Nat} (h : zLl.any (zq3 a b c) = true) : zLok ((a, b), c) := zany h (fun _ => zq3_t) zLl_ok
theorem zWl_t {a b c : Nat} (h : zWl.any (zq3 a b c) = true) : zWok ((a, b), c) := zany h (fun _ => zq3_t) zWl_ok
theorem zKl_t {a b c : Nat} {v : Value} (h : zKl.any (zqK a b c v) = true) : zKok ((a, b, c), v) := zany h (fun _ => zqK_t) zKl_ok
theorem zVl_t {a b : Nat} {x : zAux} (h : zVl.any (fun l => l.any (zqV a b x)) = true) : zVok ((a, b, x.1), x.2.1, x.2.2.1, x.2.2.2.1) := by
  obtain ⟨l, hl, h1⟩ := List.any_eq_true.mp h
  exact zany h1 (fun _ => zqV_t) (zVl_ok l hl)
theorem zTl_t {a b : Nat} {x : zAux} (h : zTl.any (zqT a b x) = true) : ∃ E t, zTok ((a, b, x.2.1, x.2.2.1), E, t) ∧ x.1 = 1000 + E := by
  obtain ⟨e, he, hfe⟩ := List.any_eq_true.mp h
  obtain ⟨E, t, h1, h2⟩ := zqT_t hfe
  exact ⟨E, t, h1 ▸ zTl_ok e he, h2⟩
theorem zob_t {h : zPH} {v : Value} {t : Nat} {F : Nat → List Value → Prop} (ha : zob False h v t F) : ∃ a vs, v = .ref a ∧ h.1 a = some (t, vs) ∧ F a vs := by
  unfold zob at ha
  split at ha
  · rename_i a
    split at ha
    · rename_i t' vs ht
      split at ha
      · rename_i hq
        rw [znq hq] at ht
        exact ⟨a, vs, rfl, ht, ha⟩
      · exact ha.elim
    · exact ha.elim
  · exact ha.elim
theorem zan_t {h : zPH} {v : Value} {F : Nat → Nat → List Value → Prop} (ha : zan False h v F) : ∃ a t vs, v = .ref a ∧ h.1 a = some (t, vs) ∧ F a t vs := by
  unfold zan at ha
  split at ha
  · rename_i a
    split at ha
    · rename_i t vs ht
      exact ⟨a, t, vs, rfl, ht, ha⟩
    · exact ha.elim
  · exact ha.elim
theorem zix_t {vs : List Value} {k : Nat} {F : Value → Prop} (ha : zix False vs k F) : ∃ w, vs[k]? = some w ∧ F w := by
  unfold zix at ha
  split at ha
  · rename_i w hw
    exact ⟨w, hw, ha⟩
  · exact ha.elim
theorem zel_t {vs : List Value} {i : Int32} {F : Nat → Value → Prop} (ha : zel False vs i F) : ∃ w, ¬ i < 0 ∧ vs[i.toNatClampNeg]? = some w ∧ F i.toNatClampNeg w := by
  unfold zel at ha
  split at ha
  · exact ha.elim
  · rename_i hi
    split at ha
    · rename_i w hw
      exact ⟨w, hi, hw, ha⟩
    · exact ha.elim
theorem zV_at {vs : List Value} {k : Nat} {w : Value} (h : vs[k]? = some w) : zV vs k = w := by
  unfold zV
  rw [List.getD_eq_getElem?_getD, h]
  rfl
theorem zon_t {a : Nat} {x y : String} (h1 : zon[a]? = some x) (h2 : zon[a]? = some y) : x = y := Option.some.inj (h1.symm.trans h2)
theorem zxuse {s : State} {args : Array Value} {w : Jvm.Cond} (hw : w ∈ zXW) (h : w.before #[] s = true) : w.before args s = true := by
  have hg : zxgood w = true := (List.mem_filter.mp hw).2
  cases w <;> try (exfalso; simp [zxgood] at hg; done)
  all_goals first | exact va_any rfl h | exact h
/-- an object's cell -/
theorem zcell.ob {G : zG} {a t : Nat} {vs : List Value} {H : Heap} {r : vw_C} (h : zcell G a (t, vs) H) (hr : zcl[t]? = some r) : zgb G ≤ a ∧ vs.length = r.2.2 ∧ t_OB a ((zgD G).1 t) r.2.2 ((zgD G).2 t) H (zV vs) := by
  have ht := zcl_lt hr
  rcases h with ⟨h1, hb, r', h2, h3, h4⟩ | ⟨h1, -⟩ | ⟨h1, -⟩
  · cases Option.some.inj (h2.symm.trans hr)
    exact ⟨hb, h3, h4⟩
  · exact absurd h1 (Nat.not_le.mpr ht)
  · exact absurd h1 (by show ¬ 96 ≤ t; omega)
/-- an array's cell that is ours -/
theorem zcell.ar {G : zG} {a t : Nat} {vs : List Value} {H : Heap} (h : zcell G a (t, vs) H) (h1 : 64 ≤ t) (h2 : t < 96) : zgb G ≤ a ∧ (∃ ty, zar[t - 64]? = some ty) ∧ H[a]? = some (zaC G (t - 64) vs) := by
  rcases h with ⟨h3, -⟩ | ⟨-, -, hb, h3, h4⟩ | ⟨h3, -⟩
  · exact absurd h1 (Nat.not_le.mpr h3)
  · exact ⟨hb, h3, h4⟩
  · exact absurd h3 (by show ¬ 96 ≤ t; omega)
theorem zAr.arr {s : State} {cA : ClassId} {ty : FieldType} (h : zAr s cA ty) (vs : List Value) : s.isArrayOf { cls := cA, slots := vs.toArray, vm := .none } ty := by
  obtain ⟨kA, comp, h1, h2, -⟩ := h
  exact ⟨fun k hk => (by cases hk), kA, h1, comp, h2⟩
/-- any array's cell, as it may be read -/
theorem zcell.rd {G : zG} {s : State} {a t : Nat} {vs : List Value} {H : Heap} (h : zcell G a (t, vs) H) (h1 : 64 ≤ t) (hK : zKn G s) (hq : ∀ q, q < zgb G → H[q]? = (zgH G)[q]?) :
    ∃ (cell : Cell) (ty : FieldType), H[a]? = some cell ∧ s.isArrayOf cell ty ∧ cell.vm ≠ .unknown ∧ (t < 96 → zar[t - 64]? = some ty) ∧ (96 ≤ t → zar[t - 96]? = some ty) ∧ vs.length ≤ cell.slots.size ∧ cell.slots.size.toInt32 = Int32.ofNat vs.length ∧ ∀ j, j < vs.length → cell.slots[j]? = some (zV vs j) := by
  by_cases h2 : t < 96
  · obtain ⟨-, ⟨ty, hty⟩, hc⟩ := h.ar h1 h2
    refine ⟨_, ty, hc, (hK.2.1 _ _ hty).arr vs, fun q => (by cases q), fun _ => hty, fun q => absurd q (by omega), by simp [zaC], by simp [zaC, Nat.toInt32], fun j hj => ?_⟩
    simp [zaC, zV, List.getD_eq_getElem?_getD, hj]
  · rcases h with ⟨h3, -⟩ | ⟨-, h3, -⟩ | ⟨h3, h4⟩
    · exact absurd h1 (Nat.not_le.mpr h3)
    · exact absurd h3 h2
    · obtain ⟨ty, cell, -, k1, k2, k3, k4, k5, k6, k7, k8⟩ := hK.2.2.2.2.2.2.2.2 a _ h4
      exact ⟨cell, ty, (hq a k2).trans k3, k4, k5, fun q => absurd q h2, fun _ => k1, k6, k7, k8⟩
theorem zaC_set (G : zG) (k : Nat) (vs : List Value) (j : Nat) (w : Value) : (zaC G k vs).setSlot j w = zaC G k (vs.set j w) := by
  unfold zaC Cell.setSlot
  simp
theorem zV_set {vs : List Value} {k j : Nat} (hj : j < vs.length) (w : Value) : updV (zV vs) k w j = zV (vs.set k w) j := by
  unfold updV zV
  rw [List.getD_eq_getElem?_getD, List.getD_eq_getElem?_getD]
  by_cases h : j = k
  · subst h
    rw [if_pos rfl, List.getElem?_set_self hj]
    rfl
  · rw [if_neg h, List.getElem?_set_ne (Ne.symm h)]
/-- a value that fits a kind of field: it isn't narrowed, and it fits -/
theorem zfit_t {ty : FieldType} {k : Nat} {v : Value} (hk : ztyc ty = k) (h : zfit k v = true) : narrow ty v = v ∧ fits ty v = true := by
  subst hk
  cases ty <;> cases v <;> simp [ztyc, zfit] at h <;> first | exact ⟨rfl, rfl⟩ | skip
  · rename_i y
    have h : y.toInt8.toInt32 = y := h
    refine ⟨congrArg Value.int h, ?_⟩
    have h1 : y.toInt = y.toInt8.toInt := by rw [← Int8.toInt_toInt32, h]
    have h2 := Int8.le_toInt y.toInt8
    have h3 := Int8.toInt_le y.toInt8
    show (decide (-128 ≤ y) && decide (y ≤ 127)) = true
    rw [Bool.and_eq_true, decide_eq_true_iff, decide_eq_true_iff, Int32.le_iff_toInt_le, Int32.le_iff_toInt_le, h1]
    exact ⟨h2, h3⟩
  · rename_i y
    rcases h with rfl | rfl <;> exact ⟨rfl, rfl⟩
theorem zar_ref {t : Nat} {ty : FieldType} (h1 : 66 ≤ t) (h2 : t ≤ 69) (h : zar[t - 64]? = some ty) : ty.isReference = true := by
  have h3 : t - 64 = 2 ∨ t - 64 = 3 ∨ t - 64 = 4 ∨ t - 64 = 5 := by omega
  rcases h3 with h3 | h3 | h3 | h3 <;> rw [h3] at h <;> cases (Option.some.inj h) <;> rfl
section ZHP
variable {G : zG} {p : Program} {l : Launch} {e : Env} {R : Room} {s : State} {m : MethodId} {args : Array Value} {below : List Frame} {meth : Method} {c : Code} {Q : State → Prop}
variable {r : zMd} {d g0 k0 : Nat} {hf h : zPH} {Rr : zOut → zPH → Prop} {Cc : Nat → List Value → List Value → Prop} {x : zAux} {n pc : Nat} {L : zLc} {st : List Value}
theorem zs_getfield {k : Nat} (hF : zFm G p l R s m args meth c r d g0 k0 hf) (hd : decode r.2.1 pc = .ok (.getfield k, n)) (hn : zln (.getfield k) n = true) (hz : zck r pc (.getfield k) x = true) (ha : zAc G p l e R s m args below meth c Q r g0 k0 hf Rr Cc (.getfield k) n x pc L st h) : zGo G p l e R s m args below meth c Q r.2.2.1 g0 k0 (pc, L, st, h) := by
  have hn1 : Nat.beq 3 n = true := hn
  cases Nat.eq_of_beq_eq_true hn1
  dsimp only [zAc, zact] at ha
  split at ha
  · obtain ⟨a, vs, rfl, hc, ha⟩ := zob_t ha
    obtain ⟨w, hw, ha⟩ := zix_t ha
    obtain ⟨own, C, T, N, ref, ty, ho, hcl, hpos, hlink, hsame, hdesc, hty, -⟩ := zFl_t (show zFl.any _ = true from hz)
    obtain ⟨hx, hb, -, -, -, hown, hon, hts, hK, -⟩ := hF
    cases zon_t ho hon
    intro H locs ls hH hl hL hg hk
    obtain ⟨-, hlen, cell, q1, q2, q3, q4⟩ := (hH.2.1 a _ hc).ob hcl
    obtain ⟨hS, hfc, kC, hkC, hkind⟩ := hK.1 _ _ hcl
    obtain ⟨cf, kf, fi, f, hi, hsl⟩ := hS _ hpos
    obtain ⟨_, _, _, -, -, -, -, hin, -⟩ := zC_ok _ _ hcl
    have hsame2 : ∀ y, s.fieldFound? (T x.2.1).1 (T x.2.1).2.1 (T x.2.1).2.2.1 = some y → s.fieldFound? ref (T x.2.1).2.1 (T x.2.1).2.2.1 = some y := by
      rcases hsame with rfl | hsame
      · exact fun _ h => h
      · exact fun y h => u_same (hts _ hsame) y h
    have hst := (u_facts hfc hkC (u_lays hts hin hpos) hi).1
    have hsv : cell.slots[f.slot]? = some w := by rw [hsl, q4 _ hpos, zV_at hw]
    rcases hlink with hlink | ⟨host, hlink⟩
    · exact W.getf hx hb hown (hts _ hlink) (hsame2 _ hi) hst q1 (by rw [q3]; exact fun q => by cases q) hsv rfl rfl hd (ha.2 H locs ls hH hl hL hg hk)
    · exact va_Wgetf hx hb hown (zxuse hlink (hK.2.2.2.1 _ hlink)) (hsame2 _ hi) hst q1 (by rw [q3]; exact fun q => by cases q) hsv rfl rfl hd (ha.2 H locs ls hH hl hL hg hk)
  · exact ha.elim
theorem zs_putfield {k : Nat} (hF : zFm G p l R s m args meth c r d g0 k0 hf) (hd : decode r.2.1 pc = .ok (.putfield k, n)) (hn : zln (.putfield k) n = true) (hz : zck r pc (.putfield k) x = true) (ha : zAc G p l e R s m args below meth c Q r g0 k0 hf Rr Cc (.putfield k) n x pc L st h) : zGo G p l e R s m args below meth c Q r.2.2.1 g0 k0 (pc, L, st, h) := by
  have hn1 : Nat.beq 3 n = true := hn
  cases Nat.eq_of_beq_eq_true hn1
  dsimp only [zAc, zact] at ha
  split at ha
  · rename_i w v rest
    obtain ⟨a, vs, rfl, hc, ha⟩ := zob_t ha
    obtain ⟨hfit, ha⟩ := zif_t ha
    obtain ⟨hz1, hz2⟩ := Bool.and_eq_true_iff.mp (show (zFl.any (zqF r.2.2.2.2.1 k x) && _) = true from hz)
    obtain ⟨own, C, T, N, ref, ty, ho, hcl, hpos, hlink, hsame, hdesc, hty, hfin⟩ := zFl_t hz1
    obtain ⟨hx, hb, -, -, -, hown, hon, hts, hK, -, hini, -⟩ := hF
    cases zon_t ho hon
    intro H locs ls hH hl hL hg hk
    obtain ⟨hba, hlen, cell, q1, q2, q3, q4⟩ := (hH.2.1 a _ hc).ob hcl
    obtain ⟨hS, hfc, kC, hkC, hkind⟩ := hK.1 _ _ hcl
    obtain ⟨cf, kf, fi, f, hi, hsl⟩ := hS _ hpos
    obtain ⟨ty0, _, _, -, -, -, -, hin, hty0, hnm, -⟩ := zC_ok _ _ hcl
    have hsame2 : ∀ y, s.fieldFound? (T x.2.1).1 (T x.2.1).2.1 (T x.2.1).2.2.1 = some y → s.fieldFound? ref (T x.2.1).2.1 (T x.2.1).2.2.1 = some y := by
      rcases hsame with rfl | hsame
      · exact fun _ h => h
      · exact fun y h => u_same (hts _ hsame) y h
    have hst := (u_facts hfc hkC (u_lays hts hin hpos) hi).1
    have hap : ∀ a b, a < N → b < N → a ≠ b → ((zgD G).2 x.1) a ≠ ((zgD G).2 x.1) b := by
      intro a b hA hB hne
      obtain ⟨_, _, _, fa, hia, ea⟩ := hS a hA
      obtain ⟨_, _, _, fb, hib, eb⟩ := hS b hB
      rw [← ea, ← eb]
      refine u_apart (u_lays hts hin hA) (u_lays hts hin hB) hia hib ?_
      rw [(State.fieldFound?_type hia (hty0 a hA)).1, (State.fieldFound?_type hib (hty0 b hB)).1]
      exact hnm a hA b hB hne
    have hlt : f.slot < cell.slots.size := by rw [hsl]; exact k2_hasslot (q4 _ hpos)
    obtain ⟨hnar, hft⟩ := zfit_t hty hfit
    have kk : ∀ H1 : Heap, H1[a]? = some (cell.setSlot f.slot w) → H1.size = H.size → (∀ q, q ≠ a → H1[q]? = H[q]?) → W p l e R s m args below meth c H1 (locs ++ [⟨a, f.slot⟩]) (h.2.1 - g0) (h.2.2 - k0) Q (F0 m (pc + 3) ls rest) := by
      intro H1 e1 e2 e3
      refine ha.2 H1 (locs ++ [⟨a, f.slot⟩]) ls (hH.set hba e2 e3 (Or.inl ⟨zcl_lt hcl, hba, _, hcl, by rw [List.length_set]; exact hlen, ?_⟩)) ?_ hL hg hk
      · rw [hsl] at e1
        exact t_OB.to (V := updV (zV vs) x.2.1 w) ⟨_, e1, q2, q3, t_set q4 hap hpos w⟩ (fun j hj => zV_set (by rw [hlen]; exact hj) w)
      · intro z hz
        rcases List.mem_append.mp hz with h1 | h1
        · exact hl z h1
        · rw [List.mem_singleton.mp h1]
          exact hba
    rcases hfin with ⟨hf0, hx0⟩ | ⟨hf1, hx1, hlk⟩ | ⟨hf2, hx2⟩
    · have hlay := hts _ (hin _ (u_in_lay hpos))
      unfold u_lay at hlay
      rw [if_neg (by rw [hf0]; decide)] at hlay
      have h6 := u_store hfc hkC hkind hlay hi hdesc hnar hft
      rcases hlink with hlink | ⟨host, hlink⟩
      · exact W.putK hx hb (f := f) ⟨hown, hts _ hlink, ⟨_, _, _, hsame2 _ hi⟩, hst⟩ (by rw [q2]; exact h6) q1 q3 hlt rfl rfl hd kk
      · exact va_WputK hx hb (f := f) hown (zxuse hlink (hK.2.2.2.1 _ hlink)) (hsame2 _ hi) hst (by rw [q2]; exact h6) q1 q3 hlt rfl rfl hd kk
    · have hz3 : (match x.2.2.2.1 with | 0 => true | 1 => decide (r.1.name = "<init>") && (match zcl[x.1]? with | some c => decide ((c.2.1 x.2.1).1 = r.1.cls) | none => false) | _ => false) = true := hz2
      have hx1 : x.2.2.2.1 = 1 := hx1
      rw [hx1, hcl] at hz3
      obtain ⟨hz4, hz5⟩ := Bool.and_eq_true_iff.mp hz3
      have hdecl : (T x.2.1).1 = r.1.cls := of_decide_eq_true hz5
      have hin2 := hini (of_decide_eq_true hz4)
      have hlay := hts _ (hin _ (u_in_lay hpos))
      unfold u_lay at hlay
      rw [if_pos hf1] at hlay
      have hcf : m.cls = cf := by
        obtain ⟨_, _, c', _, _, _, -, -, hf', -, -, -, hown2, -⟩ := Cond.laysFinal_spec hlay
        have e1 : c' = cf := by have := hi.symm.trans hf'; simp at this; exact this.1.symm
        rw [hdecl] at hown2
        rw [← e1]; exact Option.some.inj (hown.symm.trans hown2)
      have h6 := u_fits hfc hkC hkind (Or.inr hlay) hi hdesc hnar hft
      exact W.putFinK hx hb hown (hts _ hlk) (hsame2 _ hi) hst hcf hin2 (by rw [q2]; exact h6) q1 q3 hlt rfl rfl hd kk
    · have hz3 : (match x.2.2.2.1 with | 0 => true | 1 => decide (r.1.name = "<init>") && (match zcl[x.1]? with | some c => decide ((c.2.1 x.2.1).1 = r.1.cls) | none => false) | _ => false) = true := hz2
      have hx2 : x.2.2.2.1 = 2 := hx2
      rw [hx2] at hz3
      cases hz3
  · exact ha.elim
theorem zs_getstatic {k : Nat} (hF : zFm G p l R s m args meth c r d g0 k0 hf) (hd : decode r.2.1 pc = .ok (.getstatic k, n)) (hn : zln (.getstatic k) n = true) (hz : zck r pc (.getstatic k) x = true) (ha : zAc G p l e R s m args below meth c Q r g0 k0 hf Rr Cc (.getstatic k) n x pc L st h) : zGo G p l e R s m args below meth c Q r.2.2.1 g0 k0 (pc, L, st, h) := by
  have hn1 : Nat.beq 3 n = true := hn
  cases Nat.eq_of_beq_eq_true hn1
  dsimp only [zAc, zact] at ha
  obtain ⟨-, ha⟩ := zif_t ha
  obtain ⟨own, C, nm, de, ho, hst, hlink⟩ := zSl_t (show zSl.any _ = true from hz)
  obtain ⟨hx, hb, -, -, -, hown, hon, hts, hK, -⟩ := hF
  cases zon_t ho hon
  intro H locs ls hH hl hL hg hk
  obtain ⟨cf, kf, fi, f, a, cell, h1, h2, h3, h4, h5, h6, h7, h8⟩ := hK.2.2.1 _ _ hst
  have hlt : a < zgb G := Nat.not_le.mp h8
  have hc : H[a]? = some cell := (hH.2.2.1 a hlt).trans h5
  rcases hlink with hlink | ⟨host, hlink⟩
  · exact W.gets hx hb hown (hts _ hlink) h1 h2 h3 h4 hc (fun e => by rw [e] at h6; cases h6) h7 rfl hd (ha.2 H locs ls hH hl hL hg hk)
  · exact va_WgetsN hx hb hown (zxuse hlink (hK.2.2.2.1 _ hlink)) h1 h2 h3 h4 hc (fun e => by rw [e] at h6; cases h6) h7 rfl hd (ha.2 H locs ls hH hl hL hg hk)
theorem zs_ldc {k : Nat} (hF : zFm G p l R s m args meth c r d g0 k0 hf) (hd : decode r.2.1 pc = .ok (.ldc k, n)) (hn : zln (.ldc k) n = true) (hz : zck r pc (.ldc k) x = true) (ha : zAc G p l e R s m args below meth c Q r g0 k0 hf Rr Cc (.ldc k) n x pc L st h) : zGo G p l e R s m args below meth c Q r.2.2.1 g0 k0 (pc, L, st, h) := by
  have hn1 : Nat.beq 2 n = true := hn
  cases Nat.eq_of_beq_eq_true hn1
  dsimp only [zAc, zact] at ha
  dsimp only [zck] at hz
  obtain ⟨hx, hb, -, -, -, hown, hon, hts, hK, -⟩ := hF
  split at ha
  · rename_i h0
    rw [h0] at hz
    split at ha
    · rename_i v hv
      rw [hv] at hz
      obtain ⟨own, ho, hk⟩ := zKl_t hz
      cases zon_t ho hon
      intro H locs ls hH hl hL hg hk2
      rcases hk with ⟨v2, e2, -, hw⟩ | ⟨v2, e2, -⟩ | ⟨v2, e2, -⟩
      · cases e2
        exact lv_ldc hx hb hown (hts _ hw) hd (ha.2 H locs ls hH hl hL hg hk2)
      · cases e2
      · cases e2
    · exact ha.elim
  · rename_i h0
    rw [h0] at hz
    obtain ⟨own, tx, ho, hs⟩ := zLl_t hz
    cases zon_t ho hon
    intro H locs ls hH hl hL hg hk2
    exact va_ldcS hx hb hown (hK.2.2.2.2.1 _ _ hs) hd (ha.2 H locs ls hH hl hL hg hk2)
  · exact ha.elim
theorem zs_ldc_w {k : Nat} (hF : zFm G p l R s m args meth c r d g0 k0 hf) (hd : decode r.2.1 pc = .ok (.ldc_w k, n)) (hn : zln (.ldc_w k) n = true) (hz : zck r pc (.ldc_w k) x = true) (ha : zAc G p l e R s m args below meth c Q r g0 k0 hf Rr Cc (.ldc_w k) n x pc L st h) : zGo G p l e R s m args below meth c Q r.2.2.1 g0 k0 (pc, L, st, h) := by
  have hn1 : Nat.beq 3 n = true := hn
  cases Nat.eq_of_beq_eq_true hn1
  dsimp only [zAc, zact] at ha
  dsimp only [zck] at hz
  obtain ⟨hx, hb, -, -, -, hown, hon, hts, hK, -⟩ := hF
  split at ha
  · split at ha
    · rename_i v hv
      rw [hv] at hz
      obtain ⟨own, ho, hk⟩ := zKl_t hz
      cases zon_t ho hon
      intro H locs ls hH hl hL hg hk2
      rcases hk with ⟨v2, e2, -, hw⟩ | ⟨v2, e2, -⟩ | ⟨v2, e2, -⟩
      · cases e2
        exact lv_ldcw hx hb hown (hts _ hw) hd (ha.2 H locs ls hH hl hL hg hk2)
      · cases e2
      · cases e2
    · exact ha.elim
  · exact ha.elim
theorem zs_ldc2_w {k : Nat} (hF : zFm G p l R s m args meth c r d g0 k0 hf) (hd : decode r.2.1 pc = .ok (.ldc2_w k, n)) (hn : zln (.ldc2_w k) n = true) (hz : zck r pc (.ldc2_w k) x = true) (ha : zAc G p l e R s m args below meth c Q r g0 k0 hf Rr Cc (.ldc2_w k) n x pc L st h) : zGo G p l e R s m args below meth c Q r.2.2.1 g0 k0 (pc, L, st, h) := by
  have hn1 : Nat.beq 3 n = true := hn
  cases Nat.eq_of_beq_eq_true hn1
  dsimp only [zAc, zact] at ha
  dsimp only [zck] at hz
  obtain ⟨hx, hb, -, -, -, hown, hon, hts, hK, -⟩ := hF
  split at ha
  · split at ha
    · rename_i v hv
      rw [hv] at hz
      obtain ⟨own, ho, hk⟩ := zKl_t hz
      cases zon_t ho hon
      intro H locs ls hH hl hL hg hk2
      rcases hk with ⟨v2, e2, -⟩ | ⟨v2, e2, -, hw⟩ | ⟨v2, e2, -⟩
      · cases e2
      · cases e2
        exact lv_ldc2 hx hb hown (hts _ hw) hd (ha.2 H locs ls hH hl hL hg hk2)
      · cases e2
    · rename_i v hv
      rw [hv] at hz
      obtain ⟨own, ho, hk⟩ := zKl_t hz
      cases zon_t ho hon
      intro H locs ls hH hl hL hg hk2
      rcases hk with ⟨v2, e2, -⟩ | ⟨v2, e2, -⟩ | ⟨v2, e2, -, hw⟩
      · cases e2
      · cases e2
      · cases e2
        exact lv_ldc2d hx hb hown (hts _ hw) hd (ha.2 H locs ls hH hl hL hg hk2)
    · exact ha.elim
  · exact ha.elim
theorem zs_arraylength (hF : zFm G p l R s m args meth c r d g0 k0 hf) (hd : decode r.2.1 pc = .ok (.arraylength, n)) (hn : zln .arraylength n = true) (ha : zAc G p l e R s m args below meth c Q r g0 k0 hf Rr Cc .arraylength n x pc L st h) : zGo G p l e R s m args below meth c Q r.2.2.1 g0 k0 (pc, L, st, h) := by
  have hn1 : Nat.beq 1 n = true := hn
  cases Nat.eq_of_beq_eq_true hn1
  dsimp only [zAc, zact] at ha
  split at ha
  · obtain ⟨a, t, vs, rfl, hc, ha⟩ := zan_t ha
    obtain ⟨ht, ha⟩ := zif_t ha
    intro H locs ls hH hl hL hg hk
    obtain ⟨cell, ty, k1, k2, -, -, -, -, k7, -⟩ := (hH.2.1 a _ hc).rd (Nat.le_of_ble_eq_true ht) hF.2.2.2.2.2.2.2.2.1 hH.2.2.1
    exact W.alen hF.1 hF.2.1 k1 k2 k7 rfl rfl hd (ha.2 H locs ls hH hl hL hg hk)
  · exact ha.elim
theorem zs_iaload (hF : zFm G p l R s m args meth c r d g0 k0 hf) (hd : decode r.2.1 pc = .ok (.iaload, n)) (hn : zln .iaload n = true) (ha : zAc G p l e R s m args below meth c Q r g0 k0 hf Rr Cc .iaload n x pc L st h) : zGo G p l e R s m args below meth c Q r.2.2.1 g0 k0 (pc, L, st, h) := by
  have hn1 : Nat.beq 1 n = true := hn
  cases Nat.eq_of_beq_eq_true hn1
  dsimp only [zAc, zact] at ha
  split at ha
  · obtain ⟨a, t, vs, rfl, hc, ha⟩ := zan_t ha
    obtain ⟨ht, ha⟩ := zif_t ha
    obtain ⟨w, hi, hw, ha⟩ := zel_t ha
    have ht2 : t = 64 ∨ t = 96 := (Bool.or_eq_true_iff.mp ht).imp znq znq
    intro H locs ls hH hl hL hg hk
    obtain ⟨cell, ty, k1, k2, k3, k4, k5, k6, -, k8⟩ := (hH.2.1 a _ hc).rd (by omega) hF.2.2.2.2.2.2.2.2.1 hH.2.2.1
    have hlt := (List.getElem?_eq_some_iff.mp hw).1
    have hty : ty = .int := by
      rcases ht2 with rfl | rfl
      · exact (Option.some.inj (k4 (by decide))).symm
      · exact (Option.some.inj (k5 (by decide))).symm
    subst hty
    exact W.iald hF.1 hF.2.1 k1 k2 k3 (by rintro (q | q); exact hi q; exact absurd q (by omega)) ((k8 _ hlt).trans (congrArg some (zV_at hw))) rfl rfl hd (ha.2 H locs ls hH hl hL hg hk)
  · exact ha.elim
theorem zs_baload (hF : zFm G p l R s m args meth c r d g0 k0 hf) (hd : decode r.2.1 pc = .ok (.baload, n)) (hn : zln .baload n = true) (ha : zAc G p l e R s m args below meth c Q r g0 k0 hf Rr Cc .baload n x pc L st h) : zGo G p l e R s m args below meth c Q r.2.2.1 g0 k0 (pc, L, st, h) := by
  have hn1 : Nat.beq 1 n = true := hn
  cases Nat.eq_of_beq_eq_true hn1
  dsimp only [zAc, zact] at ha
  split at ha
  · obtain ⟨a, t, vs, rfl, hc, ha⟩ := zan_t ha
    obtain ⟨ht, ha1⟩ := zif_t ha
    obtain ⟨w, hi, hw, ha2⟩ := zel_t ha1
    have ht2 : t = 65 := znq ht
    subst ht2
    intro H locs ls hH hl hL hg hk
    obtain ⟨cell, ty, k1, k2, k3, k4, k5, k6, -, k8⟩ := (hH.2.1 a _ hc).rd (by omega) hF.2.2.2.2.2.2.2.2.1 hH.2.2.1
    have hlt := (List.getElem?_eq_some_iff.mp hw).1
    have hty : ty = .byte := (Option.some.inj (k4 (by decide))).symm
    subst hty
    exact W.bald hF.1 hF.2.1 k1 k2 k3 (by rintro (q | q); exact hi q; exact absurd q (by omega)) ((k8 _ hlt).trans (congrArg some (zV_at hw))) rfl rfl hd (ha2.2 H locs ls hH hl hL hg hk)
  · exact ha.elim
theorem zs_aaload (hF : zFm G p l R s m args meth c r d g0 k0 hf) (hd : decode r.2.1 pc = .ok (.aaload, n)) (hn : zln .aaload n = true) (ha : zAc G p l e R s m args below meth c Q r g0 k0 hf Rr Cc .aaload n x pc L st h) : zGo G p l e R s m args below meth c Q r.2.2.1 g0 k0 (pc, L, st, h) := by
  have hn1 : Nat.beq 1 n = true := hn
  cases Nat.eq_of_beq_eq_true hn1
  dsimp only [zAc, zact] at ha
  split at ha
  · obtain ⟨a, t, vs, rfl, hc, ha⟩ := zan_t ha
    obtain ⟨ht, ha⟩ := zif_t ha
    obtain ⟨w, hi, hw, ha⟩ := zel_t ha
    obtain ⟨ht1, ht2⟩ := Bool.and_eq_true_iff.mp ht
    have ht1 := Nat.le_of_ble_eq_true ht1
    have ht2 := Nat.le_of_ble_eq_true ht2
    intro H locs ls hH hl hL hg hk
    obtain ⟨cell, ty, k1, k2, k3, k4, k5, k6, -, k8⟩ := (hH.2.1 a _ hc).rd (by omega) hF.2.2.2.2.2.2.2.2.1 hH.2.2.1
    have hlt := (List.getElem?_eq_some_iff.mp hw).1
    have hty : ty.isReference = true := zar_ref ht1 ht2 (k4 (by omega))
    exact W.aald hF.1 hF.2.1 k1 k2 hty k3 (by rintro (q | q); exact hi q; exact absurd q (by omega)) ((k8 _ hlt).trans (congrArg some (zV_at hw))) rfl rfl hd (ha.2 H locs ls hH hl hL hg hk)
  · exact ha.elim
/-- an array's place written -/
theorem zHput {H H1 : Heap} {locs : List Loc} {a t j : Nat} {vs : List Value} {w : Value} (hH : zH G h H) (hl : ∀ z ∈ locs, zgb G ≤ z.base) (hc : h.1 a = some (t, vs)) (h1 : 64 ≤ t) (h2 : t < 96) (e1 : H1[a]? = some ((zaC G (t - 64) vs).setSlot j w)) (e2 : H1.size = H.size) (e3 : ∀ q, q ≠ a → H1[q]? = H[q]?) :
    zH G (zset h a (t, vs.set j w)) H1 ∧ ∀ z ∈ locs ++ [⟨a, j⟩], zgb G ≤ z.base := by
  obtain ⟨hba, hty, -⟩ := (hH.2.1 a _ hc).ar h1 h2
  refine ⟨hH.set hba e2 e3 (Or.inr (Or.inl ⟨h1, h2, hba, hty, ?_⟩)), ?_⟩
  · rw [e1, zaC_set]
  · intro z hz
    rcases List.mem_append.mp hz with q | q
    · exact hl z q
    · rw [List.mem_singleton.mp q]
      exact hba
theorem zs_iastore (hF : zFm G p l R s m args meth c r d g0 k0 hf) (hd : decode r.2.1 pc = .ok (.iastore, n)) (hn : zln .iastore n = true) (ha : zAc G p l e R s m args below meth c Q r g0 k0 hf Rr Cc .iastore n x pc L st h) : zGo G p l e R s m args below meth c Q r.2.2.1 g0 k0 (pc, L, st, h) := by
  have hn1 : Nat.beq 1 n = true := hn
  cases Nat.eq_of_beq_eq_true hn1
  dsimp only [zAc, zact] at ha
  split at ha
  · obtain ⟨a, vs, rfl, hc, ha⟩ := zob_t ha
    obtain ⟨w, hi, hw, ha⟩ := zel_t ha
    intro H locs ls hH hl hL hg hk
    obtain ⟨-, ⟨ty, hty⟩, hcell⟩ := (hH.2.1 a _ hc).ar (by decide) (by decide)
    have hlt := (List.getElem?_eq_some_iff.mp hw).1
    cases (Option.some.inj hty : FieldType.int = ty)
    refine W.iast hF.1 hF.2.1 hcell ((hF.2.2.2.2.2.2.2.2.1.2.1 _ _ hty).arr vs) (fun q => by cases q) (by rintro (q | q); exact hi q; exact absurd q (by simpa [zaC] using hlt)) rfl rfl hd fun H1 e1 e2 e3 => ?_
    obtain ⟨hH1, hl1⟩ := zHput hH hl hc (by decide) (by decide) e1 e2 e3
    exact ha.2 H1 _ ls hH1 hl1 hL hg hk
  · exact ha.elim
theorem zs_bastore (hF : zFm G p l R s m args meth c r d g0 k0 hf) (hd : decode r.2.1 pc = .ok (.bastore, n)) (hn : zln .bastore n = true) (ha : zAc G p l e R s m args below meth c Q r g0 k0 hf Rr Cc .bastore n x pc L st h) : zGo G p l e R s m args below meth c Q r.2.2.1 g0 k0 (pc, L, st, h) := by
  have hn1 : Nat.beq 1 n = true := hn
  cases Nat.eq_of_beq_eq_true hn1
  dsimp only [zAc, zact] at ha
  split at ha
  · obtain ⟨a, vs, rfl, hc, ha⟩ := zob_t ha
    obtain ⟨w, hi, hw, ha⟩ := zel_t ha
    intro H locs ls hH hl hL hg hk
    obtain ⟨-, ⟨ty, hty⟩, hcell⟩ := (hH.2.1 a _ hc).ar (by decide) (by decide)
    have hlt := (List.getElem?_eq_some_iff.mp hw).1
    cases (Option.some.inj hty : FieldType.byte = ty)
    refine W.bast hF.1 hF.2.1 hcell ((hF.2.2.2.2.2.2.2.2.1.2.1 _ _ hty).arr vs) (fun q => by cases q) (by rintro (q | q); exact hi q; exact absurd q (by simpa [zaC] using hlt)) rfl rfl hd fun H1 e1 e2 e3 => ?_
    obtain ⟨hH1, hl1⟩ := zHput hH hl hc (by decide) (by decide) e1 e2 e3
    exact ha.2 H1 _ ls hH1 hl1 hL hg hk
  · exact ha.elim
theorem zs_checkcast {k : Nat} (hF : zFm G p l R s m args meth c r d g0 k0 hf) (hd : decode r.2.1 pc = .ok (.checkcast k, n)) (hn : zln (.checkcast k) n = true) (hz : zck r pc (.checkcast k) x = true) (ha : zAc G p l e R s m args below meth c Q r g0 k0 hf Rr Cc (.checkcast k) n x pc L st h) : zGo G p l e R s m args below meth c Q r.2.2.1 g0 k0 (pc, L, st, h) := by
  have hn1 : Nat.beq 3 n = true := hn
  cases Nat.eq_of_beq_eq_true hn1
  dsimp only [zAc, zact] at ha
  obtain ⟨hx, hb, -, -, -, hown, hon, hts, hK, -⟩ := hF
  split at ha
  · intro H locs ls hH hl hL hg hk
    exact lv_castN hx hb hd (ha.2 H locs ls hH hl hL hg hk)
  · obtain ⟨a, vs, hva, hc, ha⟩ := zob_t ha
    have hva := Value.ref.inj hva
    subst hva
    obtain ⟨-, ha⟩ := zif_t ha
    obtain ⟨own, rc, ho, hcl, hw⟩ := zNl_t (show zNl.any _ = true from hz)
    cases zon_t ho hon
    intro H locs ls hH hl hL hg hk
    obtain ⟨-, hlen, cell, q1, q2, q3, q4⟩ := (hH.2.1 _ _ hc).ob hcl
    have hat := (hK.1 _ _ hcl).2
    exact va_castS hx hb hown (hts _ hw) hat ⟨cell, q1, by rw [q3]; rfl, by rw [q2]; exact hat.1⟩ hd (ha.2 H locs ls hH hl hL hg hk)
  · exact ha.elim
end ZHP
