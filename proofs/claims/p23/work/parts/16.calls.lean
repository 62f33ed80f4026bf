/-! ===== the calls, kind by kind ===== -/
theorem zsp_t : ∀ (n : Nat) (acc st as r : List Value), zsp n acc st = some (as, r) → ∃ xs, as = xs ++ acc ∧ xs.length = n ∧ st = xs.reverse ++ r
  | 0, acc, st, as, r, h => by
    unfold zsp at h
    cases h
    exact ⟨[], rfl, rfl, rfl⟩
  | n + 1, acc, [], as, r, h => by
    unfold zsp at h
    cases h
  | n + 1, acc, v :: st, as, r, h => by
    unfold zsp at h
    obtain ⟨xs, h1, h2, h3⟩ := zsp_t n (v :: acc) st as r h
    exact ⟨xs ++ [v], by rw [h1, List.append_assoc]; rfl, by rw [List.length_append, h2]; rfl, by rw [h3, List.reverse_append]; rfl⟩
theorem zsp_0 {n : Nat} {st as r : List Value} (h : zsp n [] st = some (as, r)) : as.length = n ∧ st = as.reverse ++ r := by
  obtain ⟨xs, h1, h2, h3⟩ := zsp_t n [] st as r h
  rw [List.append_nil] at h1
  subst h1
  exact ⟨h2, h3⟩
theorem zcw_code {r : zMd} (h : r.2.2.2.2.2.2 = []) : zcw r = Jvm.Cond.code r.1 r.2.1 r.2.2.1 r.2.2.2.1 := by
  unfold zcw
  rw [h]
  rfl
theorem zcw_with {r : zMd} (h : r.2.2.2.2.2.2 ≠ []) : zcw r = Jvm.Cond.codeWith r.1 r.2.1 r.2.2.1 r.2.2.2.1 r.2.2.2.2.2.2 := by
  unfold zcw
  rw [if_neg (fun q => h (List.isEmpty_iff.mp q))]
theorem zcons {A : Jvm.Cond} {L M : List Jvm.Cond} (hA : A ∈ M) (hL : ∀ w ∈ L, w ∈ M) : ∀ w ∈ A :: L, w ∈ M := List.forall_mem_cons.mpr ⟨hA, hL⟩
section ZCK
variable {G : zG} {p : Program} {l : Launch} {e : Env} {R : Room} {s : State} {m : MethodId} {args : Array Value} {below : List Frame} {meth : Method} {c : Code}
variable {r : zMd} {d g0 k0 : Nat} {h : zPH} {x : zAux} {n pc j : Nat} {L : zLc} {st : List Value} {q : zOut × zPH}
theorem zpreS {as : List Value} {H : Heap} (hK : zKn G s) (hH : zH G h H) : PreS s H (zPc G as h) as := ⟨zPc_blind, fun U hU hW => ⟨rfl, by rw [hU]; exact hH, hK.moved hW⟩⟩
theorem zpreV {as vs : List Value} {H : Heap} {b t : Nat} {rc : vw_C} (hK : zKn G s) (hH : zH G h H) (hc : h.1 b = some (t, vs)) (hcl : zcl[t]? = some rc) : PreV s H rc.1 b (zPc G (.ref b :: as) h) as := by
  obtain ⟨-, -, cell, q1, q2, q3, -⟩ := (hH.2.1 b _ hc).ob hcl
  obtain ⟨hfc, -⟩ := (hK.1 _ _ hcl).2
  exact ⟨zPc_blind, ⟨cell, q1, by rw [q3]; rfl, by rw [q2]; exact hfc⟩, fun U hU hW => ⟨rfl, by rw [hU]; exact hH, hK.moved hW⟩⟩
abbrev zAk (G : zG) (p : Program) (l : Launch) (e : Env) (R : Room) (s : State) (m : MethodId) (args : Array Value) (below : List Frame) (meth : Method) (c : Code) (r : zMd) (d g0 k0 : Nat) (q : zOut × zPH) (j : Nat) (i : Instr) (n : Nat) (x : zAux) (pc : Nat) (L : zLc) (st : List Value) (h : zPH) : Prop :=
  zAc G p l e R s m args below meth c (zQ G below args s q g0 k0) r g0 k0 q.2 (fun o h => (o, h) = q) (zCal G p l e R s m args below meth c r d g0 k0 q j pc n L h) i n x pc L st h
theorem zs_static {k : Nat} (hF : zFm G p l R s m args meth c r d g0 k0 q.2) (hB : zBg G s c r q g0) (hj : zmd j = some r) (hd : decode r.2.1 pc = .ok (.invokestatic k, n)) (hn : zln (.invokestatic k) n = true) (hxk : x.1 = 3) (hz : zVl.any (fun l => l.any (zqV r.2.2.2.2.1 k x)) = true) (ha : zAk G p l e R s m args below meth c r d g0 k0 q j (.invokestatic k) n x pc L st h) : zGo G p l e R s m args below meth c (zQ G below args s q g0 k0) r.2.2.1 g0 k0 (pc, L, st, h) := by
  have hn1 : Nat.beq 3 n = true := hn
  cases Nat.eq_of_beq_eq_true hn1
  obtain ⟨x1, j2, nn, tg, xv⟩ := x
  have hq9 : x1 = 3 := hxk
  subst hq9
  dsimp only [zAk, zAc, zact] at ha
  conv at ha => whnf
  obtain ⟨own, r2, ho, hj2, hlt2, hv⟩ := zVl_t hz
  have hF0 := hF
  obtain ⟨hx, hb, hml, hr, hlocks, hown, hon, hts, hK, hl0, -, hR1, hR2, hR3, hR4⟩ := hF
  cases zon_t ho hon
  have hok := zM_ok _ _ hlt2 hj2
  have hgi := zcw_ws hok
  have hini := hok.2.2.2.2.2.1
  have hmh := hok.2.1
  have hvh := hok.2.2.1
  have hpf := hok.2.2.2.2.1
  have hv : r2.2.2.2.2.2.2 = [] ∧ (parseMethodDescriptor r2.1.desc).map (fun d => d.parameters.length) = some nn ∧ Jvm.Cond.methodLink r.1.cls k r2.1 ∈ zWS ∧ Jvm.Cond.static r2.1 ∈ zWS := hv
  obtain ⟨hnh, hpd, hlk, hst⟩ := hv
  have ha : (match zsp nn [] st with | some (as, r0) => zif False (Nat.ble (zwt r0) 8) (zCal G p l e R s m args below meth c r d g0 k0 q j pc 3 L h j2 as r0) | none => False) := ha
  split at ha
  · rename_i as rest hsp
    obtain ⟨hwt, ha⟩ := zif_t ha
    obtain ⟨hlen, hstk⟩ := zsp_0 hsp
    obtain ⟨d2, q2, hd2, hM, hg1, hg2, k1, k2⟩ := ha
    have hM := hM r2 hj2 hok
    have hwt := zwt_le hwt
    have hRR : (zrm d2 (q2.2.2.1 - h.2.1) (q2.2.2.2 - h.2.2)).frames + 1 ≤ R.frames ∧ 8 + (r2.2.2.1 + 11) + (zrm d2 (q2.2.2.1 - h.2.1) (q2.2.2.2 - h.2.2)).locals ≤ R.locals := by
      constructor
      · show d2 + 6 + 1 ≤ _; omega
      · show 8 + (r2.2.2.1 + 11) + (64 * d2 + 200) ≤ _; omega
    refine zGo_i fun H locs ls hH hl hL hg hk => ?_
    have hrm : h.2.1 - g0 + (q2.2.2.1 - h.2.1) ≤ R.cells ∧ h.2.2 - k0 + (q2.2.2.2 - h.2.2) ≤ R.slots := by
      have h1 := hg1.1
      have h2 := hg1.2
      have h3 := hg2.1
      have h4 := hg2.2
      constructor <;> omega
    have hS : CallFix p m c r.2.1 r.2.2.1 s args zWS r.1.cls := ⟨hx, hb, hml, hown, hts⟩
    rw [zcw_code hnh] at hM hgi
    have hcw := (va_cwS nn hts (zgin (zcons hlk (zcons hst (zcons hini hgi)))) rfl rfl rfl ⟨hmh, hvh, hpd⟩ hRR : CallB R s args r.1.cls k r2.1 r2.2.1 r2.2.2.1 r2.2.2.2.1 (Jvm.Cond.code r2.1 r2.2.1 r2.2.2.1 r2.2.2.2.1 :: zWS) (zrm d2 (q2.2.2.1 - h.2.1) (q2.2.2.2 - h.2.2)) (q2.2.2.1 - h.2.1) (q2.2.2.2 - h.2.2) nn ∧ (Jvm.Cond.static r2.1).before args s = true)
    have hpp := (zpreS hK hH : PreS s H (zPc G as h) as)
    have hrun : vx_Run p l e R s m args below meth c H locs (h.2.1 - g0) (h.2.2 - k0) (q2.2.2.1 - h.2.1) (q2.2.2.2 - h.2.2) (F0 m pc ls st) rest (zQc G q2 as.toArray) (zXC G q2) (fun z => zgb G ≤ z) := vx_runS hS hM hcw hpp rfl hlen hL.2.1 hstk (by show 2 * 0 + _ ≤ 8; omega) hd hrm
    exact zs_back (st := st) (rest := rest) (as := as.toArray) hF0 hB hj hl hL hg hk hg1 hg2 k1 k2 hrun
  · exact ha.elim
theorem zs_staticN {k : Nat} (hF : zFm G p l R s m args meth c r d g0 k0 q.2) (hB : zBg G s c r q g0) (hj : zmd j = some r) (hd : decode r.2.1 pc = .ok (.invokestatic k, n)) (hn : zln (.invokestatic k) n = true) (hxk : x.1 = 4) (hz : zVl.any (fun l => l.any (zqV r.2.2.2.2.1 k x)) = true) (ha : zAk G p l e R s m args below meth c r d g0 k0 q j (.invokestatic k) n x pc L st h) : zGo G p l e R s m args below meth c (zQ G below args s q g0 k0) r.2.2.1 g0 k0 (pc, L, st, h) := by
  have hn1 : Nat.beq 3 n = true := hn
  cases Nat.eq_of_beq_eq_true hn1
  obtain ⟨x1, j2, nn, tg, xv⟩ := x
  have hq9 : x1 = 4 := hxk
  subst hq9
  dsimp only [zAk, zAc, zact] at ha
  conv at ha => whnf
  obtain ⟨own, r2, ho, hj2, hlt2, hv⟩ := zVl_t hz
  have hF0 := hF
  obtain ⟨hx, hb, hml, hr, hlocks, hown, hon, hts, hK, hl0, -, hR1, hR2, hR3, hR4⟩ := hF
  cases zon_t ho hon
  have hok := zM_ok _ _ hlt2 hj2
  have hgi := zcw_ws hok
  have hini := hok.2.2.2.2.2.1
  have hmh := hok.2.1
  have hvh := hok.2.2.1
  have hpf := hok.2.2.2.2.1
  have hv : r2.2.2.2.2.2.2 = [] ∧ (parseMethodDescriptor r2.1.desc).map (fun d => d.parameters.length) = some nn ∧ (∃ host, Jvm.Cond.methodLinkNest r.1.cls k r2.1 host ∈ zXW) ∧ Jvm.Cond.static r2.1 ∈ zWS := hv
  obtain ⟨hnh, hpd, ⟨host, hlk⟩, hst⟩ := hv
  have ha : (match zsp nn [] st with | some (as, r0) => zif False (Nat.ble (zwt r0) 8) (zCal G p l e R s m args below meth c r d g0 k0 q j pc 3 L h j2 as r0) | none => False) := ha
  split at ha
  · rename_i as rest hsp
    obtain ⟨hwt, ha⟩ := zif_t ha
    obtain ⟨hlen, hstk⟩ := zsp_0 hsp
    obtain ⟨d2, q2, hd2, hM, hg1, hg2, k1, k2⟩ := ha
    have hM := hM r2 hj2 hok
    have hwt := zwt_le hwt
    have hRR : (zrm d2 (q2.2.2.1 - h.2.1) (q2.2.2.2 - h.2.2)).frames + 1 ≤ R.frames ∧ 8 + (r2.2.2.1 + 11) + (zrm d2 (q2.2.2.1 - h.2.1) (q2.2.2.2 - h.2.2)).locals ≤ R.locals := by
      constructor
      · show d2 + 6 + 1 ≤ _; omega
      · show 8 + (r2.2.2.1 + 11) + (64 * d2 + 200) ≤ _; omega
    refine zGo_i fun H locs ls hH hl hL hg hk => ?_
    have hrm : h.2.1 - g0 + (q2.2.2.1 - h.2.1) ≤ R.cells ∧ h.2.2 - k0 + (q2.2.2.2 - h.2.2) ≤ R.slots := by
      have h1 := hg1.1
      have h2 := hg1.2
      have h3 := hg2.1
      have h4 := hg2.2
      constructor <;> omega
    have hS : CallFix p m c r.2.1 r.2.2.1 s args zWS r.1.cls := ⟨hx, hb, hml, hown, hts⟩
    rw [zcw_code hnh] at hM hgi
    have hcw := (⟨va_cnB nn hts (zgin hgi) rfl rfl rfl (hK.2.2.2.1 _ hlk) (hts _ hini) ⟨hmh, hvh, hpd⟩ hRR, hts _ hst, trivial⟩ : va_CN R s args r.1.cls k r2.1 host r2.2.1 r2.2.2.1 r2.2.2.2.1 (Jvm.Cond.code r2.1 r2.2.1 r2.2.2.1 r2.2.2.2.1 :: zWS) (zrm d2 (q2.2.2.1 - h.2.1) (q2.2.2.2 - h.2.2)) (q2.2.2.1 - h.2.1) (q2.2.2.2 - h.2.2) nn ∧ (Jvm.Cond.static r2.1).before args s = true ∧ True)
    have hpp := (zpreS hK hH : PreS s H (zPc G as h) as)
    have hrun : vx_Run p l e R s m args below meth c H locs (h.2.1 - g0) (h.2.2 - k0) (q2.2.2.1 - h.2.1) (q2.2.2.2 - h.2.2) (F0 m pc ls st) rest (zQc G q2 as.toArray) (zXC G q2) (fun z => zgb G ≤ z) := vx_runSN hS hM hcw hpp rfl hlen hL.2.1 hstk (by show 2 * 0 + _ ≤ 8; omega) hd hrm
    exact zs_back (st := st) (rest := rest) (as := as.toArray) hF0 hB hj hl hL hg hk hg1 hg2 k1 k2 hrun
  · exact ha.elim
theorem zs_staticX {k : Nat} (hF : zFm G p l R s m args meth c r d g0 k0 q.2) (hB : zBg G s c r q g0) (hj : zmd j = some r) (hd : decode r.2.1 pc = .ok (.invokestatic k, n)) (hn : zln (.invokestatic k) n = true) (hxk : x.1 = 9) (hz : zVl.any (fun l => l.any (zqV r.2.2.2.2.1 k x)) = true) (ha : zAk G p l e R s m args below meth c r d g0 k0 q j (.invokestatic k) n x pc L st h) : zGo G p l e R s m args below meth c (zQ G below args s q g0 k0) r.2.2.1 g0 k0 (pc, L, st, h) := by
  have hn1 : Nat.beq 3 n = true := hn
  cases Nat.eq_of_beq_eq_true hn1
  obtain ⟨x1, j2, nn, tg, xv⟩ := x
  have hq9 : x1 = 9 := hxk
  subst hq9
  dsimp only [zAk, zAc, zact] at ha
  conv at ha => whnf
  obtain ⟨own, r2, ho, hj2, hlt2, hv⟩ := zVl_t hz
  have hF0 := hF
  obtain ⟨hx, hb, hml, hr, hlocks, hown, hon, hts, hK, hl0, -, hR1, hR2, hR3, hR4⟩ := hF
  cases zon_t ho hon
  have hok := zM_ok _ _ hlt2 hj2
  have hgi := zcw_ws hok
  have hini := hok.2.2.2.2.2.1
  have hmh := hok.2.1
  have hvh := hok.2.2.1
  have hpf := hok.2.2.2.2.1
  have hv : r2.2.2.2.2.2.2 ≠ [] ∧ (parseMethodDescriptor r2.1.desc).map (fun d => d.parameters.length) = some nn ∧ Jvm.Cond.methodLink r.1.cls k r2.1 ∈ zWS ∧ Jvm.Cond.static r2.1 ∈ zWS := hv
  obtain ⟨hnh, hpd, hlk, hst⟩ := hv
  have ha : (match zsp nn [] st with | some (as, r0) => zif False (Nat.ble (zwt r0) 8) (zCal G p l e R s m args below meth c r d g0 k0 q j pc 3 L h j2 as r0) | none => False) := ha
  split at ha
  · rename_i as rest hsp
    obtain ⟨hwt, ha⟩ := zif_t ha
    obtain ⟨hlen, hstk⟩ := zsp_0 hsp
    obtain ⟨d2, q2, hd2, hM, hg1, hg2, k1, k2⟩ := ha
    have hM := hM r2 hj2 hok
    have hwt := zwt_le hwt
    have hRR : (zrm d2 (q2.2.2.1 - h.2.1) (q2.2.2.2 - h.2.2)).frames + 1 ≤ R.frames ∧ 8 + (r2.2.2.1 + 11) + (zrm d2 (q2.2.2.1 - h.2.1) (q2.2.2.2 - h.2.2)).locals ≤ R.locals := by
      constructor
      · show d2 + 6 + 1 ≤ _; omega
      · show 8 + (r2.2.2.1 + 11) + (64 * d2 + 200) ≤ _; omega
    refine zGo_i fun H locs ls hH hl hL hg hk => ?_
    have hrm : h.2.1 - g0 + (q2.2.2.1 - h.2.1) ≤ R.cells ∧ h.2.2 - k0 + (q2.2.2.2 - h.2.2) ≤ R.slots := by
      have h1 := hg1.1
      have h2 := hg1.2
      have h3 := hg2.1
      have h4 := hg2.2
      constructor <;> omega
    have hS : CallFix p m c r.2.1 r.2.2.1 s args zWS r.1.cls := ⟨hx, hb, hml, hown, hts⟩
    rw [zcw_with hnh] at hM hgi
    have hcw := (vx_cwSW nn hts (zgin (zcons hlk (zcons hst (zcons hini hgi)))) rfl rfl rfl ⟨hmh, hvh, hpd⟩ hRR : vx_CSW R s args r.1.cls k r2.1 r2.2.1 r2.2.2.1 r2.2.2.2.1 r2.2.2.2.2.2.2 (Jvm.Cond.codeWith r2.1 r2.2.1 r2.2.2.1 r2.2.2.2.1 r2.2.2.2.2.2.2 :: zWS) (zrm d2 (q2.2.2.1 - h.2.1) (q2.2.2.2 - h.2.2)) (q2.2.2.1 - h.2.1) (q2.2.2.2 - h.2.2) nn)
    have hpp := (zpreS hK hH : PreS s H (zPc G as h) as)
    have hrun : vx_Run p l e R s m args below meth c H locs (h.2.1 - g0) (h.2.2 - k0) (q2.2.2.1 - h.2.1) (q2.2.2.2 - h.2.2) (F0 m pc ls st) rest (zQc G q2 as.toArray) (zXC G q2) (fun z => zgb G ≤ z) := vx_runSX hS hM hcw hpp rfl hlen hL.2.1 hstk (by show 2 * 0 + _ ≤ 8; omega) hd hrm
    exact zs_back (st := st) (rest := rest) (as := as.toArray) hF0 hB hj hl hL hg hk hg1 hg2 k1 k2 hrun
  · exact ha.elim
theorem zs_init {k : Nat} (hF : zFm G p l R s m args meth c r d g0 k0 q.2) (hB : zBg G s c r q g0) (hj : zmd j = some r) (hd : decode r.2.1 pc = .ok (.invokespecial k, n)) (hn : zln (.invokespecial k) n = true) (hxk : x.1 = 5) (hz : zVl.any (fun l => l.any (zqV r.2.2.2.2.1 k x)) = true) (ha : zAk G p l e R s m args below meth c r d g0 k0 q j (.invokespecial k) n x pc L st h) : zGo G p l e R s m args below meth c (zQ G below args s q g0 k0) r.2.2.1 g0 k0 (pc, L, st, h) := by
  have hn1 : Nat.beq 3 n = true := hn
  cases Nat.eq_of_beq_eq_true hn1
  obtain ⟨x1, j2, nn, tg, xv⟩ := x
  have hq9 : x1 = 5 := hxk
  subst hq9
  dsimp only [zAk, zAc, zact] at ha
  conv at ha => whnf
  obtain ⟨own, r2, ho, hj2, hlt2, hv⟩ := zVl_t hz
  have hF0 := hF
  obtain ⟨hx, hb, hml, hr, hlocks, hown, hon, hts, hK, hl0, -, hR1, hR2, hR3, hR4⟩ := hF
  cases zon_t ho hon
  have hok := zM_ok _ _ hlt2 hj2
  have hgi := zcw_ws hok
  have hini := hok.2.2.2.2.2.1
  have hmh := hok.2.1
  have hvh := hok.2.2.1
  have hpf := hok.2.2.2.2.1
  have hv : r2.2.2.2.2.2.2 = [] ∧ (parseMethodDescriptor r2.1.desc).map (fun d => d.parameters.length) = some nn ∧ r2.1.name = "<init>" ∧ r2.2.2.2.1 = none ∧ Jvm.Cond.methodLink r.1.cls k r2.1 ∈ zWS ∧ Jvm.Cond.instanceMethod r2.1 ∈ zWS := hv
  obtain ⟨hnh, hpd, hnm, hrn, hlk, hst⟩ := hv
  have ha : (match zsp nn [] st with | some (as, .ref b :: r0) => zif False (Nat.ble (zwt r0) 8) (zCal G p l e R s m args below meth c r d g0 k0 q j pc 3 L h j2 (.ref b :: as) r0) | _ => False) := ha
  split at ha
  · rename_i as b rest hsp
    obtain ⟨hwt, ha⟩ := zif_t ha
    obtain ⟨hlen, hstk⟩ := zsp_0 hsp
    obtain ⟨d2, q2, hd2, hM, hg1, hg2, k1, k2⟩ := ha
    have hM := hM r2 hj2 hok
    have hwt := zwt_le hwt
    have hRR : (zrm d2 (q2.2.2.1 - h.2.1) (q2.2.2.2 - h.2.2)).frames + 1 ≤ R.frames ∧ 8 + (r2.2.2.1 + 11) + (zrm d2 (q2.2.2.1 - h.2.1) (q2.2.2.2 - h.2.2)).locals ≤ R.locals := by
      constructor
      · show d2 + 6 + 1 ≤ _; omega
      · show 8 + (r2.2.2.1 + 11) + (64 * d2 + 200) ≤ _; omega
    refine zGo_i fun H locs ls hH hl hL hg hk => ?_
    have hrm : h.2.1 - g0 + (q2.2.2.1 - h.2.1) ≤ R.cells ∧ h.2.2 - k0 + (q2.2.2.2 - h.2.2) ≤ R.slots := by
      have h1 := hg1.1
      have h2 := hg1.2
      have h3 := hg2.1
      have h4 := hg2.2
      constructor <;> omega
    have hS : CallFix p m c r.2.1 r.2.2.1 s args zWS r.1.cls := ⟨hx, hb, hml, hown, hts⟩
    rw [zcw_code hnh] at hM hgi
    rw [hrn] at hM hgi
    have hcw := (⟨callB_of nn hts (zgin hgi) rfl rfl rfl (hts _ hini) (hts _ hlk) ⟨hmh, hvh, hpd⟩ hRR, hnm, hts _ hst⟩ : CallB R s args r.1.cls k r2.1 r2.2.1 r2.2.2.1 none (Jvm.Cond.code r2.1 r2.2.1 r2.2.2.1 none :: zWS) (zrm d2 (q2.2.2.1 - h.2.1) (q2.2.2.2 - h.2.2)) (q2.2.2.1 - h.2.1) (q2.2.2.2 - h.2.2) nn ∧ r2.1.name = "<init>" ∧ (Jvm.Cond.instanceMethod r2.1).before args s = true)
    have hpp := (zpreS hK hH : PreS s H (zPc G (.ref b :: as) h) (.ref b :: as))
    have hrun : vx_Run p l e R s m args below meth c H locs (h.2.1 - g0) (h.2.2 - k0) (q2.2.2.1 - h.2.1) (q2.2.2.2 - h.2.2) (F0 m pc ls st) rest (zQc G q2 (.ref b :: as).toArray) (zXC G q2) (fun z => zgb G ≤ z) := vx_runI hS hM hcw hpp rfl hlen hL.2.1 hstk (by show 2 * 0 + _ ≤ 8; omega) hd hrm
    exact zs_back (st := st) (rest := rest) (as := (.ref b :: as).toArray) hF0 hB hj hl hL hg hk hg1 hg2 k1 k2 hrun
  · exact ha.elim
theorem zs_initN {k : Nat} (hF : zFm G p l R s m args meth c r d g0 k0 q.2) (hB : zBg G s c r q g0) (hj : zmd j = some r) (hd : decode r.2.1 pc = .ok (.invokespecial k, n)) (hn : zln (.invokespecial k) n = true) (hxk : x.1 = 6) (hz : zVl.any (fun l => l.any (zqV r.2.2.2.2.1 k x)) = true) (ha : zAk G p l e R s m args below meth c r d g0 k0 q j (.invokespecial k) n x pc L st h) : zGo G p l e R s m args below meth c (zQ G below args s q g0 k0) r.2.2.1 g0 k0 (pc, L, st, h) := by
  have hn1 : Nat.beq 3 n = true := hn
  cases Nat.eq_of_beq_eq_true hn1
  obtain ⟨x1, j2, nn, tg, xv⟩ := x
  have hq9 : x1 = 6 := hxk
  subst hq9
  dsimp only [zAk, zAc, zact] at ha
  conv at ha => whnf
  obtain ⟨own, r2, ho, hj2, hlt2, hv⟩ := zVl_t hz
  have hF0 := hF
  obtain ⟨hx, hb, hml, hr, hlocks, hown, hon, hts, hK, hl0, -, hR1, hR2, hR3, hR4⟩ := hF
  cases zon_t ho hon
  have hok := zM_ok _ _ hlt2 hj2
  have hgi := zcw_ws hok
  have hini := hok.2.2.2.2.2.1
  have hmh := hok.2.1
  have hvh := hok.2.2.1
  have hpf := hok.2.2.2.2.1
  have hv : r2.2.2.2.2.2.2 = [] ∧ (parseMethodDescriptor r2.1.desc).map (fun d => d.parameters.length) = some nn ∧ r2.1.name = "<init>" ∧ r2.2.2.2.1 = none ∧ (∃ host, Jvm.Cond.methodLinkNest r.1.cls k r2.1 host ∈ zXW) ∧ Jvm.Cond.instanceMethod r2.1 ∈ zWS := hv
  obtain ⟨hnh, hpd, hnm, hrn, ⟨host, hlk⟩, hst⟩ := hv
  have ha : (match zsp nn [] st with | some (as, .ref b :: r0) => zif False (Nat.ble (zwt r0) 8) (zCal G p l e R s m args below meth c r d g0 k0 q j pc 3 L h j2 (.ref b :: as) r0) | _ => False) := ha
  split at ha
  · rename_i as b rest hsp
    obtain ⟨hwt, ha⟩ := zif_t ha
    obtain ⟨hlen, hstk⟩ := zsp_0 hsp
    obtain ⟨d2, q2, hd2, hM, hg1, hg2, k1, k2⟩ := ha
    have hM := hM r2 hj2 hok
    have hwt := zwt_le hwt
    have hRR : (zrm d2 (q2.2.2.1 - h.2.1) (q2.2.2.2 - h.2.2)).frames + 1 ≤ R.frames ∧ 8 + (r2.2.2.1 + 11) + (zrm d2 (q2.2.2.1 - h.2.1) (q2.2.2.2 - h.2.2)).locals ≤ R.locals := by
      constructor
      · show d2 + 6 + 1 ≤ _; omega
      · show 8 + (r2.2.2.1 + 11) + (64 * d2 + 200) ≤ _; omega
    refine zGo_i fun H locs ls hH hl hL hg hk => ?_
    have hrm : h.2.1 - g0 + (q2.2.2.1 - h.2.1) ≤ R.cells ∧ h.2.2 - k0 + (q2.2.2.2 - h.2.2) ≤ R.slots := by
      have h1 := hg1.1
      have h2 := hg1.2
      have h3 := hg2.1
      have h4 := hg2.2
      constructor <;> omega
    have hS : CallFix p m c r.2.1 r.2.2.1 s args zWS r.1.cls := ⟨hx, hb, hml, hown, hts⟩
    rw [zcw_code hnh] at hM hgi
    rw [hrn] at hM hgi
    have hcw := (⟨va_cnB nn hts (zgin hgi) rfl rfl rfl (hK.2.2.2.1 _ hlk) (hts _ hini) ⟨hmh, hvh, hpd⟩ hRR, hnm, hts _ hst⟩ : va_CN R s args r.1.cls k r2.1 host r2.2.1 r2.2.2.1 none (Jvm.Cond.code r2.1 r2.2.1 r2.2.2.1 none :: zWS) (zrm d2 (q2.2.2.1 - h.2.1) (q2.2.2.2 - h.2.2)) (q2.2.2.1 - h.2.1) (q2.2.2.2 - h.2.2) nn ∧ r2.1.name = "<init>" ∧ (Jvm.Cond.instanceMethod r2.1).before args s = true)
    have hpp := (zpreS hK hH : PreS s H (zPc G (.ref b :: as) h) (.ref b :: as))
    have hrun : vx_Run p l e R s m args below meth c H locs (h.2.1 - g0) (h.2.2 - k0) (q2.2.2.1 - h.2.1) (q2.2.2.2 - h.2.2) (F0 m pc ls st) rest (zQc G q2 (.ref b :: as).toArray) (zXC G q2) (fun z => zgb G ≤ z) := vx_runIN hS hM hcw hpp rfl hlen hL.2.1 hstk (by show 2 * 0 + _ ≤ 8; omega) hd hrm
    exact zs_back (st := st) (rest := rest) (as := (.ref b :: as).toArray) hF0 hB hj hl hL hg hk hg1 hg2 k1 k2 hrun
  · exact ha.elim
theorem zs_super {k : Nat} (hF : zFm G p l R s m args meth c r d g0 k0 q.2) (hB : zBg G s c r q g0) (hj : zmd j = some r) (hd : decode r.2.1 pc = .ok (.invokespecial k, n)) (hn : zln (.invokespecial k) n = true) (hxk : x.1 = 7) (hz : zVl.any (fun l => l.any (zqV r.2.2.2.2.1 k x)) = true) (ha : zAk G p l e R s m args below meth c r d g0 k0 q j (.invokespecial k) n x pc L st h) : zGo G p l e R s m args below meth c (zQ G below args s q g0 k0) r.2.2.1 g0 k0 (pc, L, st, h) := by
  have hn1 : Nat.beq 3 n = true := hn
  cases Nat.eq_of_beq_eq_true hn1
  obtain ⟨x1, j2, nn, tg, xv⟩ := x
  have hq9 : x1 = 7 := hxk
  subst hq9
  dsimp only [zAk, zAc, zact] at ha
  conv at ha => whnf
  obtain ⟨own, r2, ho, hj2, hlt2, hv⟩ := zVl_t hz
  have hF0 := hF
  obtain ⟨hx, hb, hml, hr, hlocks, hown, hon, hts, hK, hl0, -, hR1, hR2, hR3, hR4⟩ := hF
  cases zon_t ho hon
  have hok := zM_ok _ _ hlt2 hj2
  have hgi := zcw_ws hok
  have hini := hok.2.2.2.2.2.1
  have hmh := hok.2.1
  have hvh := hok.2.2.1
  have hpf := hok.2.2.2.2.1
  have hv : r2.2.2.2.2.2.2 = [] ∧ (parseMethodDescriptor r2.1.desc).map (fun d => d.parameters.length) = some nn ∧ r2.1.name ≠ "<init>" ∧ ∃ c : vw_C, zcl[tg]? = some c ∧ c.1 = r.1.cls ∧ Jvm.Cond.methodLink r.1.cls k r2.1 ∈ zWS ∧ Jvm.Cond.sameMethod r2.1.cls r2.1.cls r2.1.name r2.1.desc ∈ zWS ∧ Jvm.Cond.superclass r.1.cls r2.1.cls ∈ zWS ∧ Jvm.Cond.instanceMethod r2.1 ∈ zWS := hv
  obtain ⟨hnh, hpd, hnm, rc, hcl, hco, hlk, hsm, hsu, hst⟩ := hv
  have ha : (match zsp nn [] st with | some (as, v :: r0) => zob False h v tg fun b _ => zif False (Nat.ble (zwt r0) 8) (zCal G p l e R s m args below meth c r d g0 k0 q j pc 3 L h j2 (.ref b :: as) r0) | _ => False) := ha
  split at ha
  · rename_i as v rest hsp
    obtain ⟨b, vs, hvb, hcb, ha1⟩ := zob_t ha
    obtain ⟨hwt, ha2⟩ := zif_t ha1
    clear ha
    subst hvb
    have ha := ha2
    obtain ⟨hlen, hstk⟩ := zsp_0 hsp
    obtain ⟨d2, q2, hd2, hM, hg1, hg2, k1, k2⟩ := ha
    have hM := hM r2 hj2 hok
    have hwt := zwt_le hwt
    have hRR : (zrm d2 (q2.2.2.1 - h.2.1) (q2.2.2.2 - h.2.2)).frames + 1 ≤ R.frames ∧ 8 + (r2.2.2.1 + 11) + (zrm d2 (q2.2.2.1 - h.2.1) (q2.2.2.2 - h.2.2)).locals ≤ R.locals := by
      constructor
      · show d2 + 6 + 1 ≤ _; omega
      · show 8 + (r2.2.2.1 + 11) + (64 * d2 + 200) ≤ _; omega
    refine zGo_i fun H locs ls hH hl hL hg hk => ?_
    have hrm : h.2.1 - g0 + (q2.2.2.1 - h.2.1) ≤ R.cells ∧ h.2.2 - k0 + (q2.2.2.2 - h.2.2) ≤ R.slots := by
      have h1 := hg1.1
      have h2 := hg1.2
      have h3 := hg2.1
      have h4 := hg2.2
      constructor <;> omega
    have hS : CallFix p m c r.2.1 r.2.2.1 s args zWS r.1.cls := ⟨hx, hb, hml, hown, hts⟩
    rw [zcw_code hnh] at hM hgi
    have hcw := (va_cwSU nn hts (zgin (zcons hlk (zcons hsm (zcons hsu (zcons hst (zcons hini hgi)))))) rfl rfl rfl ⟨hnm, hpd⟩ hRR : va_CS R s args r.1.cls k r2.1 r2.2.1 r2.2.2.1 r2.2.2.2.1 (Jvm.Cond.code r2.1 r2.2.1 r2.2.2.1 r2.2.2.2.1 :: zWS) (zrm d2 (q2.2.2.1 - h.2.1) (q2.2.2.2 - h.2.2)) (q2.2.2.1 - h.2.1) (q2.2.2.2 - h.2.2) nn)
    have hpp := (zpreV hK hH hcb hcl : PreV s H rc.1 b (zPc G (.ref b :: as) h) as)
    have hrun : vx_Run p l e R s m args below meth c H locs (h.2.1 - g0) (h.2.2 - k0) (q2.2.2.1 - h.2.1) (q2.2.2.2 - h.2.2) (F0 m pc ls st) rest (zQc G q2 (.ref b :: as).toArray) (zXC G q2) (fun z => zgb G ≤ z) := vx_runSU (hK.1 _ _ hcl).2 hS hM hcw hpp rfl hlen hL.2.1 hstk (by show 2 * 0 + _ ≤ 8; omega) hd hrm
    exact zs_back (st := st) (rest := rest) (as := (.ref b :: as).toArray) hF0 hB hj hl hL hg hk hg1 hg2 k1 k2 hrun
  · exact ha.elim
theorem zs_virtual {k : Nat} (hF : zFm G p l R s m args meth c r d g0 k0 q.2) (hB : zBg G s c r q g0) (hj : zmd j = some r) (hd : decode r.2.1 pc = .ok (.invokevirtual k, n)) (hn : zln (.invokevirtual k) n = true) (hxk : x.1 = 0) (hz : zVl.any (fun l => l.any (zqV r.2.2.2.2.1 k x)) = true) (ha : zAk G p l e R s m args below meth c r d g0 k0 q j (.invokevirtual k) n x pc L st h) : zGo G p l e R s m args below meth c (zQ G below args s q g0 k0) r.2.2.1 g0 k0 (pc, L, st, h) := by
  have hn1 : Nat.beq 3 n = true := hn
  cases Nat.eq_of_beq_eq_true hn1
  obtain ⟨x1, j2, nn, tg, xv⟩ := x
  have hq9 : x1 = 0 := hxk
  subst hq9
  dsimp only [zAk, zAc, zact] at ha
  conv at ha => whnf
  obtain ⟨own, r2, ho, hj2, hlt2, hv⟩ := zVl_t hz
  have hF0 := hF
  obtain ⟨hx, hb, hml, hr, hlocks, hown, hon, hts, hK, hl0, -, hR1, hR2, hR3, hR4⟩ := hF
  cases zon_t ho hon
  have hok := zM_ok _ _ hlt2 hj2
  have hgi := zcw_ws hok
  have hini := hok.2.2.2.2.2.1
  have hmh := hok.2.1
  have hvh := hok.2.2.1
  have hpf := hok.2.2.2.2.1
  have hv : r2.2.2.2.2.2.2 = [] ∧ (parseMethodDescriptor r2.1.desc).map (fun d => d.parameters.length) = some nn ∧ ∃ c : vw_C, zcl[tg]? = some c ∧ Jvm.Cond.methodLink r.1.cls k r2.1 ∈ zWS ∧ Jvm.Cond.instanceMethod r2.1 ∈ zWS ∧ Jvm.Cond.selects c.1 r2.1 r2.1 ∈ zWS := hv
  obtain ⟨hnh, hpd, rc, hcl, hlk, hst, hse⟩ := hv
  have ha : (match zsp nn [] st with | some (as, v :: r0) => zob False h v tg fun b _ => zif False (Nat.ble (zwt r0) 8) (zCal G p l e R s m args below meth c r d g0 k0 q j pc 3 L h j2 (.ref b :: as) r0) | _ => False) := ha
  split at ha
  · rename_i as v rest hsp
    obtain ⟨b, vs, hvb, hcb, ha1⟩ := zob_t ha
    obtain ⟨hwt, ha2⟩ := zif_t ha1
    clear ha
    subst hvb
    have ha := ha2
    obtain ⟨hlen, hstk⟩ := zsp_0 hsp
    obtain ⟨d2, q2, hd2, hM, hg1, hg2, k1, k2⟩ := ha
    have hM := hM r2 hj2 hok
    have hwt := zwt_le hwt
    have hRR : (zrm d2 (q2.2.2.1 - h.2.1) (q2.2.2.2 - h.2.2)).frames + 1 ≤ R.frames ∧ 8 + (r2.2.2.1 + 11) + (zrm d2 (q2.2.2.1 - h.2.1) (q2.2.2.2 - h.2.2)).locals ≤ R.locals := by
      constructor
      · show d2 + 6 + 1 ≤ _; omega
      · show 8 + (r2.2.2.1 + 11) + (64 * d2 + 200) ≤ _; omega
    refine zGo_i fun H locs ls hH hl hL hg hk => ?_
    have hrm : h.2.1 - g0 + (q2.2.2.1 - h.2.1) ≤ R.cells ∧ h.2.2 - k0 + (q2.2.2.2 - h.2.2) ≤ R.slots := by
      have h1 := hg1.1
      have h2 := hg1.2
      have h3 := hg2.1
      have h4 := hg2.2
      constructor <;> omega
    have hS : CallFix p m c r.2.1 r.2.2.1 s args zWS r.1.cls := ⟨hx, hb, hml, hown, hts⟩
    rw [zcw_code hnh] at hM hgi
    have hcw := (⟨callB_of nn hts (zgin hgi) rfl rfl rfl (hts _ hini) (hts _ hlk) ⟨hmh, hvh, hpd⟩ hRR, hts _ hst, hts _ hse⟩ : CallW R s args r.1.cls rc.1 k r2.1 r2.2.1 r2.2.2.1 r2.2.2.2.1 (Jvm.Cond.code r2.1 r2.2.1 r2.2.2.1 r2.2.2.2.1 :: zWS) (zrm d2 (q2.2.2.1 - h.2.1) (q2.2.2.2 - h.2.2)) (q2.2.2.1 - h.2.1) (q2.2.2.2 - h.2.2) nn)
    have hpp := (zpreV hK hH hcb hcl : PreV s H rc.1 b (zPc G (.ref b :: as) h) as)
    have hrun : vx_Run p l e R s m args below meth c H locs (h.2.1 - g0) (h.2.2 - k0) (q2.2.2.1 - h.2.1) (q2.2.2.2 - h.2.2) (F0 m pc ls st) rest (zQc G q2 (.ref b :: as).toArray) (zXC G q2) (fun z => zgb G ≤ z) := vx_runV hS hM hcw hpp rfl hlen hL.2.1 hstk (by show 2 * 0 + _ ≤ 8; omega) hd hrm
    exact zs_back (st := st) (rest := rest) (as := (.ref b :: as).toArray) hF0 hB hj hl hL hg hk hg1 hg2 k1 k2 hrun
  · exact ha.elim
theorem zs_override {k : Nat} (hF : zFm G p l R s m args meth c r d g0 k0 q.2) (hB : zBg G s c r q g0) (hj : zmd j = some r) (hd : decode r.2.1 pc = .ok (.invokevirtual k, n)) (hn : zln (.invokevirtual k) n = true) (hxk : x.1 = 2) (hz : zVl.any (fun l => l.any (zqV r.2.2.2.2.1 k x)) = true) (ha : zAk G p l e R s m args below meth c r d g0 k0 q j (.invokevirtual k) n x pc L st h) : zGo G p l e R s m args below meth c (zQ G below args s q g0 k0) r.2.2.1 g0 k0 (pc, L, st, h) := by
  have hn1 : Nat.beq 3 n = true := hn
  cases Nat.eq_of_beq_eq_true hn1
  obtain ⟨x1, j2, nn, tg, xv⟩ := x
  have hq9 : x1 = 2 := hxk
  subst hq9
  dsimp only [zAk, zAc, zact] at ha
  conv at ha => whnf
  obtain ⟨own, r2, ho, hj2, hlt2, hv⟩ := zVl_t hz
  have hF0 := hF
  obtain ⟨hx, hb, hml, hr, hlocks, hown, hon, hts, hK, hl0, -, hR1, hR2, hR3, hR4⟩ := hF
  cases zon_t ho hon
  have hok := zM_ok _ _ hlt2 hj2
  have hgi := zcw_ws hok
  have hini := hok.2.2.2.2.2.1
  have hmh := hok.2.1
  have hvh := hok.2.2.1
  have hpf := hok.2.2.2.2.1
  have hv : r2.2.2.2.2.2.2 = [] ∧ ∃ (c : vw_C) (y : MethodName) (b0 : ByteArray) (m0 : Nat) (r0 : Option FieldType), zcl[tg]? = some c ∧ (parseMethodDescriptor y.desc).map (fun d => d.parameters.length) = some nn ∧ y.cls ≠ "java/lang/invoke/MethodHandle" ∧ y.cls ≠ "java/lang/invoke/VarHandle" ∧ Jvm.Cond.methodLink r.1.cls k y ∈ zWS ∧ Jvm.Cond.instanceMethod r2.1 ∈ zWS ∧ Jvm.Cond.selects c.1 y r2.1 ∈ zWS ∧ Jvm.Cond.sameMethod y.cls y.cls y.name y.desc ∈ zWS ∧ Jvm.Cond.instanceMethod y ∈ zWS ∧ Jvm.Cond.code y b0 m0 r0 ∈ zWS := hv
  obtain ⟨hnh, rc, y, b0, m0, r0, hcl, hpd, hy1, hy2, hlk, hst, hse, hsm, hsy, hcy⟩ := hv
  have ha : (match zsp nn [] st with | some (as, v :: r0) => zob False h v tg fun b _ => zif False (Nat.ble (zwt r0) 8) (zCal G p l e R s m args below meth c r d g0 k0 q j pc 3 L h j2 (.ref b :: as) r0) | _ => False) := ha
  split at ha
  · rename_i as v rest hsp
    obtain ⟨b, vs, hvb, hcb, ha1⟩ := zob_t ha
    obtain ⟨hwt, ha2⟩ := zif_t ha1
    clear ha
    subst hvb
    have ha := ha2
    obtain ⟨hlen, hstk⟩ := zsp_0 hsp
    obtain ⟨d2, q2, hd2, hM, hg1, hg2, k1, k2⟩ := ha
    have hM := hM r2 hj2 hok
    have hwt := zwt_le hwt
    have hRR : (zrm d2 (q2.2.2.1 - h.2.1) (q2.2.2.2 - h.2.2)).frames + 1 ≤ R.frames ∧ 8 + (r2.2.2.1 + 11) + (zrm d2 (q2.2.2.1 - h.2.1) (q2.2.2.2 - h.2.2)).locals ≤ R.locals := by
      constructor
      · show d2 + 6 + 1 ≤ _; omega
      · show 8 + (r2.2.2.1 + 11) + (64 * d2 + 200) ≤ _; omega
    refine zGo_i fun H locs ls hH hl hL hg hk => ?_
    have hrm : h.2.1 - g0 + (q2.2.2.1 - h.2.1) ≤ R.cells ∧ h.2.2 - k0 + (q2.2.2.2 - h.2.2) ≤ R.slots := by
      have h1 := hg1.1
      have h2 := hg1.2
      have h3 := hg2.1
      have h4 := hg2.2
      constructor <;> omega
    have hS : CallFix p m c r.2.1 r.2.2.1 s args zWS r.1.cls := ⟨hx, hb, hml, hown, hts⟩
    rw [zcw_code hnh] at hM hgi
    have hcw := (va_cwO nn hts (zgin (zcons hlk (zcons hsm (zcons hsy (zcons hse (zcons hst (zcons hini hgi))))))) rfl rfl rfl hcy ⟨hy1, hy2, hpd⟩ hRR : va_CU R s args r.1.cls rc.1 y.cls k y r2.1 r2.2.1 r2.2.2.1 r2.2.2.2.1 (Jvm.Cond.code r2.1 r2.2.1 r2.2.2.1 r2.2.2.2.1 :: zWS) (zrm d2 (q2.2.2.1 - h.2.1) (q2.2.2.2 - h.2.2)) (q2.2.2.1 - h.2.1) (q2.2.2.2 - h.2.2) nn)
    have hpp := (zpreV hK hH hcb hcl : PreV s H rc.1 b (zPc G (.ref b :: as) h) as)
    have hrun : vx_Run p l e R s m args below meth c H locs (h.2.1 - g0) (h.2.2 - k0) (q2.2.2.1 - h.2.1) (q2.2.2.2 - h.2.2) (F0 m pc ls st) rest (zQc G q2 (.ref b :: as).toArray) (zXC G q2) (fun z => zgb G ≤ z) := vx_runU hS hM hcw hpp rfl hlen hL.2.1 hstk (by show 2 * 0 + _ ≤ 8; omega) hd hrm
    exact zs_back (st := st) (rest := rest) (as := (.ref b :: as).toArray) hF0 hB hj hl hL hg hk hg1 hg2 k1 k2 hrun
  · exact ha.elim
theorem zs_interface {k kc : Nat} (hF : zFm G p l R s m args meth c r d g0 k0 q.2) (hB : zBg G s c r q g0) (hj : zmd j = some r) (hd : decode r.2.1 pc = .ok (.invokeinterface k kc, n)) (hn : zln (.invokeinterface k kc) n = true) (hxk : x.1 = 8) (hz : zVl.any (fun l => l.any (zqV r.2.2.2.2.1 k x)) = true) (ha : zAk G p l e R s m args below meth c r d g0 k0 q j (.invokeinterface k kc) n x pc L st h) : zGo G p l e R s m args below meth c (zQ G below args s q g0 k0) r.2.2.1 g0 k0 (pc, L, st, h) := by
  have hn1 : Nat.beq 5 n = true := hn
  cases Nat.eq_of_beq_eq_true hn1
  obtain ⟨x1, j2, nn, tg, xv⟩ := x
  have hq9 : x1 = 8 := hxk
  subst hq9
  dsimp only [zAk, zAc, zact] at ha
  conv at ha => whnf
  obtain ⟨own, r2, ho, hj2, hlt2, hv⟩ := zVl_t hz
  have hF0 := hF
  obtain ⟨hx, hb, hml, hr, hlocks, hown, hon, hts, hK, hl0, -, hR1, hR2, hR3, hR4⟩ := hF
  cases zon_t ho hon
  have hok := zM_ok _ _ hlt2 hj2
  have hgi := zcw_ws hok
  have hini := hok.2.2.2.2.2.1
  have hmh := hok.2.1
  have hvh := hok.2.2.1
  have hpf := hok.2.2.2.2.1
  have hv : r2.2.2.2.2.2.2 = [] ∧ ∃ (c : vw_C) (y : MethodName), zcl[tg]? = some c ∧ (parseMethodDescriptor y.desc).map (fun d => d.parameters.length) = some nn ∧ y.cls ≠ "java/lang/invoke/MethodHandle" ∧ y.cls ≠ "java/lang/invoke/VarHandle" ∧ Jvm.Cond.methodLink r.1.cls k y ∈ zWS ∧ Jvm.Cond.declares y ∈ zXW ∧ Jvm.Cond.interfaceMethod y.cls y.cls y.name y.desc ∈ zXW ∧ Jvm.Cond.selects c.1 y r2.1 ∈ zWS ∧ Jvm.Cond.instanceMethod r2.1 ∈ zWS ∧ Jvm.Cond.publicMethod r2.1 ∈ zXW ∧ Jvm.Cond.unhidden c.1 y.name y.desc ∈ zXW ∧ Jvm.Cond.castable c.1 y.cls ∈ zXW := hv
  obtain ⟨hnh, rc, y, hcl, hpd, hy1, hy2, hlk, hf1, hf2, hse, hst, hf3, hf4, hf5⟩ := hv
  have ha : (match zsp nn [] st with | some (as, v :: r0) => zob False h v tg fun b _ => zif False (Nat.ble (zwt r0) 8) (zCal G p l e R s m args below meth c r d g0 k0 q j pc 5 L h j2 (.ref b :: as) r0) | _ => False) := ha
  split at ha
  · rename_i as v rest hsp
    obtain ⟨b, vs, hvb, hcb, ha1⟩ := zob_t ha
    obtain ⟨hwt, ha2⟩ := zif_t ha1
    clear ha
    subst hvb
    have ha := ha2
    obtain ⟨hlen, hstk⟩ := zsp_0 hsp
    obtain ⟨d2, q2, hd2, hM, hg1, hg2, k1, k2⟩ := ha
    have hM := hM r2 hj2 hok
    have hwt := zwt_le hwt
    have hRR : (zrm d2 (q2.2.2.1 - h.2.1) (q2.2.2.2 - h.2.2)).frames + 1 ≤ R.frames ∧ 8 + (r2.2.2.1 + 11) + (zrm d2 (q2.2.2.1 - h.2.1) (q2.2.2.2 - h.2.2)).locals ≤ R.locals := by
      constructor
      · show d2 + 6 + 1 ≤ _; omega
      · show 8 + (r2.2.2.1 + 11) + (64 * d2 + 200) ≤ _; omega
    refine zGo_i fun H locs ls hH hl hL hg hk => ?_
    have hrm : h.2.1 - g0 + (q2.2.2.1 - h.2.1) ≤ R.cells ∧ h.2.2 - k0 + (q2.2.2.2 - h.2.2) ≤ R.slots := by
      have h1 := hg1.1
      have h2 := hg1.2
      have h3 := hg2.1
      have h4 := hg2.2
      constructor <;> omega
    have hS : CallFix p m c r.2.1 r.2.2.1 s args zWS r.1.cls := ⟨hx, hb, hml, hown, hts⟩
    rw [zcw_code hnh] at hM hgi
    have hcw := (va_cwF nn hts (zgin (zcons hlk (zcons hse (zcons hst (zcons hini hgi))))) rfl rfl rfl ⟨hK.2.2.2.1 _ hf1, hK.2.2.2.1 _ hf2, hK.2.2.2.1 _ hf3, hK.2.2.2.1 _ hf4, hK.2.2.2.1 _ hf5⟩ ⟨hy1, hy2, hpd⟩ hRR : va_CI R s args r.1.cls rc.1 k y r2.1 r2.2.1 r2.2.2.1 r2.2.2.2.1 (Jvm.Cond.code r2.1 r2.2.1 r2.2.2.1 r2.2.2.2.1 :: zWS) (zrm d2 (q2.2.2.1 - h.2.1) (q2.2.2.2 - h.2.2)) (q2.2.2.1 - h.2.1) (q2.2.2.2 - h.2.2) nn)
    have hpp := (zpreV hK hH hcb hcl : PreV s H rc.1 b (zPc G (.ref b :: as) h) as)
    have hrun : vx_Run5 p l e R s m args below meth c H locs (h.2.1 - g0) (h.2.2 - k0) (q2.2.2.1 - h.2.1) (q2.2.2.2 - h.2.2) (F0 m pc ls st) rest (zQc G q2 (.ref b :: as).toArray) (zXC G q2) (fun z => zgb G ≤ z) := vx_runF (hK.1 _ _ hcl).2 hS hM hcw hpp rfl hlen hL.2.1 hstk (by show 2 * 0 + _ ≤ 8; omega) hd hrm
    exact zs_back (st := st) (rest := rest) (as := (.ref b :: as).toArray) hF0 hB hj hl hL hg hk hg1 hg2 k1 k2 hrun
  · exact ha.elim
end ZCK
