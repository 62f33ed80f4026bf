/-! ===== the run: more fuel does no harm; what a run comes to, a step at a time ===== -/
def zcr (E : zEnv) (n d j pc len : Nat) (ls : zLc) (h : zPH) (j' : Nat) (as r : List Value) : Option (zOut × zPH) := match d with
  | 0 => none
  | d' + 1 => match Nat.ble (zargs as).length (zml j') with
    | false => none
    | true => match zrun E n d' j' (0, zent j' as, [], h) with
      | none => none
      | some (.inl v, h') => zrun E n (d' + 1) j (pc + len, ls, v.toList ++ r, h')
      | some (.inr e, h') => zthr none j pc e ls h' (fun y => zrun E n (d' + 1) j y) (fun o h' => some (o, h'))
theorem zrun_eq (E : zEnv) (n d j pc : Nat) (ls : zLc) (st : List Value) (h : zPH) : zrun E (n + 1) d j (pc, ls, st, h) = match zins j pc with
    | none => none
    | some (i, len, x) => zsel none (fun y => zrun E n d j y) (fun o h' => some (o, h')) (fun j' as r => zcr E n d j pc len ls h j' as r) (zfree E (zrt j) i len x pc ls st h) := by
  rw [zrun]
  cases hi : zins j pc with
  | none => rfl
  | some q =>
    obtain ⟨i, len, x⟩ := q
    show zact none E (zrt j) i len x pc ls st h _ _ _ = _
    rw [zact_free]
    rfl
theorem zrun_at {E : zEnv} {n d j pc len : Nat} {i : Instr} {x : zAux} {ls : zLc} {st : List Value} {h : zPH} (hi : zins j pc = some (i, len, x)) : zrun E (n + 1) d j (pc, ls, st, h) = zsel none (fun y => zrun E n d j y) (fun o h' => some (o, h')) (fun j' as r => zcr E n d j pc len ls h j' as r) (zfree E (zrt j) i len x pc ls st h) := by
  rw [zrun_eq, hi]
theorem zthr_mono {j pc e : Nat} {ls : zLc} {h : zPH} {K K' : zCfg → Option (zOut × zPH)} {q : zOut × zPH} (hK : ∀ y q, K y = some q → K' y = some q) (hq : zthr none j pc e ls h K (fun o h' => some (o, h')) = some q) : zthr none j pc e ls h K' (fun o h' => some (o, h')) = some q := by
  unfold zthr at hq ⊢
  cases hm : zmd j with
  | none => rw [hm] at hq; cases hq
  | some r =>
    rw [hm] at hq
    dsimp only at hq ⊢
    cases hh : r.2.2.2.2.2.2 with
    | nil => rw [hh] at hq; exact hq
    | cons a t =>
      rw [hh] at hq
      dsimp only at hq ⊢
      cases hz : zhl j pc e r.2.2.2.2.1 (a :: t) with
      | none => rw [hz] at hq; cases hq
      | some k =>
        rw [hz] at hq
        dsimp only at hq ⊢
        unfold zif at hq ⊢
        split at hq
        · rename_i hb
          exact hK _ _ hq
        · cases hq
theorem zthr_nat {j pc e : Nat} {ls : zLc} {h : zPH} {K : zCfg → Option (zOut × zPH)} {P : zCfg → Prop} {Q : zOut → zPH → Prop} {q : zOut × zPH} (hP : ∀ y, K y = some q → P y) (hR : Q q.1 q.2) (hq : zthr none j pc e ls h K (fun o h' => some (o, h')) = some q) : zthr False j pc e ls h P Q := by
  unfold zthr at hq ⊢
  cases hm : zmd j with
  | none => rw [hm] at hq; cases hq
  | some r =>
    rw [hm] at hq
    dsimp only at hq ⊢
    cases hh : r.2.2.2.2.2.2 with
    | nil =>
      rw [hh] at hq
      cases hq
      exact hR
    | cons a t =>
      rw [hh] at hq
      dsimp only at hq ⊢
      cases hz : zhl j pc e r.2.2.2.2.1 (a :: t) with
      | none => rw [hz] at hq; cases hq
      | some k =>
        rw [hz] at hq
        dsimp only at hq ⊢
        unfold zif at hq ⊢
        split at hq
        · exact hP _ hq
        · cases hq
theorem zthr_tan {j pc e : Nat} {ls : zLc} {h : zPH} {P : zCfg → Prop} {Q : zOut → zPH → Prop} (hq : zthr False j pc e ls h P Q) : (∃ y, P y ∧ ∀ K : zCfg → Option (zOut × zPH), zthr none j pc e ls h K (fun o h' => some (o, h')) = K y) ∨ (Q (.inr e) h ∧ ∀ K : zCfg → Option (zOut × zPH), zthr none j pc e ls h K (fun o h' => some (o, h')) = some (.inr e, h)) := by
  unfold zthr at hq ⊢
  cases hm : zmd j with
  | none => rw [hm] at hq; exact hq.elim
  | some r =>
    rw [hm] at hq
    dsimp only at hq ⊢
    cases hh : r.2.2.2.2.2.2 with
    | nil =>
      rw [hh] at hq
      exact Or.inr ⟨hq, fun _ => rfl⟩
    | cons a t =>
      rw [hh] at hq
      dsimp only at hq ⊢
      cases hz : zhl j pc e r.2.2.2.2.1 (a :: t) with
      | none => rw [hz] at hq; exact hq.elim
      | some k =>
        rw [hz] at hq
        dsimp only at hq ⊢
        unfold zif at hq ⊢
        split at hq
        · exact Or.inl ⟨_, hq, fun _ => rfl⟩
        · exact hq.elim
theorem zrun_succ (E : zEnv) : ∀ (n d j : Nat) (y : zCfg) (q : zOut × zPH), zrun E n d j y = some q → zrun E (n + 1) d j y = some q
  | 0, _, _, _, _, hq => by rw [zrun] at hq; cases hq
  | n + 1, d, j, (pc, ls, st, h), q, hq => by
    rw [zrun_eq] at hq ⊢
    cases hi : zins j pc with
    | none => rw [hi] at hq; cases hq
    | some z =>
      obtain ⟨i, len, x⟩ := z
      rw [hi] at hq
      dsimp only at hq ⊢
      cases hf : zfree E (zrt j) i len x pc ls st h with
      | inl u => rw [hf] at hq; cases hq
      | inr f =>
        rw [hf] at hq
        rcases f with y | o | ⟨j', as, r⟩
        · exact zrun_succ E n d j y q hq
        · exact hq
        · show zcr E (n + 1) d j pc len ls h j' as r = some q
          have hq : zcr E n d j pc len ls h j' as r = some q := hq
          unfold zcr at hq ⊢
          cases d with
          | zero => cases hq
          | succ d' =>
            dsimp only at hq ⊢
            cases hbl : Nat.ble (zargs as).length (zml j') with
            | false => rw [hbl] at hq; cases hq
            | true =>
            rw [hbl] at hq
            dsimp only at hq ⊢
            cases hc : zrun E n d' j' (0, zent j' as, [], h) with
            | none => rw [hc] at hq; cases hq
            | some oh =>
              rw [hc] at hq
              rw [zrun_succ E n d' j' _ oh hc]
              obtain ⟨o | e, h'⟩ := oh
              · exact zrun_succ E n (d' + 1) j _ q hq
              · exact zthr_mono (fun y q hy => zrun_succ E n (d' + 1) j y q hy) hq
theorem zrun_le {E : zEnv} {n m d j : Nat} {y : zCfg} {q : zOut × zPH} (hq : zrun E n d j y = some q) (hm : n ≤ m) : zrun E m d j y = some q := by
  induction hm with
  | refl => exact hq
  | step _ ih => exact zrun_succ E _ _ _ _ _ ih
/-- a call, in what a run comes to -/
def zwc (E : zEnv) (d j pc len : Nat) (ls : zLc) (h : zPH) (Q : zOut → zPH → Prop) (j' : Nat) (as r : List Value) : Prop := match d with
  | 0 => False
  | d' + 1 => zif False (Nat.ble (zargs as).length (zml j')) (zcall E d' j' as h (zback E (d' + 1) j pc len ls r Q))
theorem zifT {b : Bool} {X : Prop} (h : zif False b X) : b = true ∧ X := by
  cases b with
  | true => exact ⟨rfl, h⟩
  | false => exact h.elim
theorem zwp_at {E : zEnv} {d j pc len : Nat} {i : Instr} {x : zAux} {ls : zLc} {st : List Value} {h : zPH} {Q : zOut → zPH → Prop} (hi : zins j pc = some (i, len, x)) :
    zwp E d j (pc, ls, st, h) Q = zact False E (zrt j) i len x pc ls st h (fun y => zwp E d j y Q) Q (zwc E d j pc len ls h Q) := by
  rw [zact_free]
  apply propext
  constructor
  · rintro ⟨n, q, hq, hQ⟩
    cases n with
    | zero => rw [zrun] at hq; cases hq
    | succ n =>
      rw [zrun_at hi] at hq
      cases hf : zfree E (zrt j) i len x pc ls st h with
      | inl u => rw [hf] at hq; cases hq
      | inr f =>
        rw [hf] at hq
        rcases f with y | o | ⟨j', as, r⟩
        · exact ⟨n, q, hq, hQ⟩
        · cases hq; exact hQ
        · have hq : zcr E n d j pc len ls h j' as r = some q := hq
          show zwc E d j pc len ls h Q j' as r
          unfold zcr at hq
          unfold zwc
          cases d with
          | zero => cases hq
          | succ d' =>
            dsimp only at hq ⊢
            cases hbl : Nat.ble (zargs as).length (zml j') with
            | false => rw [hbl] at hq; cases hq
            | true =>
            rw [hbl] at hq
            dsimp only at hq ⊢
            cases hc : zrun E n d' j' (0, zent j' as, [], h) with
            | none => rw [hc] at hq; cases hq
            | some oh =>
              rw [hc] at hq
              obtain ⟨o | e, h'⟩ := oh
              · exact ⟨n, _, hc, n, q, hq, hQ⟩
              · have hb : zthr False j pc e ls h' (fun y => zwp E (d' + 1) j y Q) Q := zthr_nat (fun y hy => ⟨n, q, hy, hQ⟩) hQ hq
                exact ⟨n, _, hc, hb⟩
  · intro hw
    cases hf : zfree E (zrt j) i len x pc ls st h with
    | inl u => rw [hf] at hw; exact hw.elim
    | inr f =>
      rw [hf] at hw
      rcases f with y | o | ⟨j', as, r⟩
      · obtain ⟨n, q, hq, hQ⟩ := hw
        exact ⟨n + 1, q, by rw [zrun_at hi, hf]; exact hq, hQ⟩
      · exact ⟨1, o, by rw [zrun_at hi, hf]; rfl, hw⟩
      · have hw : zwc E d j pc len ls h Q j' as r := hw
        unfold zwc at hw
        cases d with
        | zero => exact hw.elim
        | succ d' =>
          obtain ⟨hbl, n1, ⟨o, h'⟩, hc, hb⟩ := zifT hw
          rcases o with v | e
          · obtain ⟨n2, q, hq, hQ⟩ := hb
            refine ⟨max n1 n2 + 1, q, ?_, hQ⟩
            rw [zrun_at hi, hf]
            show zcr E (max n1 n2) (d' + 1) j pc len ls h j' as r = some q
            unfold zcr
            dsimp only
            rw [hbl]
            dsimp only
            rw [zrun_le hc (Nat.le_max_left _ _)]
            exact zrun_le hq (Nat.le_max_right _ _)
          · have hb : zthr False j pc e ls h' (fun y => zwp E (d' + 1) j y Q) Q := hb
            rcases zthr_tan hb with ⟨y, ⟨n2, q, hq, hQ⟩, hk⟩ | ⟨hQ, hk⟩
            · refine ⟨max n1 n2 + 1, q, ?_, hQ⟩
              rw [zrun_at hi, hf]
              show zcr E (max n1 n2) (d' + 1) j pc len ls h j' as r = some q
              unfold zcr
              dsimp only
              rw [hbl]
              dsimp only
              rw [zrun_le hc (Nat.le_max_left _ _)]
              dsimp only
              rw [hk]
              exact zrun_le hq (Nat.le_max_right _ _)
            · refine ⟨n1 + 1, (.inr e, h'), ?_, hQ⟩
              rw [zrun_at hi, hf]
              show zcr E n1 (d' + 1) j pc len ls h j' as r = some (.inr e, h')
              unfold zcr
              dsimp only
              rw [hbl]
              dsimp only
              rw [hc]
              dsimp only
              rw [hk]
/-- weaker ends -/
theorem zwp_mono {E : zEnv} {d j : Nat} {y : zCfg} {Q Q' : zOut → zPH → Prop} (hw : zwp E d j y Q) (hQ : ∀ o h, Q o h → Q' o h) : zwp E d j y Q' := by
  obtain ⟨n, q, h1, h2⟩ := hw
  exact ⟨n, q, h1, hQ _ _ h2⟩
/-! ### what has been made never shrinks -/
def zge (h h' : zPH) : Prop := h.2.1 ≤ h'.2.1 ∧ h.2.2 ≤ h'.2.2
theorem zge.rf {h : zPH} : zge h h := ⟨Nat.le_refl _, Nat.le_refl _⟩
theorem zge.tr {a b c : zPH} (h1 : zge a b) (h2 : zge b c) : zge a c := ⟨Nat.le_trans h1.1 h2.1, Nat.le_trans h1.2 h2.2⟩
def zgf (h : zPH) : zFr → Prop
  | .inl _ => True
  | .inr (.inl y) => zge h y.2.2.2
  | .inr (.inr (.inl q)) => zge h q.2
  | .inr (.inr (.inr _)) => True
set_option maxHeartbeats 4000000 in
theorem zfree_ge (E : zEnv) (rt : Option FieldType) (i : Instr) (n : Nat) (x : zAux) (pc : Nat) (ls : zLc) (st : List Value) (h : zPH) : zgf h (zfree E rt i n x pc ls st h) := by
  cases i <;> simp only [zfree, zact, zget, zob, zan, zix, zel, zif, zbr]
  all_goals ((repeat' split) <;> first | exact zge.rf | exact trivial | (constructor <;> simp [zset, zalloc, zalloc2, zalloc3]; done) | (constructor <;> simp [zset, zalloc, zalloc2, zalloc3] <;> omega))
theorem zthr_cases {j pc e : Nat} {ls : zLc} {h : zPH} {K : zCfg → Option (zOut × zPH)} {q : zOut × zPH} (hq : zthr none j pc e ls h K (fun o h' => some (o, h')) = some q) : (∃ pc' ls', K (pc', ls', [], h) = some q) ∨ q = (.inr e, h) := by
  unfold zthr at hq
  cases hm : zmd j with
  | none => rw [hm] at hq; cases hq
  | some r =>
    rw [hm] at hq
    dsimp only at hq
    cases hh : r.2.2.2.2.2.2 with
    | nil =>
      rw [hh] at hq
      cases hq
      exact Or.inr rfl
    | cons a t =>
      rw [hh] at hq
      dsimp only at hq
      cases hz : zhl j pc e r.2.2.2.2.1 (a :: t) with
      | none => rw [hz] at hq; cases hq
      | some k =>
        rw [hz] at hq
        dsimp only at hq
        unfold zif at hq
        split at hq
        · exact Or.inl ⟨_, _, hq⟩
        · cases hq
theorem zrun_ge (E : zEnv) : ∀ (n d j : Nat) (y : zCfg) (q : zOut × zPH), zrun E n d j y = some q → zge y.2.2.2 q.2
  | 0, _, _, _, _, hq => by rw [zrun] at hq; cases hq
  | n + 1, d, j, (pc, ls, st, h), q, hq => by
    rw [zrun_eq] at hq
    cases hi : zins j pc with
    | none => rw [hi] at hq; cases hq
    | some z =>
      obtain ⟨i, len, x⟩ := z
      rw [hi] at hq
      dsimp only at hq
      have hg := zfree_ge E (zrt j) i len x pc ls st h
      cases hf : zfree E (zrt j) i len x pc ls st h with
      | inl u => rw [hf] at hq; cases hq
      | inr f =>
        rw [hf] at hq hg
        rcases f with y | o | ⟨j', as, r⟩
        · exact zge.tr hg (zrun_ge E n d j y q hq)
        · cases hq; exact hg
        · have hq : zcr E n d j pc len ls h j' as r = some q := hq
          unfold zcr at hq
          cases d with
          | zero => cases hq
          | succ d' =>
            dsimp only at hq
            cases hbl : Nat.ble (zargs as).length (zml j') with
            | false => rw [hbl] at hq; cases hq
            | true =>
            rw [hbl] at hq
            dsimp only at hq
            cases hc : zrun E n d' j' (0, zent j' as, [], h) with
            | none => rw [hc] at hq; cases hq
            | some oh =>
              rw [hc] at hq
              have h1 := zrun_ge E n d' j' _ oh hc
              obtain ⟨o | e, h'⟩ := oh
              · exact zge.tr h1 (zrun_ge E n (d' + 1) j _ q hq)
              · rcases zthr_cases hq with ⟨pc', ls', hk⟩ | rfl
                · exact zge.tr h1 (zrun_ge E n (d' + 1) j _ q hk)
                · exact h1
