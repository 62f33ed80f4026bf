/-! ===== the reference's pictures: rows of rows ===== -/
theorem yrefs_at {q s n i : Nat} (hi : i < n) : (zrefs q s n)[i]? = some (.ref (q + i * s)) := by
  induction n generalizing q i with
  | zero => omega
  | succ n ih =>
    rw [zrefs]
    cases i with
    | zero => rw [Nat.zero_mul]; rfl
    | succ i =>
      show (zrefs (q + s) s n)[i]? = _
      rw [ih (by omega), Nat.succ_mul]
      show some (Value.ref (q + s + i * s)) = some (Value.ref (q + (i * s + s)))
      rw [Nat.add_assoc, Nat.add_comm s]
theorem yrefs_len (q s n : Nat) : (zrefs q s n).length = n := by
  induction n generalizing q with
  | zero => rfl
  | succ n ih => rw [zrefs, List.length_cons, ih]
theorem zrefs_app {q s n : Nat} {r : List Value} : (zrefs q s n ++ (.null :: r)).set n (.ref (q + n * s)) = zrefs q s (n + 1) ++ r := by
  induction n generalizing q with
  | zero => rw [Nat.zero_mul]; rfl
  | succ n ih =>
    show (Value.ref q :: (zrefs (q + s) s n ++ (.null :: r))).set (n + 1) (.ref (q + (n + 1) * s)) = Value.ref q :: (zrefs (q + s) s (n + 1) ++ r)
    rw [List.set_cons_succ, show q + (n + 1) * s = (q + s) + n * s by rw [Nat.succ_mul]; omega, ih]
/-- a row of rows of ints -/
def rMat (h : zPH) (q n k : Nat) : Prop := h.1 q = some (66, zrefs (q + 1) 1 n) ∧ ∀ i, i < n → ∃ l, h.1 (q + 1 + i) = some (64, zis l) ∧ l.length = k
def rF3 (h : zPH) (q n k m : Nat) : Prop := h.1 q = some (67, zrefs (q + 1) (1 + k) n) ∧ ∀ i, i < n → rMat h (q + 1 + i * (1 + k)) k m
def rWs (h : zPH) (q n : Nat) : Prop := h.1 q = some (66, zrefs (q + 1) 1 n) ∧ ∀ i, i < n → ∃ l, h.1 (q + 1 + i) = some (64, zis l) ∧ l.length ≤ 32
/-- while pictures are looked for: the pictures made, the rows' ways, what fits, what is left -/
def rPS (h : zPH) (w hh mk rw ft lf : Nat) : Prop :=
  (∃ lm cnt, h.1 mk = some (64, zis lm) ∧ lm.length = 501 ∧ cnt ≤ 500 ∧ lm.getD 500 0 = zJ cnt) ∧ rWs h rw hh ∧ rF3 h ft w hh 2 ∧ rMat h lf (hh + 1) w ∧ (mk < rw ∧ rw + 1 + hh ≤ ft ∧ ft + 1 + w * (1 + hh) ≤ lf ∧ lf + 2 + hh ≤ h.2.1)
section RPS
variable {h h1 : zPH} {q n k m w hh mk rw ft lf : Nat}
theorem rMat.eq (M : rMat h q n k) (e : ∀ x, q ≤ x → x < q + 1 + n → h1.1 x = h.1 x) : rMat h1 q n k :=
  ⟨by rw [e q (Nat.le_refl _) (by omega)]; exact M.1, fun i hi => by rw [e (q + 1 + i) (by omega) (by omega)]; exact M.2 i hi⟩
theorem rWs.eq (M : rWs h q n) (e : ∀ x, q ≤ x → x < q + 1 + n → h1.1 x = h.1 x) : rWs h1 q n :=
  ⟨by rw [e q (Nat.le_refl _) (by omega)]; exact M.1, fun i hi => by rw [e (q + 1 + i) (by omega) (by omega)]; exact M.2 i hi⟩
theorem rF3.eq (M : rF3 h q n k m) (e : ∀ x, q ≤ x → x < q + 1 + n * (1 + k) → h1.1 x = h.1 x) : rF3 h1 q n k m := by
  refine ⟨by rw [e q (Nat.le_refl _) (by omega)]; exact M.1, fun i hi => (M.2 i hi).eq fun x z1 z2 => e x (by omega) ?_⟩
  have : (i + 1) * (1 + k) ≤ n * (1 + k) := Nat.mul_le_mul_right _ hi
  rw [Nat.succ_mul] at this
  omega
theorem rPS.eq (P : rPS h w hh mk rw ft lf) (e : ∀ x, mk ≤ x → x < h.2.1 → h1.1 x = h.1 x) (hn : h.2.1 ≤ h1.2.1) : rPS h1 w hh mk rw ft lf := by
  obtain ⟨⟨lm, cnt, c1, c2, c3, c4⟩, p2, p3, p4, o1, o2, o3, o4⟩ := P
  exact ⟨⟨lm, cnt, by rw [e mk (by omega) (by omega)]; exact c1, c2, c3, c4⟩, p2.eq fun x z1 z2 => e x (by omega) (by omega), p3.eq fun x z1 z2 => e x (by omega) (by omega), p4.eq fun x z1 z2 => e x (by omega) (by omega), o1, o2, o3, by omega⟩
theorem rPS.wm {lm : List Int32} {cnt : Nat} (P : rPS h w hh mk rw ft lf) (h1e : h1.1 mk = some (64, zis lm)) (hl : lm.length = 501) (hc : cnt ≤ 500) (e5 : lm.getD 500 0 = zJ cnt) (e : ∀ b o, b ≠ mk → h.1 b = o → h1.1 b = o) (hn : h1.2 = h.2) : rPS h1 w hh mk rw ft lf := by
  obtain ⟨-, p2, p3, p4, o1, o2, o3, o4⟩ := P
  exact ⟨⟨lm, cnt, h1e, hl, hc, e5⟩, p2.eq fun x z1 z2 => e x _ (by omega) rfl, p3.eq fun x z1 z2 => e x _ (by omega) rfl, p4.eq fun x z1 z2 => e x _ (by omega) rfl, o1, o2, o3, by rw [hn]; exact o4⟩
theorem rPS.wl {l : List Int32} {i : Nat} (P : rPS h w hh mk rw ft lf) (hi : i < hh + 1) (h1e : h1.1 (lf + 1 + i) = some (64, zis l)) (hl : l.length = w) (e : ∀ b o, b ≠ lf + 1 + i → h.1 b = o → h1.1 b = o) (hn : h1.2 = h.2) : rPS h1 w hh mk rw ft lf := by
  obtain ⟨⟨lm, cnt, c1, c2, c3, c4⟩, p2, p3, p4, o1, o2, o3, o4⟩ := P
  refine ⟨⟨lm, cnt, e _ _ (by omega) c1, c2, c3, c4⟩, p2.eq fun x z1 z2 => e x _ (by omega) rfl, p3.eq fun x z1 z2 => e x _ (by omega) rfl, ⟨e _ _ (by omega) p4.1, fun j hj => ?_⟩, o1, o2, o3, by rw [hn]; exact o4⟩
  by_cases q : j = i
  · subst q
    exact ⟨l, h1e, hl⟩
  · obtain ⟨l2, z1, z2⟩ := p4.2 j hj
    exact ⟨l2, e _ _ (by omega) z1, z2⟩
end RPS
theorem yFr.c {P : Nat → Prop} {h h' : zPH} {m s a : Nat} {o : Option zCel} (F : yFr P h h' m s) (ha : a < h.2.1) (hp : ¬ P a) (e : h.1 a = o) : h'.1 a = o := by rw [F.1 a ha (Or.inl hp)]; exact e
theorem zw_cP {E : zEnv} {d j pc : Nat} {L : zLc} {st : List Value} {h : zPH} {Q : zOut → zPH → Prop} {P : Nat → Prop} {a t : Nat} {vs : List Value} {c : zCel} (hc : h.1 a = some (t, vs)) (ht : t < 96) (hN : P a) (K : ∀ h1, yFr P h h1 0 0 → h1.1 a = some c → (∀ b o, b ≠ a → h.1 b = o → h1.1 b = o) → h1.2 = h.2 → zwp E d j (pc, L, st, h1) Q) : zwp E d j (pc, L, st, zset h a c) Q :=
  K _ (yFr.set hc ht hN) zset_at (fun _ _ hb e => zset_ne hb e) rfl
/-- where a search writes -/
def rPL (mk lf x : Nat) : Prop := x = mk ∨ lf < x
