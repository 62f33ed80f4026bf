/-! ===== the reference's pictures: rows of rows ===== -/
theorem yrefs_at {q s n i : Nat} (hi : i < n) : (zrefs q s n)[i]? = some (.ref (q + i * s)) := by
  induction n generalizing q i with
  | zero => omega
  | succ n ih =>
    rw [zrefs]
    cases i with
    | zero => rw [Nat.zero_mul]; rfl
    | succ i =>
      show (zrefs (q + s) s n)[i]? = _
      rw [ih (by omega), Nat.succ_mul]
      show some (Value.ref (q + s + i * s)) = some (Value.ref (q + (i * s + s)))
      rw [Nat.add_assoc, Nat.add_comm s]
theorem yrefs_len (q s n : Nat) : (zrefs q s n).length = n := by
  induction n generalizing q with
  | zero => rfl
  | succ n ih => rw [zrefs, List.length_cons, ih]
theorem zrefs_app {q s n : Nat} {r : List Value} : (zrefs q s n ++ (.null :: r)).set n (.ref (q + n * s)) = zrefs q s (n + 1) ++ r := by
  induction n generalizing q with
  | zero => rw [Nat.zero_mul]; rfl
  | succ n ih =>
    show (Value.ref q :: (zrefs (q + s) s n ++ (.null :: r))).set (n + 1) (.ref (q + (n + 1) * s)) = Value.ref q :: (zrefs (q + s) s (n + 1) ++ r)
    rw [List.set_cons_succ, show q + (n + 1) * s = (q + s) + n * s by rw [Nat.succ_mul]; omega, ih]
/-- a row of rows of ints -/
def rMat (h : zPH) (q n k : Nat) : Prop := h.1 q = some (66, zrefs (q + 1) 1 n) ∧ ∀ i, i < n → ∃ l, h.1 (q + 1 + i) = some (64, zis l) ∧ l.length = k
def rF3 (h : zPH) (q n k m : Nat) : Prop := h.1 q = some (67, zrefs (q + 1) (1 + k) n) ∧ ∀ i, i < n → rMat h (q + 1 + i * (1 + k)) k m
def rWs (h : zPH) (q n : Nat) : Prop := h.1 q = some (66, zrefs (q + 1) 1 n) ∧ ∀ i, i < n → ∃ l, h.1 (q + 1 + i) = some (64, zis l) ∧ l.length ≤ 32
/-- while pictures are looked for: the pictures made, the rows' ways, what fits, what is left -/
def rPS (h : zPH) (w hh mk rw ft lf : Nat) : Prop :=
  (∃ lm cnt, h.1 mk = some (64, zis lm) ∧ lm.length = 501 ∧ cnt ≤ 500 ∧ lm.getD 500 0 = zJ cnt) ∧ rWs h rw hh ∧ rF3 h ft w hh 2 ∧ rMat h lf (hh + 1) w ∧ (mk < rw ∧ rw + 1 + hh ≤ ft ∧ ft + 1 + w * (1 + hh) ≤ lf ∧ lf + 2 + hh ≤ h.2.1)
section RPS
variable {h h1 : zPH} {q n k m w hh mk rw ft lf : Nat}
theorem rMat.eq (M : rMat h q n k) (e : ∀ x, q ≤ x → x < q + 1 + n → h1.1 x = h.1 x) : rMat h1 q n k :=
  ⟨by rw [e q (Nat.le_refl _) (by omega)]; exact M.1, fun i hi => by rw [e (q + 1 + i) (by omega) (by omega)]; exact M.2 i hi⟩
theorem rWs.eq (M : rWs h q n) (e : ∀ x, q ≤ x → x < q + 1 + n → h1.1 x = h.1 x) : rWs h1 q n :=
  ⟨by rw [e q (Nat.le_refl _) (by omega)]; exact M.1, fun i hi => by rw [e (q + 1 + i) (by omega) (by omega)]; exact M.2 i hi⟩
theorem rF3.eq (M : rF3 h q n k m) (e : ∀ x, q ≤ x → x < q + 1 + n * (1 + k) → h1.1 x = h.1 x) : rF3 h1 q n k m := by
  refine ⟨by rw [e q (Nat.le_refl _) (by omega)]; exact M.1, fun i hi => (M.2 i hi).eq fun x z1 z2 => e x (by omega) ?_⟩
  have : (i + 1) * (1 + k) ≤ n * (1 + k) := Nat.mul_le_mul_right _ hi
  rw [Nat.succ_mul] at this
  omega
theorem rPS.eq (P : rPS h w hh mk rw ft lf) (e : ∀ x, mk ≤ x → x < h.2.1 → h1.1 x = h.1 x) (hn : h.2.1 ≤ h1.2.1) : rPS h1 w hh mk rw ft lf := by
  obtain ⟨⟨lm, cnt, c1, c2, c3, c4⟩, p2, p3, p4, o1, o2, o3, o4⟩ := P
  exact ⟨⟨lm, cnt, by rw [e mk (by omega) (by omega)]; exact c1, c2, c3, c4⟩, p2.eq fun x z1 z2 => e x (by omega) (by omega), p3.eq fun x z1 z2 => e x (by omega) (by omega), p4.eq fun x z1 z2 => e x (by omega) (by omega), o1, o2, o3, by omega⟩
theorem rPS.wm {lm : List Int32} {cnt : Nat} (P : rPS h w hh mk rw ft lf) (h1e : h1.1 mk = some (64, zis lm)) (hl : lm.length = 501) (hc : cnt ≤ 500) (e5 : lm.getD 500 0 = zJ cnt) (e : ∀ b o, b ≠ mk → h.1 b = o → h1.1 b = o) (hn : h1.2 = h.2) : rPS h1 w hh mk rw ft lf := by
  obtain ⟨-, p2, p3, p4, o1, o2, o3, o4⟩ := P
  exact ⟨⟨lm, cnt, h1e, hl, hc, e5⟩, p2.eq fun x z1 z2 => e x _ (by omega) rfl, p3.eq fun x z1 z2 => e x _ (by omega) rfl, p4.eq fun x z1 z2 => e x _ (by omega) rfl, o1, o2, o3, by rw [hn]; exact o4⟩
theorem rPS.wl {l : List Int32} {i : Nat} (P : rPS h w hh mk rw ft lf) (hi : i < hh + 1) (h1e : h1.1 (lf + 1 + i) = some (64, zis l)) (hl : l.length = w) (e : ∀ b o, b ≠ lf + 1 + i → h.1 b = o → h1.1 b = o) (hn : h1.2 = h.2) : rPS h1 w hh mk rw ft lf := by
  obtain ⟨⟨lm, cnt, c1, c2, c3, c4⟩, p2, p3, p4, o1, o2, o3, o4⟩ := P
  refine ⟨⟨lm, cnt, e _ _ (by omega) c1, c2, c3, c4⟩, p2.eq fun x z1 z2 => e x _ (by omega) rfl, p3.eq fun x z1 z2 => e x _ (by omega) rfl, ⟨e _ _ (by omega) p4.1, fun j hj => ?_⟩, o1, o2, o3, by rw [hn]; exact o4⟩
  by_cases q : j = i
  · subst q
    exact ⟨l, h1e, hl⟩
  · obtain ⟨l2, z1, z2⟩ := p4.2 j hj
    exact ⟨l2, e _ _ (by omega) z1, z2⟩
end RPS
theorem yFr.c {P : Nat → Prop} {h h' : zPH} {m s a : Nat} {o : Option zCel} (F : yFr P h h' m s) (ha : a < h.2.1) (hp : ¬ P a) (e : h.1 a = o) : h'.1 a = o := by rw [F.1 a ha (Or.inl hp)]; exact e
theorem zw_cP {E : zEnv} {d j pc : Nat} {L : zLc} {st : List Value} {h : zPH} {Q : zOut → zPH → Prop} {P : Nat → Prop} {a t : Nat} {vs : List Value} {c : zCel} (hc : h.1 a = some (t, vs)) (ht : t < 96) (hN : P a) (K : ∀ h1, yFr P h h1 0 0 → h1.1 a = some c → (∀ b o, b ≠ a → h.1 b = o → h1.1 b = o) → h1.2 = h.2 → zwp E d j (pc, L, st, h1) Q) : zwp E d j (pc, L, st, zset h a c) Q :=
  K _ (yFr.set hc ht hN) zset_at (fun _ _ hb e => zset_ne hb e) rfl
/-- where a search writes -/
def rPL (mk lf x : Nat) : Prop := x = mk ∨ lf < x
theorem rPS.wf {h h1 : zPH} {w hh mk rw ft lf : Nat} {l : List Int32} {i j : Nat} (P : rPS h w hh mk rw ft lf) (hi : i < w) (hj : j < hh) (h1e : h1.1 (ft + 1 + i * (1 + hh) + 1 + j) = some (64, zis l)) (hl : l.length = 2) (e : ∀ b o, b ≠ ft + 1 + i * (1 + hh) + 1 + j → h.1 b = o → h1.1 b = o) (hn : h1.2 = h.2) : rPS h1 w hh mk rw ft lf := by
  obtain ⟨⟨lm, cnt, c1, c2, c3, c4⟩, p2, p3, p4, o1, o2, o3, o4⟩ := P
  have hm : (i + 1) * (1 + hh) ≤ w * (1 + hh) := Nat.mul_le_mul_right _ hi
  rw [Nat.succ_mul] at hm
  refine ⟨⟨lm, cnt, e _ _ (by omega) c1, c2, c3, c4⟩, p2.eq fun x z1 z2 => e x _ (by omega) rfl, ⟨e _ _ (by omega) p3.1, fun k hk => ?_⟩, p4.eq fun x z1 z2 => e x _ (by omega) rfl, o1, o2, o3, by rw [hn]; exact o4⟩
  by_cases q : k = i
  · subst q
    refine ⟨e _ _ (by omega) (p3.2 k hk).1, fun u hu => ?_⟩
    by_cases q2 : u = j
    · subst q2
      exact ⟨l, h1e, hl⟩
    · obtain ⟨l2, z1, z2⟩ := (p3.2 k hk).2 u hu
      exact ⟨l2, e _ _ (by omega) z1, z2⟩
  · refine (p3.2 k hk).eq fun x z1 z2 => e x _ ?_ rfl
    rcases Nat.lt_or_ge k i with z | z
    · have : (k + 1) * (1 + hh) ≤ i * (1 + hh) := Nat.mul_le_mul_right _ z
      rw [Nat.succ_mul] at this
      omega
    · have : (i + 1) * (1 + hh) ≤ k * (1 + hh) := Nat.mul_le_mul_right _ (by omega)
      rw [Nat.succ_mul] at this
      omega
section RN
variable {E : zEnv} {d j pc : Nat} {L : zLc} {st : List Value} {h : zPH} {Q : zOut → zPH → Prop}
theorem zw_newM {n k : Nat} (K : ∀ h1 q, (∀ P, yFr P h h1 (1 + n) (n + n * k)) → q = h.2.1 → rMat h1 q n k → (∀ b, b < h.2.1 → h1.1 b = h.1 b) → h1.2.1 = h.2.1 + (1 + n) → zwp E d j (pc, L, .ref q :: st, h1) Q) : zwp E d j (pc, L, .ref h.2.1 :: st, zalloc2 h n k) Q := by
  have old : ∀ a, a < h.2.1 → (zalloc2 h n k).1 a = h.1 a := by
    intro a ha
    show (if a = h.2.1 then _ else if h.2.1 < a ∧ a ≤ h.2.1 + n then _ else h.1 a) = _
    rw [if_neg (by omega), if_neg (by omega)]
  refine K _ _ (fun P => ⟨fun a ha _ => old a ha, by show h.2.1 ≤ h.2.1 + (1 + n); omega, Nat.le_refl _, by show h.2.2 ≤ h.2.2 + (n + n * k); omega, Nat.le_refl _⟩) rfl ⟨?_, fun i hi => ⟨List.replicate k 0, ?_, List.length_replicate⟩⟩ old rfl
  · show (if h.2.1 = h.2.1 then _ else _) = _
    rw [if_pos rfl]
  · show (if h.2.1 + 1 + i = h.2.1 then _ else if h.2.1 < h.2.1 + 1 + i ∧ h.2.1 + 1 + i ≤ h.2.1 + n then some (64, List.replicate k (Value.int 0)) else _) = _
    rw [if_neg (by omega), if_pos ⟨by omega, by omega⟩, zis_rep]
theorem zw_new3 {n k r : Nat} (K : ∀ h1 q, (∀ P, yFr P h h1 (1 + n * (1 + k)) (n + n * (k + k * r))) → q = h.2.1 → rF3 h1 q n k r → (∀ b, b < h.2.1 → h1.1 b = h.1 b) → h1.2.1 = h.2.1 + (1 + n * (1 + k)) → zwp E d j (pc, L, .ref q :: st, h1) Q) : zwp E d j (pc, L, .ref h.2.1 :: st, zalloc3 h n k r) Q := by
  have old : ∀ a, a < h.2.1 → (zalloc3 h n k r).1 a = h.1 a := by
    intro a ha
    show (if a = h.2.1 then _ else if h.2.1 < a ∧ a ≤ h.2.1 + n * (1 + k) then _ else h.1 a) = _
    rw [if_neg (by omega), if_neg (by omega)]
  refine K _ _ (fun P => ⟨fun a ha _ => old a ha, by show h.2.1 ≤ h.2.1 + (1 + n * (1 + k)); omega, Nat.le_refl _, by show h.2.2 ≤ h.2.2 + (n + n * (k + k * r)); omega, Nat.le_refl _⟩) rfl ⟨?_, fun i hi => ?_⟩ old rfl
  · show (if h.2.1 = h.2.1 then _ else _) = _
    rw [if_pos rfl]
  · have hm : (i + 1) * (1 + k) ≤ n * (1 + k) := Nat.mul_le_mul_right _ hi
    rw [Nat.succ_mul] at hm
    refine ⟨?_, fun u hu => ⟨List.replicate r 0, ?_, List.length_replicate⟩⟩
    · show (if h.2.1 + 1 + i * (1 + k) = h.2.1 then _ else if h.2.1 < h.2.1 + 1 + i * (1 + k) ∧ h.2.1 + 1 + i * (1 + k) ≤ h.2.1 + n * (1 + k) then (if (h.2.1 + 1 + i * (1 + k) - h.2.1 - 1) % (1 + k) = 0 then some (66, zrefs (h.2.1 + 1 + i * (1 + k) + 1) 1 k) else _) else _) = _
      rw [if_neg (by omega), if_pos ⟨by omega, by omega⟩, show h.2.1 + 1 + i * (1 + k) - h.2.1 - 1 = i * (1 + k) by omega, Nat.mul_mod_left, if_pos rfl]
    · show (if h.2.1 + 1 + i * (1 + k) + 1 + u = h.2.1 then _ else if h.2.1 < h.2.1 + 1 + i * (1 + k) + 1 + u ∧ h.2.1 + 1 + i * (1 + k) + 1 + u ≤ h.2.1 + n * (1 + k) then (if (h.2.1 + 1 + i * (1 + k) + 1 + u - h.2.1 - 1) % (1 + k) = 0 then _ else some (64, List.replicate r (Value.int 0))) else _) = _
      rw [if_neg (by omega), if_pos ⟨by omega, by omega⟩, show h.2.1 + 1 + i * (1 + k) + 1 + u - h.2.1 - 1 = (1 + u) + i * (1 + k) by omega, Nat.add_mul_mod_self_right, Nat.mod_eq_of_lt (by omega), if_neg (by omega), zis_rep]
end RN
