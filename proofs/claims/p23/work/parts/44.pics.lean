/-! ===== the reference's pictures: rows of rows ===== -/
theorem yrefs_at {q s n i : Nat} (hi : i < n) : (zrefs q s n)[i]? = some (.ref (q + i * s)) := by
  induction n generalizing q i with
  | zero => omega
  | succ n ih =>
    rw [zrefs]
    cases i with
    | zero => rw [Nat.zero_mul]; rfl
    | succ i =>
      show (zrefs (q + s) s n)[i]? = _
      rw [ih (by omega), Nat.succ_mul]
      show some (Value.ref (q + s + i * s)) = some (Value.ref (q + (i * s + s)))
      rw [Nat.add_assoc, Nat.add_comm s]
theorem yrefs_len (q s n : Nat) : (zrefs q s n).length = n := by
  induction n generalizing q with
  | zero => rfl
  | succ n ih => rw [zrefs, List.length_cons, ih]
theorem zrefs_app {q s n : Nat} {r : List Value} : (zrefs q s n ++ (.null :: r)).set n (.ref (q + n * s)) = zrefs q s (n + 1) ++ r := by
  induction n generalizing q with
  | zero => rw [Nat.zero_mul]; rfl
  | succ n ih =>
    show (Value.ref q :: (zrefs (q + s) s n ++ (.null :: r))).set (n + 1) (.ref (q + (n + 1) * s)) = Value.ref q :: (zrefs (q + s) s (n + 1) ++ r)
    rw [List.set_cons_succ, show q + (n + 1) * s = (q + s) + n * s by rw [Nat.succ_mul]; omega, ih]
/-- a row of rows of ints, told -/
def rMat (h : zPH) (q n : Nat) (Lf : Nat → List Int32) : Prop := h.1 q = some (66, zrefs (q + 1) 1 n) ∧ ∀ i, i < n → h.1 (q + 1 + i) = some (64, zis (Lf i))
def rF3 (h : zPH) (q n k : Nat) (Fc : Nat → Nat → List Int32) : Prop := h.1 q = some (67, zrefs (q + 1) (1 + k) n) ∧ ∀ i, i < n → rMat h (q + 1 + i * (1 + k)) k (Fc i)
/-- while pictures are looked for: the pictures made, the rows' ways, what fits, what is left -/
def rPS (h : zPH) (w hh mk rw ft lf : Nat) (W : Nat → List Int32) (Fc : Nat → Nat → List Int32) (lm : List Int32) (cnt : Nat) (Lf : Nat → List Int32) : Prop :=
  (h.1 mk = some (64, zis lm) ∧ lm.length = 501 ∧ cnt ≤ 500 ∧ lm.getD 500 0 = zJ cnt) ∧ (rMat h rw hh W ∧ ∀ i, i < hh → (W i).length ≤ 32) ∧ (rF3 h ft w hh Fc ∧ ∀ i j, i < w → j < hh → (Fc i j).length = 2) ∧ (rMat h lf (hh + 1) Lf ∧ ∀ i, i < hh + 1 → (Lf i).length = w) ∧ (mk < rw ∧ rw + 1 + hh ≤ ft ∧ ft + 1 + w * (1 + hh) ≤ lf ∧ lf + 2 + hh ≤ h.2.1)
def rup (Lf : Nat → List Int32) (r c : Nat) (v : Int32) : Nat → List Int32 := fun j => if j = r then (Lf j).set c v else Lf j
def rup2 (Fc : Nat → Nat → List Int32) (u z c : Nat) (v : Int32) : Nat → Nat → List Int32 := fun i j => if i = u ∧ j = z then (Fc i j).set c v else Fc i j
section RPS
variable {h h1 : zPH} {q n k w hh mk rw ft lf : Nat} {W : Nat → List Int32} {Fc : Nat → Nat → List Int32} {lm : List Int32} {cnt : Nat} {Lf : Nat → List Int32}
theorem rMat.eq (M : rMat h q n Lf) (e : ∀ x, q ≤ x → x < q + 1 + n → h1.1 x = h.1 x) : rMat h1 q n Lf :=
  ⟨by rw [e q (Nat.le_refl _) (by omega)]; exact M.1, fun i hi => by rw [e (q + 1 + i) (by omega) (by omega)]; exact M.2 i hi⟩
theorem rF3.eq (M : rF3 h q n k Fc) (e : ∀ x, q ≤ x → x < q + 1 + n * (1 + k) → h1.1 x = h.1 x) : rF3 h1 q n k Fc := by
  refine ⟨by rw [e q (Nat.le_refl _) (by omega)]; exact M.1, fun i hi => (M.2 i hi).eq fun x z1 z2 => e x (by omega) ?_⟩
  have : (i + 1) * (1 + k) ≤ n * (1 + k) := Nat.mul_le_mul_right _ hi
  rw [Nat.succ_mul] at this
  omega
theorem rPS.eq (P : rPS h w hh mk rw ft lf W Fc lm cnt Lf) (e : ∀ x, mk ≤ x → x < h.2.1 → h1.1 x = h.1 x) (hn : h.2.1 ≤ h1.2.1) : rPS h1 w hh mk rw ft lf W Fc lm cnt Lf := by
  obtain ⟨⟨c1, c2⟩, ⟨p2, l2⟩, ⟨p3, l3⟩, ⟨p4, l4⟩, o1, o2, o3, o4⟩ := P
  exact ⟨⟨by rw [e mk (by omega) (by omega)]; exact c1, c2⟩, ⟨p2.eq fun x z1 z2 => e x (by omega) (by omega), l2⟩, ⟨p3.eq fun x z1 z2 => e x (by omega) (by omega), l3⟩, ⟨p4.eq fun x z1 z2 => e x (by omega) (by omega), l4⟩, o1, o2, o3, by omega⟩
theorem rPS.wm {lm' : List Int32} {cnt' : Nat} (P : rPS h w hh mk rw ft lf W Fc lm cnt Lf) (h1e : h1.1 mk = some (64, zis lm')) (hl : lm'.length = 501) (hc : cnt' ≤ 500) (e5 : lm'.getD 500 0 = zJ cnt') (e : ∀ b o, b ≠ mk → h.1 b = o → h1.1 b = o) (hn : h1.2 = h.2) : rPS h1 w hh mk rw ft lf W Fc lm' cnt' Lf := by
  obtain ⟨-, ⟨p2, l2⟩, ⟨p3, l3⟩, ⟨p4, l4⟩, o1, o2, o3, o4⟩ := P
  exact ⟨⟨h1e, hl, hc, e5⟩, ⟨p2.eq fun x z1 z2 => e x _ (by omega) rfl, l2⟩, ⟨p3.eq fun x z1 z2 => e x _ (by omega) rfl, l3⟩, ⟨p4.eq fun x z1 z2 => e x _ (by omega) rfl, l4⟩, o1, o2, o3, by rw [hn]; exact o4⟩
theorem rPS.wl {i c : Nat} {v : Int32} (P : rPS h w hh mk rw ft lf W Fc lm cnt Lf) (hi : i < hh + 1) (h1e : h1.1 (lf + 1 + i) = some (64, zis ((Lf i).set c v))) (e : ∀ b o, b ≠ lf + 1 + i → h.1 b = o → h1.1 b = o) (hn : h1.2 = h.2) : rPS h1 w hh mk rw ft lf W Fc lm cnt (rup Lf i c v) := by
  obtain ⟨⟨c1, c2⟩, ⟨p2, l2⟩, ⟨p3, l3⟩, ⟨p4, l4⟩, o1, o2, o3, o4⟩ := P
  refine ⟨⟨e _ _ (by omega) c1, c2⟩, ⟨p2.eq fun x z1 z2 => e x _ (by omega) rfl, l2⟩, ⟨p3.eq fun x z1 z2 => e x _ (by omega) rfl, l3⟩, ⟨⟨e _ _ (by omega) p4.1, fun j hj => ?_⟩, fun j hj => ?_⟩, o1, o2, o3, by rw [hn]; exact o4⟩
  · unfold rup
    by_cases q : j = i
    · subst q
      rw [if_pos rfl]
      exact h1e
    · rw [if_neg q]
      exact e _ _ (by omega) (p4.2 j hj)
  · unfold rup
    split
    · rw [List.length_set]; exact l4 j hj
    · exact l4 j hj
end RPS
theorem yFr.c {P : Nat → Prop} {h h' : zPH} {m s a : Nat} {o : Option zCel} (F : yFr P h h' m s) (ha : a < h.2.1) (hp : ¬ P a) (e : h.1 a = o) : h'.1 a = o := by rw [F.1 a ha (Or.inl hp)]; exact e
theorem zw_cP {E : zEnv} {d j pc : Nat} {L : zLc} {st : List Value} {h : zPH} {Q : zOut → zPH → Prop} {P : Nat → Prop} {a t : Nat} {vs : List Value} {c : zCel} (hc : h.1 a = some (t, vs)) (ht : t < 96) (hN : P a) (K : ∀ h1, yFr P h h1 0 0 → h1.1 a = some c → (∀ b o, b ≠ a → h.1 b = o → h1.1 b = o) → h1.2 = h.2 → zwp E d j (pc, L, st, h1) Q) : zwp E d j (pc, L, st, zset h a c) Q :=
  K _ (yFr.set hc ht hN) zset_at (fun _ _ hb e => zset_ne hb e) rfl
/-- where a search writes -/
def rPL (mk lf x : Nat) : Prop := x = mk ∨ lf < x
theorem rPS.wf {h h1 : zPH} {w hh mk rw ft lf : Nat} {W : Nat → List Int32} {Fc : Nat → Nat → List Int32} {lm : List Int32} {cnt : Nat} {Lf : Nat → List Int32} {i j c : Nat} {v : Int32} (P : rPS h w hh mk rw ft lf W Fc lm cnt Lf) (hi : i < w) (hj : j < hh) (h1e : h1.1 (ft + 1 + i * (1 + hh) + 1 + j) = some (64, zis ((Fc i j).set c v))) (e : ∀ b o, b ≠ ft + 1 + i * (1 + hh) + 1 + j → h.1 b = o → h1.1 b = o) (hn : h1.2 = h.2) : rPS h1 w hh mk rw ft lf W (rup2 Fc i j c v) lm cnt Lf := by
  obtain ⟨⟨c1, c2⟩, ⟨p2, l2⟩, ⟨p3, l3⟩, ⟨p4, l4⟩, o1, o2, o3, o4⟩ := P
  have hm : (i + 1) * (1 + hh) ≤ w * (1 + hh) := Nat.mul_le_mul_right _ hi
  rw [Nat.succ_mul] at hm
  refine ⟨⟨e _ _ (by omega) c1, c2⟩, ⟨p2.eq fun x z1 z2 => e x _ (by omega) rfl, l2⟩, ⟨⟨e _ _ (by omega) p3.1, fun k hk => ?_⟩, fun k u hk hu => ?_⟩, ⟨p4.eq fun x z1 z2 => e x _ (by omega) rfl, l4⟩, o1, o2, o3, by rw [hn]; exact o4⟩
  · by_cases q : k = i
    · subst q
      refine ⟨e _ _ (by omega) (p3.2 k hk).1, fun u hu => ?_⟩
      unfold rup2
      by_cases q2 : u = j
      · subst q2
        rw [if_pos ⟨rfl, rfl⟩]
        exact h1e
      · rw [if_neg (fun z => q2 z.2)]
        exact e _ _ (by omega) ((p3.2 k hk).2 u hu)
    · have ef : rup2 Fc i j c v k = Fc k := by
        funext u
        unfold rup2
        rw [if_neg (fun z => q z.1)]
      rw [ef]
      refine (p3.2 k hk).eq fun x z1 z2 => e x _ ?_ rfl
      rcases Nat.lt_or_ge k i with z | z
      · have : (k + 1) * (1 + hh) ≤ i * (1 + hh) := Nat.mul_le_mul_right _ z
        rw [Nat.succ_mul] at this
        omega
      · have : (i + 1) * (1 + hh) ≤ k * (1 + hh) := Nat.mul_le_mul_right _ (by omega)
        rw [Nat.succ_mul] at this
        omega
  · unfold rup2
    split
    · rw [List.length_set]; exact l3 k u hk hu
    · exact l3 k u hk hu
section RN
variable {E : zEnv} {d j pc : Nat} {L : zLc} {st : List Value} {h : zPH} {Q : zOut → zPH → Prop}
theorem zw_newM {n k : Nat} (K : ∀ h1 q, (∀ P, yFr P h h1 (1 + n) (n + n * k)) → q = h.2.1 → rMat h1 q n (fun _ => List.replicate k 0) → (∀ b, b < h.2.1 → h1.1 b = h.1 b) → h1.2.1 = h.2.1 + (1 + n) → zwp E d j (pc, L, .ref q :: st, h1) Q) : zwp E d j (pc, L, .ref h.2.1 :: st, zalloc2 h n k) Q := by
  have old : ∀ a, a < h.2.1 → (zalloc2 h n k).1 a = h.1 a := by
    intro a ha
    show (if a = h.2.1 then _ else if h.2.1 < a ∧ a ≤ h.2.1 + n then _ else h.1 a) = _
    rw [if_neg (by omega), if_neg (by omega)]
  refine K _ _ (fun P => ⟨fun a ha _ => old a ha, by show h.2.1 ≤ h.2.1 + (1 + n); omega, Nat.le_refl _, by show h.2.2 ≤ h.2.2 + (n + n * k); omega, Nat.le_refl _⟩) rfl ⟨?_, fun i hi => ?_⟩ old rfl
  · show (if h.2.1 = h.2.1 then _ else _) = _
    rw [if_pos rfl]
  · show (if h.2.1 + 1 + i = h.2.1 then _ else if h.2.1 < h.2.1 + 1 + i ∧ h.2.1 + 1 + i ≤ h.2.1 + n then some (64, List.replicate k (Value.int 0)) else _) = _
    rw [if_neg (by omega), if_pos ⟨by omega, by omega⟩, zis_rep]
theorem zw_new3 {n k r : Nat} (K : ∀ h1 q, (∀ P, yFr P h h1 (1 + n * (1 + k)) (n + n * (k + k * r))) → q = h.2.1 → rF3 h1 q n k (fun _ _ => List.replicate r 0) → (∀ b, b < h.2.1 → h1.1 b = h.1 b) → h1.2.1 = h.2.1 + (1 + n * (1 + k)) → zwp E d j (pc, L, .ref q :: st, h1) Q) : zwp E d j (pc, L, .ref h.2.1 :: st, zalloc3 h n k r) Q := by
  have old : ∀ a, a < h.2.1 → (zalloc3 h n k r).1 a = h.1 a := by
    intro a ha
    show (if a = h.2.1 then _ else if h.2.1 < a ∧ a ≤ h.2.1 + n * (1 + k) then _ else h.1 a) = _
    rw [if_neg (by omega), if_neg (by omega)]
  refine K _ _ (fun P => ⟨fun a ha _ => old a ha, by show h.2.1 ≤ h.2.1 + (1 + n * (1 + k)); omega, Nat.le_refl _, by show h.2.2 ≤ h.2.2 + (n + n * (k + k * r)); omega, Nat.le_refl _⟩) rfl ⟨?_, fun i hi => ?_⟩ old rfl
  · show (if h.2.1 = h.2.1 then _ else _) = _
    rw [if_pos rfl]
  · have hm : (i + 1) * (1 + k) ≤ n * (1 + k) := Nat.mul_le_mul_right _ hi
    rw [Nat.succ_mul] at hm
    refine ⟨?_, fun u hu => ?_⟩
    · show (if h.2.1 + 1 + i * (1 + k) = h.2.1 then _ else if h.2.1 < h.2.1 + 1 + i * (1 + k) ∧ h.2.1 + 1 + i * (1 + k) ≤ h.2.1 + n * (1 + k) then (if (h.2.1 + 1 + i * (1 + k) - h.2.1 - 1) % (1 + k) = 0 then some (66, zrefs (h.2.1 + 1 + i * (1 + k) + 1) 1 k) else _) else _) = _
      rw [if_neg (by omega), if_pos ⟨by omega, by omega⟩, show h.2.1 + 1 + i * (1 + k) - h.2.1 - 1 = i * (1 + k) by omega, Nat.mul_mod_left, if_pos rfl]
    · show (if h.2.1 + 1 + i * (1 + k) + 1 + u = h.2.1 then _ else if h.2.1 < h.2.1 + 1 + i * (1 + k) + 1 + u ∧ h.2.1 + 1 + i * (1 + k) + 1 + u ≤ h.2.1 + n * (1 + k) then (if (h.2.1 + 1 + i * (1 + k) + 1 + u - h.2.1 - 1) % (1 + k) = 0 then _ else some (64, List.replicate r (Value.int 0))) else _) = _
      rw [if_neg (by omega), if_pos ⟨by omega, by omega⟩, show h.2.1 + 1 + i * (1 + k) + 1 + u - h.2.1 - 1 = (1 + u) + i * (1 + k) by omega, Nat.add_mul_mod_self_right, Nat.mod_eq_of_lt (by omega), if_neg (by omega), zis_rep]
end RN
/-! ### the search, as a function -/
theorem rgetD_set {l : List Int32} {i : Nat} {v : Int32} (h : i < l.length) : (l.set i v).getD i 0 = v := by
  rw [List.getD_eq_getElem?_getD, List.getElem?_set_self h]; rfl
def rbi (b : Bool) : Nat := if b = true then 1 else 0
theorem rbi_lt (b : Bool) : rbi b < 2 := by cases b <;> decide
theorem rbi_ne {b b' : Bool} (h : ¬ b' = b) : rbi b ≠ rbi b' := by cases b <;> cases b' <;> first | exact absurd rfl h | decide
def rlv (Fc : Nat → Nat → List Int32) (row : Nat) (way : Int32) (Lf : Nat → List Int32) (k : Nat) : Int32 := (Lf row).getD k 0 &&& (Fc k row).getD (rbi (zbit way k)) 0
def rlc (Fc : Nat → Nat → List Int32) (row : Nat) (way : Int32) (Lf : Nat → List Int32) : Nat → Bool × (Nat → List Int32)
  | 0 => (true, Lf)
  | k + 1 => if (rlc Fc row way Lf k).1 = true then (!decide (rlv Fc row way (rlc Fc row way Lf k).2 k = 0), rup (rlc Fc row way Lf k).2 (row + 1) k (rlv Fc row way (rlc Fc row way Lf k).2 k)) else rlc Fc row way Lf k
theorem rlc_f {Fc : Nat → Nat → List Int32} {row : Nat} {way : Int32} {Lf : Nat → List Int32} {k : Nat} (h : (rlc Fc row way Lf k).1 = false) (n : Nat) (hn : k ≤ n) : rlc Fc row way Lf n = rlc Fc row way Lf k := by
  induction hn with
  | refl => rfl
  | step _ ih => rw [rlc, ih, if_neg (by rw [h]; decide)]
/-- pictures, how many, what is left -/
abbrev rLs := List Int32 × Nat × (Nat → List Int32)
def rad (x : Int32) (s : rLs) : rLs := ((s.1.set s.2.1 x).set 500 (zJ (s.2.1 + 1)), s.2.1 + 1, s.2.2)
def rLp (f : Nat → rLs → rLs) : Nat → rLs → rLs
  | 0, s => s
  | k + 1, s => f k (rLp f k s)
def rst (w : Nat) (Fc : Nat → Nat → List Int32) (rec : Int32 → rLs → rLs) (row : Nat) (x : Int32) (l : List Int32) (u : Nat) (s : rLs) : rLs :=
  if (rlc Fc row (l.getD u 0) s.2.2 w).1 = true then rec (x ||| (l.getD u 0 <<< (zJ (w * row) &&& 31))) (s.1, s.2.1, (rlc Fc row (l.getD u 0) s.2.2 w).2) else (s.1, s.2.1, (rlc Fc row (l.getD u 0) s.2.2 w).2)
def rLk (w : Nat) (W : Nat → List Int32) (Fc : Nat → Nat → List Int32) : Nat → Nat → Int32 → rLs → rLs
  | 0, _, x, s => if s.2.1 = 500 then s else rad x s
  | m + 1, row, x, s => if s.2.1 = 500 then s else rLp (rst w Fc (rLk w W Fc m (row + 1)) row x (W row)) (W row).length s
/-- may a way of a column be -/
def rl1 (l : List Int32) (c : Nat) (b : Bool) : Nat → Bool
  | 0 => false
  | n + 1 => rl1 l c b n || (zbit (l.getD n 0) c == b)
def rlt (W : Nat → List Int32) (x : Int32) (c : Nat) : Nat → Bool
  | 0 => true
  | k + 1 => rlt W x c k && rl1 (W k) c (zbit x k) (W k).length
/-- a column's ways that may be: by their places; those that are as b in a row -/
def rf0 (W : Nat → List Int32) (hh c : Nat) (wl : List Int32) : Nat → Int32
  | 0 => zJ 0
  | n + 1 => if rlt W (wl.getD n 0) c hh = true then rf0 W hh c wl n ||| ysh1 n else rf0 W hh c wl n
def rf1 (W : Nat → List Int32) (hh c : Nat) (wl : List Int32) (row : Nat) (b : Bool) : Nat → Int32
  | 0 => zJ 0
  | n + 1 => if rlt W (wl.getD n 0) c hh = true ∧ zbit (wl.getD n 0) row = b then rf1 W hh c wl row b n ||| ysh1 n else rf1 W hh c wl row b n
theorem rlt_f {W : Nat → List Int32} {x : Int32} {c k : Nat} (h : rlt W x c k = false) (n : Nat) (hn : k ≤ n) : rlt W x c n = false := by
  induction hn with
  | refl => exact h
  | step _ ih => rw [rlt, ih]; rfl
/-- columns below u are done, of column u v ways, in rows below z one more -/
def rQ0 (W : Nat → List Int32) (hh w : Nat) (ws : Nat → List Int32) (u v : Nat) (Lf : Nat → List Int32) : Prop :=
  ∀ c, c < w → (Lf 0).getD c 0 = if c < u then rf0 W hh c (ws c) (ws c).length else if c = u then rf0 W hh c (ws c) v else zJ 0
def rQ1 (W : Nat → List Int32) (hh w : Nat) (ws : Nat → List Int32) (u v z : Nat) (Fc : Nat → Nat → List Int32) : Prop :=
  ∀ c row, c < w → row < hh → ∀ b : Bool, (Fc c row).getD (rbi b) 0 = if c < u then rf1 W hh c (ws c) row b (ws c).length else if c = u then rf1 W hh c (ws c) row b (if row < z then v + 1 else v) else zJ 0
section RQ
variable {W : Nat → List Int32} {hh w u v z : Nat} {ws : Nat → List Int32} {Lf : Nat → List Int32} {Fc : Nat → Nat → List Int32}
theorem rgetD_rep {n c : Nat} : (List.replicate n (0 : Int32)).getD c 0 = zJ 0 := by
  rw [List.getD_eq_getElem?_getD, List.getElem?_replicate]
  split <;> rfl
theorem rQ0.init : rQ0 W hh w ws 0 0 (fun _ => List.replicate w 0) := by
  intro c _
  rw [rgetD_rep, if_neg (by omega)]
  split <;> rfl
theorem rQ1.init : rQ1 W hh w ws 0 0 0 (fun _ _ => List.replicate 2 0) := by
  intro c row _ _ b
  rw [rgetD_rep, if_neg (by omega), if_neg (Nat.not_lt_zero row)]
  split <;> rfl
theorem rQ0.skip (H : rQ0 W hh w ws u v Lf) (hn : rlt W ((ws u).getD v 0) u hh = false) : rQ0 W hh w ws u (v + 1) Lf := by
  intro c hc
  rw [H c hc]
  split
  · rfl
  · split
    · rename_i q
      subst q
      rw [rf0, if_neg (by rw [hn]; decide)]
    · rfl
theorem rQ1.skip (H : rQ1 W hh w ws u v 0 Fc) (hn : rlt W ((ws u).getD v 0) u hh = false) : rQ1 W hh w ws u (v + 1) 0 Fc := by
  intro c row hc hr b
  rw [H c row hc hr b]
  split
  · rfl
  · split
    · rename_i q
      subst q
      rw [if_neg (Nat.not_lt_zero row), if_neg (Nat.not_lt_zero row), rf1, if_neg (fun z => by rw [hn] at z; exact Bool.noConfusion z.1)]
    · rfl
theorem rQ0.put (H : rQ0 W hh w ws u v Lf) (hy : rlt W ((ws u).getD v 0) u hh = true) (hu : u < w) (hl : (Lf 0).length = w) : rQ0 W hh w ws u (v + 1) (rup Lf 0 u ((Lf 0).getD u 0 ||| ysh1 v)) := by
  intro c hc
  unfold rup
  rw [if_pos rfl]
  by_cases q : c = u
  · subst q
    rw [rgetD_set (by omega), if_neg (by omega), if_pos rfl, rf0, if_pos hy, H c hc, if_neg (by omega), if_pos rfl]
  · rw [List.getD_eq_getElem?_getD, List.getElem?_set_ne (fun e => q e.symm), ← List.getD_eq_getElem?_getD, H c hc, if_neg q, if_neg q]
theorem rQ1.put {b : Bool} (H : rQ1 W hh w ws u v z Fc) (hy : rlt W ((ws u).getD v 0) u hh = true) (hu : u < w) (hz : z < hh) (hb : zbit ((ws u).getD v 0) z = b) (hl : (Fc u z).length = 2) : rQ1 W hh w ws u v (z + 1) (rup2 Fc u z (rbi b) ((Fc u z).getD (rbi b) 0 ||| ysh1 v)) := by
  intro c row hc hr b'
  have h0 := H c row hc hr b'
  unfold rup2
  by_cases q : c = u ∧ row = z
  · obtain ⟨rfl, rfl⟩ := q
    rw [if_neg (Nat.lt_irrefl c), if_pos (rfl : c = c), if_neg (Nat.lt_irrefl row)] at h0
    rw [if_pos ⟨rfl, rfl⟩, if_neg (Nat.lt_irrefl c), if_pos (rfl : c = c), if_pos (Nat.lt_succ_self row)]
    by_cases q2 : b' = b
    · subst q2
      rw [rgetD_set (by rw [hl]; exact rbi_lt _), h0, rf1, if_pos ⟨hy, hb⟩]
    · rw [List.getD_eq_getElem?_getD, List.getElem?_set_ne (rbi_ne q2), ← List.getD_eq_getElem?_getD, h0, rf1, if_neg (fun x => q2 (x.2.symm.trans hb))]
  · rw [if_neg q, h0]
    split
    · rfl
    · split
      · rename_i q3
        have q4 : row ≠ z := fun e => q ⟨q3, e⟩
        by_cases q5 : row < z
        · rw [if_pos q5, if_pos (by omega)]
        · rw [if_neg q5, if_neg (by omega)]
      · rfl
theorem rQ1.rows (H : rQ1 W hh w ws u v hh Fc) : rQ1 W hh w ws u (v + 1) 0 Fc := by
  intro c row hc hr b
  rw [H c row hc hr b, if_pos hr, if_neg (Nat.not_lt_zero row)]
theorem rQ0.col (H : rQ0 W hh w ws u (ws u).length Lf) : rQ0 W hh w ws (u + 1) 0 Lf := by
  intro c hc
  rw [H c hc]
  by_cases q : c < u
  · rw [if_pos q, if_pos (by omega)]
  · rw [if_neg q]
    by_cases q2 : c = u
    · subst q2
      rw [if_pos rfl, if_pos (by omega)]
    · rw [if_neg q2, if_neg (by omega)]
      split <;> rfl
theorem rQ1.col (H : rQ1 W hh w ws u (ws u).length 0 Fc) : rQ1 W hh w ws (u + 1) 0 0 Fc := by
  intro c row hc hr b
  rw [H c row hc hr b]
  by_cases q : c < u
  · rw [if_pos q, if_pos (by omega)]
  · rw [if_neg q, if_neg (Nat.not_lt_zero row), if_neg (Nat.not_lt_zero row)]
    by_cases q2 : c = u
    · subst q2
      rw [if_pos rfl, if_pos (by omega)]
    · rw [if_neg q2, if_neg (by omega)]
      split <;> rfl
end RQ
/-- the ways of line i as ints -/
def rwi (w hh : Nat) (x0 cl : List Int32) (i : Nat) : List Int32 := (rww w hh x0 cl i).map zJ
/-- what the search comes to -/
def rPx (w hh : Nat) (x0 cl l : List Int32) : Prop := ∃ (Fc : Nat → Nat → List Int32) (Lf : Nat → List Int32), rQ0 (rwi w hh x0 cl) hh w (fun c => rwi w hh x0 cl (hh + c)) w 0 Lf ∧ rQ1 (rwi w hh x0 cl) hh w (fun c => rwi w hh x0 cl (hh + c)) w 0 0 Fc ∧ (∀ i, i < hh + 1 → (Lf i).length = w) ∧
  l = (rLk w (rwi w hh x0 cl) Fc hh 0 (zJ 0) (List.replicate 501 0, 0, Lf)).1.take (rLk w (rwi w hh x0 cl) Fc hh 0 (zJ 0) (List.replicate 501 0, 0, Lf)).2.1
theorem zcpi_take {l g : List Int32} {n : Nat} (h : n ≤ l.length) (hg : g.length = n) : zcpi l g 0 0 n = l.take n := by
  unfold zcpi
  rw [List.take_zero, List.drop_zero, List.nil_append, Nat.zero_add, List.drop_eq_nil_of_le (by omega), List.append_nil]
