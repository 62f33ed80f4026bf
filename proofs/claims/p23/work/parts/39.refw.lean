/-! ===== the reference: a board is written ===== -/
def rRows (r : Nat) (x0 x1 x2 x3 : List Int32) : List zCel := [(66, [.ref (r + 1), .ref (r + 2), .ref (r + 3), .ref (r + 4)]), (64, zis x0), (64, zis x1), (64, zis x2), (64, zis x3)]
section RW
variable {E : zEnv} {d j pc : Nat} {L : zLc} {st : List Value} {h : zPH} {Q : zOut → zPH → Prop}
variable {b r c g w hh : Nat} {x0 x1 x2 x3 cl : List Int32} {mi sp : Int32}
theorem rB.wx0 {y : List Int32} (P : rB h b r c g w hh x0 x1 x2 x3 cl mi sp) (hl : y.length = w * hh) (K : ∀ h1, yFr (yIv r 5) h h1 0 0 → rB h1 b r c g w hh y x1 x2 x3 cl mi sp → zwp E d j (pc, L, st, h1) Q) : zwp E d j (pc, L, st, zset h (r + 1) (64, zis y)) Q := by
  obtain ⟨p1, p2, p3, p4, ⟨l0, l1, l2, l3, l4⟩, d1, d2, d3⟩ := P
  exact zw_bk p2 (k := 1) rfl (by omega) fun h1 F G => K h1 F ⟨F.bk p1 (fun x z1 z2 z3 => by have z2 : x < b + 1 := z2; have := z3.1; have : x < r + 5 := z3.2; omega), G, F.bk p3 (fun x z1 z2 z3 => by have z2 : x < c + 1 := z2; have := z3.1; have : x < r + 5 := z3.2; omega), p4, ⟨hl, l1, l2, l3, l4⟩, d1, d2, d3⟩
theorem rB.wx1 {y : List Int32} (P : rB h b r c g w hh x0 x1 x2 x3 cl mi sp) (hl : y.length = w * hh) (K : ∀ h1, yFr (yIv r 5) h h1 0 0 → rB h1 b r c g w hh x0 y x2 x3 cl mi sp → zwp E d j (pc, L, st, h1) Q) : zwp E d j (pc, L, st, zset h (r + 2) (64, zis y)) Q := by
  obtain ⟨p1, p2, p3, p4, ⟨l0, l1, l2, l3, l4⟩, d1, d2, d3⟩ := P
  exact zw_bk p2 (k := 2) rfl (by omega) fun h1 F G => K h1 F ⟨F.bk p1 (fun x z1 z2 z3 => by have z2 : x < b + 1 := z2; have := z3.1; have : x < r + 5 := z3.2; omega), G, F.bk p3 (fun x z1 z2 z3 => by have z2 : x < c + 1 := z2; have := z3.1; have : x < r + 5 := z3.2; omega), p4, ⟨l0, hl, l2, l3, l4⟩, d1, d2, d3⟩
theorem rB.wx2 {y : List Int32} (P : rB h b r c g w hh x0 x1 x2 x3 cl mi sp) (hl : y.length = w * hh) (K : ∀ h1, yFr (yIv r 5) h h1 0 0 → rB h1 b r c g w hh x0 x1 y x3 cl mi sp → zwp E d j (pc, L, st, h1) Q) : zwp E d j (pc, L, st, zset h (r + 3) (64, zis y)) Q := by
  obtain ⟨p1, p2, p3, p4, ⟨l0, l1, l2, l3, l4⟩, d1, d2, d3⟩ := P
  exact zw_bk p2 (k := 3) rfl (by omega) fun h1 F G => K h1 F ⟨F.bk p1 (fun x z1 z2 z3 => by have z2 : x < b + 1 := z2; have := z3.1; have : x < r + 5 := z3.2; omega), G, F.bk p3 (fun x z1 z2 z3 => by have z2 : x < c + 1 := z2; have := z3.1; have : x < r + 5 := z3.2; omega), p4, ⟨l0, l1, hl, l3, l4⟩, d1, d2, d3⟩
theorem rB.wx3 {y : List Int32} (P : rB h b r c g w hh x0 x1 x2 x3 cl mi sp) (hl : y.length = w * hh) (K : ∀ h1, yFr (yIv r 5) h h1 0 0 → rB h1 b r c g w hh x0 x1 x2 y cl mi sp → zwp E d j (pc, L, st, h1) Q) : zwp E d j (pc, L, st, zset h (r + 4) (64, zis y)) Q := by
  obtain ⟨p1, p2, p3, p4, ⟨l0, l1, l2, l3, l4⟩, d1, d2, d3⟩ := P
  exact zw_bk p2 (k := 4) rfl (by omega) fun h1 F G => K h1 F ⟨F.bk p1 (fun x z1 z2 z3 => by have z2 : x < b + 1 := z2; have := z3.1; have : x < r + 5 := z3.2; omega), G, F.bk p3 (fun x z1 z2 z3 => by have z2 : x < c + 1 := z2; have := z3.1; have : x < r + 5 := z3.2; omega), p4, ⟨l0, l1, l2, hl, l4⟩, d1, d2, d3⟩
theorem rB.wca {y : List Int32} (P : rB h b r c g w hh x0 x1 x2 x3 cl mi sp) (hl : y.length = w + hh) (K : ∀ h1, yFr (yIv c 1) h h1 0 0 → rB h1 b r c g w hh x0 x1 x2 x3 y mi sp → zwp E d j (pc, L, st, h1) Q) : zwp E d j (pc, L, st, zset h c (64, zis y)) Q := by
  obtain ⟨p1, p2, p3, p4, ⟨l0, l1, l2, l3, l4⟩, d1, d2, d3⟩ := P
  exact zw_bk p3 (k := 0) rfl (by omega) fun h1 F G => K h1 F ⟨F.bk p1 (fun x z1 z2 z3 => by have z2 : x < b + 1 := z2; have := z3.1; have : x < c + 1 := z3.2; omega), F.bk p2 (fun x z1 z2 z3 => by have z2 : x < r + 5 := z2; have := z3.1; have : x < c + 1 := z3.2; omega), G, p4, ⟨l0, l1, l2, l3, hl⟩, d1, d2, d3⟩
theorem rB.wob {g' : Nat} {mi' sp' : Int32} (P : rB h b r c g w hh x0 x1 x2 x3 cl mi sp) (K : ∀ h1, yFr (yIv b 1) h h1 0 0 → rB h1 b r c g' w hh x0 x1 x2 x3 cl mi' sp' → zwp E d j (pc, L, st, h1) Q) : zwp E d j (pc, L, st, zset h b (9, [.int (zJ w), .int (zJ hh), .ref r, .ref c, .ref g', .int mi', .int sp'])) Q := by
  obtain ⟨p1, p2, p3, p4, l, d1, d2, d3⟩ := P
  exact zw_bk p1 (k := 0) rfl (by omega) fun h1 F G => K h1 F ⟨G, F.bk p2 (fun x z1 z2 z3 => by have z2 : x < r + 5 := z2; have := z3.1; have : x < b + 1 := z3.2; omega), F.bk p3 (fun x z1 z2 z3 => by have z2 : x < c + 1 := z2; have := z3.1; have : x < b + 1 := z3.2; omega), p4, l, d1, d2, d3⟩
/-- the rows are others -/
theorem rB.wrw {r' : Nat} {y0 y1 y2 y3 : List Int32} (P : rB h b r c g w hh x0 x1 x2 x3 cl mi sp) (R : yBk h r' (rRows r' y0 y1 y2 y3)) (hl : y0.length = w * hh ∧ y1.length = w * hh ∧ y2.length = w * hh ∧ y3.length = w * hh) (e1 : b + 1 ≤ r' ∨ r' + 5 ≤ b) (e3 : r' + 5 ≤ c ∨ c + 1 ≤ r') (K : ∀ h1, yFr (yIv b 1) h h1 0 0 → rB h1 b r' c g w hh y0 y1 y2 y3 cl mi sp → zwp E d j (pc, L, st, h1) Q) : zwp E d j (pc, L, st, zset h b (9, [.int (zJ w), .int (zJ hh), .ref r', .ref c, .ref g, .int mi, .int sp])) Q := by
  obtain ⟨p1, p2, p3, p4, ⟨l0, l1, l2, l3, l4⟩, d1, d2, d3⟩ := P
  exact zw_bk p1 (k := 0) rfl (by omega) fun h1 F G => K h1 F ⟨G, F.bk R (fun x z1 z2 z3 => by have z2 : x < r' + 5 := z2; have := z3.1; have : x < b + 1 := z3.2; omega), F.bk p3 (fun x z1 z2 z3 => by have z2 : x < c + 1 := z2; have := z3.1; have : x < b + 1 := z3.2; omega), p4, ⟨hl.1, hl.2.1, hl.2.2.1, hl.2.2.2, l4⟩, e1, d2, e3⟩
/-- new rows -/
theorem zw_new4 {n : Nat} (K : ∀ h1 q, (∀ P, yFr P h h1 5 (4 + 4 * n)) → q = h.2.1 → yBk h1 q (rRows q (List.replicate n 0) (List.replicate n 0) (List.replicate n 0) (List.replicate n 0)) → h1.2.1 = h.2.1 + 5 → zwp E d j (pc, L, .ref q :: st, h1) Q) : zwp E d j (pc, L, .ref h.2.1 :: st, zalloc2 h 4 n) Q := by
  refine K _ _ (fun P => ⟨fun a ha _ => ?_, by show h.2.1 ≤ h.2.1 + 5; omega, Nat.le_refl _, by show h.2.2 ≤ h.2.2 + (4 + 4 * n); omega, Nat.le_refl _⟩) rfl ⟨Nat.le_refl _, fun k cc hk => ?_⟩ rfl
  · show (if a = h.2.1 then _ else if h.2.1 < a ∧ a ≤ h.2.1 + 4 then _ else h.1 a) = _
    rw [if_neg (by omega), if_neg (by omega)]
  · show (if h.2.1 + k = h.2.1 then some (66, zrefs (h.2.1 + 1) 1 4) else if h.2.1 < h.2.1 + k ∧ h.2.1 + k ≤ h.2.1 + 4 then some (64, List.replicate n (.int 0)) else h.1 (h.2.1 + k)) = some cc
    rcases k with _ | _ | _ | _ | _ | k
    · rw [if_pos (Nat.add_zero _)]; exact hk
    · rw [if_neg (by omega), if_pos ⟨by omega, by omega⟩, zis_rep]; exact hk
    · rw [if_neg (by omega), if_pos ⟨by omega, by omega⟩, zis_rep]; exact hk
    · rw [if_neg (by omega), if_pos ⟨by omega, by omega⟩, zis_rep]; exact hk
    · rw [if_neg (by omega), if_pos ⟨by omega, by omega⟩, zis_rep]; exact hk
    · cases hk
end RW
/-- a board whose rows don't stand -/
def rB0 (h : zPH) (b c g w hh : Nat) (v : Value) (cl : List Int32) (mi sp : Int32) : Prop := yBk h b [(9, [.int (zJ w), .int (zJ hh), v, .ref c, .ref g, .int mi, .int sp])] ∧ yBk h c [(64, zis cl)] ∧ (2 ≤ w ∧ w ≤ 5 ∧ 2 ≤ hh ∧ hh ≤ 5) ∧ cl.length = w + hh ∧ (b + 1 ≤ c ∨ c + 1 ≤ b)
theorem rB.b0 {h : zPH} {b r c g w hh : Nat} {x0 x1 x2 x3 cl : List Int32} {mi sp : Int32} (P : rB h b r c g w hh x0 x1 x2 x3 cl mi sp) : rB0 h b c g w hh (.ref r) cl mi sp := ⟨P.1, P.2.2.1, P.2.2.2.1, P.2.2.2.2.1.2.2.2.2, P.2.2.2.2.2.2.1⟩
/-- reasons of new rows: the first k are -1 -/
def rn1 (n : Nat) : Nat → List Int32
  | 0 => List.replicate n 0
  | k + 1 => (rn1 n k).set k (-1)
theorem rn1_len (n k : Nat) : (rn1 n k).length = n := by
  induction k with
  | zero => exact List.length_replicate
  | succ k ih => rw [rn1, List.length_set, ih]
def rnc (n : Nat) : Nat → List Int32
  | 0 => List.replicate n 0
  | k + 1 => (rnc n k).set k (-1)
theorem rnc_len (n k : Nat) : (rnc n k).length = n := by
  induction k with
  | zero => exact List.length_replicate
  | succ k ih => rw [rnc, List.length_set, ih]
theorem rB0.cells {h : zPH} {b c g w hh : Nat} {v : Value} {cl : List Int32} {mi sp : Int32} (P : rB0 h b c g w hh v cl mi sp) : yBk h b [(9, [.int (zJ w), .int (zJ hh), v, .ref c, .ref g, .int mi, .int sp])] := P.1
theorem rB0.mk {E : zEnv} {d j pc : Nat} {L : zLc} {st : List Value} {h : zPH} {Q : zOut → zPH → Prop} {b c g w hh r' : Nat} {v : Value} {cl y0 y1 y2 y3 : List Int32} {mi sp : Int32} (P : rB0 h b c g w hh v cl mi sp) (R : yBk h r' (rRows r' y0 y1 y2 y3)) (hl : y0.length = w * hh ∧ y1.length = w * hh ∧ y2.length = w * hh ∧ y3.length = w * hh) (e1 : b + 1 ≤ r' ∨ r' + 5 ≤ b) (e3 : r' + 5 ≤ c ∨ c + 1 ≤ r') (K : ∀ h1, yFr (yIv b 1) h h1 0 0 → rB h1 b r' c g w hh y0 y1 y2 y3 cl mi sp → zwp E d j (pc, L, st, h1) Q) : zwp E d j (pc, L, st, zset h b (9, [.int (zJ w), .int (zJ hh), .ref r', .ref c, .ref g, .int mi, .int sp])) Q := by
  obtain ⟨p1, p3, p4, l4, d2⟩ := P
  exact zw_bk p1 (k := 0) rfl (by omega) fun h1 F G => K h1 F ⟨G, F.bk R (fun x z1 z2 z3 => by have z2 : x < r' + 5 := z2; have := z3.1; have : x < b + 1 := z3.2; omega), F.bk p3 (fun x z1 z2 z3 => by have z2 : x < c + 1 := z2; have := z3.1; have : x < b + 1 := z3.2; omega), p4, ⟨hl.1, hl.2.1, hl.2.2.1, hl.2.2.2, l4⟩, e1, d2, e3⟩
theorem rB0.fr {A : Nat → Prop} {h h' : zPH} {m s b c g w hh : Nat} {v : Value} {cl : List Int32} {mi sp : Int32} (P : rB0 h b c g w hh v cl mi sp) (F : yFr A h h' m s) (hd : ∀ x, yIv b 1 x ∨ yIv c 1 x → ¬ A x) : rB0 h' b c g w hh v cl mi sp :=
  ⟨F.bk P.1 (fun x z1 z2 => hd x (Or.inl ⟨z1, z2⟩)), F.bk P.2.1 (fun x z1 z2 => hd x (Or.inr ⟨z1, z2⟩)), P.2.2⟩
