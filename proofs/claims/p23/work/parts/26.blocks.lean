/-! ===== albums, boards: their blocks ===== -/
theorem yIv_up {b k n N a : Nat} (h : yIv (b + k) n a) (hN : k + n ≤ N) : yIv b N a := ⟨by have := h.1; omega, by have := h.2; omega⟩
theorem yFr.up {b k n N m s : Nat} {h h' : zPH} (F : yFr (yIv (b + k) n) h h' m s) (hN : k + n ≤ N) : yFr (yIv b N) h h' m s := F.mono (fun _ _ q => yIv_up q hN) (Nat.le_refl _) (Nat.le_refl _)
theorem yBk.join {h : zPH} {b k : Nat} {ws vs : List zCel} (G : yBk h b ws) (V : yBk h (b + k) vs) (hk : ws.length = k) : yBk h b (ws ++ vs) := by
  have h0 := V.1
  subst hk
  refine ⟨by rw [List.length_append]; omega, fun i c hi => ?_⟩
  by_cases q : i < ws.length
  · rw [List.getElem?_append_left q] at hi
    exact G.2 i c hi
  · rw [List.getElem?_append_right (by omega)] at hi
    have := V.2 _ c hi
    rw [show b + ws.length + (i - ws.length) = b + i by omega] at this
    exact this
theorem yBk.app {h : zPH} {b n : Nat} {ws : List zCel} {c : zCel} (G : yBk h b ws) (e : h.2.1 = b + ws.length) : yBk (zalloc h c n) b (ws ++ [c]) := by
  have h0 := G.1
  refine ⟨?_, fun i d hi => ?_⟩
  · show b + (ws ++ [c]).length ≤ h.2.1 + 1
    rw [List.length_append]
    show b + (ws.length + 1) ≤ _
    omega
  · by_cases q : i < ws.length
    · rw [List.getElem?_append_left q] at hi
      exact zalloc_ne (by omega) (G.2 i d hi)
    · rw [List.getElem?_append_right (by omega)] at hi
      have hi0 : i - ws.length = 0 := by
        cases hq : i - ws.length with
        | zero => rfl
        | succ m => rw [hq] at hi; cases hi
      rw [hi0] at hi
      cases hi
      rw [show b + i = h.2.1 by omega]
      exact zalloc_at
section ZX
variable {E : zEnv} {d j pc : Nat} {L : zLc} {st : List Value} {h : zPH} {Q : zOut → zPH → Prop}
theorem zw_app {b n k : Nat} {ws : List zCel} {c : zCel} (G : yBk h b ws) (e : h.2.1 = b + ws.length) (hk : ws.length = k) (K : ∀ h1, (∀ P, yFr P h h1 1 n) → yBk h1 b (ws ++ [c]) → h1.2.1 = b + (k + 1) → zwp E d j (pc, L, .ref (b + k) :: st, h1) Q) : zwp E d j (pc, L, .ref h.2.1 :: st, zalloc h c n) Q := by
  subst hk
  rw [e]
  exact K _ (fun P => yFr.alloc P h c n) (G.app e) (by show h.2.1 + 1 = _; omega)
theorem zw_new {n a : Nat} {c : zCel} (e : h.2.1 = a) (K : ∀ h1, (∀ P, yFr P h h1 1 n) → yBk h1 a [c] → h1.2.1 = a + 1 → zwp E d j (pc, L, .ref a :: st, h1) Q) : zwp E d j (pc, L, .ref h.2.1 :: st, zalloc h c n) Q := by
  subst e
  refine K _ (fun P => yFr.alloc P h c n) ⟨Nat.le_refl _, fun i c' hi => ?_⟩ rfl
  cases i with
  | zero => cases hi; exact zalloc_at
  | succ i => cases hi
theorem zw_bkX {b k t N : Nat} {ws : List zCel} {vs : List Value} {c : zCel} (G : yBk h b ws) (hk : ws[k]? = some (t, vs)) (ht : t < 96) (hN : ws.length ≤ N) (K : ∀ h1, yFr (yIv b N) h h1 0 0 → yBk h1 b (ws.set k c) → h1.2.1 = h.2.1 → zwp E d j (pc, L, st, h1) Q) : zwp E d j (pc, L, st, zset h (b + k) c) Q := by
  have hl : k < ws.length := by
    rcases Nat.lt_or_ge k ws.length with q | q
    · exact q
    · rw [List.getElem?_eq_none q] at hk; cases hk
  exact K _ (yFr.set (G.2 k _ hk) ht ⟨by omega, by omega⟩) G.set rfl
theorem zw_bkX0 {b t N : Nat} {ws : List zCel} {vs : List Value} {c : zCel} (G : yBk h b ws) (hk : ws[0]? = some (t, vs)) (ht : t < 96) (hN : ws.length ≤ N) (K : ∀ h1, yFr (yIv b N) h h1 0 0 → yBk h1 b (ws.set 0 c) → h1.2.1 = h.2.1 → zwp E d j (pc, L, st, h1) Q) : zwp E d j (pc, L, st, zset h b c) Q := zw_bkX (k := 0) G hk ht hN K
end ZX
/-- an album -/
def aC (a : Nat) (ps lw rw cw dc : List Int32) (sw sh : Nat) (scs scl sfs : List Int32) (ic : Bool) (aw ah am n : Nat) : List zCel := [(2, [.ref (a + 1), .ref (a + 2), .ref (a + 3), .ref (a + 7), .ref (a + 8), .ref (a + 9), .int (zB ic), .int (zJ aw), .int (zJ ah), .int (zJ am), .int (zJ n)]), (64, zis ps), (64, zis lw),
  (1, [.ref (a + 3 + 1), .ref (a + 3 + 2), .ref (a + 3 + 3), .int (zJ sw), .int (zJ sh)]), (64, zis scs), (64, zis scl), (64, zis sfs), (64, zis rw), (64, zis cw), (64, zis dc)]
def yA (h : zPH) (a : Nat) (ps lw rw cw dc : List Int32) (sw sh : Nat) (scs scl sfs : List Int32) (ic : Bool) (aw ah am n : Nat) : Prop := yBk h a (aC a ps lw rw cw dc sw sh scs scl sfs ic aw ah am n) ∧ (ps.length = 500 ∧ lw.length = 10 ∧ rw.length = 5 ∧ cw.length = 30 ∧ dc.length = 25) ∧ ((2 ≤ sw ∧ sw ≤ 5 ∧ 2 ≤ sh ∧ sh ≤ 5) ∧ scs.length = 100 ∧ scl.length = 10 ∧ sfs.length = 10) ∧ (aw ≤ 5 ∧ ah ≤ 5 ∧ am ≤ 500 ∧ n ≤ 500)
section YA
variable {h : zPH} {a : Nat} {ps lw rw cw dc : List Int32} {sw sh : Nat} {scs scl sfs : List Int32} {ic : Bool} {aw ah am n : Nat}
theorem yA.swp (A : yA h a ps lw rw cw dc sw sh scs scl sfs ic aw ah am n) : yG h (a + 3) sw sh scs scl sfs := ⟨A.1.sub 3 (gC (a + 3) sw sh scs scl sfs) rfl (Nat.le_of_ble_eq_true rfl), A.2.2.1⟩
theorem yA.fr {P : Nat → Prop} {h' : zPH} {m s : Nat} (A : yA h a ps lw rw cw dc sw sh scs scl sfs ic aw ah am n) (F : yFr P h h' m s) (hd : ∀ x, a ≤ x → x < a + 10 → ¬ P x) : yA h' a ps lw rw cw dc sw sh scs scl sfs ic aw ah am n := ⟨F.bk A.1 hd, A.2⟩
theorem yA.putSw {h' : zPH} {m s sw' sh' : Nat} {scs' scl' sfs' : List Int32} (A : yA h a ps lw rw cw dc sw sh scs scl sfs ic aw ah am n) (F : yFr (yIv (a + 3) 4) h h' m s) (G : yG h' (a + 3) sw' sh' scs' scl' sfs') : yA h' a ps lw rw cw dc sw' sh' scs' scl' sfs' ic aw ah am n :=
  ⟨A.1.put F (k := 3) (vs := gC (a + 3) sw' sh' scs' scl' sfs') (fun x _ _ q => ⟨q.1, q.2⟩) G.1 rfl (Nat.le_of_ble_eq_true rfl), A.2.1, G.2, A.2.2.2⟩
variable {E : zEnv} {d j pc : Nat} {L : zLc} {st : List Value} {Q : zOut → zPH → Prop}
theorem yA.wps {ps' : List Int32} (A : yA h a ps lw rw cw dc sw sh scs scl sfs ic aw ah am n) (hl : ps'.length = 500) (K : ∀ h1, yFr (yIv a 10) h h1 0 0 → yA h1 a ps' lw rw cw dc sw sh scs scl sfs ic aw ah am n → zwp E d j (pc, L, st, h1) Q) : zwp E d j (pc, L, st, zset h (a + 1) (64, zis ps')) Q :=
  zw_bk A.1 (k := 1) rfl (by omega) fun h1 F G => K h1 F ⟨G, ⟨hl, A.2.1.2⟩, A.2.2⟩
theorem yA.wlw {lw' : List Int32} (A : yA h a ps lw rw cw dc sw sh scs scl sfs ic aw ah am n) (hl : lw'.length = 10) (K : ∀ h1, yFr (yIv a 10) h h1 0 0 → yA h1 a ps lw' rw cw dc sw sh scs scl sfs ic aw ah am n → zwp E d j (pc, L, st, h1) Q) : zwp E d j (pc, L, st, zset h (a + 2) (64, zis lw')) Q :=
  zw_bk A.1 (k := 2) rfl (by omega) fun h1 F G => K h1 F ⟨G, ⟨A.2.1.1, hl, A.2.1.2.2⟩, A.2.2⟩
theorem yA.wrw {rw' : List Int32} (A : yA h a ps lw rw cw dc sw sh scs scl sfs ic aw ah am n) (hl : rw'.length = 5) (K : ∀ h1, yFr (yIv a 10) h h1 0 0 → yA h1 a ps lw rw' cw dc sw sh scs scl sfs ic aw ah am n → zwp E d j (pc, L, st, h1) Q) : zwp E d j (pc, L, st, zset h (a + 7) (64, zis rw')) Q :=
  zw_bk A.1 (k := 7) rfl (by omega) fun h1 F G => K h1 F ⟨G, ⟨A.2.1.1, A.2.1.2.1, hl, A.2.1.2.2.2⟩, A.2.2⟩
theorem yA.wcw {cw' : List Int32} (A : yA h a ps lw rw cw dc sw sh scs scl sfs ic aw ah am n) (hl : cw'.length = 30) (K : ∀ h1, yFr (yIv a 10) h h1 0 0 → yA h1 a ps lw rw cw' dc sw sh scs scl sfs ic aw ah am n → zwp E d j (pc, L, st, h1) Q) : zwp E d j (pc, L, st, zset h (a + 8) (64, zis cw')) Q :=
  zw_bk A.1 (k := 8) rfl (by omega) fun h1 F G => K h1 F ⟨G, ⟨A.2.1.1, A.2.1.2.1, A.2.1.2.2.1, hl, A.2.1.2.2.2.2⟩, A.2.2⟩
theorem yA.wdc {dc' : List Int32} (A : yA h a ps lw rw cw dc sw sh scs scl sfs ic aw ah am n) (hl : dc'.length = 25) (K : ∀ h1, yFr (yIv a 10) h h1 0 0 → yA h1 a ps lw rw cw dc' sw sh scs scl sfs ic aw ah am n → zwp E d j (pc, L, st, h1) Q) : zwp E d j (pc, L, st, zset h (a + 9) (64, zis dc')) Q :=
  zw_bk A.1 (k := 9) rfl (by omega) fun h1 F G => K h1 F ⟨G, ⟨A.2.1.1, A.2.1.2.1, A.2.1.2.2.1, A.2.1.2.2.2.1, hl⟩, A.2.2⟩
theorem yA.wob {ic' : Bool} {aw' ah' am' n' : Nat} (A : yA h a ps lw rw cw dc sw sh scs scl sfs ic aw ah am n) (hl : aw' ≤ 5 ∧ ah' ≤ 5 ∧ am' ≤ 500 ∧ n' ≤ 500) (K : ∀ h1, yFr (yIv a 10) h h1 0 0 → yA h1 a ps lw rw cw dc sw sh scs scl sfs ic' aw' ah' am' n' → zwp E d j (pc, L, st, h1) Q) : zwp E d j (pc, L, st, zset h a (2, [.ref (a + 1), .ref (a + 2), .ref (a + 3), .ref (a + 7), .ref (a + 8), .ref (a + 9), .int (zB ic'), .int (zJ aw'), .int (zJ ah'), .int (zJ am'), .int (zJ n')])) Q :=
  zw_bk A.1 (k := 0) rfl (by omega) fun h1 F G => K h1 F ⟨G, A.2.1, A.2.2.1, hl⟩
end YA
/-- an album whose contents are of no account -/
def yAx (h : zPH) (a : Nat) : Prop := ∃ ps lw rw cw dc sw sh scs scl sfs ic aw ah am n, yA h a ps lw rw cw dc sw sh scs scl sfs ic aw ah am n
