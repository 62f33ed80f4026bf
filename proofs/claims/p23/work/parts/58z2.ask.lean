/-! ===== both sides, what is asked of pictures and lines ===== -/
theorem zbit_m1 {b : Nat} (h : b < 32) : zbit (-1) b = true := by
  have : ∀ k : Fin 32, zbit (-1) k.val = true := by decide
  exact this ⟨b, h⟩
theorem zand1 (y : Int32) : y &&& zJ 1 = zJ 0 ∨ y &&& zJ 1 = zJ 1 := by
  have h1 : ∀ k : Fin 32, zbit (zJ 1) k.val = decide (k.val = 0) := by decide
  cases hb : zbit y 0 with
  | false =>
    refine Or.inl (zbit_ext fun k hk => ?_)
    rw [zbit_and, zbit_0, h1 ⟨k, hk⟩]
    by_cases e : k = 0
    · subst e; rw [hb]; rfl
    · rw [decide_eq_false e, Bool.and_false]
  | true =>
    refine Or.inr (zbit_ext fun k hk => ?_)
    rw [zbit_and, h1 ⟨k, hk⟩]
    by_cases e : k = 0
    · subst e; rw [hb]; rfl
    · rw [decide_eq_false e, Bool.and_false]
/-- the same bit, shifted either way -/
theorem zsh1 (v : Int32) {c : Nat} (hc : c < 32) : (zush v (zJ c) &&& zJ 1) = (v >>> (zJ c &&& 31) &&& zJ 1) := by
  have a1 := zbit_iff v hc
  have a2 := zbits_iff v hc
  rcases zand1 (zush v (zJ c)) with h1 | h1
  · rcases zand1 (v >>> (zJ c &&& 31)) with h2 | h2
    · rw [h1, h2]
    · have h3 := a1.mpr (a2.mp h2)
      rw [h1] at h3
      exact absurd h3 (by decide)
  · have h3 := a2.mpr (a1.mp h1)
    rw [h1, h3]
theorem ztake_at {ps : List Int32} {n j : Nat} (h : j < n) : (ps.take n).getD j 0 = ps.getD j 0 := by
  rw [List.getD_eq_getElem?_getD, List.getD_eq_getElem?_getD, List.getElem?_take, if_pos h]
theorem ztk {ps l : List Int32} (h : ps.take l.length = l) {j : Nat} (hj : j < l.length) : l.getD j 0 = ps.getD j 0 := by
  have := ztake_at (ps := ps) (n := l.length) hj
  rw [h] at this
  exact this
section AK
variable {w hh : Nat} {cs cl fs clr : List Int32} {X : rX4}
theorem rPx_len (hd : 2 ≤ w ∧ w ≤ 5 ∧ 2 ≤ hh ∧ hh ≤ 5) {x0 l : List Int32} (P : rPx w hh x0 clr l) : l.length ≤ 500 := by
  rw [rPx_G hd P, List.length_take]
  exact Nat.min_le_left _ _
/-- the album of a board, when it is looked at -/
theorem yLk_500 (hd : 2 ≤ w ∧ w ≤ 5 ∧ 2 ≤ hh ∧ hh ≤ 5) {x0 : List Int32} (R : zLr w hh cs x0) (hf : ∀ i, i < w + hh → zLn w hh fs clr i) {α : yAS} (I : yAI α) (l1 : α.1.1.length = 500) (l4 : α.1.2.1.length = 10) (l2 : α.1.2.2.1.length = 5) (l3 : α.1.2.2.2.1.length = 30) (cl' : List Int32) {l : List Int32} (P : rPx w hh x0 clr l) :
    (yLk w hh 500 cs cl' fs α).1.1.length = 500 ∧ (yLk w hh 500 cs cl' fs α).2.2.2.2.2.2 = l.length ∧ (yLk w hh 500 cs cl' fs α).1.1.take l.length = l := by
  have hl := rPx_len hd P
  have hn := yLk_n R hd hf (m := 500) (by decide) (by decide) I l1 l4 l2 l3 cl' P
  obtain ⟨h1, -, h3⟩ := yLk_ref R hd hf (m := 500) (by decide) (by decide) I l1 l4 l2 l3 cl' P
  rw [Nat.min_eq_right hl] at hn
  rw [hn, List.take_of_length_le (l := l) hl] at h3
  exact ⟨h1, hn, h3⟩
theorem yLk_dim (m : Nat) (cl' : List Int32) (α : yAS) : (yLk w hh m cs cl' fs α).2.2.2.1 = w ∧ (yLk w hh m cs cl' fs α).2.2.2.2.1 = hh ∧ (yLk w hh m cs cl' fs α).1.2.2.2.2 = α.1.2.2.2.2 := by
  unfold yLk
  split
  · exact ⟨rfl, rfl, rfl⟩
  · exact ⟨rfl, rfl, rfl⟩
theorem ypn_l {ps l : List Int32} (h : ps.take l.length = l) (k : Nat) : ypn ps l.length k = if k < l.length then l.getD k 0 else -1 := by
  rw [ypn]
  split
  · rename_i q
    exact (ztk h q).symm
  · rfl
theorem yal_bit {ps : List Int32} (n : Nat) {b : Nat} (hb : b < 32) : (zbit (yal ps n).1 b = true ↔ ∀ j, j < n → zbit (ps.getD j 0) b = true) ∧ (zbit (yal ps n).2 b = false ↔ ∀ j, j < n → zbit (ps.getD j 0) b = false) := by
  induction n with
  | zero => exact ⟨⟨fun _ j hj => absurd hj (Nat.not_lt_zero j), fun _ => zbit_m1 hb⟩, ⟨fun _ j hj => absurd hj (Nat.not_lt_zero j), fun _ => zbit_0 b⟩⟩
  | succ n ih =>
    obtain ⟨i1, i2⟩ := ih
    rw [yal]
    refine ⟨?_, ?_⟩
    · rw [zbit_and, Bool.and_eq_true, i1]
      constructor
      · rintro ⟨h1, h2⟩ j hj
        rcases Nat.lt_or_ge j n with z | z
        · exact h1 j z
        · obtain rfl : j = n := by omega
          exact h2
      · exact fun h => ⟨fun j hj => h j (by omega), h n (by omega)⟩
    · rw [zbit_or, Bool.or_eq_false_iff, i2]
      constructor
      · rintro ⟨h1, h2⟩ j hj
        rcases Nat.lt_or_ge j n with z | z
        · exact h1 j z
        · obtain rfl : j = n := by omega
          exact h2
      · exact fun h => ⟨fun j hj => h j (by omega), h n (by omega)⟩
theorem rsl2_bit {l : List Int32} (n : Nat) {b : Nat} (hb : b < 32) : (zbit (rsl2 l (-1) n).1 b = true ↔ ∀ j, j < n → zbit (l.getD j 0) b = true) ∧ (zbit (rsl2 l (-1) n).2 b = true ↔ ∀ j, j < n → zbit (l.getD j 0) b = false) := by
  induction n with
  | zero => exact ⟨⟨fun _ j hj => absurd hj (Nat.not_lt_zero j), fun _ => zbit_m1 hb⟩, ⟨fun _ j hj => absurd hj (Nat.not_lt_zero j), fun _ => zbit_m1 hb⟩⟩
  | succ n ih =>
    obtain ⟨i1, i2⟩ := ih
    rw [rsl2]
    refine ⟨?_, ?_⟩
    · rw [zbit_and, Bool.and_eq_true, i1]
      constructor
      · rintro ⟨h1, h2⟩ j hj
        rcases Nat.lt_or_ge j n with z | z
        · exact h1 j z
        · obtain rfl : j = n := by omega
          exact h2
      · exact fun h => ⟨fun j hj => h j (by omega), h n (by omega)⟩
    · rw [zbit_and, Bool.and_eq_true, i2, zbit_not _ _ hb, Bool.not_eq_true']
      constructor
      · rintro ⟨h1, h2⟩ j hj
        rcases Nat.lt_or_ge j n with z | z
        · exact h1 j z
        · obtain rfl : j = n := by omega
          exact h2
      · exact fun h => ⟨fun j hj => h j (by omega), h n (by omega)⟩
theorem zus_bit {b : Nat} (hb : b < 32) (k : Nat) (hk : k ≤ 25) : zbit (zus cs k) b = true ↔ b < k ∧ zst cs b = 0 := by
  induction k with
  | zero =>
    rw [zus, zbit_0]
    exact ⟨fun h => Bool.noConfusion h, fun h => absurd h.1 (Nat.not_lt_zero b)⟩
  | succ k ih =>
    rw [zus]
    split
    · rename_i q
      rw [zbit_or, Bool.or_eq_true, ih (by omega), zbit_sh1 (by omega) hb, decide_eq_true_iff]
      constructor
      · rintro (h | rfl)
        · exact ⟨by omega, h.2⟩
        · exact ⟨by omega, q⟩
      · rintro ⟨h1, h2⟩
        rcases Nat.lt_or_ge b k with z | z
        · exact Or.inl ⟨z, h2⟩
        · exact Or.inr (by omega)
    · rename_i q
      rw [ih (by omega)]
      constructor
      · exact fun h => ⟨by omega, h.2⟩
      · rintro ⟨h1, h2⟩
        rcases Nat.lt_or_ge b k with z | z
        · exact ⟨z, h2⟩
        · obtain rfl : b = k := by omega
          exact absurd h2 q
theorem rsb_bit {x0 : List Int32} {m : Int32} {b : Nat} (hb : b < 32) (k : Nat) (hk : k ≤ 25) : zbit (rsb x0 m k) b = true ↔ b < k ∧ x0.getD b 0 = 0 ∧ zbit m b = true := by
  induction k with
  | zero =>
    rw [rsb, zbit_0]
    exact ⟨fun h => Bool.noConfusion h, fun h => absurd h.1 (Nat.not_lt_zero b)⟩
  | succ k ih =>
    rw [rsb, zbit_or, Bool.or_eq_true, ih (by omega)]
    split
    · rename_i q
      rw [zbit_sh1 (by omega) hb, decide_eq_true_iff]
      constructor
      · rintro (h | rfl)
        · exact ⟨by omega, h.2⟩
        · exact ⟨by omega, q⟩
      · rintro ⟨h1, h2⟩
        rcases Nat.lt_or_ge b k with z | z
        · exact Or.inl ⟨z, h2⟩
        · exact Or.inr (by omega)
    · rename_i q
      rw [zbit_0]
      constructor
      · rintro (h | h)
        · exact ⟨by omega, h.2⟩
        · cases h
      · rintro ⟨h1, h2⟩
        rcases Nat.lt_or_ge b k with z | z
        · exact Or.inl ⟨z, h2⟩
        · obtain rfl : b = k := by omega
          exact absurd h2 q
theorem zset_rse (hd : 2 ≤ w ∧ w ≤ 5 ∧ 2 ≤ hh ∧ hh ≤ 5) {x0 : List Int32} (R : zLr w hh cs x0) {ps l : List Int32} (h : ps.take l.length = l) : yas ps l.length &&& zus cs (w * hh) = rse w hh x0 l := by
  have h25 := (zwh_b hd).2
  refine zbit_ext fun b hb => ?_
  have key : zbit (yas ps l.length &&& zus cs (w * hh)) b = true ↔ zbit (rse w hh x0 l) b = true := by
    rw [zbit_and, Bool.and_eq_true, zus_bit hb _ h25, rse, rsb_bit hb _ h25]
    by_cases q : l.length = 0
    · rw [if_pos q, q]
      constructor
      · rintro ⟨h1, -⟩
        rw [yas, if_pos rfl, zbit_0] at h1
        cases h1
      · rintro ⟨-, -, h1⟩
        rw [show (rsl2 l (zJ 0) 0).1 ||| (rsl2 l (zJ 0) 0).2 = zJ 0 ||| zJ 0 from rfl, zbit_or, zbit_0] at h1
        cases h1
    · have hp : ∀ j, j < l.length → l.getD j 0 = ps.getD j 0 := fun j hj => ztk h hj
      obtain ⟨y1, y2⟩ := yal_bit (ps := ps) l.length hb
      obtain ⟨r1, r2⟩ := rsl2_bit (l := l) l.length hb
      have e1 : zbit (yas ps l.length) b = true ↔ zbit ((rsl2 l (-1) l.length).1 ||| (rsl2 l (-1) l.length).2) b = true := by
        rw [yas, if_neg q, zbit_or, zbit_or, Bool.or_eq_true, Bool.or_eq_true, zbit_not _ _ hb, Bool.not_eq_true', y1, y2, r1, r2]
        constructor
        · rintro (z | z)
          · exact Or.inl fun j hj => by rw [hp j hj]; exact z j hj
          · exact Or.inr fun j hj => by rw [hp j hj]; exact z j hj
        · rintro (z | z)
          · exact Or.inl fun j hj => by rw [← hp j hj]; exact z j hj
          · exact Or.inr fun j hj => by rw [← hp j hj]; exact z j hj
      rw [if_neg q, e1]
      constructor
      · rintro ⟨h1, h2, h3⟩
        exact ⟨h2, by rw [← R b h2]; exact h3, h1⟩
      · rintro ⟨h2, h3, h1⟩
        exact ⟨h1, h2, by rw [R b h2]; exact h3⟩
  cases h1 : zbit (yas ps l.length &&& zus cs (w * hh)) b with
  | true => exact (key.mp h1).symm
  | false =>
    cases h2 : zbit (rse w hh x0 l) b with
    | false => rfl
    | true => rw [key.mpr h2] at h1; cases h1
theorem zbl_rbk (hd : 2 ≤ w ∧ w ≤ 5 ∧ 2 ≤ hh ∧ hh ≤ 5) {x0 : List Int32} (R : zLr w hh cs x0) (hf : ∀ i, i < w + hh → zLn w hh fs clr i) (k : Nat) (hk : k ≤ w + hh) : zbl w hh cs fs k = rbk w hh x0 clr k := by
  induction k with
  | zero => rfl
  | succ k ih =>
    have h0 := zws_0 R hd (show k < w + hh by omega) (hf k (by omega))
    rw [zbl, rbk, ih (by omega)]
    by_cases q : rcw w hh x0 clr k = 0
    · rw [if_pos (h0.mpr q), if_pos q]
    · rw [if_neg (fun z => q (h0.mp z)), if_neg q]
theorem zol_eq (K : zxK w hh cl fs clr) (k : Nat) (hk : k ≤ w + hh) : zol cl k = zol clr k := by
  induction k with
  | zero => rfl
  | succ k ih => rw [zol, zol, ih (by omega), (K.2.2.2 k (by omega)).1]
/-- a board, as it is now -/
theorem zob_rob (hd : 2 ≤ w ∧ w ≤ 5 ∧ 2 ≤ hh ∧ hh ≤ 5) (C : zCX w hh cs X) (K : zxK w hh cl fs clr) {A : yAS} {l : List Int32} (hn : A.2.2.2.2.2.2 = l.length) (hp : A.1.1.take l.length = l) {α : yAS} (hA : yLk w hh 500 cs cl fs α = A) (gu : Nat) (mi sp : Int32) {t : Nat} (ht : t < 11) : (if t = 7 ∨ t = 10 then yoa w hh cs cl fs α t else yob w hh cs cl fs gu mi sp t) = rob w hh X.1 clr gu mi sp l t := by
  have e2 := zct_rcc C.1.lr (zJ 0) (w * hh) (Nat.le_refl _)
  have e3 := zct_rcc C.1.lr (zJ 1) (w * hh) (Nat.le_refl _)
  have e4 := zbl_rbk hd C.1.lr K.ln (w + hh) (Nat.le_refl _)
  have e8 := zol_eq K (w + hh) (Nat.le_refl _)
  have e10 := zset_rse hd C.1.lr hp
  unfold yoa yob rob
  rw [hA, hn, e2, e3, e4, e8, e10]
  rcases (show t = 0 ∨ t = 1 ∨ t = 2 ∨ t = 3 ∨ t = 4 ∨ t = 5 ∨ t = 6 ∨ t = 7 ∨ t = 8 ∨ t = 9 ∨ t = 10 by omega) with rfl | rfl | rfl | rfl | rfl | rfl | rfl | rfl | rfl | rfl | rfl <;> rfl
/-! ### how likely -/
theorem ydk_rdn {ps l : List Int32} (h : ps.take l.length = l) {c : Nat} (hc : c < 32) (n : Nat) (hn : n ≤ l.length) : ydk ps c n = rdn l (zJ c) n := by
  induction n with
  | zero => rfl
  | succ n ih =>
    have e : l.getD n 0 = ps.getD n 0 := ztk h (by omega)
    rw [ydk, rdn, ih (by omega), e, zsh1 _ hc]
theorem ych_rch (hd : 2 ≤ w ∧ w ≤ 5 ∧ 2 ≤ hh ∧ hh ≤ 5) {A : yAS} (I : yAI A) (hw : A.2.2.2.1 = w ∧ A.2.2.2.2.1 = hh) (hl : A.1.2.2.2.2.length = 25) {l : List Int32} (hn : A.2.2.2.2.2.2 = l.length) (hp : A.1.1.take l.length = l) {c : Nat} (hc : c < w * hh) : ych A c = rch l (zJ c) := by
  have h25 := (zwh_b hd).2
  unfold ych rch
  rw [hn]
  split
  · rfl
  · rcases I with I | ⟨_, _, _, _, _, -, -, -, -, -, -, I⟩
    · omega
    · have e : (yCd A).1.2.2.2.2.getD c 0 = rdn l (zJ c) l.length := by
        rw [← ydk_rdn hp (show c < 32 by omega) l.length (Nat.le_refl _), ← hn]
        exact ycd_at hl (by rw [hw.1, hw.2]; exact h25) I c (by rw [hw.1, hw.2]; exact hc)
      rw [e]
/-! ### where to look; how loose -/
theorem zfl_sz (hd : 2 ≤ w ∧ w ≤ 5 ∧ 2 ≤ hh ∧ hh ≤ 5) {x0 : List Int32} (R : zLr w hh cs x0) {i : Nat} (hi : i < w + hh) (hf : zLn w hh fs clr i) : zbc (yfl w hh cs (zws w hh cs fs i) i (zJ 1)) + zbc (yfl w hh cs (zws w hh cs fs i) i (zJ 2)) = rsz (rfo w hh x0 clr i true ||| rfo w hh x0 clr i false) := by
  have hln := yln_b i hd
  have e1 := yfl_rfo R hd hi hf true
  have e2 := yfl_rfo R hd hi hf false
  rw [show mdk true = zJ 1 from rfl] at e1
  rw [show mdk false = zJ 2 from rfl] at e2
  rw [e1, e2]
  refine zbc_rsz (fun p hp => ?_) (fun p hp => ?_) (fun p hp hq => ?_)
  · have := (rfo_bit hln.2 hp).1; omega
  · have := (rfo_bit hln.2 hp).1; omega
  · have hp32 := zbit_lt hp
    obtain ⟨⟨n0, hn0, hr0⟩, -, h3, -⟩ := (rfo_iff true hln.2 hp32).mp hp
    obtain ⟨-, -, h4, -⟩ := (rfo_iff false hln.2 hp32).mp hq
    exact Bool.noConfusion ((h3 n0 hn0 hr0).symm.trans (h4 n0 hn0 hr0))
theorem zhn_rhn (hd : 2 ≤ w ∧ w ≤ 5 ∧ 2 ≤ hh ∧ hh ≤ 5) {x0 : List Int32} (R : zLr w hh cs x0) (hf : ∀ i, i < w + hh → zLn w hh fs clr i) (k : Nat) (hk : k ≤ w + hh) : zhn w hh cs fs k = rhn w hh x0 clr k := by
  induction k with
  | zero => rfl
  | succ k ih => rw [zhn, rhn, zfl_sz hd R (show k < w + hh by omega) (hf k (by omega)), ih (by omega)]
theorem zui_rui {x0 : List Int32} (R : zLr w hh cs x0) {i : Nat} (hi : i < w + hh) (k : Nat) (hk : k ≤ yln w hh i) : zui w hh cs i k = rui w hh x0 i k := by
  induction k with
  | zero => rfl
  | succ k ih => rw [zui, rui, R _ (ycl_b hi (show k < yln w hh i by omega)), ih (by omega)]
theorem yls_rls (hd : 2 ≤ w ∧ w ≤ 5 ∧ 2 ≤ hh ∧ hh ≤ 5) {x0 : List Int32} (R : zLr w hh cs x0) (hf : ∀ i, i < w + hh → zLn w hh fs clr i) (k : Nat) (hk : k ≤ w + hh) : yls w hh cs fs k = rls w hh x0 clr k := by
  induction k with
  | zero => rfl
  | succ k ih => rw [yls, rls, ih (by omega), zbc_ws R hd (show k < w + hh by omega) (hf k (by omega)), zui_rui R (show k < w + hh by omega) _ (Nat.le_refl _)]
theorem ylo_rlo (hd : 2 ≤ w ∧ w ≤ 5 ∧ 2 ≤ hh ∧ hh ≤ 5) {x0 : List Int32} (R : zLr w hh cs x0) (hf : ∀ i, i < w + hh → zLn w hh fs clr i) : ylo w hh cs fs = rlo w hh x0 clr := by
  unfold ylo rlo
  rw [yls_rls hd R hf _ (Nat.le_refl _)]
end AK
