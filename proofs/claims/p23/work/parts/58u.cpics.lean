/-! ===== the class's pictures are all pictures in their order ===== -/
theorem ztake_set {l : List Int32} {n : Nat} {x : Int32} (h : n < l.length) : (l.set n x).take (n + 1) = l.take n ++ [x] := by
  rw [List.take_succ, List.getElem?_set_self h, List.take_set_of_le (Nat.le_refl n)]
  rfl
theorem zDA_all (a : Int32) {p : Nat} (hp : p < 5) : a &&& (zDA p ^^^ (-1)) = 0 ↔ ∀ v, v < 32 → zbit a v = true → v.testBit p = true := by
  have h := zag_iff a true hp
  rw [zag, if_pos (show mdk true = zJ 1 from rfl)] at h
  exact h
theorem zDA_none (a : Int32) {p : Nat} (hp : p < 5) : a &&& zDA p = 0 ↔ ∀ v, v < 32 → zbit a v = true → v.testBit p = false := by
  have h := zag_iff a false hp
  rw [zag, if_neg (show ¬ mdk false = zJ 1 by decide)] at h
  exact h
theorem yag_iff {rw cw : List Int32} {l r n : Nat} (hn : n < 32) (hr : r < 5) (k : Nat) (hk : k ≤ 5) : zbit (yag rw cw l r k) n = true ↔ zbit (rw.getD r 0) n = true ∧ ∀ c, c < k → ((∀ v, v < 32 → zbit (cw.getD (l * 5 + c) 0) v = true → v.testBit r = true) → n.testBit c = true) ∧ ((∀ v, v < 32 → zbit (cw.getD (l * 5 + c) 0) v = true → v.testBit r = false) → n.testBit c = false) := by
  induction k with
  | zero => exact ⟨fun h => ⟨h, fun c hc => absurd hc (Nat.not_lt_zero c)⟩, fun h => h.1⟩
  | succ k ih =>
    have hk5 : k < 5 := by omega
    have key : zbit (yag rw cw l r (k + 1)) n = true ↔ zbit (yag rw cw l r k) n = true ∧ (cw.getD (l * 5 + k) 0 &&& (zDA r ^^^ (-1)) = 0 → n.testBit k = true) ∧ (cw.getD (l * 5 + k) 0 &&& zDA r = 0 → n.testBit k = false) := by
      rw [yag]
      by_cases q1 : cw.getD (l * 5 + k) 0 &&& (zDA r ^^^ (-1)) = 0
      · rw [if_pos q1]
        by_cases q2 : cw.getD (l * 5 + k) 0 &&& zDA r = 0
        · rw [if_pos q2, zbit_and, zbit_and, zbit_not _ _ hn, zbit_DA hn hk5]
          constructor
          · intro h
            cases hz : n.testBit k <;> rw [hz] at h <;> simp at h
          · rintro ⟨-, h1, h2⟩
            rw [h1 q1] at h2
            cases h2 q2
        · rw [if_neg q2, zbit_and, zbit_DA hn hk5, Bool.and_eq_true]
          exact ⟨fun h => ⟨h.1, fun _ => h.2, fun z => absurd z q2⟩, fun h => ⟨h.1, h.2.1 q1⟩⟩
      · rw [if_neg q1]
        by_cases q2 : cw.getD (l * 5 + k) 0 &&& zDA r = 0
        · rw [if_pos q2, zbit_and, zbit_not _ _ hn, zbit_DA hn hk5, Bool.and_eq_true, Bool.not_eq_true']
          exact ⟨fun h => ⟨h.1, fun z => absurd z q1, fun _ => h.2⟩, fun h => ⟨h.1, h.2.2 q2⟩⟩
        · rw [if_neg q2]
          exact ⟨fun h => ⟨h, fun z => absurd z q1, fun z => absurd z q2⟩, fun h => h.1⟩
    rw [key, ih (by omega), zDA_all _ hr, zDA_none _ hr]
    constructor
    · rintro ⟨⟨h1, h2⟩, h3⟩
      refine ⟨h1, fun c hc => ?_⟩
      rcases Nat.lt_or_ge c k with z | z
      · exact h2 c z
      · obtain rfl : c = k := by omega
        exact h3
    · exact fun h => ⟨⟨h.1, fun c hc => h.2 c (by omega)⟩, h.2 k (by omega)⟩
theorem ynr_lo {y : Int32} {r : Nat} {cw : List Int32} (k i : Nat) (hi : i < (r + 1) * 5) : (ynr y r cw k).getD i 0 = cw.getD i 0 := by
  induction k with
  | zero => rfl
  | succ k ih => rw [ynr, zgetD_ne (by omega)]; exact ih
theorem ynr_at {y : Int32} {r : Nat} {cw : List Int32} (k : Nat) (hl : (r + 1) * 5 + k ≤ cw.length) (hk : k ≤ 5) (c : Nat) (hc : c < k) : (ynr y r cw k).getD ((r + 1) * 5 + c) 0 = cw.getD (r * 5 + c) 0 &&& (if zbit y c = true then zDA r else (zDA r ^^^ (-1))) := by
  induction k with
  | zero => omega
  | succ k ih =>
    rw [ynr]
    by_cases e : c = k
    · subst e
      rw [zgetD_eq (by rw [ynr_len]; omega), ynr_lo c (r * 5 + c) (by omega)]
    · rw [zgetD_ne (by omega)]
      exact ih (by omega) (by omega) (by omega)
theorem ycg_no {aw : Nat} {rw cw : List Int32} {l k : Nat} (h : ycg aw rw cw l k = false) : ∃ j, j < k ∧ yag rw cw l (l + j) aw = 0 := by
  induction k with
  | zero => cases h
  | succ k ih =>
    rw [ycg, Bool.and_eq_false_iff] at h
    rcases h with h | h
    · obtain ⟨j, h1, h2⟩ := ih h
      exact ⟨j, by omega, h2⟩
    · exact ⟨k, by omega, by simpa using h⟩
theorem ycg_yes {aw : Nat} {rw cw : List Int32} {l k : Nat} (h : ycg aw rw cw l k = true) (j : Nat) (hj : j < k) : ¬ yag rw cw l (l + j) aw = 0 := by
  induction k with
  | zero => omega
  | succ k ih =>
    rw [ycg, Bool.and_eq_true] at h
    rcases Nat.lt_or_ge j k with z | z
    · exact ih h.1 z
    · obtain rfl : j = k := by omega
      simpa using h.2
/-- what columns may still be, r rows laid -/
def zxV (w hh : Nat) (Wy : Nat → Int32) (r : Nat) (x : Int32) (cw : List Int32) : Prop := ∀ c, c < w → ∀ n, n < 32 → (zbit (cw.getD (r * 5 + c) 0) n = true ↔ zbit (Wy (hh + c)) n = true ∧ ∀ j, j < r → n.testBit j = zbit x (j * w + c))
section CP
variable {w hh am : Nat} {rw0 : List Int32} {Wy : Nat → Int32}
theorem zcompl (hd : 2 ≤ w ∧ w ≤ 5 ∧ 2 ≤ hh ∧ hh ≤ 5) (hW : ∀ r, r < hh → rw0.getD r 0 = Wy r) {r : Nat} {x X : Int32} {cw : List Int32} (V : zxV w hh Wy r x cw) (hX : zag2 (r * w) X x) (hC : zxC w hh (fun i n => zbit (Wy i) n) X = true) (hrl : r ≤ hh) {r' : Nat} (hr : r' < hh) : zbit (yag rw0 cw r r' w) (zpa w hh X r') = true := by
  have h1 := zxC_iff.mp hC
  have l1 := zpa_lt w hh X r'
  rw [yln_r hr] at l1
  have p5 := zpow5 hd.2.1
  have q5 := zpow5 hd.2.2.2
  refine (yag_iff (by omega) (by omega) w hd.2.1).mpr ⟨by rw [hW r' hr]; exact h1 r' (by omega), fun c hc => ?_⟩
  have l2 := zpa_lt w hh X (hh + c)
  rw [yln_c] at l2
  have hcl : ∀ j, j < hh → (zpa w hh X (hh + c)).testBit j = zbit X (j * w + c) := fun j hj => by rw [zpa_bit (by rw [yln_c]; exact hj), ycl_c]
  have hb : zbit (cw.getD (r * 5 + c) 0) (zpa w hh X (hh + c)) = true := by
    refine (V c hc _ (by omega)).mpr ⟨h1 (hh + c) (by omega), fun j hj => ?_⟩
    rw [hcl j (by omega)]
    exact hX _ (zmul5 hj hc)
  have hrow : (zpa w hh X r').testBit c = zbit X (r' * w + c) := by rw [zpa_bit (by rw [yln_r hr]; exact hc), ycl_r hr]
  have hcr := hcl r' hr
  exact ⟨fun h => by rw [hrow, ← hcr]; exact h _ (by omega) hb, fun h => by rw [hrow, ← hcr]; exact h _ (by omega) hb⟩
theorem zxV.next (hd : 2 ≤ w ∧ w ≤ 5 ∧ 2 ≤ hh ∧ hh ≤ 5) {r k : Nat} {x : Int32} {cw : List Int32} (V : zxV w hh Wy r x cw) (hr : r < hh) (hk : k < 2 ^ w) (hl : cw.length = 30) (hx : ∀ p, r * w ≤ p → zbit x p = false) : zxV w hh Wy (r + 1) (zrx w r x k) (ynr (zJ k) r cw w) := by
  have h25 : (r + 1) * w ≤ 25 := Nat.le_trans (Nat.mul_le_mul_right w (show r + 1 ≤ 5 by omega)) (by omega)
  have e3 : (r + 1) * w = r * w + w := Nat.succ_mul r w
  intro c hc n hn
  rw [ynr_at w (by omega) hd.2.1 c hc, zbit_and, Bool.and_eq_true, V c hc n hn]
  have hb : zbit (if zbit (zJ k) c = true then zDA r else (zDA r ^^^ (-1))) n = true ↔ n.testBit r = k.testBit c := by
    rw [zbit_J k c (by omega)]
    cases hz : k.testBit c with
    | true => rw [if_pos rfl, zbit_DA hn (by omega)]
    | false =>
      rw [if_neg (by decide), zbit_not _ _ hn, zbit_DA hn (by omega)]
      cases n.testBit r <;> decide
  rw [hb]
  have hrow : zbit (zrx w r x k) (r * w + c) = k.testBit c := zrx_row hx (by omega)
  constructor
  · rintro ⟨⟨h1, h2⟩, h3⟩
    refine ⟨h1, fun j hj => ?_⟩
    rcases Nat.lt_or_ge j r with z | z
    · have := zmul5 z hc
      rw [h2 j z, zrx_lo this (by omega)]
    · obtain rfl : j = r := by omega
      rw [h3, hrow]
  · rintro ⟨h1, h2⟩
    refine ⟨⟨h1, fun j hj => ?_⟩, by rw [h2 r (by omega), hrow]⟩
    have := zmul5 hj hc
    rw [h2 j (by omega), zrx_lo this (by omega)]
theorem zrow_lo {r k : Nat} {x : Int32} (h25 : r * w ≤ 25) (hr : r ≤ hh) {j : Nat} (hj : j < r) : zpa w hh (zrx w r x k) j = zpa w hh x j := by
  have hjh : j < hh := by omega
  refine (zpa_eq (zpa_lt w hh _ j) fun p hp => ?_)
  rw [zpa_bit hp, ycl_r hjh]
  rw [yln_r hjh] at hp
  exact zrx_lo (zmul5 hj hp) (by omega)
theorem zrow_at {r k : Nat} {x : Int32} (h25 : (r + 1) * w ≤ 25) (hr : r < hh) (hk : k < 2 ^ w) (hx : ∀ p, r * w ≤ p → zbit x p = false) : zpa w hh (zrx w r x k) r = k := by
  have e3 : (r + 1) * w = r * w + w := Nat.succ_mul r w
  refine (zpa_eq (by rw [yln_r hr]; exact hk) fun p hp => ?_).symm
  rw [ycl_r hr]
  rw [yln_r hr] at hp
  exact (zrx_row hx (by omega)).symm
/-- a set all of whose rows and columns are ways -/
theorem zleaf (hd : 2 ≤ w ∧ w ≤ 5 ∧ 2 ≤ hh ∧ hh ≤ 5) (hlt : ∀ i n, i < w + hh → zbit (Wy i) n = true → n < 2 ^ yln w hh i) {x : Int32} (hrow : ∀ j, j < hh → zbit (Wy j) (zpa w hh x j) = true) (hcol : ∀ c, c < w → ∃ n, zbit (Wy (hh + c)) n = true ∧ ∀ j, j < hh → n.testBit j = zbit x (j * w + c)) : zxC w hh (fun i n => zbit (Wy i) n) x = true := by
  refine zxC_iff.mpr fun i hi => ?_
  rcases Nat.lt_or_ge i hh with z | z
  · exact hrow i z
  · obtain ⟨c, rfl⟩ : ∃ c, i = hh + c := ⟨i - hh, by omega⟩
    obtain ⟨n, h1, h2⟩ := hcol c (by omega)
    have e : n = zpa w hh x (hh + c) := zpa_eq (hlt _ _ hi h1) fun p hp => by
      rw [yln_c] at hp
      rw [ycl_c]
      exact h2 p hp
    rw [← e]
    exact h1
/-- what the search keeps -/
def zxI (w hh : Nat) (Wy : Nat → Int32) (r : Nat) (x : Int32) (cw : List Int32) : Prop := zxV w hh Wy r x cw ∧ (∀ c, c < w → ¬ cw.getD (r * 5 + c) 0 = 0) ∧ (∀ j, j < r → zbit (Wy j) (zpa w hh x j) = true) ∧ ∀ p, r * w ≤ p → zbit x p = false
theorem zxI.next (hd : 2 ≤ w ∧ w ≤ 5 ∧ 2 ≤ hh ∧ hh ≤ 5) (hW : ∀ r, r < hh → rw0.getD r 0 = Wy r) {r k : Nat} {x : Int32} {cw : List Int32} (I : zxI w hh Wy r x cw) (hr : r < hh) (hk : k < 2 ^ w) (hl : cw.length = 30) (hy : zbit (yag rw0 cw r r w) k = true) : zxI w hh Wy (r + 1) (zrx w r x k) (ynr (zJ k) r cw w) := by
  have p5 := zpow5 hd.2.1
  have h25 : (r + 1) * w ≤ 25 := Nat.le_trans (Nat.mul_le_mul_right w (show r + 1 ≤ 5 by omega)) (by omega)
  have e3 : (r + 1) * w = r * w + w := Nat.succ_mul r w
  obtain ⟨V, hz, hrw, hx⟩ := I
  obtain ⟨y1, y2⟩ := (yag_iff (by omega) (by omega) w hd.2.1).mp hy
  refine ⟨V.next hd hr hk hl hx, fun c hc => ?_, fun j hj => ?_, zrx_hi hx hk h25⟩
  · rw [ynr_at w (by omega) hd.2.1 c hc, zbit_J k c (by omega)]
    obtain ⟨y3, y4⟩ := y2 c hc
    intro e
    cases hz2 : k.testBit c with
    | true =>
      rw [hz2, if_pos rfl, zDA_none _ (by omega)] at e
      rw [y4 e] at hz2
      cases hz2
    | false =>
      rw [hz2, if_neg (by decide), zDA_all _ (by omega)] at e
      rw [y3 e] at hz2
      cases hz2
  · rcases Nat.lt_or_ge j r with z | z
    · rw [zrow_lo (by omega) (by omega) z]
      exact hrw j z
    · obtain rfl : j = r := by omega
      rw [zrow_at h25 hr hk hx, ← hW j hr]
      exact y1
/-- nothing is found below what is not looked into -/
theorem zxno (hd : 2 ≤ w ∧ w ≤ 5 ∧ 2 ≤ hh ∧ hh ≤ 5) (hW : ∀ r, r < hh → rw0.getD r 0 = Wy r) {m r : Nat} {x : Int32} {cw : List Int32} (V : zxV w hh Wy r x cw) (hm : r + m = hh) {r' : Nat} (hr : r' < hh) (hno : ∀ X, zag2 (r * w) X x → zbit (yag rw0 cw r r' w) (zpa w hh X r') = false) : zxG w (zxC w hh (fun i n => zbit (Wy i) n)) m r x = [] := by
  refine zxG_nil m r x (by rw [hm]; exact Nat.le_trans (Nat.mul_le_mul hd.2.2.2 hd.2.1) (by omega)) fun X hX => ?_
  cases hc : zxC w hh (fun i n => zbit (Wy i) n) X with
  | false => rfl
  | true =>
    have := zcompl hd hW V hX hc (by omega) hr
    rw [hno X hX] at this
    cases this
/-- what the search comes to -/
theorem yLy_G (hd : 2 ≤ w ∧ w ≤ 5 ∧ 2 ≤ hh ∧ hh ≤ 5) (ham : am ≤ 500) (hW : ∀ r, r < hh → rw0.getD r 0 = Wy r) (hlt : ∀ i n, i < w + hh → zbit (Wy i) n = true → n < 2 ^ yln w hh i) (m : Nat) : ∀ (r f : Nat) (x : Int32) (s : yLs), r + m = hh → m ≤ f → s.1.length = 500 → s.2.1.length = 30 → s.2.2 < am → zxI w hh Wy r x s.2.1 →
    (yLy w hh am rw0 f r x s).1.length = 500 ∧ (yLy w hh am rw0 f r x s).2.1.length = 30 ∧ (yLy w hh am rw0 f r x s).2.2 ≤ am ∧ (∀ i, i < (r + 1) * 5 → (yLy w hh am rw0 f r x s).2.1.getD i 0 = s.2.1.getD i 0) ∧
    (yLy w hh am rw0 f r x s).1.take (yLy w hh am rw0 f r x s).2.2 = (s.1.take s.2.2 ++ zxG w (zxC w hh (fun i n => zbit (Wy i) n)) m r x).take am := by
  induction m with
  | zero =>
    intro r f x s hm _ l1 l2 hn I
    obtain rfl : r = hh := by omega
    have hleaf : yLy w r am rw0 f r x s = yadd x s := by
      cases f with
      | zero => rfl
      | succ f => rw [yLy, if_pos (Nat.le_refl r)]
    have hC : zxC w r (fun i n => zbit (Wy i) n) x = true := by
      refine zleaf hd hlt I.2.2.1 fun c hc => ?_
      obtain ⟨n, hn1, hn2⟩ := zbit_ne (I.2.1 c hc)
      exact ⟨n, (I.1 c hc n hn1).mp hn2⟩
    rw [hleaf, zxG, if_pos hC, yadd, if_neg (by omega)]
    refine ⟨by rw [List.length_set]; exact l1, l2, by show s.2.2 + 1 ≤ am; omega, fun _ _ => rfl, ?_⟩
    show (s.1.set s.2.2 x).take (s.2.2 + 1) = _
    rw [ztake_set (by omega), List.take_of_length_le (l := s.1.take s.2.2 ++ [x])]
    rw [List.length_append, List.length_take]
    show _ + 1 ≤ am
    omega
  | succ m ih =>
    intro r f x s hm hf l1 l2 hn I
    obtain ⟨f, rfl⟩ : ∃ g, f = g + 1 := ⟨f - 1, by omega⟩
    have hr : r < hh := by omega
    have h25 : (r + 1) * w ≤ 25 := Nat.le_trans (Nat.mul_le_mul_right w (show r + 1 ≤ 5 by omega)) (by omega)
    have p5 := zpow5 hd.2.1
    rw [yLy, if_neg (by omega), zxG]
    have key : ∀ j, j ≤ 2 ^ w → ∀ t, t = yLp (yst w hh am rw0 (yLy w hh am rw0 f (r + 1)) r x (yag rw0 s.2.1 r r w)) j s →
        t.1.length = 500 ∧ t.2.1.length = 30 ∧ t.2.2 ≤ am ∧ (∀ i, i < (r + 1) * 5 → t.2.1.getD i 0 = s.2.1.getD i 0) ∧ t.1.take t.2.2 = (s.1.take s.2.2 ++ zxL (fun n => zxG w (zxC w hh (fun i n => zbit (Wy i) n)) m (r + 1) (zrx w r x n)) j).take am := by
      intro j
      induction j with
      | zero =>
        intro _ t ht
        have ht : t = s := ht
        rw [ht]
        refine ⟨l1, l2, Nat.le_of_lt hn, fun _ _ => rfl, ?_⟩
        show s.1.take s.2.2 = (s.1.take s.2.2 ++ []).take am
        rw [List.append_nil, List.take_take, Nat.min_eq_right (Nat.le_of_lt hn)]
      | succ j jh =>
        rintro hj t rfl
        obtain ⟨t1, t2, t3, t4, t5⟩ := jh (by omega) _ rfl
        rw [yLp]
        generalize yLp (yst w hh am rw0 (yLy w hh am rw0 f (r + 1)) r x (yag rw0 s.2.1 r r w)) j s = t at t1 t2 t3 t4 t5
        have V1 : zxV w hh Wy r x t.2.1 := fun c hc n hn => by
          rw [t4 (r * 5 + c) (by omega)]
          exact I.1 c hc n hn
        have I1 : zxI w hh Wy r x t.2.1 := ⟨V1, fun c hc => by rw [t4 (r * 5 + c) (by omega)]; exact I.2.1 c hc, I.2.2⟩
        have V2 := V1.next hd hr (k := j) (by omega) t2 I.2.2.2
        have hya : ∀ n, n < 32 → (zbit (yag rw0 t.2.1 r r w) n = true ↔ zbit (yag rw0 s.2.1 r r w) n = true) := fun n hn => by
          rw [yag_iff hn (by omega) w hd.2.1, yag_iff hn (by omega) w hd.2.1]
          constructor
          · rintro ⟨h1, h2⟩
            refine ⟨h1, fun c hc => ?_⟩
            rw [← t4 (r * 5 + c) (by omega)]
            exact h2 c hc
          · rintro ⟨h1, h2⟩
            refine ⟨h1, fun c hc => ?_⟩
            rw [t4 (r * 5 + c) (by omega)]
            exact h2 c hc
        rw [zxL, ← List.append_assoc, ← ztake_app, ← t5]
        have stay : ∀ (cw' : List Int32), cw'.length = 30 → (∀ i, i < (r + 1) * 5 → cw'.getD i 0 = t.2.1.getD i 0) → (t.1.take t.2.2 = (t.1.take t.2.2 ++ zxG w (zxC w hh (fun i n => zbit (Wy i) n)) m (r + 1) (zrx w r x j)).take am) →
            t.1.length = 500 ∧ cw'.length = 30 ∧ t.2.2 ≤ am ∧ (∀ i, i < (r + 1) * 5 → cw'.getD i 0 = s.2.1.getD i 0) ∧ t.1.take t.2.2 = (t.1.take t.2.2 ++ zxG w (zxC w hh (fun i n => zbit (Wy i) n)) m (r + 1) (zrx w r x j)).take am :=
          fun cw' z1 z2 z3 => ⟨t1, z1, t3, fun i hi => (z2 i hi).trans (t4 i hi), z3⟩
        have none : zxG w (zxC w hh (fun i n => zbit (Wy i) n)) m (r + 1) (zrx w r x j) = [] → t.1.take t.2.2 = (t.1.take t.2.2 ++ zxG w (zxC w hh (fun i n => zbit (Wy i) n)) m (r + 1) (zrx w r x j)).take am := fun z => by
          rw [z, List.append_nil, List.take_take, Nat.min_eq_right t3]
        rw [yst]
        by_cases q1 : am ≤ t.2.2
        · rw [if_pos q1]
          refine stay _ t2 (fun _ _ => rfl) ?_
          have hlen : (t.1.take t.2.2).length = am := by
            rw [List.length_take]
            omega
          rw [List.take_append_of_le_length (Nat.le_of_eq hlen.symm), List.take_of_length_le (Nat.le_of_eq hlen)]
        · rw [if_neg q1]
          by_cases q2 : zbit (yag rw0 s.2.1 r r w) j = true
          · rw [if_pos q2]
            have I2 := I1.next hd hW hr (k := j) (by omega) t2 ((hya j (by omega)).mpr q2)
            by_cases q3 : ycg w rw0 (ynr (zJ j) r t.2.1 w) (r + 1) (hh - (r + 1)) = true
            · rw [if_pos q3]
              obtain ⟨u1, u2, u3, u4, u5⟩ := ih (r + 1) f (zrx w r x j) (t.1, ynr (zJ j) r t.2.1 w, t.2.2) (by omega) (by omega) t1 (by rw [ynr_len]; exact t2) (by show t.2.2 < am; omega) I2
              refine ⟨u1, u2, u3, fun i hi => ?_, u5⟩
              exact (u4 i (by omega)).trans ((ynr_lo w i hi).trans (t4 i hi))
            · rw [if_neg q3]
              refine stay _ (by rw [ynr_len]; exact t2) (fun i hi => ynr_lo w i hi) (none ?_)
              obtain ⟨j', hj', ej'⟩ := ycg_no (Bool.eq_false_iff.mpr q3)
              refine zxno hd hW V2 (by omega) (r' := r + 1 + j') (by omega) fun X _ => ?_
              rw [ej']
              exact zbit_0 _
          · rw [if_neg q2]
            refine stay _ t2 (fun _ _ => rfl) (none ?_)
            refine zxG_nil m (r + 1) _ (by rw [show r + 1 + m = hh by omega]; exact Nat.le_trans (Nat.mul_le_mul hd.2.2.2 hd.2.1) (by omega)) fun X hX => ?_
            cases hc : zxC w hh (fun i n => zbit (Wy i) n) X with
            | false => rfl
            | true =>
              have e3 : (r + 1) * w = r * w + w := Nat.succ_mul r w
              have hX0 : zag2 (r * w) X x := fun p hp => by rw [hX p (by omega), zrx_lo hp (by omega)]
              have hrow : zpa w hh X r = j := by
                refine (zpa_eq (by rw [yln_r hr]; omega) fun p hp => ?_).symm
                rw [ycl_r hr]
                rw [yln_r hr] at hp
                rw [hX _ (by omega), zrx_row I.2.2.2 (by omega)]
              have h1 := zcompl hd hW V1 hX0 hc (by omega) hr
              rw [hrow, hya j (by omega)] at h1
              exact absurd h1 q2
    obtain ⟨k1, k2, k3, k4, k5⟩ := key (2 ^ w) (Nat.le_refl _) _ rfl
    exact ⟨k1, k2, k3, k4, k5⟩
/-- all pictures, so many of them -/
theorem yLr_G (hd : 2 ≤ w ∧ w ≤ 5 ∧ 2 ≤ hh ∧ hh ≤ 5) (ham : am ≤ 500) (h0 : 0 < am) {ps cw : List Int32} (l1 : ps.length = 500) (l2 : cw.length = 30) (hW : ∀ r, r < hh → rw0.getD r 0 = Wy r) (hV : ∀ c, c < w → cw.getD c 0 = Wy (hh + c)) (hlt : ∀ i n, i < w + hh → zbit (Wy i) n = true → n < 2 ^ yln w hh i) :
    (yLr w hh am ps rw0 cw).1.length = 500 ∧ (yLr w hh am ps rw0 cw).2.2 ≤ am ∧ (yLr w hh am ps rw0 cw).1.take (yLr w hh am ps rw0 cw).2.2 = (zxG w (zxC w hh (fun i n => zbit (Wy i) n)) hh 0 (zJ 0)).take am := by
  have V : zxV w hh Wy 0 (zJ 0) cw := fun c hc n _ => by
    rw [Nat.zero_mul, Nat.zero_add, hV c hc]
    exact ⟨fun h => ⟨h, fun j hj => absurd hj (Nat.not_lt_zero j)⟩, fun h => h.1⟩
  rw [yLr]
  split
  · rename_i q
    have hz : ∀ c, c < w → ¬ cw.getD (0 * 5 + c) 0 = 0 := fun c hc e => by
      have h1 := ycg_yes q 0 (by omega)
      obtain ⟨n, hn, hb⟩ := zbit_ne h1
      obtain ⟨-, h2⟩ := (yag_iff hn (by omega) w hd.2.1).mp hb
      obtain ⟨h3, h4⟩ := h2 c hc
      rw [e] at h3 h4
      have hno : ∀ v, v < 32 → ∀ (p : Prop), zbit 0 v = true → p := fun v _ p z => by rw [show zbit 0 v = false from zbit_0 v] at z; cases z
      have := h3 (fun v hv z => hno v hv _ z)
      rw [h4 (fun v hv z => hno v hv _ z)] at this
      cases this
    obtain ⟨k1, -, k3, -, k5⟩ := yLy_G hd ham hW hlt hh 0 5 (zJ 0) (ps, cw, 0) (by omega) hd.2.2.2 l1 l2 h0 ⟨V, hz, fun j hj => absurd hj (Nat.not_lt_zero j), fun p _ => zbit_0 p⟩
    exact ⟨k1, k3, k5⟩
  · rename_i q
    refine ⟨l1, Nat.zero_le _, ?_⟩
    obtain ⟨j, hj, e⟩ := ycg_no (Bool.eq_false_iff.mpr q)
    rw [zxno hd hW V (by omega) (r' := 0 + j) (by omega) fun X _ => by rw [e]; exact zbit_0 _]
    rw [List.take_nil]
    rfl
end CP
