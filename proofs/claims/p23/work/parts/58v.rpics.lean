/-! ===== the reference's pictures are all pictures in their order ===== -/
theorem rwl_le (w hh : Nat) (x0 cl : List Int32) (i k : Nat) : (rwl w hh x0 cl i k).length ≤ k := by
  induction k with
  | zero => exact Nat.le_refl _
  | succ k ih =>
    rw [rwl]
    split
    · rw [List.length_append]
      show _ + 1 ≤ k + 1
      omega
    · omega
theorem rwl_mem (w hh : Nat) (x0 cl : List Int32) (i n k : Nat) : n ∈ rwl w hh x0 cl i k ↔ n < k ∧ riw w hh x0 cl i n = true := by
  induction k with
  | zero => exact ⟨fun h => (List.not_mem_nil h).elim, fun h => absurd h.1 (Nat.not_lt_zero n)⟩
  | succ k ih =>
    rw [rwl]
    split
    · rename_i q
      rw [List.mem_append, ih, List.mem_singleton]
      constructor
      · rintro (h | rfl)
        · exact ⟨by omega, h.2⟩
        · exact ⟨by omega, q⟩
      · rintro ⟨h1, h2⟩
        rcases Nat.lt_or_ge n k with z | z
        · exact Or.inl ⟨z, h2⟩
        · exact Or.inr (by omega)
    · rename_i q
      rw [ih]
      constructor
      · exact fun h => ⟨by omega, h.2⟩
      · rintro ⟨h1, h2⟩
        rcases Nat.lt_or_ge n k with z | z
        · exact ⟨z, h2⟩
        · obtain rfl : n = k := by omega
          exact absurd h2 q
section RP
variable {w hh : Nat} {x0 cl : List Int32}
theorem rwi_len (i : Nat) : (rwi w hh x0 cl i).length ≤ 2 ^ yln w hh i := by
  unfold rwi rww
  rw [List.length_map]
  exact rwl_le _ _ _ _ _ _
theorem rwi_at {i v : Nat} (h : v < (rwi w hh x0 cl i).length) : ∃ n, (rww w hh x0 cl i)[v]? = some n ∧ (rwi w hh x0 cl i).getD v 0 = zJ n ∧ n < 2 ^ yln w hh i ∧ riw w hh x0 cl i n = true := by
  have h' : v < (rww w hh x0 cl i).length := by
    unfold rwi at h
    rw [List.length_map] at h
    exact h
  have e := List.getElem?_eq_getElem h'
  have hm := (rwl_mem w hh x0 cl i _ _).mp (List.mem_of_getElem? e)
  refine ⟨_, e, ?_, hm⟩
  unfold rwi
  rw [List.getD_eq_getElem?_getD, List.getElem?_map, e]
  rfl
theorem rwi_of {i n : Nat} (h1 : n < 2 ^ yln w hh i) (h2 : riw w hh x0 cl i n = true) : ∃ v, v < (rwi w hh x0 cl i).length ∧ (rwi w hh x0 cl i).getD v 0 = zJ n := by
  have hm : n ∈ rww w hh x0 cl i := (rwl_mem w hh x0 cl i n _).mpr ⟨h1, h2⟩
  obtain ⟨v, hv⟩ := List.getElem?_of_mem hm
  refine ⟨v, ?_, ?_⟩
  · unfold rwi
    rw [List.length_map]
    rcases Nat.lt_or_ge v (rww w hh x0 cl i).length with z | z
    · exact z
    · rw [List.getElem?_eq_none z] at hv; cases hv
  · unfold rwi
    rw [List.getD_eq_getElem?_getD, List.getElem?_map, hv]
    rfl
theorem rl1_of {l : List Int32} {c : Nat} {b : Bool} (n u : Nat) (hu : u < n) (h : zbit (l.getD u 0) c = b) : rl1 l c b n = true := by
  induction n with
  | zero => omega
  | succ n ih =>
    rw [rl1, Bool.or_eq_true]
    rcases Nat.lt_or_ge u n with z | z
    · exact Or.inl (ih z)
    · obtain rfl : u = n := by omega
      right
      rw [h]
      exact beq_self_eq_true b
theorem rlt_all {W : Nat → List Int32} {x : Int32} {c : Nat} (k : Nat) (h : ∀ j, j < k → rl1 (W j) c (zbit x j) (W j).length = true) : rlt W x c k = true := by
  induction k with
  | zero => rfl
  | succ k ih => rw [rlt, Bool.and_eq_true]; exact ⟨ih fun j hj => h j (by omega), h k (by omega)⟩
theorem rf0_bit {W : Nat → List Int32} {c : Nat} {wl : List Int32} (n : Nat) (hn : n ≤ 32) {v : Nat} (hv : v < 32) : zbit (rf0 W hh c wl n) v = true ↔ v < n ∧ rlt W (wl.getD v 0) c hh = true := by
  induction n with
  | zero =>
    rw [rf0, zbit_0]
    exact ⟨fun h => Bool.noConfusion h, fun h => absurd h.1 (Nat.not_lt_zero v)⟩
  | succ n ih =>
    rw [rf0]
    split
    · rename_i q
      rw [zbit_or, Bool.or_eq_true, ih (by omega), zbit_sh1 (by omega) hv, decide_eq_true_iff]
      constructor
      · rintro (h | rfl)
        · exact ⟨by omega, h.2⟩
        · exact ⟨by omega, q⟩
      · rintro ⟨h1, h2⟩
        rcases Nat.lt_or_ge v n with z | z
        · exact Or.inl ⟨z, h2⟩
        · exact Or.inr (by omega)
    · rename_i q
      rw [ih (by omega)]
      constructor
      · exact fun h => ⟨by omega, h.2⟩
      · rintro ⟨h1, h2⟩
        rcases Nat.lt_or_ge v n with z | z
        · exact ⟨z, h2⟩
        · obtain rfl : v = n := by omega
          exact absurd h2 q
theorem rf1_bit {W : Nat → List Int32} {c : Nat} {wl : List Int32} {row : Nat} {b : Bool} (n : Nat) (hn : n ≤ 32) {v : Nat} (hv : v < 32) : zbit (rf1 W hh c wl row b n) v = true ↔ v < n ∧ rlt W (wl.getD v 0) c hh = true ∧ zbit (wl.getD v 0) row = b := by
  induction n with
  | zero =>
    rw [rf1, zbit_0]
    exact ⟨fun h => Bool.noConfusion h, fun h => absurd h.1 (Nat.not_lt_zero v)⟩
  | succ n ih =>
    rw [rf1]
    split
    · rename_i q
      rw [zbit_or, Bool.or_eq_true, ih (by omega), zbit_sh1 (by omega) hv, decide_eq_true_iff]
      constructor
      · rintro (h | rfl)
        · exact ⟨by omega, h.2⟩
        · exact ⟨by omega, q⟩
      · rintro ⟨h1, h2⟩
        rcases Nat.lt_or_ge v n with z | z
        · exact Or.inl ⟨z, h2⟩
        · exact Or.inr (by omega)
    · rename_i q
      rw [ih (by omega)]
      constructor
      · exact fun h => ⟨by omega, h.2⟩
      · rintro ⟨h1, h2⟩
        rcases Nat.lt_or_ge v n with z | z
        · exact ⟨z, h2⟩
        · obtain rfl : v = n := by omega
          exact absurd h2 q
/-- a row laid: what columns are left -/
theorem rlc_lo {Fc : Nat → Nat → List Int32} {row : Nat} {way : Int32} {Lf : Nat → List Int32} (k : Nat) {i : Nat} (hi : i ≠ row + 1) : (rlc Fc row way Lf k).2 i = Lf i := by
  induction k with
  | zero => rfl
  | succ k ih =>
    rw [rlc]
    split
    · show rup (rlc Fc row way Lf k).2 (row + 1) k _ i = _
      rw [rup, if_neg hi]
      exact ih
    · exact ih
theorem rlc_len {Fc : Nat → Nat → List Int32} {row : Nat} {way : Int32} {Lf : Nat → List Int32} (k i : Nat) : ((rlc Fc row way Lf k).2 i).length = (Lf i).length := by
  induction k with
  | zero => rfl
  | succ k ih =>
    rw [rlc]
    split
    · show (rup (rlc Fc row way Lf k).2 (row + 1) k _ i).length = _
      rw [rup]
      split
      · rw [List.length_set]; exact ih
      · exact ih
    · exact ih
theorem rlv_lo {Fc : Nat → Nat → List Int32} {row : Nat} {way : Int32} {Lf : Nat → List Int32} (k c : Nat) : rlv Fc row way (rlc Fc row way Lf k).2 c = rlv Fc row way Lf c := by
  unfold rlv
  rw [rlc_lo k (by omega)]
theorem rlc_yes {Fc : Nat → Nat → List Int32} {row : Nat} {way : Int32} {Lf : Nat → List Int32} (hl : (Lf (row + 1)).length = w) (k : Nat) (hk : k ≤ w) (h : (rlc Fc row way Lf k).1 = true) (c : Nat) (hc : c < k) : ¬ rlv Fc row way Lf c = 0 ∧ ((rlc Fc row way Lf k).2 (row + 1)).getD c 0 = rlv Fc row way Lf c := by
  induction k with
  | zero => omega
  | succ k ih =>
    rw [rlc] at h ⊢
    split at h
    · rename_i q
      rw [if_pos q]
      have h : (!decide (rlv Fc row way (rlc Fc row way Lf k).2 k = 0)) = true := h
      rw [rlv_lo] at h
      show _ ∧ (rup (rlc Fc row way Lf k).2 (row + 1) k (rlv Fc row way (rlc Fc row way Lf k).2 k) (row + 1)).getD c 0 = _
      rw [rup, if_pos rfl, rlv_lo]
      by_cases e : c = k
      · subst e
        refine ⟨by simpa using h, zgetD_eq (by rw [rlc_len, hl]; omega)⟩
      · rw [zgetD_ne (by omega)]
        exact ih (by omega) q (by omega)
    · rename_i q
      exact absurd h q
theorem rlc_no {Fc : Nat → Nat → List Int32} {row : Nat} {way : Int32} {Lf : Nat → List Int32} (k : Nat) (h : (rlc Fc row way Lf k).1 = false) : ∃ c, c < k ∧ rlv Fc row way Lf c = 0 := by
  induction k with
  | zero => cases h
  | succ k ih =>
    rw [rlc] at h
    split at h
    · rename_i q
      have h : (!decide (rlv Fc row way (rlc Fc row way Lf k).2 k = 0)) = false := h
      rw [rlv_lo] at h
      exact ⟨k, by omega, by simpa using h⟩
    · rename_i q
      obtain ⟨c, h1, h2⟩ := ih (Bool.eq_false_iff.mpr q)
      exact ⟨c, by omega, h2⟩
theorem zxL_flat {f : Nat → List Int32} {i : Nat} (k : Nat) (h : ∀ n, n < k → riw w hh x0 cl i n = false → f n = []) : zxL f k = (rwl w hh x0 cl i k).flatMap f := by
  induction k with
  | zero => rfl
  | succ k ih =>
    rw [zxL, rwl, ih (fun n hn => h n (by omega))]
    split
    · rw [List.flatMap_append, List.flatMap_cons, List.flatMap_nil, List.append_nil]
    · rename_i q
      rw [h k (by omega) (Bool.eq_false_iff.mpr q), List.append_nil]
/-- what columns may still be, r rows laid -/
def zxU (w hh : Nat) (W : Nat → List Int32) (r : Nat) (x : Int32) (Lf : Nat → List Int32) : Prop := ∀ c, c < w → ∀ v, v < 32 → (zbit ((Lf r).getD c 0) v = true ↔ v < (W (hh + c)).length ∧ rlt W ((W (hh + c)).getD v 0) c hh = true ∧ ∀ j, j < r → zbit ((W (hh + c)).getD v 0) j = zbit x (j * w + c))
/-- the tables of the columns' ways -/
def zxF (w hh : Nat) (W : Nat → List Int32) (Fc : Nat → Nat → List Int32) : Prop := ∀ c row, c < w → row < hh → ∀ b v, v < 32 → (zbit ((Fc c row).getD (rbi b) 0) v = true ↔ v < (W (hh + c)).length ∧ rlt W ((W (hh + c)).getD v 0) c hh = true ∧ zbit ((W (hh + c)).getD v 0) row = b)
abbrev zQr (w hh : Nat) (x0 cl : List Int32) : Int32 → Bool := zxC w hh (fun i n => riw w hh x0 cl i n)
/-- what a whole picture shows in a column is one of that column's ways -/
theorem zcolw (hd : 2 ≤ w ∧ w ≤ 5 ∧ 2 ≤ hh ∧ hh ≤ 5) {X : Int32} (hC : zQr w hh x0 cl X = true) {c : Nat} (hc : c < w) : ∃ v, v < 32 ∧ v < (rwi w hh x0 cl (hh + c)).length ∧ rlt (rwi w hh x0 cl) ((rwi w hh x0 cl (hh + c)).getD v 0) c hh = true ∧ ∀ j, j < hh → zbit ((rwi w hh x0 cl (hh + c)).getD v 0) j = zbit X (j * w + c) := by
  have h1 := zxC_iff.mp hC
  obtain ⟨v, hv, ev⟩ := rwi_of (zpa_lt w hh X (hh + c)) (h1 (hh + c) (by omega))
  have hl := rwi_len (w := w) (hh := hh) (x0 := x0) (cl := cl) (hh + c)
  have h5 := zpow5 (yln_b (hh + c) hd).2
  have hb : ∀ j, j < hh → zbit ((rwi w hh x0 cl (hh + c)).getD v 0) j = zbit X (j * w + c) := fun j hj => by
    rw [ev, zbit_J _ _ (by omega), zpa_bit (by rw [yln_c]; exact hj), ycl_c]
  refine ⟨v, by omega, hv, rlt_all hh fun j hj => ?_, hb⟩
  obtain ⟨u, hu, eu⟩ := rwi_of (zpa_lt w hh X j) (h1 j (by omega))
  refine rl1_of _ u hu ?_
  rw [eu, hb j hj, zbit_J _ _ (by omega), zpa_bit (by rw [yln_r hj]; exact hc), ycl_r hj]
def zxJ (w hh : Nat) (x0 cl : List Int32) (r : Nat) (x : Int32) (Lf : Nat → List Int32) : Prop := (∀ i, i < hh + 1 → (Lf i).length = w) ∧ zxU w hh (rwi w hh x0 cl) r x Lf ∧ (0 < r → ∀ c, c < w → ¬ (Lf r).getD c 0 = 0) ∧ (∀ j, j < r → riw w hh x0 cl j (zpa w hh x j) = true) ∧ ∀ p, r * w ≤ p → zbit x p = false
theorem zxJ.same {r : Nat} {x : Int32} {Lf Lg : Nat → List Int32} (J : zxJ w hh x0 cl r x Lf) (e : Lg r = Lf r) (l : ∀ i, i < hh + 1 → (Lg i).length = w) : zxJ w hh x0 cl r x Lg := by
  obtain ⟨-, j2, j3, j4⟩ := J
  refine ⟨l, ?_, ?_, j4⟩
  · intro c hc v hv
    rw [e]
    exact j2 c hc v hv
  · intro h0 c hc
    rw [e]
    exact j3 h0 c hc
theorem zxJ.next (hd : 2 ≤ w ∧ w ≤ 5 ∧ 2 ≤ hh ∧ hh ≤ 5) {Fc : Nat → Nat → List Int32} (hF : zxF w hh (rwi w hh x0 cl) Fc) {r k : Nat} {x : Int32} {Lf : Nat → List Int32} (J : zxJ w hh x0 cl r x Lf) (hr : r < hh) (hk : k < 2 ^ w) (hw : riw w hh x0 cl r k = true) (hy : (rlc Fc r (zJ k) Lf w).1 = true) : zxJ w hh x0 cl (r + 1) (zrx w r x k) (rlc Fc r (zJ k) Lf w).2 := by
  have h25 : (r + 1) * w ≤ 25 := Nat.le_trans (Nat.mul_le_mul_right w (show r + 1 ≤ 5 by omega)) (by omega)
  have e3 : (r + 1) * w = r * w + w := Nat.succ_mul r w
  obtain ⟨j1, j2, j3, j4, hx⟩ := J
  have hyc := rlc_yes (j1 (r + 1) (by omega)) w (Nat.le_refl _) hy
  refine ⟨fun i hi => (rlc_len w i).trans (j1 i hi), fun c hc v hv => ?_, fun _ c hc => ?_, fun j hj => ?_, zrx_hi hx hk h25⟩
  · rw [(hyc c hc).2, rlv, zbit_and, Bool.and_eq_true, j2 c hc v hv, hF c r hc hr _ v hv, zbit_J k c (by omega)]
    have hrow : zbit (zrx w r x k) (r * w + c) = k.testBit c := zrx_row hx (by omega)
    constructor
    · rintro ⟨⟨h1, h2, h3⟩, -, -, h4⟩
      refine ⟨h1, h2, fun j hj => ?_⟩
      rcases Nat.lt_or_ge j r with z | z
      · have := zmul5 z hc
        rw [h3 j z, zrx_lo this (by omega)]
      · obtain rfl : j = r := by omega
        rw [h4, hrow]
    · rintro ⟨h1, h2, h3⟩
      refine ⟨⟨h1, h2, fun j hj => ?_⟩, h1, h2, by rw [h3 r (by omega), hrow]⟩
      have := zmul5 hj hc
      rw [h3 j (by omega), zrx_lo this (by omega)]
  · rw [(hyc c hc).2]
    exact (hyc c hc).1
  · rcases Nat.lt_or_ge j r with z | z
    · rw [zrow_lo (by omega) (by omega) z]
      exact j4 j z
    · obtain rfl : j = r := by omega
      rw [zrow_at h25 hr hk hx]
      exact hw
/-- no picture lies below a row by which a column is left without a way -/
theorem zxJ.none (hd : 2 ≤ w ∧ w ≤ 5 ∧ 2 ≤ hh ∧ hh ≤ 5) {Fc : Nat → Nat → List Int32} (hF : zxF w hh (rwi w hh x0 cl) Fc) {m r k : Nat} {x : Int32} {Lf : Nat → List Int32} (J : zxJ w hh x0 cl r x Lf) (hm : r + (m + 1) = hh) (hy : (rlc Fc r (zJ k) Lf w).1 = false) : zxG w (zQr w hh x0 cl) m (r + 1) (zrx w r x k) = [] := by
  have h25 : (r + 1) * w ≤ 25 := Nat.le_trans (Nat.mul_le_mul_right w (show r + 1 ≤ 5 by omega)) (by omega)
  have e3 : (r + 1) * w = r * w + w := Nat.succ_mul r w
  obtain ⟨c, hc, e⟩ := rlc_no w hy
  refine zxG_nil m (r + 1) _ (by rw [show r + 1 + m = hh by omega]; exact Nat.le_trans (Nat.mul_le_mul hd.2.2.2 hd.2.1) (by omega)) fun X hX => ?_
  cases hC : zQr w hh x0 cl X with
  | false => rfl
  | true =>
    obtain ⟨v, v1, v2, v3, v4⟩ := zcolw hd hC hc
    have hb : zbit (rlv Fc r (zJ k) Lf c) v = true := by
      rw [rlv, zbit_and, Bool.and_eq_true]
      refine ⟨(J.2.1 c hc v v1).mpr ⟨v2, v3, fun j hj => ?_⟩, (hF c r hc (by omega) _ v v1).mpr ⟨v2, v3, ?_⟩⟩
      · have := zmul5 hj hc
        rw [v4 j (by omega), hX _ (by omega), zrx_lo this (by omega)]
      · rw [v4 r (by omega), hX _ (by omega), zrx_row J.2.2.2.2 (by omega), zbit_J k c (by omega)]
    rw [e, show zbit 0 v = false from zbit_0 v] at hb
    cases hb
theorem zxJ.non (hd : 2 ≤ w ∧ w ≤ 5 ∧ 2 ≤ hh ∧ hh ≤ 5) {m r k : Nat} {x : Int32} (hx : ∀ p, r * w ≤ p → zbit x p = false) (hm : r + (m + 1) = hh) (hk : k < 2 ^ w) (hw : riw w hh x0 cl r k = false) : zxG w (zQr w hh x0 cl) m (r + 1) (zrx w r x k) = [] := by
  have h25 : (r + 1) * w ≤ 25 := Nat.le_trans (Nat.mul_le_mul_right w (show r + 1 ≤ 5 by omega)) (by omega)
  have e3 : (r + 1) * w = r * w + w := Nat.succ_mul r w
  have hr : r < hh := by omega
  refine zxG_nil m (r + 1) _ (by rw [show r + 1 + m = hh by omega]; exact Nat.le_trans (Nat.mul_le_mul hd.2.2.2 hd.2.1) (by omega)) fun X hX => ?_
  cases hC : zQr w hh x0 cl X with
  | false => rfl
  | true =>
    have hrow : zpa w hh X r = k := by
      refine (zpa_eq (by rw [yln_r hr]; exact hk) fun p hp => ?_).symm
      rw [ycl_r hr]
      rw [yln_r hr] at hp
      rw [hX _ (by omega), zrx_row hx (by omega)]
    have h1 : riw w hh x0 cl r (zpa w hh X r) = true := zxC_iff.mp hC r (by omega)
    rw [hrow, hw] at h1
    cases h1
/-- what the search comes to -/
theorem rLk_G (hd : 2 ≤ w ∧ w ≤ 5 ∧ 2 ≤ hh ∧ hh ≤ 5) {Fc : Nat → Nat → List Int32} (hF : zxF w hh (rwi w hh x0 cl) Fc) (m : Nat) : ∀ (r : Nat) (x : Int32) (s : rLs), r + m = hh → s.1.length = 501 → s.2.1 ≤ 500 → zxJ w hh x0 cl r x s.2.2 → 0 < r ∨ 0 < m →
    (rLk w (rwi w hh x0 cl) Fc m r x s).1.length = 501 ∧ (rLk w (rwi w hh x0 cl) Fc m r x s).2.1 ≤ 500 ∧ (∀ i, i < hh + 1 → ((rLk w (rwi w hh x0 cl) Fc m r x s).2.2 i).length = w) ∧ (∀ i, i ≤ r → (rLk w (rwi w hh x0 cl) Fc m r x s).2.2 i = s.2.2 i) ∧
    (rLk w (rwi w hh x0 cl) Fc m r x s).1.take (rLk w (rwi w hh x0 cl) Fc m r x s).2.1 = (s.1.take s.2.1 ++ zxG w (zQr w hh x0 cl) m r x).take 500 := by
  have full : ∀ (s : rLs) (Y : List Int32), s.1.length = 501 → s.2.1 = 500 → s.1.take s.2.1 = (s.1.take s.2.1 ++ Y).take 500 := fun s Y l1 l2 => by
    have hlen : (s.1.take s.2.1).length = 500 := by
      rw [List.length_take]
      omega
    rw [List.take_append_of_le_length (Nat.le_of_eq hlen.symm), List.take_of_length_le (Nat.le_of_eq hlen)]
  induction m with
  | zero =>
    intro r x s hm l1 hn J h0
    obtain rfl : r = hh := by omega
    rw [rLk]
    by_cases q : s.2.1 = 500
    · rw [if_pos q]
      exact ⟨l1, hn, J.1, fun _ _ => rfl, full s _ l1 q⟩
    · have hC : zQr w r x0 cl x = true := by
        refine zxC_iff.mpr fun i hi => ?_
        rcases Nat.lt_or_ge i r with z | z
        · exact J.2.2.2.1 i z
        · obtain ⟨c, rfl⟩ : ∃ c, i = r + c := ⟨i - r, by omega⟩
          have hc : c < w := by omega
          obtain ⟨v, hv, hb⟩ := zbit_ne (J.2.2.1 (by omega) c hc)
          obtain ⟨h1, -, h3⟩ := (J.2.1 c hc v hv).mp hb
          obtain ⟨n, -, e2, e3, e4⟩ := rwi_at h1
          have e : n = zpa w r x (r + c) := zpa_eq e3 fun p hp => by
            rw [yln_c] at hp
            rw [ycl_c, ← h3 p hp, e2, zbit_J _ _ (by omega)]
          show riw w r x0 cl (r + c) (zpa w r x (r + c)) = true
          rw [← e]
          exact e4
      rw [if_neg q, zxG, if_pos hC, rad]
      refine ⟨by rw [List.length_set, List.length_set]; exact l1, by show s.2.1 + 1 ≤ 500; omega, J.1, fun _ _ => rfl, ?_⟩
      show ((s.1.set s.2.1 x).set 500 (zJ (s.2.1 + 1))).take (s.2.1 + 1) = _
      rw [List.take_set_of_le (by omega), ztake_set (by omega), List.take_of_length_le (l := s.1.take s.2.1 ++ [x])]
      rw [List.length_append, List.length_take]
      show _ + 1 ≤ 500
      omega
  | succ m ih =>
    intro r x s hm l1 hn J h0
    have hr : r < hh := by omega
    have p5 := zpow5 hd.2.1
    rw [rLk]
    by_cases q : s.2.1 = 500
    · rw [if_pos q]
      exact ⟨l1, hn, J.1, fun _ _ => rfl, full s _ l1 q⟩
    · rw [if_neg q, zxG, zxL_flat (w := w) (hh := hh) (x0 := x0) (cl := cl) (i := r) (2 ^ w) (fun n hk hw => zxJ.non hd J.2.2.2.2 hm hk hw)]
      have elen : (rwi w hh x0 cl r).length = (rwl w hh x0 cl r (2 ^ w)).length := by
        unfold rwi rww
        rw [List.length_map, yln_r hr]
      have key : ∀ j, j ≤ (rwi w hh x0 cl r).length → ∀ t, t = rLp (rst w Fc (rLk w (rwi w hh x0 cl) Fc m (r + 1)) r x (rwi w hh x0 cl r)) j s →
          t.1.length = 501 ∧ t.2.1 ≤ 500 ∧ (∀ i, i < hh + 1 → (t.2.2 i).length = w) ∧ (∀ i, i ≤ r → t.2.2 i = s.2.2 i) ∧ t.1.take t.2.1 = (s.1.take s.2.1 ++ ((rwl w hh x0 cl r (2 ^ w)).take j).flatMap (fun n => zxG w (zQr w hh x0 cl) m (r + 1) (zrx w r x n))).take 500 := by
        intro j
        induction j with
        | zero =>
          intro _ t ht
          have ht : t = s := ht
          rw [ht]
          refine ⟨l1, hn, J.1, fun _ _ => rfl, ?_⟩
          rw [List.take_zero, List.flatMap_nil, List.append_nil, List.take_take, Nat.min_eq_right hn]
        | succ j jh =>
          rintro hj t rfl
          obtain ⟨t1, t2, t3, t4, t5⟩ := jh (by omega) _ rfl
          rw [rLp]
          generalize rLp (rst w Fc (rLk w (rwi w hh x0 cl) Fc m (r + 1)) r x (rwi w hh x0 cl r)) j s = t at t1 t2 t3 t4 t5
          obtain ⟨n, e1, e2, e3, e4⟩ := rwi_at (show j < (rwi w hh x0 cl r).length by omega)
          rw [yln_r hr] at e3
          have e1 : (rwl w hh x0 cl r (2 ^ w))[j]? = some n := by
            unfold rww at e1
            rw [yln_r hr] at e1
            exact e1
          have J1 : zxJ w hh x0 cl r x t.2.2 := J.same (t4 r (Nat.le_refl r)) t3
          have e0 : (rwl w hh x0 cl r (2 ^ w)).take (j + 1) = (rwl w hh x0 cl r (2 ^ w)).take j ++ [n] := by
            rw [List.take_succ, e1]
            rfl
          rw [e0, List.flatMap_append, ← List.append_assoc, ← ztake_app, ← t5]
          show _ ∧ _ ∧ _ ∧ _ ∧ _ = (t.1.take t.2.1 ++ List.flatMap (fun n => zxG w (zQr w hh x0 cl) m (r + 1) (zrx w r x n)) [n]).take 500
          rw [List.flatMap_cons, List.flatMap_nil, List.append_nil, rst, e2, Nat.mul_comm w r]
          by_cases q3 : (rlc Fc r (zJ n) t.2.2 w).1 = true
          · rw [if_pos q3]
            obtain ⟨u1, u2, u3, u4, u5⟩ := ih (r + 1) (zrx w r x n) (t.1, t.2.1, (rlc Fc r (zJ n) t.2.2 w).2) (by omega) t1 t2 (J1.next hd hF hr e3 e4 q3) (Or.inl (by omega))
            exact ⟨u1, u2, u3, fun i hi => (u4 i (by omega)).trans ((rlc_lo w (by omega)).trans (t4 i hi)), u5⟩
          · rw [if_neg q3]
            refine ⟨t1, t2, fun i hi => (rlc_len w i).trans (t3 i hi), fun i hi => (rlc_lo w (by omega)).trans (t4 i hi), ?_⟩
            rw [zxJ.none hd hF J1 hm (Bool.eq_false_iff.mpr q3), List.append_nil, List.take_take, Nat.min_eq_right t2]
      obtain ⟨k1, k2, k3, k4, k5⟩ := key _ (Nat.le_refl _) _ rfl
      rw [List.take_of_length_le (Nat.le_of_eq elen.symm)] at k5
      exact ⟨k1, k2, k3, k4, k5⟩
/-- all pictures, 500 of them at most -/
theorem rPx_G (hd : 2 ≤ w ∧ w ≤ 5 ∧ 2 ≤ hh ∧ hh ≤ 5) {l : List Int32} (P : rPx w hh x0 cl l) : l = (zxG w (zQr w hh x0 cl) hh 0 (zJ 0)).take 500 := by
  obtain ⟨Fc, Lf, h0, h1, hl, rfl⟩ := P
  have hlen : ∀ c, c < w → (rwi w hh x0 cl (hh + c)).length ≤ 32 := fun c _ => Nat.le_trans (rwi_len _) (zpow5 (yln_b (hh + c) hd).2)
  have hF : zxF w hh (rwi w hh x0 cl) Fc := fun c row hc hr b v hv => by
    rw [h1 c row hc hr b, if_pos hc]
    exact rf1_bit _ (hlen c hc) hv
  have J : zxJ w hh x0 cl 0 (zJ 0) Lf := by
    refine ⟨hl, fun c hc v hv => ?_, fun z => absurd z (by omega), fun j hj => absurd hj (Nat.not_lt_zero j), fun p _ => zbit_0 p⟩
    rw [h0 c hc, if_pos hc, rf0_bit _ (hlen c hc) hv]
    exact ⟨fun h => ⟨h.1, h.2, fun j hj => absurd hj (Nat.not_lt_zero j)⟩, fun h => ⟨h.1, h.2.1⟩⟩
  exact (rLk_G hd hF hh 0 (zJ 0) (List.replicate 501 0, 0, Lf) (by omega) (by rw [List.length_replicate]) (by show 0 ≤ 500; omega) J (Or.inr (by omega))).2.2.2.2
end RP
