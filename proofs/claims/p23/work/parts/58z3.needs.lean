/-! ===== both sides: how few cells tell the first picture ===== -/
theorem zbit_xor (a b : Int32) (k : Nat) : zbit (a ^^^ b) k = (zbit a k ^^ zbit b k) := by
  unfold zbit
  rw [Int32.toBitVec_xor, BitVec.getLsbD_xor]
theorem zxL_mem {f : Nat → List Int32} {X : Int32} (k : Nat) (h : X ∈ zxL f k) : ∃ n, n < k ∧ X ∈ f n := by
  induction k with
  | zero => exact (List.not_mem_nil h).elim
  | succ k ih =>
    rw [zxL, List.mem_append] at h
    rcases h with h | h
    · obtain ⟨n, h1, h2⟩ := ih h
      exact ⟨n, by omega, h2⟩
    · exact ⟨k, by omega, h⟩
theorem zxG_hi {w : Nat} {C : Int32 → Bool} (m : Nat) : ∀ (r : Nat) (x : Int32), (r + m) * w ≤ 25 → (∀ p, r * w ≤ p → zbit x p = false) → ∀ X, X ∈ zxG w C m r x → ∀ p, (r + m) * w ≤ p → zbit X p = false := by
  induction m with
  | zero =>
    intro r x _ hx X hX p hp
    rw [zxG] at hX
    split at hX
    · rw [List.mem_singleton] at hX
      rw [hX]
      exact hx p hp
    · exact (List.not_mem_nil hX).elim
  | succ m ih =>
    intro r x h25 hx X hX p hp
    have e1 : (r + (m + 1)) * w = (r + 1 + m) * w := by rw [Nat.add_assoc, Nat.add_comm 1 m]
    have e2 : (r + 1) * w ≤ (r + 1 + m) * w := Nat.mul_le_mul_right w (by omega)
    rw [zxG] at hX
    obtain ⟨n, hn, hX⟩ := zxL_mem _ hX
    exact ih (r + 1) _ (by omega) (zrx_hi hx hn (by omega)) X hX p (by omega)
theorem rPx_hi {w hh : Nat} {x0 cl l : List Int32} (hd : 2 ≤ w ∧ w ≤ 5 ∧ 2 ≤ hh ∧ hh ≤ 5) (P : rPx w hh x0 cl l) {j p : Nat} (hj : j < l.length) (hp : w * hh ≤ p) : zbit (l.getD j 0) p = false := by
  have hm : l.getD j 0 ∈ l := by
    rw [List.getD_eq_getElem?_getD, List.getElem?_eq_getElem hj]
    exact List.getElem_mem hj
  have h2 : l.getD j 0 ∈ zxG w (zQr w hh x0 cl) hh 0 (zJ 0) := by
    rw [rPx_G hd P] at hm ⊢
    exact List.mem_of_mem_take hm
  refine zxG_hi hh 0 (zJ 0) ?_ (fun p _ => zbit_0 p) _ h2 p ?_
  · rw [Nat.zero_add, Nat.mul_comm]
    exact (zwh_b hd).2
  · rw [Nat.zero_add, Nat.mul_comm]
    exact hp
theorem ytf_bit {ps : List Int32} {x : Int32} (i : Nat) {b : Nat} (hb : b < 32) : zbit (ytf ps x i) b = true ↔ ∀ j, j < i → (ps.getD (j + 1) 0 ^^^ ps.getD 0 0) &&& x = 0 → zbit (ps.getD (j + 1) 0 ^^^ ps.getD 0 0) b = true := by
  induction i with
  | zero => exact ⟨fun _ j hj => absurd hj (Nat.not_lt_zero j), fun _ => zbit_m1 hb⟩
  | succ i ih =>
    rw [ytf]
    split
    · rename_i q
      rw [zbit_and, Bool.and_eq_true, ih]
      constructor
      · rintro ⟨h1, h2⟩ j hj hx
        rcases Nat.lt_or_ge j i with z | z
        · exact h1 j z hx
        · obtain rfl : j = i := by omega
          exact h2
      · exact fun h => ⟨fun j hj => h j (by omega), h i (by omega) q⟩
    · rename_i q
      rw [ih]
      constructor
      · intro h1 j hj hx
        rcases Nat.lt_or_ge j i with z | z
        · exact h1 j z hx
        · obtain rfl : j = i := by omega
          exact absurd hx q
      · exact fun h j hj => h j (by omega)
theorem rio_iff {l : List Int32} {i j : Nat} (k : Nat) : rio l i j k = true ↔ ∀ t, t < k → zbit (l.getD (t + 1) 0 ^^^ l.getD 0 0) i = true ∨ zbit (l.getD (t + 1) 0 ^^^ l.getD 0 0) j = true := by
  induction k with
  | zero => exact ⟨fun _ t ht => absurd ht (Nat.not_lt_zero t), fun _ => rfl⟩
  | succ k ih =>
    rw [rio, Bool.and_eq_true, Bool.or_eq_true, ih]
    constructor
    · rintro ⟨h1, h2⟩ t ht
      rcases Nat.lt_or_ge t k with z | z
      · exact h1 t z
      · obtain rfl : t = k := by omega
        exact h2
    · exact fun h => ⟨fun t ht => h t (by omega), h k (by omega)⟩
theorem rin_a {l : List Int32} {k m : Nat} (h : rio l k k (l.length - 1) = true) (hm : 1 < m) (t : Nat) (ht : 0 < t) : rin l k t m = 1 := by
  have h1 : rin l k 1 m = 1 := by
    have := rin_1 (l := l) (i := k) (j := 0) (m := m) hm h rfl
    rw [this]
    show min m 1 = 1
    omega
  rw [rin_stop (j := 1) (by omega) t ht, h1]
theorem rin_b {l : List Int32} {k m : Nat} (h : rio l k k (l.length - 1) = false) (hm : 1 < m) (hm3 : m ≤ 3) (t : Nat) : ((∃ s, 0 < s ∧ s < t ∧ rio l k (k + s) (l.length - 1) = true) → rin l k t m = 2) ∧ ((¬ ∃ s, 0 < s ∧ s < t ∧ rio l k (k + s) (l.length - 1) = true) → rin l k t m = m) := by
  induction t with
  | zero => exact ⟨fun ⟨s, h1, h2, _⟩ => absurd h2 (Nat.not_lt_zero s), fun _ => rfl⟩
  | succ t ih =>
    obtain ⟨i1, i2⟩ := ih
    have h1 : 1 < rin l k t m ∧ (rin l k t m = 2 ∨ rin l k t m = m) := by
      by_cases q : ∃ s, 0 < s ∧ s < t ∧ rio l k (k + s) (l.length - 1) = true
      · rw [i1 q]; exact ⟨by omega, Or.inl rfl⟩
      · rw [i2 q]; exact ⟨hm, Or.inr rfl⟩
    cases hb : rio l k (k + t) (l.length - 1) with
    | false =>
      rw [rin_n h1.1 hb]
      refine ⟨fun ⟨s, s1, s2, s3⟩ => i1 ⟨s, s1, ?_, s3⟩, fun hn => i2 fun ⟨s, s1, s2, s3⟩ => hn ⟨s, s1, by omega, s3⟩⟩
      rcases Nat.lt_or_ge s t with z | z
      · exact z
      · obtain rfl : s = t := by omega
        rw [hb] at s3
        cases s3
    | true =>
      have ht : ¬ t = 0 := fun e => by
        subst e
        rw [Nat.add_zero, h] at hb
        cases hb
      rw [rin_2 h1.1 hb ht]
      refine ⟨fun _ => ?_, fun hn => absurd ⟨t, by omega, by omega, hb⟩ hn⟩
      rcases h1.2 with z | z <;> omega
/-- what the search for one or two cells comes to -/
theorem ron_ch (l : List Int32) (N k : Nat) (hk : k ≤ N) : ((∃ i, i < k ∧ rio l i i (l.length - 1) = true) → ron l N k = 1) ∧
    ((¬ ∃ i, i < k ∧ rio l i i (l.length - 1) = true) → ((∃ i j, i < k ∧ i < j ∧ j < N ∧ rio l i j (l.length - 1) = true) → ron l N k = 2) ∧ ((¬ ∃ i j, i < k ∧ i < j ∧ j < N ∧ rio l i j (l.length - 1) = true) → ron l N k = 3)) := by
  induction k with
  | zero => exact ⟨fun ⟨i, h, _⟩ => absurd h (Nat.not_lt_zero i), fun _ => ⟨fun ⟨i, j, h, _⟩ => absurd h (Nat.not_lt_zero i), fun _ => rfl⟩⟩
  | succ k ih =>
    obtain ⟨a1, a2⟩ := ih (by omega)
    by_cases q : ∃ i, i < k ∧ rio l i i (l.length - 1) = true
    · have e : ron l N (k + 1) = 1 := by rw [ron, if_pos (by rw [a1 q]; omega)]; exact a1 q
      obtain ⟨i, h1, h2⟩ := q
      exact ⟨fun _ => e, fun hn => absurd ⟨i, by omega, h2⟩ hn⟩
    · obtain ⟨b1, b2⟩ := a2 q
      have hm : 1 < ron l N k ∧ ron l N k ≤ 3 := by
        refine ⟨?_, ron_le _ _ _⟩
        by_cases q2 : ∃ i j, i < k ∧ i < j ∧ j < N ∧ rio l i j (l.length - 1) = true
        · rw [b1 q2]; omega
        · rw [b2 q2]; omega
      rw [ron_s hm.1]
      cases hkk : rio l k k (l.length - 1) with
      | true => exact ⟨fun _ => rin_a hkk hm.1 _ (by omega), fun hn => absurd ⟨k, by omega, hkk⟩ hn⟩
      | false =>
        obtain ⟨c1, c2⟩ := rin_b hkk hm.1 hm.2 (N - k)
        refine ⟨fun ⟨i, h1, h2⟩ => ?_, fun _ => ⟨fun ⟨i, j, h1, h2, h3, h4⟩ => ?_, fun hn => ?_⟩⟩
        · rcases Nat.lt_or_ge i k with z | z
          · exact absurd ⟨i, z, h2⟩ q
          · obtain rfl : i = k := by omega
            rw [hkk] at h2
            cases h2
        · by_cases q3 : ∃ s, 0 < s ∧ s < N - k ∧ rio l k (k + s) (l.length - 1) = true
          · exact c1 q3
          · rw [c2 q3]
            rcases Nat.lt_or_ge i k with z | z
            · exact b1 ⟨i, j, z, h2, h3, h4⟩
            · obtain rfl : i = k := by omega
              exact absurd ⟨j - i, by omega, by omega, by rw [show i + (j - i) = j by omega]; exact h4⟩ q3
        · have q3 : ¬ ∃ s, 0 < s ∧ s < N - k ∧ rio l k (k + s) (l.length - 1) = true := fun ⟨s, s1, s2, s3⟩ => hn ⟨k, k + s, by omega, by omega, by omega, s3⟩
          rw [c2 q3]
          exact b2 fun ⟨i, j, h1, h2, h3, h4⟩ => hn ⟨i, j, by omega, h2, h3, h4⟩
theorem yfw_iff {ps : List Int32} {n : Nat} (k : Nat) : yfw ps n k = true ↔ ∃ i, i < k ∧ ytn ps n (ysh1 i) = true := by
  induction k with
  | zero => exact ⟨fun h => Bool.noConfusion h, fun ⟨i, h, _⟩ => absurd h (Nat.not_lt_zero i)⟩
  | succ k ih =>
    rw [yfw, Bool.or_eq_true, ih]
    constructor
    · rintro (⟨i, h1, h2⟩ | h)
      · exact ⟨i, by omega, h2⟩
      · exact ⟨k, by omega, h⟩
    · rintro ⟨i, h1, h2⟩
      rcases Nat.lt_or_ge i k with z | z
      · exact Or.inl ⟨i, z, h2⟩
      · obtain rfl : i = k := by omega
        exact Or.inr h2
theorem ytn_iff {ps : List Int32} {n : Nat} {x : Int32} : ytn ps n x = true ↔ ∃ b, b < 32 ∧ ∀ j, j < n - 1 → (ps.getD (j + 1) 0 ^^^ ps.getD 0 0) &&& x = 0 → zbit (ps.getD (j + 1) 0 ^^^ ps.getD 0 0) b = true := by
  unfold ytn
  rw [Bool.not_eq_true', decide_eq_false_iff_not]
  constructor
  · intro h
    obtain ⟨b, hb, h2⟩ := zbit_ne h
    exact ⟨b, hb, (ytf_bit _ hb).mp h2⟩
  · rintro ⟨b, hb, h⟩ e
    have := (ytf_bit _ hb).mpr h
    rw [e, show zbit 0 b = false from zbit_0 b] at this
    cases this
theorem zand_sh1 {v : Int32} {k : Nat} (hk : k < 32) : v &&& ysh1 k = 0 ↔ zbit v k = false := by
  rw [zbit_eq0]
  constructor
  · intro h
    have := h k hk
    rw [zbit_and, zbit_sh1 hk hk, decide_eq_true rfl, Bool.and_true] at this
    exact this
  · intro h n hn
    rw [zbit_and, zbit_sh1 hk hn]
    by_cases e : k = n
    · subst e; rw [h]; rfl
    · rw [decide_eq_false e, Bool.and_false]
/-- one cell, two, or none: the same on both sides -/
theorem ynd_rne {w hh : Nat} {ps l : List Int32} (hd : 2 ≤ w ∧ w ≤ 5 ∧ 2 ≤ hh ∧ hh ≤ 5) (h : ps.take l.length = l) (hi : ∀ j p, j < l.length → w * hh ≤ p → zbit (l.getD j 0) p = false) : ynd ps l.length (w * hh) = rne w hh l := by
  have h25 := (zwh_b hd).2
  unfold ynd rne
  by_cases q : l.length ≤ 1
  · have q2 : l.length < 2 := by omega
    rw [if_pos q, if_pos q2]
    rcases (show l.length = 0 ∨ l.length = 1 by omega) with z | z
    · rw [z, if_pos rfl]; decide
    · rw [z, if_neg (show ¬ 1 = 0 by decide)]; decide
  · have q2 : ¬ l.length < 2 := by omega
    rw [if_neg q, if_neg q2]
    have hp : ∀ j, j < l.length → ps.getD j 0 = l.getD j 0 := fun j hj => (ztk h hj).symm
    have hD : ∀ j p, j < l.length - 1 → w * hh ≤ p → zbit (l.getD (j + 1) 0 ^^^ l.getD 0 0) p = false := fun j p hj hpp => by
      rw [zbit_xor, hi (j + 1) p (by omega) hpp, hi 0 p (by omega) hpp]
      rfl
    obtain ⟨r1, r2⟩ := ron_ch l (w * hh) (w * hh) (Nat.le_refl _)
    have e1 : ytn ps l.length (zJ 0) = true ↔ ∃ i, i < w * hh ∧ rio l i i (l.length - 1) = true := by
      rw [ytn_iff]
      constructor
      · rintro ⟨b, hb, hz⟩
        have hz2 : ∀ j, j < l.length - 1 → zbit (l.getD (j + 1) 0 ^^^ l.getD 0 0) b = true := fun j hj => by
          have := hz j hj (zbit_eq0.mpr fun n _ => by rw [zbit_and, zbit_0, Bool.and_false])
          rw [hp _ (by omega), hp _ (by omega)] at this
          exact this
        refine ⟨b, ?_, (rio_iff _).mpr fun t ht => Or.inl (hz2 t ht)⟩
        rcases Nat.lt_or_ge b (w * hh) with z | z
        · exact z
        · have := hz2 0 (by omega)
          rw [hD 0 b (by omega) z] at this
          cases this
      · rintro ⟨i, hi1, hr⟩
        refine ⟨i, by omega, fun j hj _ => ?_⟩
        rw [hp _ (by omega), hp _ (by omega)]
        rcases (rio_iff _).mp hr j hj with z | z <;> exact z
    by_cases q1 : ∃ i, i < w * hh ∧ rio l i i (l.length - 1) = true
    · rw [if_pos (e1.mpr q1), r1 q1, if_neg (show ¬ 1 = 3 by decide)]
    · obtain ⟨r3, r4⟩ := r2 q1
      rw [if_neg (fun z => q1 (e1.mp z))]
      have e2 : yfw ps l.length (w * hh) = true ↔ ∃ i j, i < w * hh ∧ i < j ∧ j < w * hh ∧ rio l i j (l.length - 1) = true := by
        rw [yfw_iff]
        constructor
        · rintro ⟨k, hk, hy⟩
          obtain ⟨b, hb, hz⟩ := ytn_iff.mp hy
          have hz2 : ∀ j, j < l.length - 1 → zbit (l.getD (j + 1) 0 ^^^ l.getD 0 0) k = true ∨ zbit (l.getD (j + 1) 0 ^^^ l.getD 0 0) b = true := fun j hj => by
            cases hc : zbit (l.getD (j + 1) 0 ^^^ l.getD 0 0) k with
            | true => exact Or.inl rfl
            | false =>
              right
              have := hz j hj (by rw [hp _ (by omega), hp _ (by omega)]; exact (zand_sh1 (by omega)).mpr hc)
              rw [hp _ (by omega), hp _ (by omega)] at this
              exact this
          have hbN : b < w * hh := by
            rcases Nat.lt_or_ge b (w * hh) with z | z
            · exact z
            · refine absurd ⟨k, hk, (rio_iff _).mpr fun t ht => ?_⟩ q1
              rcases hz2 t ht with z2 | z2
              · exact Or.inl z2
              · rw [hD t b ht z] at z2
                cases z2
          rcases Nat.lt_trichotomy k b with z | z | z
          · exact ⟨k, b, hk, z, hbN, (rio_iff _).mpr hz2⟩
          · subst z
            exact absurd ⟨k, hk, (rio_iff _).mpr hz2⟩ q1
          · exact ⟨b, k, hbN, z, hk, (rio_iff _).mpr fun t ht => (hz2 t ht).symm⟩
        · rintro ⟨i, j, h1, h2, h3, h4⟩
          refine ⟨i, h1, ytn_iff.mpr ⟨j, by omega, fun t ht hx => ?_⟩⟩
          rw [hp _ (by omega), hp _ (by omega)] at hx ⊢
          have hf := (zand_sh1 (by omega)).mp hx
          rcases (rio_iff _).mp h4 t ht with z | z
          · rw [hf] at z; cases z
          · exact z
      by_cases q2 : ∃ i j, i < w * hh ∧ i < j ∧ j < w * hh ∧ rio l i j (l.length - 1) = true
      · rw [if_pos (e2.mpr q2), r3 q2, if_neg (show ¬ 2 = 3 by decide)]
      · rw [if_neg (fun z => q2 (e2.mp z)), r4 q2, if_pos rfl]
