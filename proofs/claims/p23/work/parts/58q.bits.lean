/-! ===== both sides' lines: ways, what follows ===== -/
theorem zbit_DA {n p : Nat} (hn : n < 32) (hp : p < 5) : zbit (zDA p) n = n.testBit p := by
  have : ∀ a : Fin 32, ∀ b : Fin 5, zbit (zDA b.val) a.val = a.val.testBit b.val := by decide +kernel
  exact this ⟨n, hn⟩ ⟨p, hp⟩
theorem zbit_lt {x : Int32} {n : Nat} (h : zbit x n = true) : n < 32 := Nat.lt_of_not_le fun q => by rw [zbit_ge _ q] at h; cases h
theorem zbit_eq0 {x : Int32} : x = 0 ↔ ∀ n, n < 32 → zbit x n = false := by
  constructor
  · rintro rfl n _
    exact zbit_0 n
  · intro h
    exact zbit_ext (b := 0) fun k hk => (h k hk).trans (zbit_0 k).symm
theorem zfgL_bit (x : Int32) {n : Nat} (hn : n < 32) (k : Nat) (hk : k ≤ 32) : zbit (zfgL x k) n = true ↔ n < k ∧ zSA n = x := by
  induction k with
  | zero =>
    rw [zfgL, zbit_0]
    exact ⟨fun q => Bool.noConfusion q, fun q => absurd q.1 (Nat.not_lt_zero n)⟩
  | succ k ih =>
    rw [zfgL]
    split
    · rename_i q
      rw [zbit_or, zbit_sh1 (by omega) hn, Bool.or_eq_true, ih (by omega), decide_eq_true_iff]
      constructor
      · rintro (h | rfl)
        · exact ⟨by omega, h.2⟩
        · exact ⟨by omega, q⟩
      · rintro ⟨h1, h2⟩
        rcases Nat.lt_or_ge n k with z | z
        · exact Or.inl ⟨z, h2⟩
        · exact Or.inr (by omega)
    · rename_i q
      rw [ih (by omega)]
      constructor
      · exact fun h => ⟨by omega, h.2⟩
      · rintro ⟨h1, h2⟩
        refine ⟨?_, h2⟩
        rcases Nat.lt_or_ge n k with z | z
        · exact z
        · obtain rfl : n = k := by omega
          exact absurd h2 q
theorem zfg_bit (x : Int32) {l : Nat} (hl : 2 ≤ l ∧ l ≤ 5) {n : Nat} (hn : n < 32) : zbit (zfg x l) n = true ↔ n < 2 ^ l ∧ (x = -1 ∨ zSA n = x) := by
  rw [zfg]
  split
  · rename_i q
    have h1 : ∀ a : Fin 6, 2 ≤ a.val → ∀ b : Fin 32, (zbit (zush (-1) (zJ 32 - ysh1 a.val)) b.val = true ↔ b.val < 2 ^ a.val) := by decide +kernel
    rw [h1 ⟨l, by omega⟩ hl.1 ⟨n, hn⟩]
    exact ⟨fun h => ⟨h, Or.inl q⟩, fun h => h.1⟩
  · rename_i q
    rw [zfgL_bit x hn _ (zpow5 hl.2)]
    exact ⟨fun h => ⟨h.1, Or.inr h.2⟩, fun h => ⟨h.1, h.2.resolve_left q⟩⟩
theorem rsw_SA {l n : Nat} (hl : 2 ≤ l ∧ l ≤ 5) (hn : n < 2 ^ l) : rsw (zJ n) l = zSA n := by
  have h1 : ∀ a : Fin 6, 2 ≤ a.val → ∀ b : Fin 32, b.val < 2 ^ a.val → rsw (zJ b.val) a.val = zSA b.val := by decide +kernel
  exact h1 ⟨l, by omega⟩ hl.1 ⟨n, Nat.lt_of_lt_of_le hn (zpow5 hl.2)⟩ hn
/-- the same states on both sides -/
def zLr (w hh : Nat) (cs x0 : List Int32) : Prop := ∀ c, c < w * hh → zst cs c = x0.getD c 0
section BL
variable {w hh : Nat} {cs fs x0 cl : List Int32} {i : Nat}
theorem rco_J {n p : Nat} (hn : n < 32) (hp : p < 32) : rco w hh x0 i (zJ n) p = true ↔ (x0.getD (ycl w hh i p) 0 = zJ 1 → n.testBit p = true) ∧ (x0.getD (ycl w hh i p) 0 = zJ 2 → n.testBit p = false) := by
  unfold rco
  rw [zbit_J n p hp]
  by_cases q1 : x0.getD (ycl w hh i p) 0 = zJ 1
  · rw [if_pos q1]
    exact ⟨fun h => ⟨fun _ => h, fun q2 => absurd (q1.symm.trans q2) (by decide)⟩, fun h => h.1 q1⟩
  · rw [if_neg q1]
    by_cases q2 : x0.getD (ycl w hh i p) 0 = zJ 2
    · rw [if_pos q2]
      exact ⟨fun h => ⟨fun z => absurd z q1, fun _ => by cases hb : n.testBit p with | false => rfl | true => rw [hb] at h; cases h⟩, fun h => by rw [h.2 q2]; rfl⟩
    · rw [if_neg q2]
      exact ⟨fun _ => ⟨fun z => absurd z q1, fun z => absurd z q2⟩, fun _ => rfl⟩
theorem zwy_bit (R : zLr w hh cs x0) (hi : i < w + hh) (hl : yln w hh i ≤ 5) (v : Int32) {n : Nat} (hn : n < 32) (k : Nat) (hk : k ≤ yln w hh i) : zbit (zwy w hh cs i v k) n = true ↔ zbit v n = true ∧ rall (rco w hh x0 i (zJ n)) k = true := by
  induction k with
  | zero => exact ⟨fun h => ⟨h, rfl⟩, fun h => h.1⟩
  | succ k ih =>
    have hc := R _ (ycl_b hi (show k < yln w hh i by omega))
    have h0 := ih (by omega)
    rw [zwy, rall, Bool.and_eq_true, rco_J hn (by omega), hc]
    by_cases q1 : x0.getD (ycl w hh i k) 0 = zJ 1
    · rw [if_pos q1, zbit_and, Bool.and_eq_true, h0, zbit_DA hn (by omega)]
      constructor
      · rintro ⟨⟨h1, h2⟩, h3⟩
        exact ⟨h1, h2, fun _ => h3, fun q2 => absurd (q1.symm.trans q2) (by decide)⟩
      · rintro ⟨h1, h2, h3, -⟩
        exact ⟨⟨h1, h2⟩, h3 q1⟩
    · rw [if_neg q1]
      by_cases q2 : x0.getD (ycl w hh i k) 0 = zJ 2
      · rw [if_pos q2, zbit_and, Bool.and_eq_true, h0, zbit_not _ _ hn, zbit_DA hn (by omega)]
        constructor
        · rintro ⟨⟨h1, h2⟩, h3⟩
          exact ⟨h1, h2, fun z => absurd z q1, fun _ => by cases hb : n.testBit k with | false => rfl | true => rw [hb] at h3; cases h3⟩
        · rintro ⟨h1, h2, -, h3⟩
          exact ⟨⟨h1, h2⟩, by rw [h3 q2]; rfl⟩
      · rw [if_neg q2, h0]
        exact ⟨fun h => ⟨h.1, h.2, fun z => absurd z q1, fun z => absurd z q2⟩, fun h => ⟨h.1, h.2.1⟩⟩
/-- a line of both sides -/
def zLn (w hh : Nat) (fs cl : List Int32) (i : Nat) : Prop := fs.getD i 0 = zfg (cl.getD i 0) (yln w hh i)
theorem zws_iff (R : zLr w hh cs x0) (hd : 2 ≤ w ∧ w ≤ 5 ∧ 2 ≤ hh ∧ hh ≤ 5) (hi : i < w + hh) (hf : zLn w hh fs cl i) (n : Nat) : zbit (zws w hh cs fs i) n = true ↔ n < 2 ^ yln w hh i ∧ riw w hh x0 cl i n = true := by
  have hl := yln_b i hd
  have hp := zpow5 hl.2
  by_cases hn : n < 32
  · rw [zws, zwy_bit R hi hl.2 _ hn _ (Nat.le_refl _), hf, zfg_bit _ hl hn, riw, Bool.and_eq_true, Bool.or_eq_true, decide_eq_true_iff, decide_eq_true_iff]
    constructor
    · rintro ⟨⟨h1, h2⟩, h3⟩
      exact ⟨h1, h3, h2.imp id (fun z => (rsw_SA hl h1).trans z)⟩
    · rintro ⟨h1, h3, h2⟩
      exact ⟨⟨h1, h2.imp id (fun z => (rsw_SA hl h1).symm.trans z)⟩, h3⟩
  · constructor
    · intro h
      exact absurd (zbit_lt h) hn
    · rintro ⟨h1, -⟩
      omega
theorem rct_0 (k : Nat) : rct w hh x0 cl i k = 0 ↔ ∀ n, n < k → riw w hh x0 cl i n = false := by
  induction k with
  | zero => exact ⟨fun _ n h => absurd h (Nat.not_lt_zero n), fun _ => rfl⟩
  | succ k ih =>
    rw [rct]
    split
    · rename_i q
      constructor
      · intro h; omega
      · intro h
        have := h k (by omega)
        rw [q] at this
        cases this
    · rename_i q
      rw [ih]
      constructor
      · intro h n hn
        rcases Nat.lt_or_ge n k with z | z
        · exact h n z
        · obtain rfl : n = k := by omega
          exact Bool.eq_false_iff.mpr q
      · exact fun h n hn => h n (by omega)
theorem zws_0 (R : zLr w hh cs x0) (hd : 2 ≤ w ∧ w ≤ 5 ∧ 2 ≤ hh ∧ hh ≤ 5) (hi : i < w + hh) (hf : zLn w hh fs cl i) : zws w hh cs fs i = 0 ↔ rcw w hh x0 cl i = 0 := by
  have hp := zpow5 (yln_b i hd).2
  rw [rcw, rct_0, zbit_eq0]
  constructor
  · intro h n hn
    cases hb : riw w hh x0 cl i n with
    | false => rfl
    | true =>
      have h1 := (zws_iff R hd hi hf n).mpr ⟨hn, hb⟩
      rw [h n (by omega)] at h1
      cases h1
  · intro h n _
    cases hb : zbit (zws w hh cs fs i) n with
    | false => rfl
    | true =>
      have h1 := (zws_iff R hd hi hf n).mp hb
      rw [h n h1.1] at h1
      exact absurd h1.2 (by decide)
/-! ### what follows -/
theorem zfo_bit (ways s : Int32) {p : Nat} (hp : p < 32) (k : Nat) (hk : k ≤ 32) : zbit (zfo w hh cs ways i s k) p = true ↔ p < k ∧ zag ways s p = 0 ∧ zst cs (ycl w hh i p) = 0 := by
  induction k with
  | zero =>
    rw [zfo, zbit_0]
    exact ⟨fun q => Bool.noConfusion q, fun q => absurd q.1 (Nat.not_lt_zero p)⟩
  | succ k ih =>
    have h0 := ih (by omega)
    have key : ∀ (P : Prop), (P → p < k + 1 ∧ zag ways s p = 0 ∧ zst cs (ycl w hh i p) = 0) → P → p < k + 1 ∧ zag ways s p = 0 ∧ zst cs (ycl w hh i p) = 0 := fun P f x => f x
    have no : ¬ (zag ways s k = 0 ∧ zst cs (ycl w hh i k) = 0) → (p < k + 1 ∧ zag ways s p = 0 ∧ zst cs (ycl w hh i p) = 0 ↔ p < k ∧ zag ways s p = 0 ∧ zst cs (ycl w hh i p) = 0) := by
      intro hn
      constructor
      · rintro ⟨h1, h2, h3⟩
        rcases Nat.lt_or_ge p k with z | z
        · exact ⟨z, h2, h3⟩
        · obtain rfl : p = k := by omega
          exact absurd ⟨h2, h3⟩ hn
      · exact fun h => ⟨by omega, h.2⟩
    rw [zfo]
    by_cases q1 : zag ways s k = 0
    · rw [if_pos q1]
      by_cases q2 : zst cs (ycl w hh i k) = 0
      · rw [if_pos q2, zbit_or, zbit_sh1 (by omega) hp, Bool.or_eq_true, h0, decide_eq_true_iff]
        constructor
        · rintro (h | rfl)
          · exact ⟨by omega, h.2⟩
          · exact ⟨by omega, q1, q2⟩
        · rintro ⟨h1, h2⟩
          rcases Nat.lt_or_ge p k with z | z
          · exact Or.inl ⟨z, h2⟩
          · exact Or.inr (by omega)
      · rw [if_neg q2, h0, no (fun h => q2 h.2)]
    · rw [if_neg q1, h0, no (fun h => q1 h.1)]
theorem zag_iff (ways : Int32) (d : Bool) {p : Nat} (hp : p < 5) : zag ways (mdk d) p = 0 ↔ ∀ n, n < 32 → zbit ways n = true → n.testBit p = d := by
  rw [zbit_eq0]
  cases d with
  | true =>
    rw [zag, if_pos (show mdk true = zJ 1 from rfl)]
    constructor
    · intro h n hn hb
      have h1 := h n hn
      rw [zbit_and, hb, zbit_not _ _ hn, zbit_DA hn hp, Bool.true_and] at h1
      cases hz : n.testBit p with
      | true => rfl
      | false => rw [hz] at h1; cases h1
    · intro h n hn
      rw [zbit_and, zbit_not _ _ hn, zbit_DA hn hp]
      cases hb : zbit ways n with
      | false => rfl
      | true => rw [h n hn hb]; rfl
  | false =>
    rw [zag, if_neg (show ¬ mdk false = zJ 1 by decide)]
    constructor
    · intro h n hn hb
      have h1 := h n hn
      rw [zbit_and, hb, zbit_DA hn hp, Bool.true_and] at h1
      exact h1
    · intro h n hn
      rw [zbit_and, zbit_DA hn hp]
      cases hb : zbit ways n with
      | false => rfl
      | true => rw [h n hn hb]; rfl
theorem yfl_iff (ways : Int32) (d : Bool) (hl : yln w hh i ≤ 5) {p : Nat} (hp : p < 32) : zbit (yfl w hh cs ways i (mdk d)) p = true ↔ ¬ ways = 0 ∧ p < yln w hh i ∧ (∀ n, n < 32 → zbit ways n = true → n.testBit p = d) ∧ zst cs (ycl w hh i p) = 0 := by
  rw [yfl]
  split
  · rename_i q
    rw [zbit_0]
    exact ⟨fun z => Bool.noConfusion z, fun z => absurd q z.1⟩
  · rename_i q
    rw [zfo_bit _ _ hp _ (by omega)]
    constructor
    · rintro ⟨h1, h2, h3⟩
      exact ⟨q, h1, (zag_iff ways d (by omega)).mp h2, h3⟩
    · rintro ⟨-, h1, h2, h3⟩
      exact ⟨h1, (zag_iff ways d (by omega)).mpr h2, h3⟩
theorem rfb_iff (v : Int32) {p : Nat} (hp : p < 32) (k : Nat) (hk : k ≤ 32) : zbit (rfb w hh x0 i v k) p = true ↔ zbit v p = true ∧ (p < k → x0.getD (ycl w hh i p) 0 = 0) := by
  induction k with
  | zero => exact ⟨fun h => ⟨h, fun z => absurd z (Nat.not_lt_zero p)⟩, fun h => h.1⟩
  | succ k ih =>
    rw [rfb]
    split
    · rename_i q
      rw [ih (by omega)]
      constructor
      · rintro ⟨h1, h2⟩
        refine ⟨h1, fun hz => ?_⟩
        rcases Nat.lt_or_ge p k with z | z
        · exact h2 z
        · obtain rfl : p = k := by omega
          exact q
      · exact fun h => ⟨h.1, fun z => h.2 (by omega)⟩
    · rename_i q
      rw [zbit_and, Bool.and_eq_true, ih (by omega), zbit_not _ _ hp, zbit_sh1 (by omega) hp]
      constructor
      · rintro ⟨⟨h1, h2⟩, h3⟩
        refine ⟨h1, fun hz => ?_⟩
        rcases Nat.lt_or_ge p k with z | z
        · exact h2 z
        · obtain rfl : p = k := by omega
          rw [decide_eq_true rfl] at h3
          cases h3
      · rintro ⟨h1, h2⟩
        refine ⟨⟨h1, fun z => h2 (by omega)⟩, ?_⟩
        have hne : ¬ k = p := fun e => q (by have := h2 (by omega); rw [← e] at this; exact this)
        rw [decide_eq_false hne]
        rfl
theorem zbit_msk {l p : Nat} (hl : l ≤ 5) (hp : p < 32) : zbit (zJ (1 * 2 ^ l - 1)) p = decide (p < l) := by
  have h1 : ∀ a : Fin 6, ∀ b : Fin 32, zbit (zJ (1 * 2 ^ a.val - 1)) b.val = decide (b.val < a.val) := by decide +kernel
  exact h1 ⟨l, by omega⟩ ⟨p, hp⟩
theorem rfa_iff (d : Bool) (hl : yln w hh i ≤ 5) {p : Nat} (hp : p < 32) (k : Nat) (hk : k ≤ 32) : (zbit (rfa w hh x0 cl i d k).1 p = true ↔ p < yln w hh i ∧ ∀ n, n < k → riw w hh x0 cl i n = true → n.testBit p = d) ∧ ((rfa w hh x0 cl i d k).2 = true ↔ ∃ n, n < k ∧ riw w hh x0 cl i n = true) := by
  induction k with
  | zero =>
    rw [rfa, zbit_msk hl hp, decide_eq_true_iff]
    exact ⟨⟨fun h => ⟨h, fun n hn => absurd hn (Nat.not_lt_zero n)⟩, fun h => h.1⟩, ⟨fun h => Bool.noConfusion h, fun ⟨n, hn, _⟩ => absurd hn (Nat.not_lt_zero n)⟩⟩
  | succ k ih =>
    obtain ⟨i1, i2⟩ := ih (by omega)
    rw [rfa]
    split
    · rename_i q
      refine ⟨?_, ⟨fun _ => ⟨k, by omega, q⟩, fun _ => rfl⟩⟩
      rw [zbit_and, Bool.and_eq_true, i1]
      have hb : p < yln w hh i → (zbit (if d = true then zJ k else zJ (1 * 2 ^ yln w hh i - 1) &&& (zJ k ^^^ (-1))) p = true ↔ k.testBit p = d) := by
        intro hpl
        cases d with
        | true => rw [if_pos rfl, zbit_J _ _ hp]
        | false =>
          rw [if_neg (by decide), zbit_and, zbit_msk hl hp, decide_eq_true hpl, Bool.true_and, zbit_not _ _ hp, zbit_J _ _ hp]
          cases k.testBit p <;> decide
      constructor
      · rintro ⟨⟨h1, h2⟩, h3⟩
        refine ⟨h1, fun n hn hr => ?_⟩
        rcases Nat.lt_or_ge n k with z | z
        · exact h2 n z hr
        · obtain rfl : n = k := by omega
          exact (hb h1).mp h3
      · rintro ⟨h1, h2⟩
        exact ⟨⟨h1, fun n hn => h2 n (by omega)⟩, (hb h1).mpr (h2 k (by omega) q)⟩
    · rename_i q
      refine ⟨i1.trans ⟨?_, fun h => ⟨h.1, fun n hn => h.2 n (by omega)⟩⟩, i2.trans ⟨fun ⟨n, hn, hr⟩ => ⟨n, by omega, hr⟩, ?_⟩⟩
      · rintro ⟨h1, h2⟩
        refine ⟨h1, fun n hn hr => ?_⟩
        rcases Nat.lt_or_ge n k with z | z
        · exact h2 n z hr
        · obtain rfl : n = k := by omega
          exact absurd hr q
      · rintro ⟨n, hn, hr⟩
        rcases Nat.lt_or_ge n k with z | z
        · exact ⟨n, z, hr⟩
        · obtain rfl : n = k := by omega
          exact absurd hr q
theorem rfo_iff (d : Bool) (hl : yln w hh i ≤ 5) {p : Nat} (hp : p < 32) : zbit (rfo w hh x0 cl i d) p = true ↔ (∃ n, n < 2 ^ yln w hh i ∧ riw w hh x0 cl i n = true) ∧ p < yln w hh i ∧ (∀ n, n < 2 ^ yln w hh i → riw w hh x0 cl i n = true → n.testBit p = d) ∧ x0.getD (ycl w hh i p) 0 = 0 := by
  have h5 := zpow5 hl
  obtain ⟨i1, i2⟩ := rfa_iff (x0 := x0) (cl := cl) d hl hp (2 ^ yln w hh i) h5
  rw [rfo]
  split
  · rename_i q
    rw [rfb_iff _ hp _ (by omega), i1]
    constructor
    · rintro ⟨⟨h1, h2⟩, h3⟩
      exact ⟨i2.mp q, h1, h2, h3 h1⟩
    · rintro ⟨-, h1, h2, h3⟩
      exact ⟨⟨h1, h2⟩, fun _ => h3⟩
  · rename_i q
    rw [zbit_0]
    exact ⟨fun z => Bool.noConfusion z, fun z => absurd (i2.mpr z.1) q⟩
/-- the same cells follow from a line on both sides -/
theorem yfl_rfo (R : zLr w hh cs x0) (hd : 2 ≤ w ∧ w ≤ 5 ∧ 2 ≤ hh ∧ hh ≤ 5) (hi : i < w + hh) (hf : zLn w hh fs cl i) (d : Bool) : yfl w hh cs (zws w hh cs fs i) i (mdk d) = rfo w hh x0 cl i d := by
  have hl := yln_b i hd
  have h5 := zpow5 hl.2
  refine zbit_ext fun p hp => ?_
  have key : zbit (yfl w hh cs (zws w hh cs fs i) i (mdk d)) p = true ↔ zbit (rfo w hh x0 cl i d) p = true := by
    rw [yfl_iff _ d hl.2 hp, rfo_iff d hl.2 hp]
    constructor
    · rintro ⟨h1, h2, h3, h4⟩
      refine ⟨?_, h2, fun n hn hr => h3 n (by omega) ((zws_iff R hd hi hf n).mpr ⟨hn, hr⟩), by rw [← R _ (ycl_b hi h2)]; exact h4⟩
      obtain ⟨n, hn, hb⟩ := zbit_ne h1
      exact ⟨n, (zws_iff R hd hi hf n).mp hb⟩
    · rintro ⟨⟨n0, hn0, hr0⟩, h2, h3, h4⟩
      refine ⟨fun e => ?_, h2, fun n hn hb => ?_, by rw [R _ (ycl_b hi h2)]; exact h4⟩
      · have := (zws_iff R hd hi hf n0).mpr ⟨hn0, hr0⟩
        rw [e] at this
        rw [show zbit 0 n0 = false from zbit_0 n0] at this
        cases this
      · obtain ⟨h5, h6⟩ := (zws_iff R hd hi hf n).mp hb
        exact h3 n h5 h6
  cases h1 : zbit (yfl w hh cs (zws w hh cs fs i) i (mdk d)) p with
  | true => exact (key.mp h1).symm
  | false =>
    cases h2 : zbit (rfo w hh x0 cl i d) p with
    | false => rfl
    | true => rw [key.mpr h2] at h1; cases h1
end BL
