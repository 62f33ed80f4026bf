/-! ===== pictures: what a line shows of a set of cells; all sets in their order ===== -/
def zpk (w hh : Nat) (X : Int32) (i : Nat) : Nat → Nat
  | 0 => 0
  | k + 1 => if zbit X (ycl w hh i k) = true then 2 ^ k + zpk w hh X i k else zpk w hh X i k
def zpa (w hh : Nat) (X : Int32) (i : Nat) : Nat := zpk w hh X i (yln w hh i)
theorem zpk_lt (w hh : Nat) (X : Int32) (i k : Nat) : zpk w hh X i k < 2 ^ k := by
  induction k with
  | zero => exact Nat.one_pos
  | succ k ih =>
    rw [zpk, Nat.pow_succ]
    split <;> omega
theorem zpk_bit (w hh : Nat) (X : Int32) (i k p : Nat) (hp : p < k) : (zpk w hh X i k).testBit p = zbit X (ycl w hh i p) := by
  induction k with
  | zero => omega
  | succ k ih =>
    have hl := zpk_lt w hh X i k
    rw [zpk]
    by_cases e : p = k
    · subst e
      cases hb : zbit X (ycl w hh i p) with
      | true => rw [if_pos rfl, Nat.testBit_two_pow_add_eq, Nat.testBit_lt_two_pow hl]; rfl
      | false => rw [if_neg (by decide), Nat.testBit_lt_two_pow hl]
    · split
      · rw [Nat.testBit_two_pow_add_gt (by omega), ih (by omega)]
      · exact ih (by omega)
theorem zpa_lt (w hh : Nat) (X : Int32) (i : Nat) : zpa w hh X i < 2 ^ yln w hh i := zpk_lt _ _ _ _ _
theorem zpa_bit {w hh : Nat} {X : Int32} {i p : Nat} (hp : p < yln w hh i) : (zpa w hh X i).testBit p = zbit X (ycl w hh i p) := zpk_bit _ _ _ _ _ _ hp
theorem zpa_eq {w hh : Nat} {X : Int32} {i n : Nat} (hn : n < 2 ^ yln w hh i) (h : ∀ p, p < yln w hh i → n.testBit p = zbit X (ycl w hh i p)) : n = zpa w hh X i := by
  refine Nat.eq_of_testBit_eq fun p => ?_
  rcases Nat.lt_or_ge p (yln w hh i) with q | q
  · rw [h p q, zpa_bit q]
  · have h2 : ∀ m, m < 2 ^ yln w hh i → m.testBit p = false := fun m hm => Nat.testBit_lt_two_pow (Nat.lt_of_lt_of_le hm (Nat.pow_le_pow_right (by omega) q))
    rw [h2 _ hn, h2 _ (zpa_lt w hh X i)]
theorem yln_r {w hh r : Nat} (h : r < hh) : yln w hh r = w := if_pos h
theorem yln_c {w hh c : Nat} : yln w hh (hh + c) = hh := if_neg (by omega)
theorem ycl_r {w hh r p : Nat} (h : r < hh) : ycl w hh r p = r * w + p := if_pos h
theorem ycl_c {w hh c p : Nat} : ycl w hh (hh + c) p = p * w + c := by
  unfold ycl
  rw [if_neg (by omega)]
  omega
theorem zbit_shl {n s b : Nat} (hs : s < 32) (hb : b < 32) : zbit (zJ n <<< (zJ s &&& 31)) b = (decide (s ≤ b) && n.testBit (b - s)) := by
  rw [zJ_shl n s hs, zbit_J _ _ hb, Nat.testBit_mul_two_pow]
/-- every line of a set is as it is asked for -/
def zxC (w hh : Nat) (Q : Nat → Nat → Bool) (X : Int32) : Bool := rall (fun i => Q i (zpa w hh X i)) (w + hh)
theorem zxC_iff {w hh : Nat} {Q : Nat → Nat → Bool} {X : Int32} : zxC w hh Q X = true ↔ ∀ i, i < w + hh → Q i (zpa w hh X i) = true := rall_iff _ _
theorem zxC_congr {w hh : Nat} {Q Q' : Nat → Nat → Bool} (h : ∀ i n, i < w + hh → n < 2 ^ yln w hh i → Q i n = Q' i n) : zxC w hh Q = zxC w hh Q' := by
  funext X
  cases h1 : zxC w hh Q X with
  | true => exact (zxC_iff.mpr fun i hi => by rw [← h i _ hi (zpa_lt w hh X i)]; exact zxC_iff.mp h1 i hi).symm
  | false =>
    cases h2 : zxC w hh Q' X with
    | false => rfl
    | true =>
      have : zxC w hh Q X = true := zxC_iff.mpr fun i hi => by rw [h i _ hi (zpa_lt w hh X i)]; exact zxC_iff.mp h2 i hi
      rw [h1] at this
      cases this
def zxL (f : Nat → List Int32) : Nat → List Int32
  | 0 => []
  | k + 1 => zxL f k ++ f k
/-- what row r adds -/
def zrx (w r : Nat) (x : Int32) (n : Nat) : Int32 := x ||| (zJ n <<< (zJ (r * w) &&& 31))
def zxG (w : Nat) (C : Int32 → Bool) : Nat → Nat → Int32 → List Int32
  | 0, _, x => if C x = true then [x] else []
  | m + 1, r, x => zxL (fun n => zxG w C m (r + 1) (zrx w r x n)) (2 ^ w)
theorem zxL_nil {f : Nat → List Int32} (k : Nat) (h : ∀ n, n < k → f n = []) : zxL f k = [] := by
  induction k with
  | zero => rfl
  | succ k ih => rw [zxL, ih (fun n hn => h n (by omega)), h k (by omega)]; rfl
/-- alike in the first rows -/
def zag2 (b : Nat) (X x : Int32) : Prop := ∀ p, p < b → zbit X p = zbit x p
section GG
variable {w hh r : Nat} {x : Int32} {C : Int32 → Bool}
theorem zmul5 {a b c d : Nat} (h : a < c) (hb : b < d) : a * d + b < c * d := by
  have := Nat.mul_le_mul_right d (show a + 1 ≤ c from h)
  rw [Nat.succ_mul] at this
  omega
theorem zrx_lo {n p : Nat} (hp : p < r * w) (h25 : r * w < 32) : zbit (zrx w r x n) p = zbit x p := by
  unfold zrx
  rw [zbit_or, zbit_shl h25 (by omega), decide_eq_false (by omega), Bool.false_and, Bool.or_false]
theorem zrx_row {n c : Nat} (hx : ∀ p, r * w ≤ p → zbit x p = false) (h25 : r * w + c < 32) : zbit (zrx w r x n) (r * w + c) = n.testBit c := by
  unfold zrx
  rw [zbit_or, hx _ (by omega), zbit_shl (by omega) h25, decide_eq_true (by omega), Bool.true_and, Bool.false_or, Nat.add_sub_cancel_left]
theorem zrx_hi {n : Nat} (hx : ∀ p, r * w ≤ p → zbit x p = false) (hn : n < 2 ^ w) (h25 : (r + 1) * w ≤ 25) (p : Nat) (hp : (r + 1) * w ≤ p) : zbit (zrx w r x n) p = false := by
  rw [Nat.succ_mul] at h25 hp
  rcases Nat.lt_or_ge p 32 with q | q
  · unfold zrx
    rw [zbit_or, hx _ (by omega), zbit_shl (by omega) q, Bool.false_or, Nat.testBit_lt_two_pow (Nat.lt_of_lt_of_le hn (Nat.pow_le_pow_right (by omega) (by omega))), Bool.and_false]
  · exact zbit_ge _ q
theorem zxG_nil (m : Nat) : ∀ (r : Nat) (x : Int32), (r + m) * w ≤ 25 → (∀ X, zag2 (r * w) X x → C X = false) → zxG w C m r x = [] := by
  induction m with
  | zero =>
    intro r x _ h
    rw [zxG, if_neg (by rw [h x (fun _ _ => rfl)]; decide)]
  | succ m ih =>
    intro r x h25 h
    have e1 : (r + (m + 1)) * w = (r + 1 + m) * w := by rw [Nat.add_assoc, Nat.add_comm 1 m]
    have e2 : r * w ≤ (r + 1 + m) * w := Nat.mul_le_mul_right w (by omega)
    rw [zxG]
    refine zxL_nil _ fun n _ => ih (r + 1) _ (by omega) fun X hX => h X fun p hp => ?_
    have e3 : (r + 1) * w = r * w + w := Nat.succ_mul r w
    rw [hX p (by omega), zrx_lo hp (by omega)]
end GG
theorem ztake_app {α : Type} {X Y : List α} {m : Nat} : (X.take m ++ Y).take m = (X ++ Y).take m := by
  rw [List.take_append, List.take_append, List.take_take, Nat.min_self, List.length_take]
  congr 2
  omega
