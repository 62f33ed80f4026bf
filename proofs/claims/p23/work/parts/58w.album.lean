/-! ===== an album shows all pictures of its board ===== -/
section AW
variable {w hh : Nat} {cs fs : List Int32}
theorem zwy_iff {i : Nat} (v : Int32) {n : Nat} (hn : n < 32) (k : Nat) (hk : k ≤ 5) : zbit (zwy w hh cs i v k) n = true ↔ zbit v n = true ∧ ∀ p, p < k → (zst cs (ycl w hh i p) = zJ 1 → n.testBit p = true) ∧ (zst cs (ycl w hh i p) = zJ 2 → n.testBit p = false) := by
  induction k with
  | zero => exact ⟨fun h => ⟨h, fun p hp => absurd hp (Nat.not_lt_zero p)⟩, fun h => h.1⟩
  | succ k ih =>
    have key : zbit (zwy w hh cs i v (k + 1)) n = true ↔ zbit (zwy w hh cs i v k) n = true ∧ (zst cs (ycl w hh i k) = zJ 1 → n.testBit k = true) ∧ (zst cs (ycl w hh i k) = zJ 2 → n.testBit k = false) := by
      rw [zwy]
      by_cases q1 : zst cs (ycl w hh i k) = zJ 1
      · rw [if_pos q1, zbit_and, Bool.and_eq_true, zbit_DA hn (by omega)]
        exact ⟨fun h => ⟨h.1, fun _ => h.2, fun q2 => absurd (q1.symm.trans q2) (by decide)⟩, fun h => ⟨h.1, h.2.1 q1⟩⟩
      · rw [if_neg q1]
        by_cases q2 : zst cs (ycl w hh i k) = zJ 2
        · rw [if_pos q2, zbit_and, Bool.and_eq_true, zbit_not _ _ hn, zbit_DA hn (by omega), Bool.not_eq_true']
          exact ⟨fun h => ⟨h.1, fun z => absurd z q1, fun _ => h.2⟩, fun h => ⟨h.1, h.2.2 q2⟩⟩
        · rw [if_neg q2]
          exact ⟨fun h => ⟨h, fun z => absurd z q1, fun z => absurd z q2⟩, fun h => h.1⟩
    rw [key, ih (by omega)]
    constructor
    · rintro ⟨⟨h1, h2⟩, h3⟩
      refine ⟨h1, fun c hc => ?_⟩
      rcases Nat.lt_or_ge c k with z | z
      · exact h2 c z
      · obtain rfl : c = k := by omega
        exact h3
    · exact fun h => ⟨⟨h.1, fun c hc => h.2 c (by omega)⟩, h.2 k (by omega)⟩
/-- a set agrees with what is known -/
def zAg (w hh : Nat) (cs : List Int32) (X : Int32) : Prop := ∀ c, c < w * hh → (zst cs c = zJ 1 → zbit X c = true) ∧ (zst cs c = zJ 2 → zbit X c = false)
def zFo (w hh : Nat) (fs : List Int32) (X : Int32) : Prop := ∀ i, i < w + hh → zbit (fs.getD i 0) (zpa w hh X i) = true
abbrev zxQ (w hh : Nat) (cs fs : List Int32) : Int32 → Bool := zxC w hh (fun i n => zbit (zws w hh cs fs i) n)
theorem zpa_32 (hd : 2 ≤ w ∧ w ≤ 5 ∧ 2 ≤ hh ∧ hh ≤ 5) (X : Int32) (i : Nat) : zpa w hh X i < 32 := by
  have h1 := zpa_lt w hh X i
  have h5 := zpow5 (yln_b i hd).2
  omega
theorem zws_pa (hd : 2 ≤ w ∧ w ≤ 5 ∧ 2 ≤ hh ∧ hh ≤ 5) {X : Int32} {i : Nat} (hi : i < w + hh) (hf : zFo w hh fs X) (ha : zAg w hh cs X) : zbit (zws w hh cs fs i) (zpa w hh X i) = true := by
  refine (zwy_iff _ (zpa_32 hd X i) _ (yln_b i hd).2).mpr ⟨hf i hi, fun p hp => ?_⟩
  rw [zpa_bit hp]
  exact ha _ (ycl_b hi hp)
theorem zxQ_iff (hd : 2 ≤ w ∧ w ≤ 5 ∧ 2 ≤ hh ∧ hh ≤ 5) {X : Int32} : zxQ w hh cs fs X = true ↔ zFo w hh fs X ∧ zAg w hh cs X := by
  constructor
  · intro h
    have h1 := zxC_iff.mp h
    have h2 : ∀ i, i < w + hh → zbit (fs.getD i 0) (zpa w hh X i) = true ∧ ∀ p, p < yln w hh i → (zst cs (ycl w hh i p) = zJ 1 → (zpa w hh X i).testBit p = true) ∧ (zst cs (ycl w hh i p) = zJ 2 → (zpa w hh X i).testBit p = false) := fun i hi => (zwy_iff _ (zpa_32 hd X i) _ (yln_b i hd).2).mp (h1 i hi)
    refine ⟨fun i hi => (h2 i hi).1, fun c hc => ?_⟩
    have hr : c / w < hh := Nat.div_lt_of_lt_mul hc
    have hq : c % w < w := Nat.mod_lt _ (by omega)
    have e : ycl w hh (c / w) (c % w) = c := by
      rw [ycl_r hr, Nat.mul_comm]
      exact Nat.div_add_mod c w
    have h3 := (h2 (c / w) (by omega)).2 (c % w) (by rw [yln_r hr]; exact hq)
    rw [zpa_bit (by rw [yln_r hr]; exact hq), e] at h3
    exact h3
  · rintro ⟨h1, h2⟩
    exact zxC_iff.mpr fun i hi => zws_pa hd hi h1 h2
theorem zpt_or (cs : List Int32) (k : Nat) (s r o e : Int32) : zst (zpt cs k s r o e) k = s ∨ zst (zpt cs k s r o e) k = zst cs k := by
  unfold zst zpt
  rw [zgetD_ne (by omega), zgetD_ne (by omega), zgetD_ne (by omega)]
  rcases Nat.lt_or_ge (k * 4) cs.length with z | z
  · exact Or.inl (zgetD_eq z)
  · rw [List.set_eq_of_length_le z]
    exact Or.inr rfl
theorem zpt_st {cs : List Int32} {k c : Nat} {s r o e : Int32} (h : c ≠ k) : zst (zpt cs k s r o e) c = zst cs c := by
  have := zpt_ne (cs := cs) (s := s) (r := r) (o := o) (e := e) h (show 0 < 4 by omega)
  exact this
/-- no picture is lost -/
def zSw (w hh : Nat) (fs cs cs' : List Int32) : Prop := (∀ c, ¬ zst cs c = 0 → zst cs' c = zst cs c) ∧ ∀ X, zFo w hh fs X → zAg w hh cs X → zAg w hh cs' X
theorem zSw.refl : zSw w hh fs cs cs := ⟨fun _ _ => rfl, fun _ _ h => h⟩
theorem zSw.trans {cs1 cs2 : List Int32} (a : zSw w hh fs cs cs1) (b : zSw w hh fs cs1 cs2) : zSw w hh fs cs cs2 :=
  ⟨fun c h => (b.1 c (by rw [a.1 c h]; exact h)).trans (a.1 c h), fun X hX h => b.2 X hX (a.2 X hX h)⟩
theorem zAg.put {X : Int32} {k : Nat} {s r o e : Int32} (h : zAg w hh cs X) (h1 : s = zJ 1 → zbit X k = true) (h2 : s = zJ 2 → zbit X k = false) : zAg w hh (zpt cs k s r o e) X := by
  intro c hc
  by_cases q : c = k
  · subst q
    rcases zpt_or cs c s r o e with z | z
    · rw [z]; exact ⟨h1, h2⟩
    · rw [z]; exact h c hc
  · rw [zpt_st q]
    exact h c hc
theorem zpf_sw (hd : 2 ≤ w ∧ w ≤ 5 ∧ 2 ≤ hh ∧ hh ≤ 5) {i : Nat} (hi : i < w + hh) (o e : Int32) (k : Nat) (hk : k ≤ yln w hh i) : zSw w hh fs cs (zpf w hh i (yfl w hh cs (zws w hh cs fs i) i (zJ 1)) (yfl w hh cs (zws w hh cs fs i) i (zJ 2)) o e cs k) := by
  have hl := yln_b i hd
  induction k with
  | zero => exact zSw.refl
  | succ k ih =>
    have h0 := ih (by omega)
    rw [zpf]
    split
    · rename_i q
      obtain ⟨-, hp, h3, h4⟩ := (yfl_iff _ true hl.2 (show k < 32 by omega)).mp q
      refine ⟨fun c hc => ?_, fun X hX ha => (h0.2 X hX ha).put (fun _ => ?_) (fun z => absurd z (by decide))⟩
      · rw [zpt_st (fun z => hc (by rw [z]; exact h4))]
        exact h0.1 c hc
      · have := h3 _ (zpa_32 hd X i) (zws_pa hd hi hX ha)
        rw [zpa_bit hp] at this
        exact this
    · split
      · rename_i q
        obtain ⟨-, hp, h3, h4⟩ := (yfl_iff _ false hl.2 (show k < 32 by omega)).mp q
        refine ⟨fun c hc => ?_, fun X hX ha => (h0.2 X hX ha).put (fun z => absurd z (by decide)) (fun _ => ?_)⟩
        · rw [zpt_st (fun z => hc (by rw [z]; exact h4))]
          exact h0.1 c hc
        · have := h3 _ (zpa_32 hd X i) (zws_pa hd hi hX ha)
          rw [zpa_bit hp] at this
          exact this
      · exact h0
theorem zsL_sw (hd : 2 ≤ w ∧ w ≤ 5 ∧ 2 ≤ hh ∧ hh ≤ 5) (o e : Int32) (n : Nat) : ∀ (i : Nat) (cs : List Int32) (kn : Int32), i + n = w + hh → zSw w hh fs cs (zsL w hh fs o e n i cs kn).1 := by
  induction n with
  | zero => intro i cs kn _; exact zSw.refl
  | succ n ih =>
    intro i cs kn hi
    rw [zsL]
    split
    · exact zSw.refl
    · exact (zpf_sw hd (by omega) o e _ (Nat.le_refl _)).trans (ih (i + 1) _ _ (by omega))
theorem zsR_sw (hd : 2 ≤ w ∧ w ≤ 5 ∧ 2 ≤ hh ∧ hh ≤ 5) (e : Int32) (f : Nat) : ∀ (o : Nat) (cs : List Int32) (kn : Int32), zSw w hh fs cs (zsR w hh fs e f o cs kn).1 := by
  induction f with
  | zero => intro o cs kn; exact zSw.refl
  | succ f ih =>
    intro o cs kn
    have h1 := zsL_sw (fs := fs) hd (zJ o) e (w + hh) 0 cs kn (by omega)
    rw [zsR]
    split
    · exact h1
    · split
      · exact h1
      · exact h1.trans (ih _ _ _)
theorem zsS_sw (hd : 2 ≤ w ∧ w ≤ 5 ∧ 2 ≤ hh ∧ hh ≤ 5) (e : Int32) : zSw w hh fs cs (zsS w hh fs e cs).1 := zsR_sw hd e _ _ _ _
theorem zSw.ag {cs' : List Int32} (S : zSw w hh fs cs cs') {X : Int32} (h : zAg w hh cs' X) : zAg w hh cs X := fun c hc =>
  ⟨fun z => (h c hc).1 (by rw [S.1 c (by rw [z]; decide)]; exact z), fun z => (h c hc).2 (by rw [S.1 c (by rw [z]; decide)]; exact z)⟩
theorem zSw.qc (hd : 2 ≤ w ∧ w ≤ 5 ∧ 2 ≤ hh ∧ hh ≤ 5) {cs' : List Int32} (S : zSw w hh fs cs cs') : zxQ w hh cs' fs = zxQ w hh cs fs := by
  funext X
  have key : zxQ w hh cs' fs X = true ↔ zxQ w hh cs fs X = true := by
    rw [zxQ_iff hd, zxQ_iff hd]
    exact ⟨fun h => ⟨h.1, S.ag h.2⟩, fun h => ⟨h.1, S.2 X h.1 h.2⟩⟩
  cases h1 : zxQ w hh cs' fs X with
  | true => exact (key.mp h1).symm
  | false =>
    cases h2 : zxQ w hh cs fs X with
    | false => rfl
    | true => rw [key.mpr h2] at h1; cases h1
theorem zSw.ws (hd : 2 ≤ w ∧ w ≤ 5 ∧ 2 ≤ hh ∧ hh ≤ 5) {cs' : List Int32} (S : zSw w hh fs cs cs') {i n : Nat} (h : zbit (zws w hh cs' fs i) n = true) : zbit (zws w hh cs fs i) n = true := by
  have hn := zbit_lt h
  obtain ⟨h1, h2⟩ := (zwy_iff _ hn _ (yln_b i hd).2).mp h
  exact (zwy_iff _ hn _ (yln_b i hd).2).mpr ⟨h1, fun p hp => ⟨fun z => (h2 p hp).1 (by rw [S.1 _ (by rw [z]; decide)]; exact z), fun z => (h2 p hp).2 (by rw [S.1 _ (by rw [z]; decide)]; exact z)⟩⟩
theorem yLw_at {off : Nat} {l : List Int32} (k : Nat) (hk : k ≤ l.length) (i : Nat) (hi : i < k) : (yLw w hh cs fs off l k).getD i 0 = zws w hh cs fs (off + i) := by
  induction k with
  | zero => omega
  | succ k ih =>
    rw [yLw]
    by_cases e : i = k
    · subst e
      exact zgetD_eq (by rw [yLw_len]; omega)
    · rw [zgetD_ne (by omega)]
      exact ih (by omega) (by omega)
/-- an album's pictures, when new ones are looked for -/
theorem yLr_S (hd : 2 ≤ w ∧ w ≤ 5 ∧ 2 ≤ hh ∧ hh ≤ 5) {m : Nat} (hm : m ≤ 500) (h0 : 0 < m) {ps rw cw : List Int32} (l1 : ps.length = 500) (l2 : rw.length = 5) (l3 : cw.length = 30) (hlt : ∀ i n, i < w + hh → zbit (zws w hh cs fs i) n = true → n < 2 ^ yln w hh i) :
    (yLr w hh m ps (yLw w hh (zsS w hh fs (zJ 0) cs).1 fs 0 rw hh) (yLw w hh (zsS w hh fs (zJ 0) cs).1 fs hh cw w)).1.length = 500 ∧ (yLr w hh m ps (yLw w hh (zsS w hh fs (zJ 0) cs).1 fs 0 rw hh) (yLw w hh (zsS w hh fs (zJ 0) cs).1 fs hh cw w)).2.2 ≤ m ∧
    (yLr w hh m ps (yLw w hh (zsS w hh fs (zJ 0) cs).1 fs 0 rw hh) (yLw w hh (zsS w hh fs (zJ 0) cs).1 fs hh cw w)).1.take (yLr w hh m ps (yLw w hh (zsS w hh fs (zJ 0) cs).1 fs 0 rw hh) (yLw w hh (zsS w hh fs (zJ 0) cs).1 fs hh cw w)).2.2 = (zxG w (zxQ w hh cs fs) hh 0 (zJ 0)).take m := by
  have S : zSw w hh fs cs (zsS w hh fs (zJ 0) cs).1 := zsS_sw hd (zJ 0)
  rw [← S.qc hd]
  refine yLr_G hd hm h0 l1 (by rw [yLw_len]; exact l3) (Wy := fun i => zws w hh (zsS w hh fs (zJ 0) cs).1 fs i) (fun r hr => ?_) (fun c hc => ?_) (fun i n hi hb => hlt i n hi (S.ws hd hb))
  · rw [yLw_at hh (by omega) r hr, Nat.zero_add]
  · exact yLw_at w (by omega) c hc
theorem yLk_G (hd : 2 ≤ w ∧ w ≤ 5 ∧ 2 ≤ hh ∧ hh ≤ 5) {m : Nat} (hm : m ≤ 500) (h0 : 0 < m) {α : yAS} (I : yAI α) (l1 : α.1.1.length = 500) (l4 : α.1.2.1.length = 10) (l2 : α.1.2.2.1.length = 5) (l3 : α.1.2.2.2.1.length = 30) (cl : List Int32) (hlt : ∀ i n, i < w + hh → zbit (zws w hh cs fs i) n = true → n < 2 ^ yln w hh i) :
    (yLk w hh m cs cl fs α).1.1.length = 500 ∧ (yLk w hh m cs cl fs α).2.2.2.2.2.2 ≤ m ∧ (yLk w hh m cs cl fs α).1.1.take (yLk w hh m cs cl fs α).2.2.2.2.2.2 = (zxG w (zxQ w hh cs fs) hh 0 (zJ 0)).take m := by
  obtain ⟨⟨ps, lw, rw, cw, dc⟩, S, ic, aw, ah, am, n⟩ := α
  cases hb : (ycw w hh cs fs lw (ybz aw ah am w hh m) (w + hh)).2 with
  | true =>
    rw [yLk_new hb]
    exact yLr_S hd hm h0 l1 l2 l3 hlt
  | false =>
    rw [yLk_same hb]
    have h1 := ycw_f hb
    obtain ⟨e1, e2, e3⟩ := ybz_f h1.2
    subst e1 e2 e3
    have hlw : ∀ i, i < aw + ah → lw.getD i 0 = zws aw ah cs fs i := fun i hi => by
      have := ycw_at (w := aw) (hh := ah) (cs := cs) (fs := fs) (lw := lw) (b := ybz aw ah am aw ah am) (k := aw + ah) (by have l4 : lw.length = 10 := l4; omega) i hi
      rw [h1.1] at this
      exact this
    rcases I with I | ⟨ps0, rw0, cw0, cs0, fs0, g1, g2, g3, g4, g5, g6, -⟩
    · have I : aw = 0 := I
      omega
    · have g4 : ∀ i, i < aw + ah → lw.getD i 0 = zws aw ah cs0 fs0 i := g4
      have ew : ∀ i, i < aw + ah → zws aw ah cs0 fs0 i = zws aw ah cs fs i := fun i hi => (g4 i hi).symm.trans (hlw i hi)
      have eq : zxQ aw ah cs0 fs0 = zxQ aw ah cs fs := zxC_congr fun i k hi _ => by rw [ew i hi]
      have hlt0 : ∀ i k, i < aw + ah → zbit (zws aw ah cs0 fs0 i) k = true → k < 2 ^ yln aw ah i := fun i k hi hk => hlt i k hi (by rw [← ew i hi]; exact hk)
      have := yLr_S hd hm h0 g1 g2 g3 hlt0
      rw [← eq]
      show ps.length = 500 ∧ n ≤ am ∧ ps.take n = _
      have g5 : ps = _ := g5
      have g6 : n = _ := g6
      rw [g5, g6]
      exact this
theorem zQ_eq {x0 cl : List Int32} (R : zLr w hh cs x0) (hd : 2 ≤ w ∧ w ≤ 5 ∧ 2 ≤ hh ∧ hh ≤ 5) (hf : ∀ i, i < w + hh → zLn w hh fs cl i) : zxQ w hh cs fs = zQr w hh x0 cl := zxC_congr fun i n hi hn => by
  have h := zws_iff R hd hi (hf i hi) n
  cases h1 : riw w hh x0 cl i n with
  | true => exact h.mpr ⟨hn, h1⟩
  | false =>
    cases h2 : zbit (zws w hh cs fs i) n with
    | false => rfl
    | true => rw [(h.mp h2).2] at h1; cases h1
/-- an album and the reference: the same pictures -/
theorem yLk_ref {x0 cl : List Int32} (R : zLr w hh cs x0) (hd : 2 ≤ w ∧ w ≤ 5 ∧ 2 ≤ hh ∧ hh ≤ 5) (hf : ∀ i, i < w + hh → zLn w hh fs cl i) {m : Nat} (hm : m ≤ 500) (h0 : 0 < m) {α : yAS} (I : yAI α) (l1 : α.1.1.length = 500) (l4 : α.1.2.1.length = 10) (l2 : α.1.2.2.1.length = 5) (l3 : α.1.2.2.2.1.length = 30) (cl' : List Int32) {l : List Int32} (P : rPx w hh x0 cl l) :
    (yLk w hh m cs cl' fs α).1.1.length = 500 ∧ (yLk w hh m cs cl' fs α).2.2.2.2.2.2 ≤ m ∧ (yLk w hh m cs cl' fs α).1.1.take (yLk w hh m cs cl' fs α).2.2.2.2.2.2 = l.take m := by
  have h := yLk_G (cs := cs) (fs := fs) hd hm h0 I l1 l4 l2 l3 cl' (fun i n hi hb => ((zws_iff R hd hi (hf i hi) n).mp hb).1)
  rw [rPx_G hd P, List.take_take, Nat.min_eq_left hm, ← zQ_eq R hd hf]
  exact h
theorem yLk_n {x0 cl : List Int32} (R : zLr w hh cs x0) (hd : 2 ≤ w ∧ w ≤ 5 ∧ 2 ≤ hh ∧ hh ≤ 5) (hf : ∀ i, i < w + hh → zLn w hh fs cl i) {m : Nat} (hm : m ≤ 500) (h0 : 0 < m) {α : yAS} (I : yAI α) (l1 : α.1.1.length = 500) (l4 : α.1.2.1.length = 10) (l2 : α.1.2.2.1.length = 5) (l3 : α.1.2.2.2.1.length = 30) (cl' : List Int32) {l : List Int32} (P : rPx w hh x0 cl l) : (yLk w hh m cs cl' fs α).2.2.2.2.2.2 = min m l.length := by
  obtain ⟨h1, h2, h3⟩ := yLk_ref R hd hf hm h0 I l1 l4 l2 l3 cl' P
  have := congrArg List.length h3
  rw [List.length_take, List.length_take] at this
  omega
end AW
