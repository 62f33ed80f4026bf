/-! ===== both sides' cells; the sweep ===== -/
def zRc (n : Nat) (cs : List Int32) (X : rX4) : Prop := ∀ c, c < n → zst cs c = X.1.getD c 0 ∧ cs.getD (c * 4 + 1) 0 = X.2.1.getD c 0 ∧ cs.getD (c * 4 + 2) 0 = X.2.2.1.getD c 0 ∧ cs.getD (c * 4 + 3) 0 = X.2.2.2.getD c 0
/-- states are 0, 1 or 2 -/
def zS3 (n : Nat) (x0 : List Int32) : Prop := ∀ c, c < n → x0.getD c 0 = zJ 0 ∨ x0.getD c 0 = zJ 1 ∨ x0.getD c 0 = zJ 2
theorem zgetD_ne {l : List Int32} {i j : Nat} {v : Int32} (h : i ≠ j) : (l.set i v).getD j 0 = l.getD j 0 := by
  rw [List.getD_eq_getElem?_getD, List.getElem?_set_ne h, ← List.getD_eq_getElem?_getD]
theorem zgetD_eq {l : List Int32} {i : Nat} {v : Int32} (h : i < l.length) : (l.set i v).getD i 0 = v := rgetD_set h
theorem zpt_ne {cs : List Int32} {k c t : Nat} {s r o e : Int32} (h : c ≠ k) (ht : t < 4) : (zpt cs k s r o e).getD (c * 4 + t) 0 = cs.getD (c * 4 + t) 0 := by
  unfold zpt
  rw [zgetD_ne (by omega), zgetD_ne (by omega), zgetD_ne (by omega), zgetD_ne (by omega)]
theorem zpt_0 {cs : List Int32} {k : Nat} {s r o e : Int32} (h : k * 4 + 3 < cs.length) : zst (zpt cs k s r o e) k = s ∧ (zpt cs k s r o e).getD (k * 4 + 1) 0 = r ∧ (zpt cs k s r o e).getD (k * 4 + 2) 0 = o ∧ (zpt cs k s r o e).getD (k * 4 + 3) 0 = e := by
  unfold zst zpt
  refine ⟨?_, ?_, ?_, ?_⟩
  · rw [zgetD_ne (by omega), zgetD_ne (by omega), zgetD_ne (by omega), zgetD_eq (by omega)]
  · rw [zgetD_ne (by omega), zgetD_ne (by omega), zgetD_eq (by rw [List.length_set]; omega)]
  · rw [zgetD_ne (by omega), zgetD_eq (by rw [List.length_set, List.length_set]; omega)]
  · rw [zgetD_eq (by rw [List.length_set, List.length_set, List.length_set]; omega)]
theorem zRc.put {n : Nat} {cs : List Int32} {X : rX4} {k : Nat} {s r o e : Int32} (R : zRc n cs X) (hl : cs.length = 100) (hn : n ≤ 25) (hX : rLn n X) (hk : k < n) : zRc n (zpt cs k s r o e) (X.1.set k s, X.2.1.set k r, X.2.2.1.set k o, X.2.2.2.set k e) := by
  intro c hc
  obtain ⟨l0, l1, l2, l3⟩ := hX
  by_cases q : c = k
  · subst q
    obtain ⟨h0, h1, h2, h3⟩ := zpt_0 (cs := cs) (k := c) (s := s) (r := r) (o := o) (e := e) (by omega)
    rw [h0, h1, h2, h3]
    exact ⟨(zgetD_eq (by omega)).symm, (zgetD_eq (by omega)).symm, (zgetD_eq (by omega)).symm, (zgetD_eq (by omega)).symm⟩
  · obtain ⟨r0, r1, r2, r3⟩ := R c hc
    have z0 := zpt_ne (cs := cs) (s := s) (r := r) (o := o) (e := e) q (show 0 < 4 by omega)
    rw [Nat.add_zero] at z0
    unfold zst
    rw [z0, zpt_ne q (by omega), zpt_ne q (by omega), zpt_ne q (by omega)]
    have qk : k ≠ c := fun z => q z.symm
    exact ⟨r0.trans (zgetD_ne qk).symm, r1.trans (zgetD_ne qk).symm, r2.trans (zgetD_ne qk).symm, r3.trans (zgetD_ne qk).symm⟩
theorem zRc.lr {w hh : Nat} {cs : List Int32} {X : rX4} (R : zRc (w * hh) cs X) : zLr w hh cs X.1 := fun c hc => (R c hc).1
theorem rLn.set {n k : Nat} {X : rX4} {s r o e : Int32} (h : rLn n X) : rLn n (X.1.set k s, X.2.1.set k r, X.2.2.1.set k o, X.2.2.2.set k e) := by
  obtain ⟨l0, l1, l2, l3⟩ := h
  exact ⟨(List.length_set).trans l0, (List.length_set).trans l1, (List.length_set).trans l2, (List.length_set).trans l3⟩
theorem rLn.be {n k : Nat} {X : rX4} {x y z : Int32} {ng : Nat} (h : rLn n X) : rLn n (rbe X k x y z ng) := h.set
theorem zS3.set {n k : Nat} {x0 : List Int32} {v : Int32} (h : zS3 n x0) (hl : x0.length = n) (hv : v = zJ 0 ∨ v = zJ 1 ∨ v = zJ 2) : zS3 n (x0.set k v) := by
  intro c hc
  by_cases q : k = c
  · subst q
    rw [zgetD_eq (by omega)]
    exact hv
  · rw [zgetD_ne q]
    exact h c hc
theorem mdk_12 (q : Bool) : mdk q = zJ 0 ∨ mdk q = zJ 1 ∨ mdk q = zJ 2 := by cases q <;> decide
theorem mdk_0 (q : Bool) : ¬ mdk q = 0 := by cases q <;> decide
section SW
variable {w hh : Nat} {cs fs cl : List Int32} {X : rX4} {ng : Nat}
/-- what is carried along -/
def zCX (w hh : Nat) (cs : List Int32) (X : rX4) : Prop := zRc (w * hh) cs X ∧ cs.length = 100 ∧ rLn (w * hh) X ∧ zS3 (w * hh) X.1
theorem zCX.be {k : Nat} {x y z : Int32} (C : zCX w hh cs X) (hn : w * hh ≤ 25) (hk : k < w * hh) (hx : x = zJ 0 ∨ x = zJ 1 ∨ x = zJ 2) {e : Int32} (he : e = if x = 0 then zJ 0 else zJ ng) : zCX w hh (zpt cs k x y z e) (rbe X k x y z ng) := by
  subst he
  exact ⟨C.1.put C.2.1 hn C.2.2.1 hk, by rw [zpt_len]; exact C.2.1, C.2.2.1.set, C.2.2.2.set C.2.2.1.1 hx⟩
theorem zpf_rpl {i : Nat} {dk li : Int32} {o : Int32} (C : zCX w hh cs X) (hn : w * hh ≤ 25) (hi : i < w + hh) (k : Nat) (hk : k ≤ yln w hh i) : zCX w hh (zpf w hh i dk li o (zJ ng) cs k) (rpl w hh i dk li o ng X k) := by
  induction k with
  | zero => exact C
  | succ k ih =>
    have h0 := ih (by omega)
    have hc := ycl_b hi (show k < yln w hh i by omega)
    rw [zpf, rpl, zbit_or]
    cases h1 : zbit dk k with
    | true =>
      rw [if_pos rfl, Bool.true_or, if_pos rfl, if_pos rfl]
      exact h0.be hn hc (by decide) (by rw [if_neg (by decide)])
    | false =>
      rw [if_neg (by decide), Bool.false_or]
      cases h2 : zbit li k with
      | true =>
        rw [if_pos rfl, if_pos rfl, if_neg (by decide)]
        exact h0.be hn hc (by decide) (by rw [if_neg (by decide)])
      | false =>
        rw [if_neg (by decide), if_neg (by decide)]
        exact h0
theorem zsmall {x : Int32} (h : ∀ p, zbit x p = true → p < 5) : ∃ a, a < 32 ∧ x = zJ a := by
  have e : x = zJ x.toBitVec.toNat := by
    apply Int32.toBitVec.inj
    show x.toBitVec = BitVec.ofNat 32 x.toBitVec.toNat
    rw [BitVec.ofNat_toNat, BitVec.setWidth_eq]
  refine ⟨x.toBitVec.toNat, ?_, e⟩
  refine Nat.lt_pow_two_of_testBit (n := 5) _ fun i hi => ?_
  cases hb : x.toBitVec.toNat.testBit i with
  | false => rfl
  | true => exact absurd (h i (show x.toBitVec.getLsbD i = true from hb)) (by omega)
theorem zbc_rsz {a b : Int32} (ha : ∀ p, zbit a p = true → p < 5) (hb : ∀ p, zbit b p = true → p < 5) (hd : ∀ p, zbit a p = true → zbit b p = true → False) : zbc a + zbc b = rsz (a ||| b) := by
  obtain ⟨x, hx, rfl⟩ := zsmall ha
  obtain ⟨y, hy, rfl⟩ := zsmall hb
  have h1 : ∀ u v : Fin 32, u.val &&& v.val = 0 → zbc (zJ u.val) + zbc (zJ v.val) = rsz (zJ u.val ||| zJ v.val) := by decide +kernel
  refine h1 ⟨x, hx⟩ ⟨y, hy⟩ ?_
  refine Nat.eq_of_testBit_eq fun p => ?_
  rw [Nat.testBit_and, Nat.zero_testBit]
  cases h2 : x.testBit p with
  | false => rfl
  | true =>
    cases h3 : y.testBit p with
    | false => rfl
    | true =>
      have hp : p < 32 := Nat.lt_of_not_le fun q => by
        rw [Nat.testBit_lt_two_pow (Nat.lt_of_lt_of_le hx (show 32 ≤ 2 ^ p from Nat.le_trans (by decide) (Nat.pow_le_pow_right (n := 2) (by omega) q)))] at h2
        cases h2
      exact (hd p (by rw [zbit_J _ _ hp]; exact h2) (by rw [zbit_J _ _ hp]; exact h3)).elim
theorem zsL_rsL (hd : 2 ≤ w ∧ w ≤ 5 ∧ 2 ≤ hh ∧ hh ≤ 5) (hf : ∀ i, i < w + hh → zLn w hh fs cl i) (o : Int32) (n : Nat) : ∀ (i : Nat) (cs : List Int32) (X : rX4) (kn m : Int32), i + n = w + hh → zCX w hh cs X →
    zCX w hh (zsL w hh fs o (zJ ng) n i cs kn).1 (rsL w hh cl o ng n i X m).1 ∧ (∃ d, (zsL w hh fs o (zJ ng) n i cs kn).2.1 = kn + d ∧ (rsL w hh cl o ng n i X m).2.1 = m + d) ∧ (zsL w hh fs o (zJ ng) n i cs kn).2.2 = (rsL w hh cl o ng n i X m).2.2 := by
  have hn := (zwh_b hd).2
  induction n with
  | zero => intro i cs X kn m _ C; exact ⟨C, ⟨0, (Int32.add_zero _).symm, (Int32.add_zero _).symm⟩, rfl⟩
  | succ n ih =>
    intro i cs X kn m hi C
    have hil : i < w + hh := by omega
    have hln := yln_b i hd
    have e1 := yfl_rfo C.1.lr hd hil (hf i hil) true
    have e2 := yfl_rfo C.1.lr hd hil (hf i hil) false
    rw [show mdk true = zJ 1 from rfl] at e1
    rw [show mdk false = zJ 2 from rfl] at e2
    have h0 := zws_0 C.1.lr hd hil (hf i hil)
    rw [zsL, rsL]
    by_cases q : zws w hh cs fs i = 0
    · rw [if_pos q, if_pos (h0.mp q)]
      exact ⟨C, ⟨0, (Int32.add_zero _).symm, (Int32.add_zero _).symm⟩, rfl⟩
    · rw [if_neg q, if_neg (fun z => q (h0.mpr z)), e1, e2]
      have hz : zbc (rfo w hh X.1 cl i true) + zbc (rfo w hh X.1 cl i false) = rsz (rfo w hh X.1 cl i true ||| rfo w hh X.1 cl i false) := by
        refine zbc_rsz (fun p hp => ?_) (fun p hp => ?_) (fun p hp hq => ?_)
        · have := (rfo_bit hln.2 hp).1; omega
        · have := (rfo_bit hln.2 hp).1; omega
        · have hp32 := zbit_lt hp
          obtain ⟨⟨n0, hn0, hr0⟩, -, h3, -⟩ := (rfo_iff true hln.2 hp32).mp hp
          obtain ⟨-, -, h4, -⟩ := (rfo_iff false hln.2 hp32).mp hq
          exact Bool.noConfusion ((h3 n0 hn0 hr0).symm.trans (h4 n0 hn0 hr0))
      rw [hz]
      have C1 := zpf_rpl (dk := rfo w hh X.1 cl i true) (li := rfo w hh X.1 cl i false) (o := o) (ng := ng) C hn hil _ (Nat.le_refl _)
      obtain ⟨r1, ⟨d, r2, r3⟩, r4⟩ := ih (i + 1) _ _ (kn + rsz (rfo w hh X.1 cl i true ||| rfo w hh X.1 cl i false)) (m + rsz (rfo w hh X.1 cl i true ||| rfo w hh X.1 cl i false)) (by omega) C1
      exact ⟨r1, ⟨rsz (rfo w hh X.1 cl i true ||| rfo w hh X.1 cl i false) + d, by rw [r2, Int32.add_assoc], by rw [r3, Int32.add_assoc]⟩, r4⟩
theorem zadd_cancel {a d : Int32} : a + d = a ↔ d = 0 := by
  constructor
  · intro h
    have h1 : a + d = a + 0 := h.trans (Int32.add_zero a).symm
    exact (Int32.add_right_inj a).mp h1
  · rintro rfl
    exact Int32.add_zero a
theorem zsR_rsR (hd : 2 ≤ w ∧ w ≤ 5 ∧ 2 ≤ hh ∧ hh ≤ 5) (hf : ∀ i, i < w + hh → zLn w hh fs cl i) (u : Nat) : ∀ (f1 f2 o : Nat) (cs : List Int32) (X : rX4) (kn : Int32), rcc X.1 0 (w * hh) ≤ u → u < f1 → u < f2 → zCX w hh cs X →
    zCX w hh (zsR w hh fs (zJ ng) f1 o cs kn).1 (rsR w hh cl ng f2 o X kn).1 ∧ (zsR w hh fs (zJ ng) f1 o cs kn).2 = (rsR w hh cl ng f2 o X kn).2 := by
  induction u with
  | zero =>
    intro f1 f2 o cs X kn hu h1 h2 C
    obtain ⟨f1, rfl⟩ : ∃ f, f1 = f + 1 := ⟨f1 - 1, by omega⟩
    obtain ⟨f2, rfl⟩ : ∃ f, f2 = f + 1 := ⟨f2 - 1, by omega⟩
    obtain ⟨r1, ⟨d, r2, r3⟩, r4⟩ := zsL_rsL (ng := ng) hd hf (zJ o) (w + hh) 0 cs X kn (zJ 0) (by omega) C
    have hdec := rsL_dec (cl := cl) (ng := ng) (o := zJ o) hd (w + hh) 0 X (zJ 0) (by omega) C.2.2.1.1
    rw [zsR, rsR, r2, r3, r4]
    have hz : zJ 0 + d = d := Int32.zero_add d
    rw [hz] at r3 ⊢
    by_cases q : (rsL w hh cl (zJ o) ng (w + hh) 0 X (zJ 0)).2.2 = true
    · rw [if_pos q, if_pos q]
      exact ⟨r1, rfl⟩
    · rw [if_neg q, if_neg q]
      by_cases q2 : d = 0
      · rw [if_pos (zadd_cancel.mpr q2), if_pos q2]
        exact ⟨r1, rfl⟩
      · have := hdec.2 (by rw [r3]; exact q2)
        omega
  | succ u ih =>
    intro f1 f2 o cs X kn hu h1 h2 C
    obtain ⟨f1, rfl⟩ : ∃ f, f1 = f + 1 := ⟨f1 - 1, by omega⟩
    obtain ⟨f2, rfl⟩ : ∃ f, f2 = f + 1 := ⟨f2 - 1, by omega⟩
    obtain ⟨r1, ⟨d, r2, r3⟩, r4⟩ := zsL_rsL (ng := ng) hd hf (zJ o) (w + hh) 0 cs X kn (zJ 0) (by omega) C
    have hdec := rsL_dec (cl := cl) (ng := ng) (o := zJ o) hd (w + hh) 0 X (zJ 0) (by omega) C.2.2.1.1
    rw [zsR, rsR, r2, r3, r4]
    have hz : zJ 0 + d = d := Int32.zero_add d
    rw [hz] at r3 ⊢
    by_cases q : (rsL w hh cl (zJ o) ng (w + hh) 0 X (zJ 0)).2.2 = true
    · rw [if_pos q, if_pos q]
      exact ⟨r1, rfl⟩
    · rw [if_neg q, if_neg q]
      by_cases q2 : d = 0
      · rw [if_pos (zadd_cancel.mpr q2), if_pos q2]
        exact ⟨r1, rfl⟩
      · have := hdec.2 (by rw [r3]; exact q2)
        rw [if_neg (fun z => q2 (zadd_cancel.mp z)), if_neg q2]
        exact ih f1 f2 (o + 1) _ _ _ (by omega) (by omega) (by omega) r1
theorem zsS_rsS (hd : 2 ≤ w ∧ w ≤ 5 ∧ 2 ≤ hh ∧ hh ≤ 5) (hf : ∀ i, i < w + hh → zLn w hh fs cl i) (C : zCX w hh cs X) : zCX w hh (zsS w hh fs (zJ ng) cs).1 (rsS w hh cl ng X).1 ∧ (zsS w hh fs (zJ ng) cs).2 = (rsS w hh cl ng X).2 := by
  have hn := (zwh_b hd).2
  exact zsR_rsR hd hf (w * hh) 26 (w * hh + 1) 1 cs X (zJ 0) (rcc_le _ _ _) (by omega) (by omega) C
/-! ### what is known stays -/
def zKp (n : Nat) (x0 y0 : List Int32) : Prop := ∀ c, c < n → ¬ x0.getD c 0 = 0 → y0.getD c 0 = x0.getD c 0
theorem zKp.refl (n : Nat) (x0 : List Int32) : zKp n x0 x0 := fun _ _ _ => rfl
theorem zKp.trans {n : Nat} {x0 y0 z0 : List Int32} (a : zKp n x0 y0) (b : zKp n y0 z0) : zKp n x0 z0 := fun c hc h => (b c hc (by rw [a c hc h]; exact h)).trans (a c hc h)
theorem rpl_kp {i : Nat} {dk li o : Int32} (hi : i < w + hh) (hu : ∀ p, p < yln w hh i → zbit (dk ||| li) p = true → X.1.getD (ycl w hh i p) 0 = 0) (k : Nat) (hk : k ≤ yln w hh i) : zKp (w * hh) X.1 (rpl w hh i dk li o ng X k).1 := by
  induction k with
  | zero => exact zKp.refl _ _
  | succ k ih =>
    rw [rpl]
    split
    · rename_i q
      intro c hc h
      show ((rpl w hh i dk li o ng X k).1.set (ycl w hh i k) _).getD c 0 = _
      have hne : ycl w hh i k ≠ c := fun e => h (by rw [← e]; exact hu k (by omega) q)
      rw [zgetD_ne hne]
      exact ih (by omega) c hc h
    · exact ih (by omega)
theorem rsL_kp (hd : 2 ≤ w ∧ w ≤ 5 ∧ 2 ≤ hh ∧ hh ≤ 5) (o : Int32) (n : Nat) : ∀ (i : Nat) (X : rX4) (m : Int32), i + n = w + hh → zKp (w * hh) X.1 (rsL w hh cl o ng n i X m).1.1 := by
  induction n with
  | zero => intro i X m _; exact zKp.refl _ _
  | succ n ih =>
    intro i X m hi
    rw [rsL]
    split
    · exact zKp.refl _ _
    · refine (rpl_kp (by omega) (fun p hp hb => ?_) _ (Nat.le_refl _)).trans (ih (i + 1) _ _ (by omega))
      have hln := yln_b i hd
      rw [zbit_or, Bool.or_eq_true] at hb
      rcases hb with q | q
      · exact (rfo_bit hln.2 q).2
      · exact (rfo_bit hln.2 q).2
theorem rsR_kp (hd : 2 ≤ w ∧ w ≤ 5 ∧ 2 ≤ hh ∧ hh ≤ 5) (f : Nat) : ∀ (o : Nat) (X : rX4) (a : Int32), zKp (w * hh) X.1 (rsR w hh cl ng f o X a).1.1 := by
  induction f with
  | zero => intro o X a; exact zKp.refl _ _
  | succ f ih =>
    intro o X a
    have h1 := rsL_kp (cl := cl) (ng := ng) hd (zJ o) (w + hh) 0 X (zJ 0) (by omega)
    rw [rsR]
    split
    · exact h1
    · split
      · exact h1
      · exact h1.trans (ih (o + 1) _ _)
theorem rsS_kp (hd : 2 ≤ w ∧ w ≤ 5 ∧ 2 ≤ hh ∧ hh ≤ 5) : zKp (w * hh) X.1 (rsS w hh cl ng X).1.1 := rsR_kp hd _ _ _ _
end SW
