/-! ===== both sides' digests ===== -/
theorem zok_of {a : Nat} {L : List yBS} {B : List rBS} {rf : Int32} (R : zRel L B) {i b r g e w hh : Nat} {X : rX4} {cl : List Int32} {mi sp : Int32} {KS : List rKS} (hB : B[i]? = some (b, r, g, e, (w, hh), X, cl, (mi, sp), KS)) {l : List Int32} (P : rPx w hh X.1 cl l) (h0 : 0 < B.length) : zOK a L rf i (rdV w hh X cl KS.length mi sp l (ral B i 0)) := by
  intro h1 L1 τ1 αt1 E C b' w' hh' cs cl' fs α kp gd gu mi' sp' hk
  have R1 := zrel_eqA R E
  have hm : mAt B i w hh X cl mi sp KS := ⟨b, r, g, e, hB⟩
  obtain ⟨-, rfl, rfl, hd, C0, U, K, S, rfl, rfl⟩ := R1.at hk rfl hm rfl
  have hl := rPx_len hd P
  have hwh := zwh_s hd
  have hz : zin (zJ i) B.length := ⟨i, rlt_of hB, rfl⟩
  refine ⟨fun t ht => ?_, fun c t hc ht => ?_, fun j t hj ht => ?_, fun j hj => ?_, ?_, fun t ht v M z => ?_, ?_, fun v z => ?_, ?_, fun v z => ?_⟩
  · have H : cs18 0 L1 rf αt1 (zJ i) (zJ t) 0 _ L1 := Or.inl ⟨i, b', w, hh, cs, cl', fs, α, kp, gd, gu, mi, sp, hk, rfl, t, ht, rfl, _, rfl, rfl, rfl, rfl⟩
    exact congrArg Int32.toInt64 ((zrelC18 C R1 H (yEqA.refl L1) (n0 := zJ 0) (B1 := B) ⟨rfl, Or.inr (Or.inr ⟨rfl, i, w, hh, X, cl, mi, sp, KS, hm, rfl, t, ht, rfl, l, P, rfl⟩)⟩).2.2 rfl)
  · have H : cs39 0 L1 rf αt1 (zJ i) (zJ c) (zJ t) 0 _ L1 := Or.inl ⟨i, b', w, hh, cs, cl', fs, α, kp, gd, gu, mi, sp, hk, rfl, c, hc, rfl, t, ht, rfl, rfl, rfl, rfl⟩
    exact congrArg Int32.toInt64 ((zrelC39 C R1 H (yEqA.refl L1) (n0 := zJ 0) (B1 := B) ⟨rfl, Or.inr (Or.inr ⟨rfl, i, w, hh, X, cl, mi, sp, KS, hm, rfl, c, hc, rfl, t, ht, rfl, rfl⟩)⟩).2.2 rfl)
  · have H : cs42 0 L1 rf αt1 (zJ i) (zJ j) (zJ t) 0 _ L1 := Or.inl ⟨i, b', w, hh, cs, cl', fs, α, kp, gd, gu, mi, sp, hk, rfl, j, hj, rfl, t, ht, rfl, rfl, rfl, rfl⟩
    exact congrArg Int32.toInt64 ((zrelC42 C R1 H (yEqA.refl L1) (n0 := zJ 0) (B1 := B) ⟨rfl, Or.inr (Or.inr ⟨rfl, i, w, hh, X, cl, mi, sp, KS, hm, rfl, j, hj, rfl, t, ht, rfl, rfl⟩)⟩).2.2 rfl)
  · have H : cs46 0 L1 rf αt1 (zJ i) (zJ j) (zJ 0) 0 _ L1 := Or.inl ⟨i, b', w, hh, cs, cl', fs, α, kp, gd, gu, mi, sp, hk, rfl, j, hj, rfl, 0, by decide, rfl, rfl, rfl, rfl⟩
    exact congrArg Int32.toInt64 ((zrelC46 C R1 H (yEqA.refl L1) (n0 := zJ 0) (B1 := B) ⟨rfl, Or.inr (Or.inr ⟨rfl, i, w, hh, X, cl, mi, sp, KS, hm, rfl, j, hj, rfl, by decide, rfl⟩)⟩).2.2 rfl)
  · have H : cs47 0 L1 rf αt1 (zJ i) (zJ 0) 0 _ L1 := Or.inl ⟨i, b', w, hh, cs, cl', fs, α, kp, gd, gu, mi, sp, hk, rfl, 0, by decide, rfl, rfl, rfl, rfl⟩
    exact congrArg Int32.toInt64 ((zrelC47 C R1 H (yEqA.refl L1) (n0 := zJ 0) (B1 := B) ⟨rfl, Or.inr (Or.inr ⟨rfl, i, w, hh, X, cl, mi, sp, KS, hm, rfl, 0, by decide, rfl, l, P, rfl⟩)⟩).2.2 rfl)
  · have H : cs49 0 L1 rf αt1 (zJ i) (zJ t) 0 _ L1 := Or.inl ⟨i, b', w, hh, cs, cl', fs, α, kp, gd, gu, mi, sp, hk, rfl, t, ht, rfl, v, M, z, rfl, rfl, rfl⟩
    rcases (show t = 0 ∨ t = 1 by omega) with rfl | rfl
    · have q := (zrelC49 C R1 H (yEqA.refl L1) (n0 := zJ 0) (B1 := B) ⟨rfl, Or.inr (Or.inr ⟨rfl, i, w, hh, X, cl, mi, sp, KS, hm, rfl, 0, by decide, rfl, Or.inl ⟨rfl, rfl⟩⟩)⟩).2.2 rfl
      rw [q]
      exact zcut (rlo_cut hd)
    · have q := (zrelC49 C R1 H (yEqA.refl L1) (n0 := zJ 0) (B1 := B) ⟨rfl, Or.inr (Or.inr ⟨rfl, i, w, hh, X, cl, mi, sp, KS, hm, rfl, 1, by decide, rfl, Or.inr ⟨by decide, l, P, rfl⟩⟩)⟩).2.2 rfl
      rw [q]
      exact zcut (rfg_cut hl hwh.1)
  · have H : cs55 0 L1 rf αt1 (zJ i) 0 _ L1 := Or.inl ⟨i, b', w, hh, cs, cl', fs, α, kp, gd, gu, mi, sp, hk, rfl, rfl, rfl, rfl⟩
    exact congrArg Int32.toInt64 ((zrelC55 C R1 H (yEqA.refl L1) (n0 := zJ 0) (B1 := B) ⟨rfl, Or.inr ⟨rfl, i, w, hh, X, cl, mi, sp, KS, hm, rfl, rfl⟩⟩).2.2 rfl)
  · have H : cs56 0 L1 rf αt1 (zJ i) 0 _ L1 := Or.inl ⟨i, b', w, hh, cs, cl', fs, α, kp, gd, gu, mi, sp, hk, rfl, v, z, rfl, rfl, rfl⟩
    exact congrArg Int32.toInt64 ((zrelC56 C R1 H (yEqA.refl L1) (n0 := zJ 0) (B1 := B) ⟨rfl, Or.inr ⟨rfl, i, w, hh, X, cl, mi, sp, KS, hm, rfl, l, P, rfl⟩⟩).2.2 rfl)
  · have H : cs58 0 L1 rf αt1 (zJ i) 0 _ L1 := Or.inl ⟨i, b', w, hh, cs, cl', fs, α, kp, gd, gu, mi, sp, hk, rfl, rfl, rfl, rfl⟩
    exact congrArg Int32.toInt64 ((zrelC58 C R1 H (yEqA.refl L1) (n0 := zJ 0) (B1 := B) ⟨rfl, Or.inr ⟨rfl, i, w, hh, X, cl, mi, sp, KS, hm, rfl, l, P, rfl⟩⟩).2.2 rfl)
  · have l1 := R1.1
    have l2 := R1.2.1
    have l3 := R1.lt hk
    have H : cs61 0 L1 rf αt1 (zJ i) (zJ 0) 0 v L1 := Or.inl ⟨⟨i, l3, rfl⟩, ⟨0, by omega, rfl⟩, v, z, rfl, rfl, rfl⟩
    exact congrArg Int32.toInt64 ((zrelC61 C R1 H (yEqA.refl L1) (n0 := zJ 0) (B1 := B) ⟨rfl, Or.inr ⟨rfl, i, 0, rlt_of hB, rfl, h0, rfl, rfl⟩⟩).2.2 rfl)
theorem zdig {a : Nat} {L : List yBS} {B : List rBS} {rf : Int32} {v v' : Int64} (R : zRel L B) (D : yDG a L rf v) (D' : rdH B (zdg (rmF B rf) 58319 5) B.length v') : v = v' := by
  obtain ⟨d5, h5, D⟩ := D
  have e5 : d5 = zdg (rmF B rf) 58319 5 := h5 _ (fun L1 t E ht => congrArg Int32.toInt64 ((zrel_eqA R E).many rf ht))
  subst e5
  have key : ∀ i, i ≤ B.length → ∀ z z', yDH a L rf (zdg (rmF B rf) 58319 5) i z → rdH B (zdg (rmF B rf) 58319 5) i z' → z = z' := by
    intro i
    induction i with
    | zero => intro _ z z' h h'; exact Eq.trans h (Eq.symm h')
    | succ i ih =>
      intro hi z z' h h'
      obtain ⟨z0, h1, h2⟩ := h
      obtain ⟨z0', l, b, r, g, e, w, hh, X, cl, mi, sp, KS, h3, h4, P, rfl⟩ := h'
      obtain rfl := ih (by omega) _ _ h1 h3
      obtain ⟨β, hβ⟩ : ∃ β, L[i]? = some β := ⟨_, List.getElem?_eq_getElem (show i < L.length by rw [R.1]; omega)⟩
      have q := h2 β hβ _ (zok_of R h4 P (by omega))
      obtain ⟨b', ⟨w', hh', cs, cl', fs⟩, α, kp, gd, gu, mi', sp'⟩ := β
      obtain ⟨-, rfl, rfl, -⟩ := R.at hβ rfl ⟨b, r, g, e, h4⟩ rfl
      exact q
  rw [R.1] at D
  exact key _ (Nat.le_refl _) _ _ D D'
