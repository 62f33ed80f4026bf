/-! ===== the bytes of the law ===== -/
def zlwr : zMd := zmd_7.getLast (by decide)
set_option maxRecDepth 100000 in
set_option maxHeartbeats 4000000 in
theorem zckL_0 : zckm zlwr ((zc238.drop 0).take 5) = true := by decide +kernel
set_option maxRecDepth 100000 in
set_option maxHeartbeats 4000000 in
theorem zckL_5 : zckm zlwr ((zc238.drop 5).take 5) = true := by decide +kernel
set_option maxRecDepth 100000 in
set_option maxHeartbeats 4000000 in
theorem zckL_10 : zckm zlwr ((zc238.drop 10).take 5) = true := by decide +kernel
set_option maxRecDepth 100000 in
set_option maxHeartbeats 4000000 in
theorem zckL_15 : zckm zlwr ((zc238.drop 15).take 5) = true := by decide +kernel
set_option maxRecDepth 100000 in
set_option maxHeartbeats 4000000 in
theorem zckL_20 : zckm zlwr ((zc238.drop 20).take 5) = true := by decide +kernel
set_option maxRecDepth 100000 in
set_option maxHeartbeats 4000000 in
theorem zckL_25 : zckm zlwr ((zc238.drop 25).take 5) = true := by decide +kernel
set_option maxRecDepth 100000 in
set_option maxHeartbeats 4000000 in
theorem zckL_30 : zckm zlwr ((zc238.drop 30).take 5) = true := by decide +kernel
set_option maxRecDepth 100000 in
set_option maxHeartbeats 4000000 in
theorem zckL_35 : zckm zlwr ((zc238.drop 35).take 5) = true := by decide +kernel
set_option maxRecDepth 100000 in
set_option maxHeartbeats 4000000 in
theorem zckL_40 : zckm zlwr ((zc238.drop 40).take 5) = true := by decide +kernel
theorem zckm_cat {r : zMd} {k : Nat} {c : List (List zIn)} (h1 : zckm r (c.take k) = true) (h2 : zckm r (c.drop k) = true) : zckm r c = true := by
  unfold zckm at h1 h2 ⊢
  rw [← List.take_append_drop k c, List.all_append, h1, h2]
  rfl
theorem zckD_40 : zckm zlwr (zc238.drop 40) = true := zckL_40
theorem zckD_35 : zckm zlwr (zc238.drop 35) = true := zckm_cat (k := 5) zckL_35 (by rw [List.drop_drop]; exact zckD_40)
theorem zckD_30 : zckm zlwr (zc238.drop 30) = true := zckm_cat (k := 5) zckL_30 (by rw [List.drop_drop]; exact zckD_35)
theorem zckD_25 : zckm zlwr (zc238.drop 25) = true := zckm_cat (k := 5) zckL_25 (by rw [List.drop_drop]; exact zckD_30)
theorem zckD_20 : zckm zlwr (zc238.drop 20) = true := zckm_cat (k := 5) zckL_20 (by rw [List.drop_drop]; exact zckD_25)
theorem zckD_15 : zckm zlwr (zc238.drop 15) = true := zckm_cat (k := 5) zckL_15 (by rw [List.drop_drop]; exact zckD_20)
theorem zckD_10 : zckm zlwr (zc238.drop 10) = true := zckm_cat (k := 5) zckL_10 (by rw [List.drop_drop]; exact zckD_15)
theorem zckD_5 : zckm zlwr (zc238.drop 5) = true := zckm_cat (k := 5) zckL_5 (by rw [List.drop_drop]; exact zckD_10)
theorem zckD_0 : zckm zlwr (zc238.drop 0) = true := zckm_cat (k := 5) zckL_0 (by rw [List.drop_drop]; exact zckD_5)
theorem zckl_end : ∀ (R : List zMd) (C : List (List (List zIn))) (r : zMd) (c : List (List zIn)), R.length = C.length → zckl R C = true → zckm r c = true → zckl (R ++ [r]) (C ++ [c]) = true := by
  intro R
  induction R with
  | nil => intro C r c hl _ h; cases C with
    | nil => show (zckm r c && true) = true; rw [h]; rfl
    | cons b C => cases hl
  | cons a R ih => intro C r c hl h1 h2; cases C with
    | nil => cases hl
    | cons b C =>
      obtain ⟨h3, h4⟩ := Bool.and_eq_true_iff.mp h1
      show (zckm a b && zckl (R ++ [r]) (C ++ [c])) = true
      rw [h3, ih C r c (by simpa using hl) h4 h2]; rfl
theorem zck_7 : zckl zmd_7 zcs_7 = true := zckl_end (zmd_7.take 28) (zcs_7.take 28) zlwr zc238 rfl zck_7a zckD_0
theorem zck_ok : ∀ (a : Nat) (l : List zMd) (L : List (List (List zIn))), zmds[a]? = some l → zcs[a]? = some L → zckl l L = true := by
  intro a l L h1 h2
  match a, h1, h2 with
  | 0, h1, h2 => exact (Option.some.inj h1) ▸ (Option.some.inj h2) ▸ zck_0
  | 1, h1, h2 => exact (Option.some.inj h1) ▸ (Option.some.inj h2) ▸ zck_1
  | 2, h1, h2 => exact (Option.some.inj h1) ▸ (Option.some.inj h2) ▸ zck_2
  | 3, h1, h2 => exact (Option.some.inj h1) ▸ (Option.some.inj h2) ▸ zck_3
  | 4, h1, h2 => exact (Option.some.inj h1) ▸ (Option.some.inj h2) ▸ zck_4
  | 5, h1, h2 => exact (Option.some.inj h1) ▸ (Option.some.inj h2) ▸ zck_5
  | 6, h1, h2 => exact (Option.some.inj h1) ▸ (Option.some.inj h2) ▸ zck_6
  | 7, h1, h2 => exact (Option.some.inj h1) ▸ (Option.some.inj h2) ▸ zck_7
  | k + 8, h1, _ => simp [zmds] at h1
theorem zckl_at {k : Nat} : ∀ {R : List zMd} {C : List (List (List zIn))} {r : zMd} {c : List (List zIn)}, zckl R C = true → R[k]? = some r → C[k]? = some c → zckm r c = true := by
  induction k with
  | zero =>
    intro R C r c h h1 h2
    cases R with
    | nil => cases h1
    | cons a R => cases C with
      | nil => cases h2
      | cons b C =>
        have e1 : a = r := by simpa using h1
        have e2 : b = c := by simpa using h2
        subst e1; subst e2
        exact (Bool.and_eq_true_iff.mp h).1
  | succ k ih =>
    intro R C r c h h1 h2
    cases R with
    | nil => cases h1
    | cons a R => cases C with
      | nil => cases h2
      | cons b C => exact ih (Bool.and_eq_true_iff.mp h).2 (by simpa using h1) (by simpa using h2)
theorem zlk_mem {α : Type} {n : Nat} {y : α} : ∀ {l : List (Nat × α)}, zlk l n = some y → (n, y) ∈ l := by
  intro l
  induction l with
  | nil => intro h; cases h
  | cons a r ih =>
    intro h
    obtain ⟨k, v⟩ := a
    unfold zlk at h
    cases hk : Nat.beq k n with
    | true =>
      rw [hk] at h
      have e1 : k = n := Nat.eq_of_beq_eq_true hk
      have e2 : v = y := by simpa using h
      rw [← e1, ← e2]
      exact List.mem_cons_self
    | false =>
      rw [hk] at h
      exact List.mem_cons_of_mem _ (ih h)
theorem zins_ok {j pc n : Nat} {i : Instr} {x : zAux} {r : zMd} (hr : zmd j = some r) (h : zins j pc = some (i, n, x)) : zcke r (pc, i, n, x) = true := by
  unfold zmd at hr
  unfold zins at h
  cases h1 : zmds[j / 30]? with
  | none => rw [h1] at hr; cases hr
  | some l =>
    cases h2 : zcs[j / 30]? with
    | none => rw [h2] at h; cases h
    | some L =>
      rw [h1] at hr
      rw [h2] at h
      dsimp only at hr h
      cases h3 : L[j % 30]? with
      | none => rw [h3] at h; cases h
      | some c =>
        rw [h3] at h
        dsimp only at h
        cases h4 : c[pc / 32]? with
        | none => rw [h4] at h; cases h
        | some b =>
          rw [h4] at h
          dsimp only at h
          have h5 := zckl_at (zck_ok _ _ _ h1 h2) hr h3
          have h6 := List.all_eq_true.mp h5 b (List.mem_of_getElem? h4)
          exact List.all_eq_true.mp h6 _ (zlk_mem h)
theorem zins_d {j pc n : Nat} {i : Instr} {x : zAux} {r : zMd} (hr : zmd j = some r) (h : zins j pc = some (i, n, x)) : decode r.2.1 pc = .ok (i, n) ∧ zln i n = true ∧ zck r pc i x = true := by
  have h1 := zins_ok hr h
  unfold zcke zisd at h1
  obtain ⟨h2, h3⟩ := Bool.and_eq_true_iff.mp h1
  obtain ⟨h4, h5⟩ := Bool.and_eq_true_iff.mp h3
  exact ⟨of_decide_eq_true h2, h4, h5⟩
