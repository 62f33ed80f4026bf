/-! ===== both sides' cells: counted, painted, cleared, turned ===== -/
theorem zct_rcc {w hh : Nat} {cs x0 : List Int32} (R : zLr w hh cs x0) (s : Int32) (k : Nat) (hk : k ≤ w * hh) : zct cs s k = rcc x0 s k := by
  induction k with
  | zero => rfl
  | succ k ih => rw [zct, rcc, R k (by omega), ih (by omega)]
theorem zclr_at {cs : List Int32} (hl : cs.length = 100) (k : Nat) (hk : k ≤ 25) (c : Nat) (hc : c < k) : zst (zclr cs k) c = zJ 0 ∧ (zclr cs k).getD (c * 4 + 1) 0 = -1 ∧ (zclr cs k).getD (c * 4 + 2) 0 = zJ 0 ∧ (zclr cs k).getD (c * 4 + 3) 0 = zJ 0 := by
  induction k with
  | zero => omega
  | succ k ih =>
    rw [zclr]
    by_cases e : c = k
    · subst e
      exact zpt_0 (by rw [zclr_len]; omega)
    · rw [zpt_st e, zpt_ne e (by omega), zpt_ne e (by omega), zpt_ne e (by omega)]
      exact ih (by omega) (by omega)
theorem rn1_at {n : Nat} (k : Nat) (hk : k ≤ n) (c : Nat) (hc : c < k) : (rn1 n k).getD c 0 = -1 := by
  induction k with
  | zero => omega
  | succ k ih =>
    rw [rn1]
    by_cases e : c = k
    · subst e
      exact zgetD_eq (by rw [rn1_len]; omega)
    · rw [zgetD_ne (by omega)]
      exact ih (by omega) (by omega)
theorem rnc_at {n : Nat} (k : Nat) (hk : k ≤ n) (c : Nat) (hc : c < k) : (rnc n k).getD c 0 = -1 := by
  induction k with
  | zero => omega
  | succ k ih =>
    rw [rnc]
    by_cases e : c = k
    · subst e
      exact zgetD_eq (by rw [rnc_len]; omega)
    · rw [zgetD_ne (by omega)]
      exact ih (by omega) (by omega)
section CE
variable {w hh : Nat} {cs : List Int32} {X : rX4}
theorem zCX_clr (hn : w * hh ≤ 25) (hl : cs.length = 100) : zCX w hh (zclr cs 25) (mClr w hh) := by
  refine ⟨fun c hc => ?_, by rw [zclr_len]; exact hl, ⟨List.length_replicate, rn1_len _ _, List.length_replicate, List.length_replicate⟩, fun c _ => Or.inl rgetD_rep⟩
  obtain ⟨h0, h1, h2, h3⟩ := zclr_at hl 25 (Nat.le_refl _) c (by omega)
  rw [h0, h1, h2, h3]
  exact ⟨rgetD_rep.symm, (rn1_at _ (Nat.le_refl _) c hc).symm, rgetD_rep.symm, rgetD_rep.symm⟩
theorem zpr_rpt (hd : 2 ≤ w ∧ w ≤ 5 ∧ 2 ≤ hh ∧ hh ≤ 5) (C : zCX w hh cs X) {ro : Nat} (hr : ro < hh) (z : Int32) (k : Nat) (hk : k ≤ w) : zCX w hh (zpr w hh ro z cs k) (rpt w hh ro z 0 X k) := by
  induction k with
  | zero => exact C
  | succ k ih =>
    rw [zpr, rpt]
    exact (ih (by omega)).be (zwh_b hd).2 (ycl_b (show ro < w + hh by omega) (by rw [yln_r hr]; omega)) (mdk_12 _) (by split <;> rfl)
theorem ynw_h {t : Nat} (hd : 2 ≤ w ∧ w ≤ 5 ∧ 2 ≤ hh ∧ hh ≤ 5) : (2 ≤ ynw w hh t ∧ ynw w hh t ≤ 5 ∧ 2 ≤ ynh w hh t ∧ ynh w hh t ≤ 5) ∧ ynw w hh t * ynh w hh t = w * hh ∧ ynw w hh t + ynh w hh t = w + hh := by
  unfold ynw ynh
  split
  · exact ⟨⟨hd.2.2.1, hd.2.2.2, hd.1, hd.2.1⟩, Nat.mul_comm _ _, Nat.add_comm _ _⟩
  · exact ⟨hd, rfl, rfl⟩
theorem zto_eq {t r c : Nat} (ht : t < 3) (hr : r < hh) (hc : c < w) : ycl (ynw w hh t) (ynh w hh t) (ytr t (ynh w hh t) r c) (ytc t (ynw w hh t) r c) = rto t w hh (r * w + c) := by
  have e1 : (r * w + c) / w = r := by rw [Nat.mul_comm, Nat.mul_add_div (by omega), Nat.div_eq_of_lt hc, Nat.add_zero]
  have e2 : (r * w + c) % w = c := by rw [Nat.mul_comm, Nat.mul_add_mod, Nat.mod_eq_of_lt hc]
  unfold rto
  rw [e1, e2]
  rcases (show t = 0 ∨ t = 1 ∨ t = 2 by omega) with rfl | rfl | rfl
  · show ycl w hh (hh - 1 - r) (w - 1 - c) = w * (hh - 1 - r) + w - 1 - c
    rw [ycl_r (by omega), Nat.mul_comm]
    omega
  · show ycl w hh r (w - 1 - c) = w * r + w - 1 - c
    rw [ycl_r hr, Nat.mul_comm]
    omega
  · show ycl hh w c r = hh * c + r
    rw [ycl_r hc, Nat.mul_comm]
def zxD (n : Nat) (cs : List Int32) (X : rX4) : Prop := zRc n cs X ∧ cs.length = 100 ∧ rLn n X ∧ zS3 n X.1
theorem zxD.st (hd : 2 ≤ w ∧ w ≤ 5 ∧ 2 ≤ hh ∧ hh ≤ 5) (C : zCX w hh cs X) {t : Nat} (ht : t < 3) {r c : Nat} (hr : r < hh) (hc : c < w) {cs' : List Int32} {X' : rX4} (D : zxD (w * hh) cs' X') : zxD (w * hh) (ztc t (ynw w hh t) (ynh w hh t) w hh cs cs' r c) (rTs t w hh X X' (r * w + c)) := by
  have hk : r * w + c < w * hh := by
    have := zmul5 hr hc
    rw [Nat.mul_comm w hh]
    exact this
  have hto := (rto_lt (how := t) hd.1 hk).2.2
  obtain ⟨h0, h1, h2, h3⟩ := C.1 _ hk
  obtain ⟨d1, d2, d3, d4⟩ := D
  unfold ztc rTs
  rw [zto_eq ht hr hc, ycl_r hr, h0, h1, h2, h3, List.set_set]
  refine ⟨d1.put d2 (zwh_b hd).2 d3 hto, by rw [zpt_len]; exact d2, d3.set, d4.set d3.1 (C.2.2.2 _ hk)⟩
theorem zturn_c (hd : 2 ≤ w ∧ w ≤ 5 ∧ 2 ≤ hh ∧ hh ≤ 5) (C : zCX w hh cs X) {t : Nat} (ht : t < 3) : zCX (ynw w hh t) (ynh w hh t) (yTr t (ynw w hh t) (ynh w hh t) w hh cs cs hh) (rTk t w hh X X (w * hh)) := by
  have inner : ∀ r, r < hh → ∀ cs1, zxD (w * hh) cs1 (rTk t w hh X X (r * w)) → ∀ k, k ≤ w → zxD (w * hh) (yTc t (ynw w hh t) (ynh w hh t) w hh cs cs1 r k) (rTk t w hh X X (r * w + k)) := by
    intro r hr cs1 D k
    induction k with
    | zero => intro _; exact D
    | succ k ih =>
      intro hk
      exact (ih (by omega)).st hd C ht hr (show k < w by omega)
  have outer : ∀ r, r ≤ hh → zxD (w * hh) (yTr t (ynw w hh t) (ynh w hh t) w hh cs cs r) (rTk t w hh X X (r * w)) := by
    intro r
    induction r with
    | zero =>
      intro _
      rw [Nat.zero_mul]
      exact C
    | succ r ih =>
      intro hr
      rw [yTr, Nat.succ_mul]
      exact inner r (by omega) _ (ih (by omega)) w (Nat.le_refl _)
  have := outer hh (Nat.le_refl _)
  rw [Nat.mul_comm hh w] at this
  unfold zCX
  rw [(ynw_h hd).2.1]
  exact this
theorem ztn_lt {t k : Nat} (hd : 2 ≤ w ∧ w ≤ 5 ∧ 2 ≤ hh ∧ hh ≤ 5) (hk : k < w + hh) : ztn w hh k t < w + hh := by
  unfold ztn
  split
  · split <;> omega
  · split
    · split <;> omega
    · omega
theorem ztn_on {t i : Nat} (ht : t < 3) (hi : i < w + hh) : ∃ j, j < w + hh ∧ ztn w hh j t = i := by
  unfold ztn
  rcases (show t = 0 ∨ t = 1 ∨ t = 2 by omega) with rfl | rfl | rfl
  · by_cases q : i < hh
    · exact ⟨hh - 1 - i, by omega, by rw [if_neg (by omega), if_pos (by omega), if_pos rfl]; omega⟩
    · exact ⟨hh + (hh + w - 1 - i), by omega, by rw [if_neg (by omega), if_neg (by omega)]; omega⟩
  · by_cases q : i < hh
    · exact ⟨i, by omega, by rw [if_neg (by omega), if_pos q, if_neg (by omega)]⟩
    · exact ⟨hh + (hh + w - 1 - i), by omega, by rw [if_neg (by omega), if_neg (by omega)]; omega⟩
  · by_cases q : i < w
    · exact ⟨hh + i, by omega, by rw [if_pos rfl, if_neg (by omega)]; omega⟩
    · exact ⟨i - w, by omega, by rw [if_pos rfl, if_pos (by omega)]; omega⟩
variable {cl fs clr : List Int32}
theorem zturn_k (hd : 2 ≤ w ∧ w ≤ 5 ∧ 2 ≤ hh ∧ hh ≤ 5) (K : zxK w hh cl fs clr) {t : Nat} (ht : t < 3) : zxK (ynw w hh t) (ynh w hh t) (yTl t (ynw w hh t) (ynh w hh t) w hh cl cl fs (w + hh)).1 (yTl t (ynw w hh t) (ynh w hh t) w hh cl cl fs (w + hh)).2 (rTl t w hh clr clr (w + hh)) := by
  have key : ∀ k, k ≤ w + hh → ((yTl t (ynw w hh t) (ynh w hh t) w hh cl cl fs k).1.length = 10 ∧ (yTl t (ynw w hh t) (ynh w hh t) w hh cl cl fs k).2.length = 10 ∧ (rTl t w hh clr clr k).length = w + hh) ∧
      ∀ j, j < k → (yTl t (ynw w hh t) (ynh w hh t) w hh cl cl fs k).1.getD (ztn w hh j t) 0 = (rTl t w hh clr clr k).getD (ztn w hh j t) 0 ∧ (yTl t (ynw w hh t) (ynh w hh t) w hh cl cl fs k).2.getD (ztn w hh j t) 0 = zfg ((rTl t w hh clr clr k).getD (ztn w hh j t) 0) (yln (ynw w hh t) (ynh w hh t) (ztn w hh j t)) ∧ zVd ((rTl t w hh clr clr k).getD (ztn w hh j t) 0) := by
    intro k
    induction k with
    | zero => intro _; exact ⟨⟨K.1, K.2.1, K.2.2.1⟩, fun j hj => absurd hj (Nat.not_lt_zero j)⟩
    | succ k ih =>
      intro hk
      obtain ⟨⟨l1, l2, l3⟩, hj⟩ := ih (by omega)
      have hz := ztn_lt (t := t) hd (show k < w + hh by omega)
      have ex : yTx w hh t cl k = (if zrw hh k t = true then rrv (clr.getD k 0) else clr.getD k 0) := by
        rw [yTx, zrv_rrv, (K.2.2.2 k (by omega)).1]
      have hv : zVd (if zrw hh k t = true then rrv (clr.getD k 0) else clr.getD k 0) := by
        have := (K.2.2.2 k (by omega)).2.2
        split
        · exact zVd_rv this
        · exact this
      rw [yTl, rTl, ex]
      refine ⟨⟨by rw [List.length_set]; exact l1, by rw [List.length_set]; exact l2, by rw [List.length_set]; exact l3⟩, fun j hj2 => ?_⟩
      by_cases e : ztn w hh k t = ztn w hh j t
      · rw [← e]
        show (List.set _ _ _).getD _ _ = _ ∧ (List.set _ _ _).getD _ _ = _ ∧ _
        rw [zgetD_eq (by omega), zgetD_eq (by omega), zgetD_eq (by omega)]
        exact ⟨rfl, rfl, hv⟩
      · show (List.set _ _ _).getD _ _ = _ ∧ (List.set _ _ _).getD _ _ = _ ∧ _
        rw [zgetD_ne e, zgetD_ne e, zgetD_ne e]
        refine hj j ?_
        rcases Nat.lt_or_ge j k with z | z
        · exact z
        · exact absurd (congrArg (fun u => ztn w hh u t) (show k = j by omega)) e
  obtain ⟨⟨l1, l2, l3⟩, h⟩ := key (w + hh) (Nat.le_refl _)
  refine ⟨l1, l2, by rw [l3, (ynw_h hd).2.2], fun i hi => ?_⟩
  rw [(ynw_h hd).2.2] at hi
  obtain ⟨j, hj, rfl⟩ := ztn_on ht hi
  exact h j hj
theorem yTi_at (k : Nat) (hk : k ≤ 10) : ((yTi w hh k).1.length = 10 ∧ (yTi w hh k).2.length = 10) ∧ ∀ i, i < k → (yTi w hh k).1.getD i 0 = -1 ∧ (yTi w hh k).2.getD i 0 = zfg (-1) (yln w hh i) := by
  induction k with
  | zero => exact ⟨⟨List.length_replicate, List.length_replicate⟩, fun i hi => absurd hi (Nat.not_lt_zero i)⟩
  | succ k ih =>
    obtain ⟨⟨l1, l2⟩, h⟩ := ih (by omega)
    rw [yTi]
    refine ⟨⟨by rw [List.length_set]; exact l1, by rw [List.length_set]; exact l2⟩, fun i hi => ?_⟩
    show (List.set _ _ _).getD _ _ = _ ∧ (List.set _ _ _).getD _ _ = _
    by_cases e : k = i
    · subst e
      rw [zgetD_eq (by omega), zgetD_eq (by omega)]
      exact ⟨rfl, rfl⟩
    · rw [zgetD_ne e, zgetD_ne e]
      exact h i (by omega)
theorem zxK_new (hd : 2 ≤ w ∧ w ≤ 5 ∧ 2 ≤ hh ∧ hh ≤ 5) : zxK w hh (yTi w hh (w + hh)).1 (yTi w hh (w + hh)).2 (rnc (w + hh) (w + hh)) := by
  obtain ⟨⟨l1, l2⟩, h⟩ := yTi_at (w := w) (hh := hh) (w + hh) (by omega)
  refine ⟨l1, l2, rnc_len _ _, fun i hi => ?_⟩
  unfold zLn
  rw [rnc_at _ (Nat.le_refl _) i hi, (h i hi).1, (h i hi).2]
  exact ⟨rfl, rfl, zVd_m⟩
end CE
