/-! ===== a board: its blocks ===== -/
/-- a board: where, WIDE, HIGH, cells, clues, fits; the album; kept, guessed; GUESSES, MISTAKES, SWEEPS -/
def yB (h : zPH) (b w hh : Nat) (cs cl fs : List Int32) (α : yAS) (kp gd : List Int32) (gu : Nat) (mi sp : Int32) : Prop :=
  yBk h b [(4, [.ref (b + 13), .ref (b + 1), .ref (b + 11), .ref (b + 12), .int (zJ gu), .int mi, .int sp])] ∧ yAt h (b + 1) α ∧ yBk h (b + 11) [(64, zis kp), (64, zis gd)] ∧ yG h (b + 13) w hh cs cl fs ∧ kp.length = 600 ∧ gd.length = 6 ∧ gu ≤ 6
section YB
variable {h : zPH} {b w hh : Nat} {cs cl fs : List Int32} {α : yAS} {kp gd : List Int32} {gu : Nat} {mi sp : Int32}
theorem yB.al (B : yB h b w hh cs cl fs α kp gd gu mi sp) : yAt h (b + 1) α := B.2.1
theorem yB.kg (B : yB h b w hh cs cl fs α kp gd gu mi sp) : yBk h (b + 11) [(64, zis kp), (64, zis gd)] := B.2.2.1
theorem yB.gr (B : yB h b w hh cs cl fs α kp gd gu mi sp) : yG h (b + 13) w hh cs cl fs := B.2.2.2.1
theorem yAt.fr {P : Nat → Prop} {h' : zPH} {m s a : Nat} (A : yAt h a α) (F : yFr P h h' m s) (hd : ∀ x, a ≤ x → x < a + 10 → ¬ P x) : yAt h' a α := yA.fr A F hd
theorem yB.fr {P : Nat → Prop} {h' : zPH} {m s : Nat} (B : yB h b w hh cs cl fs α kp gd gu mi sp) (F : yFr P h h' m s) (hd : ∀ x, b ≤ x → x < b + 17 → ¬ P x) : yB h' b w hh cs cl fs α kp gd gu mi sp :=
  ⟨F.bk B.1 (fun x z1 z2 => hd x z1 (Nat.lt_of_lt_of_le z2 (Nat.add_le_add_left (Nat.le_of_ble_eq_true rfl) b))), B.2.1.fr F (fun x z1 z2 => hd x (by omega) (by omega)), F.bk B.2.2.1 (fun x z1 z2 => hd x (by omega) (by have z2 : x < b + 11 + 2 := z2; omega)), B.2.2.2.1.fr F (fun x z1 z2 => hd x (by omega) (by omega)), B.2.2.2.2⟩
theorem yB.putAl {h' : zPH} {m s : Nat} {α' : yAS} (B : yB h b w hh cs cl fs α kp gd gu mi sp) (F : yFr (yIv (b + 1) 10) h h' m s) (A : yAt h' (b + 1) α') : yB h' b w hh cs cl fs α' kp gd gu mi sp :=
  ⟨F.bk B.1 (fun x z1 z2 z3 => by have z2 : x < b + 1 := z2; have := z3.1; omega), A, F.bk B.2.2.1 (fun x z1 z2 z3 => by have := z3.2; omega), B.2.2.2.1.fr F (fun x z1 z2 z3 => by have := z3.2; omega), B.2.2.2.2⟩
theorem yB.putGr {h' : zPH} {m s w' hh' : Nat} {cs' cl' fs' : List Int32} (B : yB h b w hh cs cl fs α kp gd gu mi sp) (F : yFr (yIv (b + 13) 4) h h' m s) (G : yG h' (b + 13) w' hh' cs' cl' fs') : yB h' b w' hh' cs' cl' fs' α kp gd gu mi sp :=
  ⟨F.bk B.1 (fun x z1 z2 z3 => by have z2 : x < b + 1 := z2; have := z3.1; omega), B.2.1.fr F (fun x z1 z2 z3 => by have := z3.1; omega), F.bk B.2.2.1 (fun x z1 z2 z3 => by have z2 : x < b + 11 + 2 := z2; have := z3.1; omega), G, B.2.2.2.2⟩
variable {E : zEnv} {d j pc : Nat} {L : zLc} {st : List Value} {Q : zOut → zPH → Prop}
theorem yB.wob {gu' : Nat} {mi' sp' : Int32} (B : yB h b w hh cs cl fs α kp gd gu mi sp) (hl : gu' ≤ 6) (K : ∀ h1, yFr (yIv b 17) h h1 0 0 → yB h1 b w hh cs cl fs α kp gd gu' mi' sp' → zwp E d j (pc, L, st, h1) Q) : zwp E d j (pc, L, st, zset h b (4, [.ref (b + 13), .ref (b + 1), .ref (b + 11), .ref (b + 12), .int (zJ gu'), .int mi', .int sp'])) Q :=
  zw_bk B.1 (k := 0) rfl (by omega) fun h1 F G => K h1 (F.mono (fun x _ q => ⟨q.1, by have : x < b + 1 := q.2; omega⟩) (Nat.le_refl _) (Nat.le_refl _)) ⟨G, B.2.1.fr F (fun x z1 z2 z3 => by have : x < b + 1 := z3.2; omega), F.bk B.2.2.1 (fun x z1 z2 z3 => by have : x < b + 1 := z3.2; omega), B.2.2.2.1.fr F (fun x z1 z2 z3 => by have : x < b + 1 := z3.2; omega), B.2.2.2.2.1, B.2.2.2.2.2.1, hl⟩
theorem yB.wkp {kp' : List Int32} (B : yB h b w hh cs cl fs α kp gd gu mi sp) (hl : kp'.length = 600) (K : ∀ h1, yFr (yIv b 17) h h1 0 0 → yB h1 b w hh cs cl fs α kp' gd gu mi sp → zwp E d j (pc, L, st, h1) Q) : zwp E d j (pc, L, st, zset h (b + 11) (64, zis kp')) Q :=
  zw_bk B.2.2.1 (k := 0) rfl (by omega) fun h1 F G => K h1 (F.mono (fun x _ q => ⟨by have := q.1; omega, by have : x < b + 11 + 2 := q.2; omega⟩) (Nat.le_refl _) (Nat.le_refl _)) ⟨F.bk B.1 (fun x z1 z2 z3 => by have z2 : x < b + 1 := z2; have := z3.1; omega), B.2.1.fr F (fun x z1 z2 z3 => by have := z3.1; omega), G, B.2.2.2.1.fr F (fun x z1 z2 z3 => by have : x < b + 11 + 2 := z3.2; omega), hl, B.2.2.2.2.2⟩
theorem yB.wgd {gd' : List Int32} (B : yB h b w hh cs cl fs α kp gd gu mi sp) (hl : gd'.length = 6) (K : ∀ h1, yFr (yIv b 17) h h1 0 0 → yB h1 b w hh cs cl fs α kp gd' gu mi sp → zwp E d j (pc, L, st, h1) Q) : zwp E d j (pc, L, st, zset h (b + 12) (64, zis gd')) Q :=
  zw_bk B.2.2.1 (k := 1) rfl (by omega) fun h1 F G => K h1 (F.mono (fun x _ q => ⟨by have := q.1; omega, by have : x < b + 11 + 2 := q.2; omega⟩) (Nat.le_refl _) (Nat.le_refl _)) ⟨F.bk B.1 (fun x z1 z2 z3 => by have z2 : x < b + 1 := z2; have := z3.1; omega), B.2.1.fr F (fun x z1 z2 z3 => by have := z3.1; omega), G, B.2.2.2.1.fr F (fun x z1 z2 z3 => by have : x < b + 11 + 2 := z3.2; omega), B.2.2.2.2.1, hl, B.2.2.2.2.2.2⟩
end YB
theorem yAt.lens {h : zPH} {a : Nat} {α : yAS} (A : yAt h a α) : α.1.1.length = 500 ∧ α.1.2.1.length = 10 ∧ α.1.2.2.1.length = 5 ∧ α.1.2.2.2.1.length = 30 :=
  ⟨A.2.1.1, A.2.1.2.1, A.2.1.2.2.1, A.2.1.2.2.2.1⟩
theorem yAt.dcl {h : zPH} {a : Nat} {α : yAS} (A : yAt h a α) : α.1.2.2.2.2.length = 25 := A.2.1.2.2.2.2
theorem yAt.wh {h : zPH} {a : Nat} {α : yAS} (A : yAt h a α) : α.2.2.2.1 ≤ 5 ∧ α.2.2.2.2.1 ≤ 5 := ⟨A.2.2.2.1, A.2.2.2.2.1⟩
theorem zcpi_len {f g : List Int32} {sp dp n : Nat} (h1 : sp + n ≤ f.length) (h2 : dp + n ≤ g.length) : (zcpi f g sp dp n).length = g.length := by
  unfold zcpi
  simp only [List.length_append, List.length_take, List.length_drop]
  omega
/-! ### the album's calls over its state in one -/
section YT0
variable {E : zEnv} {h : zPH} {Q : zOut → zPH → Prop} {a : Nat} {α : yAS} {g w hh : Nat} {cs cl fs : List Int32}
theorem c22t (S : ySs E h) (A : yAt h a α) (G : yG h g w hh cs cl fs) (hd : a + 10 ≤ g ∨ g + 4 ≤ a) {m : Nat} (hm : m ≤ 500) (K : ∀ h1, yFr (yIv a 10) h h1 0 0 → yAt h1 a (yLk w hh m cs cl fs α) → Q (.inl (some (.ref a))) h1) : zcall E 15 22 [.ref a, .ref g, .int (zJ m)] h Q := c22 S A G hd hm K
theorem c57t (A : yAt h a α) {c : Nat} (hc : c < 25) (K : ∀ h1, yM64 1057 (ych α c) → yFr (yIv a 10) h h1 0 0 → yAt h1 a (yCn α) → Q (.inl (some (.double (ych α c)))) h1) : zcall E 2 57 [.ref a, .int (zJ c)] h Q := c57 A hc K
theorem c52t (A : yAt h a α) (G : yG h g w hh cs cl fs) (hd : a + 10 ≤ g ∨ g + 4 ≤ a) (K : ∀ h1, yM32 230 (yfo .g cs α (w * hh)).1 → yFr (yIv a 10) h h1 0 0 → yAt h1 a (yFo .g cs α (w * hh)) → Q (.inl (some (.float (yfo .g cs α (w * hh)).1))) h1) : zcall E 2 52 [.ref a, .ref g] h Q := c52 A G hd K
end YT0
