/-! ===== the law: both sides together ===== -/
theorem zband31 (v : Int32) : ∃ t, t < 32 ∧ v &&& zJ 31 = zJ t := by
  refine ⟨(v.toBitVec &&& 31#32).toNat, ?_, ?_⟩
  · rw [BitVec.toNat_and]
    exact Nat.lt_of_le_of_lt Nat.and_le_right (by decide)
  · rw [← Int32.toBitVec_inj]
    show v.toBitVec &&& 31#32 = BitVec.ofNat 32 _
    rw [BitVec.ofNat_toNat, BitVec.setWidth_eq]
theorem zle_sub {n i : Nat} (hn : n < 1000000) (hi : i < 1000000) (h : ¬ zJ n - zJ 5 < zJ i) : i + 5 ≤ n := by
  have e : zJ n - zJ 5 = Int32.ofInt ((n : Int) - 5) := by rw [Int32.ofInt_sub, Int32.ofInt_eq_ofNat]; rfl
  rw [e, Int32.lt_iff_toInt_lt, Int32.toInt_ofInt_of_le (by omega) (by omega), zJ_i (by omega)] at h
  omega
section LW
variable {h h1 : zPH} {E : zEnv} {A : Nat → Prop} {b a o m le mm s : Nat} {l : List Int32} {L L1 : List yBS} {rf n0 n2 : Int32} {B : List rBS}
theorem rC.av (C : rC h E m le n0 n2 B) (F : yFr A h h1 mm s) (av : ∀ x, rAl m le B x → ¬ A x) : rC h1 E m le n0 n2 B := by
  obtain ⟨M, L, hl, hle, D, J⟩ := C
  exact ⟨M.f1 F (av _ (Or.inl rfl)), L.fr F (av _ (Or.inr (Or.inl rfl))) (av _ (Or.inr (Or.inr (Or.inl rfl)))), hl, hle, fun i β hi => ⟨(D i β hi).1.fr F (fun x z => av x (Or.inr (Or.inr (Or.inr ⟨i, β, hi, z⟩)))), (D i β hi).2⟩, J⟩
theorem yC.lt {τ : yGS} {α : yAS} (C : yC h a L rf τ α) {x : Nat} (hx : yPb a (L.map (·.1)) x) : x < h.2.1 := by
  rcases hx with z | ⟨b, hm, z⟩
  · have h1 : a + 6 + 10 ≤ h.2.1 := C.1.ta.1.1
    have := z.2
    omega
  · obtain ⟨β, hβ, rfl⟩ := List.mem_map.mp hm
    have h1 := yBt.gr4 (C.2.1 β hβ)
    have h2 : x < β.1 + 17 := z.2
    omega
/-- script, class, answer's object, model -/
def zL1 (E : zEnv) (h : zPH) (b : Nat) (l : List Int32) (a o m : Nat) (L : List yBS) (rf : Int32) (le : Nat) (n2 : Int32) (B : List rBS) : Prop :=
  (h.1 b = some (96, zis l) ∧ b < h.2.1) ∧ ySs E h ∧ (∃ τ α, yC h a L rf τ α) ∧ yO h o ∧ yI L ∧ (∃ n0, rC h E m le n0 n2 B) ∧ (∀ x, yPb a (L.map (·.1)) x → x ≠ o) ∧ (∀ x, rAl m le B x → ¬ yPb a (L.map (·.1)) x ∧ x ≠ o)
theorem zL1.cls {rf1 : Int32} (Z : zL1 E h b l a o m L rf le n2 B) (T : yT h h1 a o L L1 rf1 mm s) : zL1 E h1 b l a o m L1 rf1 le n2 B := by
  obtain ⟨⟨Zs, Zb⟩, S, ⟨τ, α, C⟩, O, I, ⟨n0, R⟩, d1, d2⟩ := Z
  obtain ⟨F, C1, O1, hR, I1⟩ := T
  have hol : o < h.2.1 := by
    obtain ⟨u0, u1, u2, G⟩ := O
    exact G.1
  have dn : ∀ x, x < h.2.1 → yPb a (L1.map (·.1)) x → yPb a (L.map (·.1)) x := fun x z1 z2 => by
    rcases hR x z2 with z | z
    · exact z
    · omega
  refine ⟨⟨F.big Zb Zs (by omega), Nat.lt_of_lt_of_le Zb F.2.1⟩, F.ss S, C1, O1, I1, ⟨n0, R.av F (fun x z y => ?_)⟩, fun x z e => ?_, fun x z => ⟨fun y => (d2 x z).1 (dn x (R.lt z) y), (d2 x z).2⟩⟩
  · rcases y with y | y
    · exact (d2 x z).1 y
    · exact (d2 x z).2 y
  · subst e
    exact d1 x (dn x hol z) rfl
theorem zL1.ref {le1 : Nat} {n2' : Int32} {B1 : List rBS} (Z : zL1 E h b l a o m L rf le n2 B) (N : rNx h h1 E m n2 n2' le B le1 B1 mm s) : zL1 E h1 b l a o m L rf le1 n2' B1 := by
  obtain ⟨⟨Zs, Zb⟩, S, ⟨τ, α, C⟩, O, I, R, d1, d2⟩ := Z
  obtain ⟨F, R1, hs⟩ := N
  have hol : o < h.2.1 := by
    obtain ⟨u0, u1, u2, G⟩ := O
    exact G.1
  have av : ∀ x, yPb a (L.map (·.1)) x ∨ x = o → x < h.2.1 → ¬ (rAl m le B x ∨ h.2.1 ≤ x) := fun x z hx y => by
    rcases y with y | y
    · rcases z with z | z
      · exact (d2 x y).1 z
      · exact (d2 x y).2 z
    · omega
  refine ⟨⟨F.big Zb Zs (by omega), Nat.lt_of_lt_of_le Zb F.2.1⟩, F.ss S, ⟨τ, α, C.fr F (fun x z => av x (Or.inl (Or.inl z)) (C.lt (Or.inl z))) (fun β hβ x z => ?_)⟩, ?_, I, R1, d1, fun x z => ?_⟩
  · have hm : yPb a (L.map (·.1)) x := Or.inr ⟨β.1, List.mem_map_of_mem hβ, z⟩
    exact av x (Or.inl hm) (C.lt hm)
  · obtain ⟨u0, u1, u2, G⟩ := O
    exact ⟨u0, u1, u2, G.f1 F (av o (Or.inr rfl) hol)⟩
  · rcases hs x z with q | q
    · exact d2 x q
    · exact ⟨fun y => by have := C.lt y; omega, by omega⟩
theorem zL1.keepO {le1 : Nat} {n2' : Int32} {B1 : List rBS} {c : zCel} (Z : zL1 E h b l a o m L rf le n2 B) (N : rNx h h1 E m n2 n2' le B le1 B1 mm s) (hc : h.1 o = some c) : h1.1 o = some c := by
  obtain ⟨-, -, -, ⟨u0, u1, u2, G⟩, -, -, -, d2⟩ := Z
  have hol : o + 1 ≤ h.2.1 := G.1
  refine N.1.c (by omega) (fun y => ?_) hc
  rcases y with y | y
  · exact (d2 o y).2 rfl
  · omega
theorem yT.ofK {τ1 : yGS} {α1 : yAS} {rf1 : Int32} (Z : zL1 E h b l a o m L rf le n2 B) (e : yEqA L L1) (F : yFr (yPb a (L.map (·.1))) h h1 mm s) (C1 : yC h1 a L1 rf1 τ1 α1) : yT h h1 a o L L1 rf1 mm s := by
  obtain ⟨-, -, -, ⟨u0, u1, u2, G⟩, I, -, d1, -⟩ := Z
  exact ⟨F.mono (fun _ _ z => Or.inl z) (Nat.le_refl _) (Nat.le_refl _), ⟨τ1, α1, C1⟩, ⟨u0, u1, u2, G.f1 F (fun z => d1 o z rfl)⟩, yR.map e.map1, I.eqA e⟩
end LW
theorem zlgc (x : Int64) : lg_cmp x x = 0 := by simp [lg_cmp]
