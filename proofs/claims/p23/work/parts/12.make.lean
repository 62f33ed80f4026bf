/-! ===== instructions that make cells, copy, leave the method ===== -/
theorem zToI (n : Nat) : n.toInt32 = Int32.ofNat n := rfl
theorem zarrV {cA : ClassId} {N : Nat} {v : Value} {f : Nat → Value} (hf : ∀ j, f j = v) : arrV cA N f = { cls := cA, slots := (List.replicate N v).toArray, vm := .none } := by
  unfold arrV
  congr 1
  apply Array.ext_getElem?
  intro i
  by_cases hi : i < N
  · simp [hi, hf]
  · simp [hi]
/-- many cells made -/
theorem zH.more {G : zG} {h h1 : zPH} {H H1 : Heap} (hH : zH G h H) {s : State} (hK : zKn G s) (z : H1.size = h1.2.1) (hz : h.2.1 ≤ h1.2.1) (oq : ∀ q : Nat, q < H.size → H1[q]? = H[q]?) (he : ∀ b c, h1.1 b = some c → h.1 b = some c ∨ zcell G b c H1) : zH G h1 H1 := by
  obtain ⟨e1, e2, e3, e4⟩ := hH
  refine ⟨z, fun b d hb => ?_, fun q hq => ?_, by omega⟩
  · rcases he b d hb with hd | hd
    · have hc := e2 b d hd
      exact hc.kept (oq b (hc.lt hK e4))
    · exact hd
  · rw [oq q (by omega)]
    exact e3 q hq
theorem zcell_ar {G : zG} {a t k : Nat} {vs : List Value} {H : Heap} (hk : t - 64 = k) (h1 : 64 ≤ t) (h2 : t < 96) (hb : zgb G ≤ a) (h3 : ∃ ty, zar[k]? = some ty) (h4 : H[a]? = some (zaC G k vs)) : zcell G a (t, vs) H := by
  subst hk
  exact Or.inr (Or.inl ⟨h1, h2, hb, h3, h4⟩)
section ZMK
variable {G : zG} {p : Program} {l : Launch} {e : Env} {R : Room} {s : State} {m : MethodId} {args : Array Value} {below : List Frame} {meth : Method} {c : Code} {Q : State → Prop}
variable {r : zMd} {d g0 k0 : Nat} {hf h : zPH} {Rr : zOut → zPH → Prop} {Cc : Nat → List Value → List Value → Prop} {x : zAux} {n pc : Nat} {L : zLc} {st : List Value}
theorem zGo_i {nL : Nat} (k : ∀ (H : Heap) (locs : List Loc) (ls : Array Slot), zH G h H → (∀ z ∈ locs, zgb G ≤ z.base) → zL ls nL L → g0 ≤ h.2.1 → k0 ≤ h.2.2 → W p l e R s m args below meth c H locs (h.2.1 - g0) (h.2.2 - k0) Q (F0 m pc ls st)) : zGo G p l e R s m args below meth c Q nL g0 k0 (pc, L, st, h) := k
theorem zs_newarray {k : ArrayType} (hF : zFm G p l R s m args meth c r d g0 k0 hf) (hd : decode r.2.1 pc = .ok (.newarray k, n)) (hn : zln (.newarray k) n = true) (hz : zck r pc (.newarray k) x = true) (ha : zAc G p l e R s m args below meth c Q r g0 k0 hf Rr Cc (.newarray k) n x pc L st h) : zGo G p l e R s m args below meth c Q r.2.2.1 g0 k0 (pc, L, st, h) := by
  have hn1 : Nat.beq 2 n = true := hn
  cases Nat.eq_of_beq_eq_true hn1
  dsimp only [zAc, zact] at ha
  split at ha
  · rename_i y rest
    split at ha
    · exact ha.elim
    · rename_i hy
      obtain ⟨hle, ha⟩ := zif_t ha
      obtain ⟨hlt, ha⟩ := zif_t ha
      have hle := Nat.le_of_ble_eq_true hle
      obtain ⟨hx, hb, -, -, -, hown, hon, hts, hK, -, -, -, -, hR1, hR2⟩ := hF
      have hzz : ∃ (ty : FieldType) (hty : zar[x.1 - 64]? = some ty), 64 ≤ x.1 ∧ x.1 < 96 ∧ newarray.typeOf k = ty ∧ Jvm.Cond.arrayClass ty ∈ zWS ∧ defaultValue ty = .int 0 ∧ componentBytes ty ≤ 4 := by
        dsimp only [zck] at hz
        split at hz
        · rename_i h64
          rw [h64]
          exact ⟨_, rfl, by decide, by decide, by rw [of_decide_eq_true hz]; rfl, zaci, rfl, by decide⟩
        · rename_i h64
          rw [h64]
          exact ⟨_, rfl, by decide, by decide, by rw [of_decide_eq_true hz]; rfl, zacb, rfl, by decide⟩
        · cases hz
      obtain ⟨ty, hty, h64, h96, htk, hac, hdv, hcb⟩ := hzz
      refine zGo_i fun H locs ls hH hl hL hg hk => ?_
      have hge := ha.1
      have hg1 : h.2.1 + 1 ≤ hf.2.1 := hge.1
      have hg2 : h.2.2 + y.toNatClampNeg ≤ hf.2.2 := hge.2
      refine va_newaK hx hb (harr := by rw [htk]; exact hts _ hac) (g := F0 m pc ls (.int y :: rest)) rfl hd rfl hy rfl ?_ (by omega) (by omega) hH.1 fun H1 cA e1 e2 e3 _ e4 => ?_
      · rw [htk]
        have := Nat.mul_le_mul hle hcb
        omega
      · have hcA : cA = zgA G (x.1 - 64) := by
          obtain ⟨_, _, _, _, h3, -⟩ := hK.2.1 _ _ hty
          rw [htk] at e4
          exact Option.some.inj (e4.symm.trans h3)
        have hH1 : zH G (zalloc h (x.1, List.replicate y.toNatClampNeg (.int 0)) y.toNatClampNeg) H1 := by
          refine hH.push hK (by rw [e2, hH.1]) (fun q hq => e3 q (by rw [← hH.1]; exact hq)) (Or.inr (Or.inl ⟨h64, h96, ?_, ⟨ty, hty⟩, ?_⟩))
          · exact hH.2.2.2
          · rw [hH.1, e1, zarrV (v := .int 0) (fun _ => by rw [htk]; exact hdv), hcA]
            rfl
        have h5 := ha.2 H1 locs ls hH1 hl hL (by show g0 ≤ h.2.1 + 1; omega) (by show k0 ≤ h.2.2 + y.toNatClampNeg; omega)
        exact W.cs (by show h.2.1 - g0 + 1 = h.2.1 + 1 - g0; omega) (by show h.2.2 - k0 + y.toNatClampNeg = h.2.2 + y.toNatClampNeg - k0; omega) h5
  · exact ha.elim
theorem zs_anewarray {k : Nat} (hF : zFm G p l R s m args meth c r d g0 k0 hf) (hd : decode r.2.1 pc = .ok (.anewarray k, n)) (hn : zln (.anewarray k) n = true) (hz : zck r pc (.anewarray k) x = true) (ha : zAc G p l e R s m args below meth c Q r g0 k0 hf Rr Cc (.anewarray k) n x pc L st h) : zGo G p l e R s m args below meth c Q r.2.2.1 g0 k0 (pc, L, st, h) := by
  have hn1 : Nat.beq 3 n = true := hn
  cases Nat.eq_of_beq_eq_true hn1
  dsimp only [zAc, zact] at ha
  split at ha
  · rename_i y rest
    split at ha
    · exact ha.elim
    · rename_i hy
      obtain ⟨hle, ha⟩ := zif_t ha
      have hle := Nat.le_of_ble_eq_true hle
      obtain ⟨hx, hb, -, -, -, hown, hon, hts, hK, -, -, -, -, hR1, hR2⟩ := hF
      obtain ⟨hz1, hz2⟩ := Bool.and_eq_true_iff.mp (show (Nat.ble 64 x.1 && zAl.any (zq3 r.2.2.2.2.1 k (x.1 - 64))) = true from hz)
      have h64 := Nat.le_of_ble_eq_true hz1
      obtain ⟨own, ty, ho, hty, hw⟩ := zAl_t hz2
      cases zon_t ho hon
      have h96 : x.1 < 96 := by have h9 := zar_lt hty; have h9 : x.1 - 64 < 32 := h9; omega
      have hge := ha.1
      have hg1 : h.2.1 + 1 ≤ hf.2.1 := hge.1
      have hg2 : h.2.2 + y.toNatClampNeg ≤ hf.2.2 := hge.2
      refine zGo_i fun H locs ls hH hl hL hg hk => ?_
      have fin : ∀ cA : ClassId, s.vm.findClass ("[" ++ ty.toString) = some cA → W p l e R s m args below meth c (H.push { cls := cA, slots := Array.replicate y.toNatClampNeg .null, vm := .none }) locs (h.2.1 - g0 + 1) (h.2.2 - k0 + y.toNatClampNeg) Q (F0 m (pc + 3) ls (.ref H.size :: rest)) := by
        intro cA e4
        have hcA : cA = zgA G (x.1 - 64) := by
          obtain ⟨_, _, _, _, h3, -⟩ := hK.2.1 _ _ hty
          exact Option.some.inj (e4.symm.trans h3)
        have hH1 : zH G (zalloc h (x.1, List.replicate y.toNatClampNeg .null) y.toNatClampNeg) (H.push { cls := cA, slots := Array.replicate y.toNatClampNeg .null, vm := .none }) := by
          refine hH.push hK (by simp) (fun q hq => by rw [Array.getElem?_push, if_neg (Nat.ne_of_lt hq)]) (Or.inr (Or.inl ⟨h64, h96, hH.2.2.2, ⟨ty, hty⟩, ?_⟩))
          rw [hcA]
          simp [zaC]
        have h5 := ha.2 _ locs ls hH1 hl hL (by show g0 ≤ h.2.1 + 1; omega) (by show k0 ≤ h.2.2 + y.toNatClampNeg; omega)
        have e5 : H.size = h.2.1 := hH.1
        rw [e5]
        exact W.cs (by show h.2.1 - g0 + 1 = h.2.1 + 1 - g0; omega) (by show h.2.2 - k0 + y.toNatClampNeg = h.2.2 + y.toNatClampNeg - k0; omega) h5
      rcases hw with ⟨C, rfl, hw, hov⟩ | ⟨t, rfl, hw, hov⟩
      · exact W.anew hx hb hown (hts _ hw) (zxuse hov (hK.2.2.2.1 _ hov)) rfl hd rfl hy (by omega) (by omega) (by omega) fun cA kA comp e4 _ _ _ => fin cA e4
      · exact W.anewA hx hb hown (hts _ hw) (zxuse hov (hK.2.2.2.1 _ hov)) rfl hd rfl hy (by omega) (by omega) (by omega) fun cA kA comp e4 _ _ _ => fin cA e4
  · exact ha.elim
theorem zAr.id {s : State} {cA : ClassId} {ty : FieldType} (h : zAr s cA ty) : s.vm.findClass ("[" ++ ty.toString) = some cA := by
  obtain ⟨_, _, _, _, h3, -⟩ := h
  exact h3
theorem zs_multianewarray {k dd : Nat} (hF : zFm G p l R s m args meth c r d g0 k0 hf) (hd : decode r.2.1 pc = .ok (.multianewarray k dd, n)) (hn : zln (.multianewarray k dd) n = true) (hz : zck r pc (.multianewarray k dd) x = true) (ha : zAc G p l e R s m args below meth c Q r g0 k0 hf Rr Cc (.multianewarray k dd) n x pc L st h) : zGo G p l e R s m args below meth c Q r.2.2.1 g0 k0 (pc, L, st, h) := by
  have hn1 : Nat.beq 4 n = true := hn
  cases Nat.eq_of_beq_eq_true hn1
  dsimp only [zAc, zact] at ha
  dsimp only [zck] at hz
  obtain ⟨hx, hb, -, -, -, hown, hon, hts, hK, -, -, -, -, hR1, hR2⟩ := hF
  have hA2 := hK.2.1 2 _ rfl
  have hA3 := hK.2.1 3 _ rfl
  have hA0 := hK.2.1 0 _ rfl
  split at ha
  · rename_i h2
    rw [h2] at hz
    obtain ⟨hz1, hz2⟩ := Bool.and_eq_true_iff.mp hz
    have hz1 := znq hz1
    subst hz1
    obtain ⟨own, ho, hw⟩ := zGl_t hz2
    cases zon_t ho hon
    have hw : Jvm.Cond.classLink r.1.cls k "[[I" ∈ zWS := by
      rcases hw with ⟨-, hw⟩ | ⟨hw, -⟩
      · exact hw
      · cases hw
    split at ha
    · rename_i y z rest
      split at ha
      · exact ha.elim
      rename_i hy
      split at ha
      · exact ha.elim
      rename_i hzz
      obtain ⟨h1, ha⟩ := zif_t ha
      obtain ⟨h2, ha⟩ := zif_t ha
      have hge := ha.1
      have hg1 : h.2.1 + (1 + z.toNatClampNeg) ≤ hf.2.1 := hge.1
      have hg2 : h.2.2 + (z.toNatClampNeg + z.toNatClampNeg * y.toNatClampNeg) ≤ hf.2.2 := hge.2
      refine zGo_i fun H locs ls hH hl hL hg hk => ?_
      refine zr_multi2 hx hb hown (hts _ hw) (zxuse zov1 (hK.2.2.2.1 _ zov1)) (hts _ zaci) hA2.id hA0.id hzz hy (Nat.le_of_ble_eq_true h2) (Nat.le_of_ble_eq_true h1) (by omega) (by omega) hd fun H1 e1 e2 e3 e4 => ?_
      have hH1 : zH G (zalloc2 h z.toNatClampNeg y.toNatClampNeg) H1 := by
        refine hH.more hK (by rw [e1, hH.1]; rfl) (by show h.2.1 ≤ h.2.1 + (1 + z.toNatClampNeg); omega) e2 fun b cc hbc => ?_
        have hbc : (if b = h.2.1 then some (66, zrefs (h.2.1 + 1) 1 z.toNatClampNeg) else if h.2.1 < b ∧ b ≤ h.2.1 + z.toNatClampNeg then some (64, List.replicate y.toNatClampNeg (.int 0)) else h.1 b) = some cc := hbc
        split at hbc
        · rename_i hb1
          cases hbc
          refine Or.inr (zcell_ar rfl (by decide) (by decide) (by rw [hb1, ← hH.1]; exact hH.2.2.2) ⟨_, rfl⟩ ?_)
          rw [hb1, ← hH.1]
          exact e3
        · split at hbc
          · rename_i hb2
            cases hbc
            have h4 := hH.2.2.2
            have h5 := hH.1
            refine Or.inr (zcell_ar rfl (by decide) (by decide) (by omega) ⟨_, rfl⟩ ?_)
            have h6 := e4 (b - (h.2.1 + 1)) (by omega)
            rw [show H.size + 1 + (b - (h.2.1 + 1)) = b by omega] at h6
            exact h6
          · exact Or.inl hbc
      have h5 := ha.2 H1 locs ls hH1 hl hL (by show g0 ≤ h.2.1 + _; omega) (by show k0 ≤ h.2.2 + _; omega)
      have e5 : H.size = h.2.1 := hH.1
      rw [e5]
      exact W.cs (by show h.2.1 - g0 + (1 + z.toNatClampNeg) = h.2.1 + (1 + z.toNatClampNeg) - g0; omega) (by show h.2.2 - k0 + (z.toNatClampNeg + z.toNatClampNeg * y.toNatClampNeg) = h.2.2 + (z.toNatClampNeg + z.toNatClampNeg * y.toNatClampNeg) - k0; omega) h5
    · exact ha.elim
  · rename_i h2
    rw [h2] at hz
    obtain ⟨hz1, hz2⟩ := Bool.and_eq_true_iff.mp hz
    have hz1 := znq hz1
    subst hz1
    obtain ⟨own, ho, hw⟩ := zGl_t hz2
    cases zon_t ho hon
    have hw : Jvm.Cond.classLink r.1.cls k "[[[I" ∈ zWS := by
      rcases hw with ⟨hw, -⟩ | ⟨-, hw⟩
      · cases hw
      · exact hw
    split at ha
    · rename_i q y z rest
      split at ha
      · exact ha.elim
      rename_i hq
      split at ha
      · exact ha.elim
      rename_i hy
      split at ha
      · exact ha.elim
      rename_i hzz
      obtain ⟨h1, ha⟩ := zif_t ha
      obtain ⟨h2, ha⟩ := zif_t ha
      obtain ⟨h3, ha⟩ := zif_t ha
      have hge := ha.1
      have hg1 : h.2.1 + (1 + z.toNatClampNeg * (1 + y.toNatClampNeg)) ≤ hf.2.1 := hge.1
      have hg2 : h.2.2 + (z.toNatClampNeg + z.toNatClampNeg * (y.toNatClampNeg + y.toNatClampNeg * q.toNatClampNeg)) ≤ hf.2.2 := hge.2
      refine zGo_i fun H locs ls hH hl hL hg hk => ?_
      have hA3' := hA3
      have hA2' := hA2
      have hA0' := hA0
      obtain ⟨k3, c3, hk3, hkind3, hid3, hcomp3⟩ := hA3
      obtain ⟨k2, c2, hk2, hkind2, hid2, hcomp2⟩ := hA2
      obtain ⟨k1, c1, hk1, hkind1, hid1, -⟩ := hA0
      have e32 : c3 = zgA G 2 := Option.some.inj (hcomp3.symm.trans hid2)
      have e21 : c2 = zgA G 0 := Option.some.inj (hcomp2.symm.trans hid1)
      subst e32
      subst e21
      refine zr_multi3 hx hb hown (hts _ hw) hid3 hk3 hkind3 hk2 hkind2 hk1 hkind1 hzz hy hq (Nat.le_of_ble_eq_true h3) (Nat.le_of_ble_eq_true h2) (Nat.le_of_ble_eq_true h1) (by omega) (by omega) hd fun H1 e1 e2 e3 e4 => ?_
      generalize hZ : z.toNatClampNeg = Z at *
      generalize hY : y.toNatClampNeg = Y at *
      generalize hQ : q.toNatClampNeg = X at *
      have hH1 : zH G (zalloc3 h Z Y X) H1 := by
        refine hH.more hK (by rw [e1, hH.1]; rfl) (by show h.2.1 ≤ h.2.1 + (1 + Z * (1 + Y)); omega) e2 fun b cc hbc => ?_
        have hbc : (if b = h.2.1 then some (67, zrefs (h.2.1 + 1) (1 + Y) Z) else if h.2.1 < b ∧ b ≤ h.2.1 + Z * (1 + Y) then (if (b - h.2.1 - 1) % (1 + Y) = 0 then some (66, zrefs (b + 1) 1 Y) else some (64, List.replicate X (.int 0))) else h.1 b) = some cc := hbc
        split at hbc
        · rename_i hb1
          cases hbc
          refine Or.inr (zcell_ar rfl (by decide) (by decide) (by rw [hb1, ← hH.1]; exact hH.2.2.2) ⟨_, rfl⟩ ?_)
          rw [hb1, ← hH.1]
          exact e3
        · split at hbc
          · rename_i hb2
            have h4 := hH.2.2.2
            have h5 := hH.1
            have hdiv := Nat.div_add_mod (b - h.2.1 - 1) (1 + Y)
            have hlt : (b - h.2.1 - 1) / (1 + Y) < Z := by
              rw [Nat.div_lt_iff_lt_mul (by omega)]
              omega
            obtain ⟨f1, f2⟩ := e4 _ hlt
            generalize hD : (b - h.2.1 - 1) / (1 + Y) = D at *
            have hcm : (1 + Y) * D = D * (1 + Y) := Nat.mul_comm _ _
            split at hbc
            · rename_i hm
              cases hbc
              refine Or.inr (zcell_ar rfl (by decide) (by decide) (by omega) ⟨_, rfl⟩ ?_)
              rw [show H.size + 1 + D * (1 + Y) = b by omega] at f1
              exact f1
            · rename_i hm
              cases hbc
              have hml : (b - h.2.1 - 1) % (1 + Y) < 1 + Y := Nat.mod_lt _ (by omega)
              refine Or.inr (zcell_ar rfl (by decide) (by decide) (by omega) ⟨_, rfl⟩ ?_)
              have f3 := f2 ((b - h.2.1 - 1) % (1 + Y) - 1) (by omega)
              rw [show H.size + 1 + D * (1 + Y) + 1 + ((b - h.2.1 - 1) % (1 + Y) - 1) = b by omega] at f3
              exact f3
          · exact Or.inl hbc
      have h5 := ha.2 H1 locs ls hH1 hl hL (by show g0 ≤ h.2.1 + _; omega) (by show k0 ≤ h.2.2 + _; omega)
      have e5 : H.size = h.2.1 := hH.1
      rw [e5]
      exact W.cs (by show h.2.1 - g0 + (1 + Z * (1 + Y)) = h.2.1 + (1 + Z * (1 + Y)) - g0; omega) (by show h.2.2 - k0 + (Z + Z * (Y + Y * X)) = h.2.2 + (Z + Z * (Y + Y * X)) - k0; omega) h5
    · exact ha.elim
  · exact ha.elim
end ZMK
