/-! ===== the grid: turned, made, compared ===== -/
/-! ### floats: how great they are at most -/
def yM64 (K : Nat) (x : UInt64) : Prop := x.toNat % 2 ^ 63 < K * 2 ^ 52
def yM32 (K : Nat) (x : UInt32) : Prop := x.toNat % 2 ^ 31 < K * 2 ^ 23
theorem yM64.mono {K K' : Nat} {x : UInt64} (h : yM64 K x) (hK : K ≤ K') : yM64 K' x := Nat.lt_of_lt_of_le h (Nat.mul_le_mul_right _ hK)
theorem yM32.mono {K K' : Nat} {x : UInt32} (h : yM32 K x) (hK : K ≤ K') : yM32 K' x := Nat.lt_of_lt_of_le h (Nat.mul_le_mul_right _ hK)
theorem yM64.zn {K : Nat} {x : UInt64} (h : yM64 K x) (hK : K ≤ 2047) : zn64 x = true := by
  unfold zn64
  rw [decide_eq_true_iff, UInt64.le_iff_toNat_le, UInt64.toNat_and]
  have h1 : (0x7fffffffffffffff : UInt64).toNat = 2 ^ 63 - 1 := by decide
  have h2 : (0x7ff0000000000000 : UInt64).toNat = 2047 * 2 ^ 52 := by decide
  rw [h1, h2, Nat.and_two_pow_sub_one_eq_mod]
  unfold yM64 at h
  omega
theorem yM32.zn {K : Nat} {x : UInt32} (h : yM32 K x) (hK : K ≤ 255) : zn32 x = true := by
  unfold zn32
  rw [decide_eq_true_iff, UInt32.le_iff_toNat_le, UInt32.toNat_and]
  have h1 : (0x7fffffff : UInt32).toNat = 2 ^ 31 - 1 := by decide
  have h2 : (0x7f800000 : UInt32).toNat = 255 * 2 ^ 23 := by decide
  rw [h1, h2, Nat.and_two_pow_sub_one_eq_mod]
  unfold yM32 at h
  omega
theorem yM_i2d (v : Int32) : yM64 1056 (FP.i2d v) := FP.Core.i2d_mag v
theorem yM_i2f (v : Int32) : yM32 160 (FP.i2f v) := FP.Core.i2f_mag v
theorem yM_ne {v : Int32} (h : v ≠ 0) : v.toInt ≠ 0 := fun e => h (Int32.toInt_inj.mp (by rw [e]; rfl))
theorem yM_ddiv {K : Nat} {a : UInt64} {v : Int32} (ha : yM64 K a) (hv : v ≠ 0) (hK : 3 ≤ K ∧ K ≤ 2047) : yM64 (K + 1) (FP.ddiv a (FP.i2d v)) := by
  obtain ⟨h1, h2⟩ := FP.Core.i2d_big (yM_ne hv)
  exact yM64.mono (FP.Core.ddiv_mag (K := K) (L := 1023) ha h1 h2 hK.2 (by omega)) (by omega)
theorem yM_fdiv {K : Nat} {a : UInt32} {v : Int32} (ha : yM32 K a) (hv : v ≠ 0) (hK : 3 ≤ K ∧ K ≤ 255) : yM32 (K + 1) (FP.fdiv a (FP.i2f v)) := by
  obtain ⟨h1, h2⟩ := FP.Core.i2f_big (yM_ne hv)
  exact yM32.mono (FP.Core.fdiv_mag (K := K) (L := 127) ha h1 h2 hK.2 (by omega)) (by omega)
theorem yM_dadd {K : Nat} {a b : UInt64} (ha : yM64 K a) (hb : yM64 K b) (hK : K ≤ 2047) : yM64 (K + 2) (FP.dadd a b) := FP.Core.dadd_mag ha hb hK
theorem yM_dsub {K : Nat} {a b : UInt64} (ha : yM64 K a) (hb : yM64 K b) (hK : K ≤ 2047) : yM64 (K + 2) (FP.dsub a b) := FP.Core.dsub_mag ha hb hK
theorem yM_fadd {K : Nat} {a b : UInt32} (ha : yM32 K a) (hb : yM32 K b) (hK : K ≤ 255) : yM32 (K + 2) (FP.fadd a b) := FP.Core.fadd_mag ha hb hK
theorem yM_fsub {K : Nat} {a b : UInt32} (ha : yM32 K a) (hb : yM32 K b) (hK : K ≤ 255) : yM32 (K + 2) (FP.fsub a b) := FP.Core.fsub_mag ha hb hK
theorem yM_dmul {K K' : Nat} {a b : UInt64} (ha : yM64 K a) (hb : yM64 K' b) (hK : K ≤ 2047) (hK' : K' ≤ 2047) : yM64 (K + K' - 1025 + 3) (FP.dmul a b) := FP.Core.dmul_mag ha hb hK hK'
theorem zJ_p2 {n : Nat} (hn : n ≤ 5) : zJ (1 * 2 ^ n) ≠ 0 := fun e => by
  have h1 := Nat.two_pow_pos n
  have h3 := zpow5 hn
  have h2 := (zJ_eq (b := 0) (by omega) (by omega)).mp e
  omega
def yls (w hh : Nat) (cs fs : List Int32) : Nat → UInt64
  | 0 => FP.dconst0
  | k + 1 => FP.dadd (yls w hh cs fs k) (FP.ddiv (FP.i2d (zbc (zws w hh cs fs k))) (FP.i2d (zJ (1 * 2 ^ zui w hh cs k (yln w hh k)))))
def ylo (w hh : Nat) (cs fs : List Int32) : UInt64 := FP.ddiv (yls w hh cs fs (w + hh)) (FP.i2d (zJ (w + hh)))
theorem c50 {E : zEnv} {h : zPH} {Q : zOut → zPH → Prop} (S : ySs E h) {g w hh : Nat} {cs cl fs : List Int32} (G : yG h g w hh cs cl fs) (K : yM64 1079 (ylo w hh cs fs) → Q (.inl (some (.double (ylo w hh cs fs)))) h) : zcall E 2 50 [.ref g] h Q := by
  obtain ⟨⟨gw1, gw2, gh1, gh2⟩, gcs, gcl, gfs⟩ := G.2
  show zwp E _ 50 (0, [some (.ref _), none, none, none], [], _) Q
  refine zr_dconst0 zi50_0 ?_
  refine zr_dstore_n (L' := [some (.ref _), some (.double _), none, none]) zi50_1 rfl rfl ?_
  refine zr_iconst (v := zJ 0) zi50_2 rfl ?_
  refine zr_istore_n (L' := [some (.ref _), some (.double _), none, some (.int (zJ _))]) zi50_3 rfl rfl ?_
  suffices key4 : (yM64 (1057 + 2 * 0) (yls w hh cs fs 0)) → zwp E 2 50 (4, [some (.ref g), some (.double (yls w hh cs fs 0)), none, some (.int (zJ 0))], [], h) Q from key4 (by show yM64 _ FP.dconst0; unfold yM64; decide)
  refine zloop (P := fun k => (yM64 (1057 + 2 * k) (yls w hh cs fs k)) → zwp E 2 50 (4, [some (.ref g), some (.double (yls w hh cs fs k)), none, some (.int (zJ k))], [], h) Q) (n := w + hh) fun k hk4 ih4 => ?_
  intro hv
  refine zr_iload_n zi50_4 rfl ?_
  refine zr_aload_n zi50_5 rfl ?_
  refine zr_virtual zi50_6 rfl rfl (G.1.at0 rfl) rfl rfl ?_
  refine zcall_dep (d := 0) (Nat.le_of_ble_eq_true rfl) (c4 G (zbk_v ?_))
  refine zr_icmp_geN zi50_9 rfl (by omega) (by omega) (fun q9 => ?_) (fun q9 => ?_)
  · refine zr_aload_n zi50_39 rfl ?_
    refine zr_virtual zi50_40 rfl rfl (G.1.at0 rfl) rfl rfl ?_
    refine zcall_dep (d := 0) (Nat.le_of_ble_eq_true rfl) (c4 G (zbk_v ?_))
    refine zr_if_leN zi50_43 rfl (by omega) (fun q43 => absurd q43 (by omega)) (fun q43 => ?_)
    obtain rfl : k = w + hh := by omega
    have hr := yM_ddiv (v := zJ (w + hh)) (hv.mono (K' := 1078) (by omega)) (fun e => by have h2 := (zJ_eq (b := 0) (by omega) (by omega)).mp e; omega) (by omega)
    refine zr_dload_n zi50_46 rfl ?_
    refine zr_aload_n zi50_47 rfl ?_
    refine zr_virtual zi50_48 rfl rfl (G.1.at0 rfl) rfl rfl ?_
    refine zcall_dep (d := 0) (Nat.le_of_ble_eq_true rfl) (c4 G (zbk_v ?_))
    refine zr_i2d zi50_51 ?_
    refine zr_ddiv zi50_52 (hr.zn (by omega)) ?_
    refine zr_goto zi50_53 rfl ?_
    refine zr_dreturn zi50_57 rfl ?_
    exact K hr
  · refine zr_dload_n zi50_12 rfl ?_
    refine zr_aload_n zi50_13 rfl ?_
    refine zr_iload_n zi50_14 rfl ?_
    refine zr_virtual zi50_15 rfl rfl (G.1.at0 rfl) rfl rfl ?_
    refine zcall_dep (d := 1) (Nat.le_of_ble_eq_true rfl) (c20 S G (by omega) (zbk_v ?_))
    refine zr_static zi50_18 rfl rfl rfl rfl ?_
    refine zcall_dep (d := 0) (Nat.le_of_ble_eq_true rfl) (c29 (zbk_v ?_))
    refine zr_i2d zi50_21 ?_
    have hui := zui_le w hh cs k (yln w hh k)
    have hul := (yln_b k G.2.1).2
    refine zr_iconst (v := zJ 1) zi50_22 rfl ?_
    refine zr_aload_n zi50_23 rfl ?_
    refine zr_iload_n zi50_24 rfl ?_
    refine zr_virtual zi50_25 rfl rfl (G.1.at0 rfl) rfl rfl ?_
    refine zcall_dep (d := 1) (Nat.le_of_ble_eq_true rfl) (c51 G (by omega) (zbk_v ?_))
    refine zr_ishlN zi50_28 (by omega) ?_
    have hne : zJ (1 * 2 ^ zui w hh cs k (yln w hh k)) ≠ 0 := zJ_p2 (by omega)
    have hq := yM_ddiv (yM_i2d (zbc (zws w hh cs fs k))) hne (by omega)
    refine zr_i2d zi50_29 ?_
    refine zr_ddiv zi50_30 (hq.zn (by omega)) ?_
    refine zr_dadd zi50_31 ((yM_dadd (hv.mono (K' := 1080) (by omega)) (hq.mono (by omega)) (by omega)).zn (by omega)) ?_
    refine zr_dstore_n (L' := [some (.ref _), some (.double _), none, some (.int (zJ _))]) zi50_32 rfl rfl ?_
    refine zr_iincN (z := 1) (L' := [some (.ref _), some (.double _), none, some (.int (zJ _))]) zi50_33 rfl rfl rfl rfl ?_
    refine zr_goto zi50_36 rfl ?_
    exact ih4 (by omega) ((yM_dadd hv (hq.mono (by omega)) (by omega)).mono (by omega))
theorem c36r {E : zEnv} {h : zPH} {Q : zOut → zPH → Prop} {g w hh : Nat} {cs cl fs : List Int32} (G : yG h g w hh cs cl fs) {x : Int32} (K : ∀ v, Q (.inl (some (.int v))) h) : zcall E 0 36 [.ref g, .int x] h Q := by
  obtain ⟨⟨gw1, gw2, gh1, gh2⟩, gcs, gcl, gfs⟩ := G.2
  show zwp E _ 36 (0, [some (.ref _), some (.int _)], [], _) Q
  refine zr_iload_n zi36_0 rfl ?_
  refine zr_if_lt zi36_1 rfl (fun q1 => ?_) (fun q1 => ?_)
  · refine zr_iconst (v := (-1)) zi36_22 rfl ?_
    refine zr_ireturn zi36_23 rfl ?_
    exact K _
  · refine zr_iload_n zi36_4 rfl ?_
    refine zr_aload_n zi36_5 rfl ?_
    refine zr_getfield zi36_6 (G.1.at0 rfl) rfl ?_
    refine zr_arraylength (v := zJ 10) zi36_9 (G.1.at 2 rfl) rfl (zlenJ G.2.2.2.1) ?_
    refine zr_icmp_ge zi36_10 rfl (fun q10 => ?_) (fun q10 => ?_)
    · refine zr_iconst (v := (-1)) zi36_22 rfl ?_
      refine zr_ireturn zi36_23 rfl ?_
      exact K _
    · refine zr_aload_n zi36_13 rfl ?_
      refine zr_getfield zi36_14 (G.1.at0 rfl) rfl ?_
      refine zr_iload_n zi36_17 rfl ?_
      refine zr_iaload zi36_18 (G.1.at 2 rfl) rfl ⟨q1, by have h1 := zin_ck q1 (by omega) q10; omega⟩ ?_
      refine zr_goto zi36_19 rfl ?_
      refine zr_ireturn zi36_23 rfl ?_
      exact K _
/-- where a line comes to, and whether it is read the other way, by a code of turnings -/
def zit (w hh t i : Nat) : Nat := if 3 < t then ztn w hh (if t / 2 % 2 = 1 then ztn w hh (if t % 2 = 1 then ztn w hh i 1 else i) 0 else if t % 2 = 1 then ztn w hh i 1 else i) 2 else if t / 2 % 2 = 1 then ztn w hh (if t % 2 = 1 then ztn w hh i 1 else i) 0 else if t % 2 = 1 then ztn w hh i 1 else i
def zir (hh t i : Nat) : Bool := (if t % 2 = 1 then zrw hh i 1 else false) ^^ decide (t / 2 % 2 = 1)
def zFI (w hh : Nat) (cl ol : List Int32) (t i : Nat) : Prop := ol.getD (zit w hh t i) 0 = if zir hh t i = true then zrv (cl.getD i 0) else cl.getD i 0
def zfa (f : Nat → Bool) : Nat → Bool
  | 0 => true
  | k + 1 => zfa f k && f k
theorem zfa_iff (f : Nat → Bool) (n : Nat) : zfa f n = true ↔ ∀ i, i < n → f i = true := by
  induction n with
  | zero => exact ⟨fun _ i hi => absurd hi (Nat.not_lt_zero i), fun _ => rfl⟩
  | succ n ih =>
    rw [zfa, Bool.and_eq_true, ih]
    constructor
    · rintro ⟨h1, h2⟩ i hi
      rcases Nat.lt_or_ge i n with z | z
      · exact h1 i z
      · obtain rfl : i = n := by omega
        exact h2
    · exact fun h => ⟨fun i hi => h i (by omega), h n (by omega)⟩
def zia (w hh : Nat) (cl : List Int32) (ow oh : Nat) (ol : List Int32) (t : Nat) : Bool := decide (ow = if 3 < t then hh else w) && (decide (oh = if 3 < t then w else hh) && zfa (fun i => decide (ol.getD (zit w hh t i) 0 = if zir hh t i = true then zrv (cl.getD i 0) else cl.getD i 0)) (w + hh))
section ZIA
variable {w hh ow oh t i : Nat} {cl ol : List Int32}
theorem zia_w (h : ¬ ow = if 3 < t then hh else w) : zia w hh cl ow oh ol t = false := by
  unfold zia
  rw [decide_eq_false h, Bool.false_and]
theorem zia_h (h : ¬ oh = if 3 < t then w else hh) : zia w hh cl ow oh ol t = false := by
  unfold zia
  rw [decide_eq_false h, Bool.false_and, Bool.and_false]
theorem zia_f (hi : i < w + hh) (h : ¬ zFI w hh cl ol t i) : zia w hh cl ow oh ol t = false := by
  unfold zia
  cases hz : zfa (fun i => decide (ol.getD (zit w hh t i) 0 = if zir hh t i = true then zrv (cl.getD i 0) else cl.getD i 0)) (w + hh) with
  | false => rw [Bool.and_false, Bool.and_false]
  | true => exact absurd (of_decide_eq_true ((zfa_iff _ _).mp hz i hi)) h
theorem zia_t (h1 : ow = if 3 < t then hh else w) (h2 : oh = if 3 < t then w else hh) (h : ∀ i, i < w + hh → zFI w hh cl ol t i) : zia w hh cl ow oh ol t = true := by
  unfold zia
  rw [decide_eq_true h1, decide_eq_true h2, (zfa_iff _ _).mpr (fun i hi => decide_eq_true (show ol.getD (zit w hh t i) 0 = if zir hh t i = true then zrv (cl.getD i 0) else cl.getD i 0 from h i hi))]
  rfl
theorem zFI_of {b : Bool} (hz : zir hh t i = b) : zFI w hh cl ol t i ↔ ol.getD (zit w hh t i) 0 = if b = true then zrv (cl.getD i 0) else cl.getD i 0 := by
  unfold zFI
  rw [hz]
end ZIA
theorem c62L_0 {E : zEnv} {h : zPH} {Q : zOut → zPH → Prop} {g w hh : Nat} {cs cl fs : List Int32} (G : yG h g w hh cs cl fs) {o ow oh : Nat} {os ol ofs : List Int32} (O : yG h o ow oh os ol ofs) (hd1 : ow = w) (hd2 : oh = hh) (K : Q (.inl (some (.int (zB (zia w hh cl ow oh ol 0))))) h) : zwp E 1 62 (58, [some (.ref g), some (.ref o), some (.int (zJ 0)), some (.int (zJ 0)), none, none, none], [], h) Q := by
  obtain ⟨⟨gw1, gw2, gh1, gh2⟩, gcs, gcl, gfs⟩ := G.2
  obtain ⟨⟨ow1, ow2, oh1, oh2⟩, ocs, ocl, ofl⟩ := O.2
  refine zr_iconst (v := zJ 0) zi62_58 rfl ?_
  refine zr_istore (L' := [some (.ref _), some (.ref _), some (.int (zJ _)), some (.int (zJ _)), some (.int (zJ _)), none, none]) zi62_59 rfl rfl ?_
  suffices key61 : ∀ x5 x6, (∀ i, i < 0 → zFI w hh cl ol 0 i) → zwp E 1 62 (61, [some (.ref g), some (.ref o), some (.int (zJ 0)), some (.int (zJ 0)), some (.int (zJ 0)), x5, x6], [], h) Q from key61 _ _ (fun i z => absurd z (Nat.not_lt_zero i))
  refine zloop (P := fun k => ∀ x5 x6, (∀ i, i < k → zFI w hh cl ol 0 i) → zwp E 1 62 (61, [some (.ref g), some (.ref o), some (.int (zJ 0)), some (.int (zJ 0)), some (.int (zJ k)), x5, x6], [], h) Q) (n := w + hh) fun k hk61 ih61 => ?_
  intro x5 x6 hE
  refine zr_iload zi62_61 rfl ?_
  refine zr_aload_n zi62_63 rfl ?_
  refine zr_virtual zi62_64 rfl rfl (G.1.at0 rfl) rfl rfl ?_
  refine zcall_dep (d := 0) (Nat.le_of_ble_eq_true rfl) (c4 G (zbk_v ?_))
  refine zr_icmp_geN zi62_67 rfl (by omega) (by omega) (fun q67 => ?_) (fun q67 => ?_)
  · refine zr_iconst (v := zJ 1) zi62_181 rfl ?_
    refine zr_zreturn zi62_182 rfl (by decide) ?_
    rw [zia_t hd1 hd2 (fun i hi => hE i (by omega))] at K
    exact K
  · refine zr_iload zi62_70 rfl ?_
    refine zr_istore (L' := [some (.ref _), some (.ref _), some (.int (zJ _)), some (.int (zJ _)), some (.int (zJ _)), some (.int (zJ _)), _]) zi62_72 rfl rfl ?_
    refine zr_iconst (v := zJ 0) zi62_74 rfl ?_
    refine zr_istore (L' := [some (.ref _), some (.ref _), some (.int (zJ _)), some (.int (zJ _)), some (.int (zJ _)), some (.int (zJ _)), some (.int (zJ _))]) zi62_75 rfl rfl ?_
    refine zr_iload_n zi62_77 rfl ?_
    refine zr_iconst (v := zJ 1) zi62_78 rfl ?_
    refine zr_iand zi62_79 ?_
    refine zr_if_eq zi62_80 rfl (fun q80 => ?_) (fun q80 => absurd q80 (by decide))
    refine zr_iload_n zi62_101 rfl ?_
    refine zr_iconst (v := zJ 2) zi62_102 rfl ?_
    refine zr_iand zi62_103 ?_
    refine zr_if_eq zi62_104 rfl (fun q104 => ?_) (fun q104 => absurd q104 (by decide))
    refine zr_iload_n zi62_128 rfl ?_
    refine zr_if_eqN zi62_129 rfl (by omega) (fun q129 => ?_) (fun q129 => ?_)
    · first
      | (exfalso; omega)
      | (
         refine zr_aload_n zi62_141 rfl ?_
         refine zr_iload zi62_142 rfl ?_
         refine zr_virtual zi62_144 rfl rfl (O.1.at0 rfl) rfl rfl ?_
         refine zcall_dep (d := 0) (Nat.le_of_ble_eq_true rfl) (c36 O (i := k) (by have := (show k < w + hh by omega); omega) (zbk_v ?_))
         refine zr_iload zi62_147 rfl ?_
         refine zr_if_eqN zi62_149 rfl (by omega) (fun q149 => ?_) (fun q149 => ?_)
         · first
           | (exfalso; omega)
           | (
              refine zr_aload_n zi62_164 rfl ?_
              refine zr_iload zi62_165 rfl ?_
              refine zr_virtual zi62_167 rfl rfl (G.1.at0 rfl) rfl rfl ?_
              refine zcall_dep (d := 0) (Nat.le_of_ble_eq_true rfl) (c36 G (i := k) (by omega) (zbk_v ?_))
              refine zr_icmp_eq zi62_170 rfl (fun q170 => ?_) (fun q170 => ?_)
              · refine zr_iincN (z := 1) (L' := [some (.ref _), some (.ref _), some (.int (zJ _)), some (.int (zJ _)), some (.int (zJ _)), some (.int (zJ _)), some (.int (zJ _))]) zi62_175 rfl rfl rfl rfl ?_
                refine zr_goto zi62_178 rfl ?_
                have hz : zir hh 0 k = false := by unfold zir; first | rfl | (rw [q149]; rfl) | (rw [q109]; rfl)
                refine ih61 (by omega) _ _ (fun i z => ?_)
                rcases Nat.lt_or_ge i k with z1 | z1
                · exact hE i z1
                · obtain rfl : i = k := by omega
                  exact (zFI_of hz).mpr q170
              · refine zr_iconst (v := zJ 0) zi62_173 rfl ?_
                refine zr_zreturn zi62_174 rfl (by decide) ?_
                have hz : zir hh 0 k = false := by unfold zir; first | rfl | (rw [q149]; rfl) | (rw [q109]; rfl)
                rw [zia_f (i := k) (by omega) (fun z => q170 ((zFI_of hz).mp z))] at K
                exact K)
         · first
           | (exfalso; omega)
           | (
              refine zr_aload_n zi62_152 rfl ?_
              refine zr_iload zi62_153 rfl ?_
              refine zr_virtual zi62_155 rfl rfl (G.1.at0 rfl) rfl rfl ?_
              refine zcall_dep (d := 0) (Nat.le_of_ble_eq_true rfl) (c36 G (i := k) (by omega) (zbk_v ?_))
              refine zr_static zi62_158 rfl rfl rfl rfl ?_
              refine zcall_dep (d := 0) (Nat.le_of_ble_eq_true rfl) (c65 (zbk_v ?_))
              refine zr_goto zi62_161 rfl ?_
              refine zr_icmp_eq zi62_170 rfl (fun q170 => ?_) (fun q170 => ?_)
              · refine zr_iincN (z := 1) (L' := [some (.ref _), some (.ref _), some (.int (zJ _)), some (.int (zJ _)), some (.int (zJ _)), some (.int (zJ _)), some (.int (zJ _))]) zi62_175 rfl rfl rfl rfl ?_
                refine zr_goto zi62_178 rfl ?_
                have hz : zir hh 0 k = true := by unfold zir; first | rfl | (rw [q149]; rfl) | (rw [q109]; rfl)
                refine ih61 (by omega) _ _ (fun i z => ?_)
                rcases Nat.lt_or_ge i k with z1 | z1
                · exact hE i z1
                · obtain rfl : i = k := by omega
                  exact (zFI_of hz).mpr q170
              · refine zr_iconst (v := zJ 0) zi62_173 rfl ?_
                refine zr_zreturn zi62_174 rfl (by decide) ?_
                have hz : zir hh 0 k = true := by unfold zir; first | rfl | (rw [q149]; rfl) | (rw [q109]; rfl)
                rw [zia_f (i := k) (by omega) (fun z => q170 ((zFI_of hz).mp z))] at K
                exact K))
    · first
      | (exfalso; omega)
      | (
         refine zr_aload_n zi62_132 rfl ?_
         refine zr_iload zi62_133 rfl ?_
         refine zr_iconst (v := zJ 2) zi62_135 rfl ?_
         refine zr_virtual zi62_136 rfl rfl (G.1.at0 rfl) rfl rfl ?_
         have hx136 := ztl_J (i := k) (how := 2) G.2.1 (show k < w + hh by omega)
         refine zcall_dep (d := 0) (Nat.le_of_ble_eq_true rfl) (c64 G (by omega) (zbk_v ?_))
         rw [hx136.1]
         refine zr_istore (L' := [some (.ref _), some (.ref _), some (.int (zJ _)), some (.int (zJ _)), some (.int (zJ _)), some (.int (zJ _)), some (.int (zJ _))]) zi62_139 rfl rfl ?_
         refine zr_aload_n zi62_141 rfl ?_
         refine zr_iload zi62_142 rfl ?_
         refine zr_virtual zi62_144 rfl rfl (O.1.at0 rfl) rfl rfl ?_
         refine zcall_dep (d := 0) (Nat.le_of_ble_eq_true rfl) (c36 O (i := k) (by have := (show k < w + hh by omega); omega) (zbk_v ?_))
         refine zr_iload zi62_147 rfl ?_
         refine zr_if_eqN zi62_149 rfl (by omega) (fun q149 => ?_) (fun q149 => ?_)
         · first
           | (exfalso; omega)
           | (
              refine zr_aload_n zi62_164 rfl ?_
              refine zr_iload zi62_165 rfl ?_
              refine zr_virtual zi62_167 rfl rfl (G.1.at0 rfl) rfl rfl ?_
              refine zcall_dep (d := 0) (Nat.le_of_ble_eq_true rfl) (c36 G (i := k) (by omega) (zbk_v ?_))
              refine zr_icmp_eq zi62_170 rfl (fun q170 => ?_) (fun q170 => ?_)
              · refine zr_iincN (z := 1) (L' := [some (.ref _), some (.ref _), some (.int (zJ _)), some (.int (zJ _)), some (.int (zJ _)), some (.int (zJ _)), some (.int (zJ _))]) zi62_175 rfl rfl rfl rfl ?_
                refine zr_goto zi62_178 rfl ?_
                have hz : zir hh 0 k = false := by unfold zir; first | rfl | (rw [q149]; rfl) | (rw [q109]; rfl)
                refine ih61 (by omega) _ _ (fun i z => ?_)
                rcases Nat.lt_or_ge i k with z1 | z1
                · exact hE i z1
                · obtain rfl : i = k := by omega
                  exact (zFI_of hz).mpr q170
              · refine zr_iconst (v := zJ 0) zi62_173 rfl ?_
                refine zr_zreturn zi62_174 rfl (by decide) ?_
                have hz : zir hh 0 k = false := by unfold zir; first | rfl | (rw [q149]; rfl) | (rw [q109]; rfl)
                rw [zia_f (i := k) (by omega) (fun z => q170 ((zFI_of hz).mp z))] at K
                exact K)
         · first
           | (exfalso; omega)
           | (
              refine zr_aload_n zi62_152 rfl ?_
              refine zr_iload zi62_153 rfl ?_
              refine zr_virtual zi62_155 rfl rfl (G.1.at0 rfl) rfl rfl ?_
              refine zcall_dep (d := 0) (Nat.le_of_ble_eq_true rfl) (c36 G (i := k) (by omega) (zbk_v ?_))
              refine zr_static zi62_158 rfl rfl rfl rfl ?_
              refine zcall_dep (d := 0) (Nat.le_of_ble_eq_true rfl) (c65 (zbk_v ?_))
              refine zr_goto zi62_161 rfl ?_
              refine zr_icmp_eq zi62_170 rfl (fun q170 => ?_) (fun q170 => ?_)
              · refine zr_iincN (z := 1) (L' := [some (.ref _), some (.ref _), some (.int (zJ _)), some (.int (zJ _)), some (.int (zJ _)), some (.int (zJ _)), some (.int (zJ _))]) zi62_175 rfl rfl rfl rfl ?_
                refine zr_goto zi62_178 rfl ?_
                have hz : zir hh 0 k = true := by unfold zir; first | rfl | (rw [q149]; rfl) | (rw [q109]; rfl)
                refine ih61 (by omega) _ _ (fun i z => ?_)
                rcases Nat.lt_or_ge i k with z1 | z1
                · exact hE i z1
                · obtain rfl : i = k := by omega
                  exact (zFI_of hz).mpr q170
              · refine zr_iconst (v := zJ 0) zi62_173 rfl ?_
                refine zr_zreturn zi62_174 rfl (by decide) ?_
                have hz : zir hh 0 k = true := by unfold zir; first | rfl | (rw [q149]; rfl) | (rw [q109]; rfl)
                rw [zia_f (i := k) (by omega) (fun z => q170 ((zFI_of hz).mp z))] at K
                exact K))
theorem c62_0 {E : zEnv} {h : zPH} {Q : zOut → zPH → Prop} {g w hh : Nat} {cs cl fs : List Int32} (G : yG h g w hh cs cl fs) {o ow oh : Nat} {os ol ofs : List Int32} (O : yG h o ow oh os ol ofs) (K : Q (.inl (some (.int (zB (zia w hh cl ow oh ol 0))))) h) : zcall E 1 62 [.ref g, .ref o, .int (zJ 0)] h Q := by
  obtain ⟨⟨gw1, gw2, gh1, gh2⟩, gcs, gcl, gfs⟩ := G.2
  obtain ⟨⟨ow1, ow2, oh1, oh2⟩, ocs, ocl, ofl⟩ := O.2
  show zwp E _ 62 (0, [some (.ref _), some (.ref _), some (.int (zJ _)), none, none, none, none], [], _) Q
  refine zr_iload_n zi62_0 rfl ?_
  refine zr_iconst (v := zJ 4) zi62_1 rfl ?_
  refine zr_iand zi62_2 ?_
  refine zr_if_eq zi62_3 rfl (fun q3 => ?_) (fun q3 => absurd q3 (by decide))
  refine zr_iconst (v := zJ 0) zi62_10 rfl ?_
  refine zr_istore_n (L' := [some (.ref _), some (.ref _), some (.int (zJ _)), some (.int (zJ _)), none, none, none]) zi62_11 rfl rfl ?_
  refine zr_aload_n zi62_12 rfl ?_
  refine zr_getfield zi62_13 (O.1.at0 rfl) rfl ?_
  refine zr_iload_n zi62_16 rfl ?_
  refine zr_if_eqN zi62_17 rfl (by omega) (fun q17 => ?_) (fun q17 => ?_)
  · first
    | (exfalso; omega)
    | (
       refine zr_aload_n zi62_27 rfl ?_
       refine zr_getfield zi62_28 (G.1.at0 rfl) rfl ?_
       refine zr_icmp_neN zi62_31 rfl (by omega) (by omega) (fun q31 => ?_) (fun q31 => ?_)
       · refine zr_iconst (v := zJ 0) zi62_56 rfl ?_
         refine zr_zreturn zi62_57 rfl (by decide) ?_
         rw [show zia w hh cl ow oh ol 0 = false from by first | exact zia_w (show ¬ ow = w by omega) | exact zia_h (show ¬ oh = hh by omega)] at K
         exact K
       · refine zr_aload_n zi62_34 rfl ?_
         refine zr_getfield zi62_35 (O.1.at0 rfl) rfl ?_
         refine zr_iload_n zi62_38 rfl ?_
         refine zr_if_eqN zi62_39 rfl (by omega) (fun q39 => ?_) (fun q39 => ?_)
         · first
           | (exfalso; omega)
           | (
              refine zr_aload_n zi62_49 rfl ?_
              refine zr_getfield zi62_50 (G.1.at0 rfl) rfl ?_
              refine zr_icmp_eqN zi62_53 rfl (by omega) (by omega) (fun q53 => ?_) (fun q53 => ?_)
              · exact c62L_0 G O (by omega) (by omega) K
              · refine zr_iconst (v := zJ 0) zi62_56 rfl ?_
                refine zr_zreturn zi62_57 rfl (by decide) ?_
                rw [show zia w hh cl ow oh ol 0 = false from by first | exact zia_w (show ¬ ow = w by omega) | exact zia_h (show ¬ oh = hh by omega)] at K
                exact K)
         · first
           | (exfalso; omega)
           | (
              refine zr_aload_n zi62_42 rfl ?_
              refine zr_getfield zi62_43 (G.1.at0 rfl) rfl ?_
              refine zr_goto zi62_46 rfl ?_
              refine zr_icmp_eqN zi62_53 rfl (by omega) (by omega) (fun q53 => ?_) (fun q53 => ?_)
              · exact c62L_0 G O (by omega) (by omega) K
              · refine zr_iconst (v := zJ 0) zi62_56 rfl ?_
                refine zr_zreturn zi62_57 rfl (by decide) ?_
                rw [show zia w hh cl ow oh ol 0 = false from by first | exact zia_w (show ¬ ow = w by omega) | exact zia_h (show ¬ oh = hh by omega)] at K
                exact K))
  · first
    | (exfalso; omega)
    | (
       refine zr_aload_n zi62_20 rfl ?_
       refine zr_getfield zi62_21 (G.1.at0 rfl) rfl ?_
       refine zr_goto zi62_24 rfl ?_
       refine zr_icmp_neN zi62_31 rfl (by omega) (by omega) (fun q31 => ?_) (fun q31 => ?_)
       · refine zr_iconst (v := zJ 0) zi62_56 rfl ?_
         refine zr_zreturn zi62_57 rfl (by decide) ?_
         rw [show zia w hh cl ow oh ol 0 = false from by first | exact zia_w (show ¬ ow = w by omega) | exact zia_h (show ¬ oh = hh by omega)] at K
         exact K
       · refine zr_aload_n zi62_34 rfl ?_
         refine zr_getfield zi62_35 (O.1.at0 rfl) rfl ?_
         refine zr_iload_n zi62_38 rfl ?_
         refine zr_if_eqN zi62_39 rfl (by omega) (fun q39 => ?_) (fun q39 => ?_)
         · first
           | (exfalso; omega)
           | (
              refine zr_aload_n zi62_49 rfl ?_
              refine zr_getfield zi62_50 (G.1.at0 rfl) rfl ?_
              refine zr_icmp_eqN zi62_53 rfl (by omega) (by omega) (fun q53 => ?_) (fun q53 => ?_)
              · exact c62L_0 G O (by omega) (by omega) K
              · refine zr_iconst (v := zJ 0) zi62_56 rfl ?_
                refine zr_zreturn zi62_57 rfl (by decide) ?_
                rw [show zia w hh cl ow oh ol 0 = false from by first | exact zia_w (show ¬ ow = w by omega) | exact zia_h (show ¬ oh = hh by omega)] at K
                exact K)
         · first
           | (exfalso; omega)
           | (
              refine zr_aload_n zi62_42 rfl ?_
              refine zr_getfield zi62_43 (G.1.at0 rfl) rfl ?_
              refine zr_goto zi62_46 rfl ?_
              refine zr_icmp_eqN zi62_53 rfl (by omega) (by omega) (fun q53 => ?_) (fun q53 => ?_)
              · exact c62L_0 G O (by omega) (by omega) K
              · refine zr_iconst (v := zJ 0) zi62_56 rfl ?_
                refine zr_zreturn zi62_57 rfl (by decide) ?_
                rw [show zia w hh cl ow oh ol 0 = false from by first | exact zia_w (show ¬ ow = w by omega) | exact zia_h (show ¬ oh = hh by omega)] at K
                exact K))
theorem c62L_1 {E : zEnv} {h : zPH} {Q : zOut → zPH → Prop} {g w hh : Nat} {cs cl fs : List Int32} (G : yG h g w hh cs cl fs) {o ow oh : Nat} {os ol ofs : List Int32} (O : yG h o ow oh os ol ofs) (hd1 : ow = w) (hd2 : oh = hh) (K : Q (.inl (some (.int (zB (zia w hh cl ow oh ol 1))))) h) : zwp E 1 62 (58, [some (.ref g), some (.ref o), some (.int (zJ 1)), some (.int (zJ 0)), none, none, none], [], h) Q := by
  obtain ⟨⟨gw1, gw2, gh1, gh2⟩, gcs, gcl, gfs⟩ := G.2
  obtain ⟨⟨ow1, ow2, oh1, oh2⟩, ocs, ocl, ofl⟩ := O.2
  refine zr_iconst (v := zJ 0) zi62_58 rfl ?_
  refine zr_istore (L' := [some (.ref _), some (.ref _), some (.int (zJ _)), some (.int (zJ _)), some (.int (zJ _)), none, none]) zi62_59 rfl rfl ?_
  suffices key61 : ∀ x5 x6, (∀ i, i < 0 → zFI w hh cl ol 1 i) → zwp E 1 62 (61, [some (.ref g), some (.ref o), some (.int (zJ 1)), some (.int (zJ 0)), some (.int (zJ 0)), x5, x6], [], h) Q from key61 _ _ (fun i z => absurd z (Nat.not_lt_zero i))
  refine zloop (P := fun k => ∀ x5 x6, (∀ i, i < k → zFI w hh cl ol 1 i) → zwp E 1 62 (61, [some (.ref g), some (.ref o), some (.int (zJ 1)), some (.int (zJ 0)), some (.int (zJ k)), x5, x6], [], h) Q) (n := w + hh) fun k hk61 ih61 => ?_
  intro x5 x6 hE
  refine zr_iload zi62_61 rfl ?_
  refine zr_aload_n zi62_63 rfl ?_
  refine zr_virtual zi62_64 rfl rfl (G.1.at0 rfl) rfl rfl ?_
  refine zcall_dep (d := 0) (Nat.le_of_ble_eq_true rfl) (c4 G (zbk_v ?_))
  refine zr_icmp_geN zi62_67 rfl (by omega) (by omega) (fun q67 => ?_) (fun q67 => ?_)
  · refine zr_iconst (v := zJ 1) zi62_181 rfl ?_
    refine zr_zreturn zi62_182 rfl (by decide) ?_
    rw [zia_t hd1 hd2 (fun i hi => hE i (by omega))] at K
    exact K
  · refine zr_iload zi62_70 rfl ?_
    refine zr_istore (L' := [some (.ref _), some (.ref _), some (.int (zJ _)), some (.int (zJ _)), some (.int (zJ _)), some (.int (zJ _)), _]) zi62_72 rfl rfl ?_
    refine zr_iconst (v := zJ 0) zi62_74 rfl ?_
    refine zr_istore (L' := [some (.ref _), some (.ref _), some (.int (zJ _)), some (.int (zJ _)), some (.int (zJ _)), some (.int (zJ _)), some (.int (zJ _))]) zi62_75 rfl rfl ?_
    refine zr_iload_n zi62_77 rfl ?_
    refine zr_iconst (v := zJ 1) zi62_78 rfl ?_
    refine zr_iand zi62_79 ?_
    refine zr_if_eq zi62_80 rfl (fun q80 => absurd q80 (by decide)) (fun q80 => ?_)
    refine zr_aload_n zi62_83 rfl ?_
    refine zr_iload zi62_84 rfl ?_
    refine zr_iconst (v := zJ 1) zi62_86 rfl ?_
    refine zr_virtual zi62_87 rfl rfl (G.1.at0 rfl) rfl rfl ?_
    refine zcall_dep (d := 0) (Nat.le_of_ble_eq_true rfl) (c63 G (by omega) (by omega) (zbk_v ?_))
    refine zr_istore (L' := [some (.ref _), some (.ref _), some (.int (zJ _)), some (.int (zJ _)), some (.int (zJ _)), some (.int (zJ _)), some (.int (zB _))]) zi62_90 rfl rfl ?_
    refine zr_aload_n zi62_92 rfl ?_
    refine zr_iload zi62_93 rfl ?_
    refine zr_iconst (v := zJ 1) zi62_95 rfl ?_
    refine zr_virtual zi62_96 rfl rfl (G.1.at0 rfl) rfl rfl ?_
    have hx96 := ztl_J (i := k) (how := 1) G.2.1 (show k < w + hh by omega)
    refine zcall_dep (d := 0) (Nat.le_of_ble_eq_true rfl) (c64 G (by omega) (zbk_v ?_))
    rw [hx96.1]
    refine zr_istore (L' := [some (.ref _), some (.ref _), some (.int (zJ _)), some (.int (zJ _)), some (.int (zJ _)), some (.int (zJ _)), some (.int (zB _))]) zi62_99 rfl rfl ?_
    refine zr_iload_n zi62_101 rfl ?_
    refine zr_iconst (v := zJ 2) zi62_102 rfl ?_
    refine zr_iand zi62_103 ?_
    refine zr_if_eq zi62_104 rfl (fun q104 => ?_) (fun q104 => absurd q104 (by decide))
    refine zr_iload_n zi62_128 rfl ?_
    refine zr_if_eqN zi62_129 rfl (by omega) (fun q129 => ?_) (fun q129 => ?_)
    · first
      | (exfalso; omega)
      | (
         refine zr_aload_n zi62_141 rfl ?_
         refine zr_iload zi62_142 rfl ?_
         refine zr_virtual zi62_144 rfl rfl (O.1.at0 rfl) rfl rfl ?_
         refine zcall_dep (d := 0) (Nat.le_of_ble_eq_true rfl) (c36 O (i := (ztn w hh k 1)) (by have := hx96.2; omega) (zbk_v ?_))
         refine zr_iload zi62_147 rfl ?_
         refine zr_if_eqB zi62_149 rfl (fun q149 => ?_) (fun q149 => ?_)
         · first
           | (exfalso; omega)
           | (
              refine zr_aload_n zi62_164 rfl ?_
              refine zr_iload zi62_165 rfl ?_
              refine zr_virtual zi62_167 rfl rfl (G.1.at0 rfl) rfl rfl ?_
              refine zcall_dep (d := 0) (Nat.le_of_ble_eq_true rfl) (c36 G (i := k) (by omega) (zbk_v ?_))
              refine zr_icmp_eq zi62_170 rfl (fun q170 => ?_) (fun q170 => ?_)
              · refine zr_iincN (z := 1) (L' := [some (.ref _), some (.ref _), some (.int (zJ _)), some (.int (zJ _)), some (.int (zJ _)), some (.int (zJ _)), some (.int (zB _))]) zi62_175 rfl rfl rfl rfl ?_
                refine zr_goto zi62_178 rfl ?_
                have hz : zir hh 1 k = false := by unfold zir; first | rfl | (rw [q149]; rfl) | (rw [q109]; rfl)
                refine ih61 (by omega) _ _ (fun i z => ?_)
                rcases Nat.lt_or_ge i k with z1 | z1
                · exact hE i z1
                · obtain rfl : i = k := by omega
                  exact (zFI_of hz).mpr q170
              · refine zr_iconst (v := zJ 0) zi62_173 rfl ?_
                refine zr_zreturn zi62_174 rfl (by decide) ?_
                have hz : zir hh 1 k = false := by unfold zir; first | rfl | (rw [q149]; rfl) | (rw [q109]; rfl)
                rw [zia_f (i := k) (by omega) (fun z => q170 ((zFI_of hz).mp z))] at K
                exact K)
         · first
           | (exfalso; omega)
           | (
              refine zr_aload_n zi62_152 rfl ?_
              refine zr_iload zi62_153 rfl ?_
              refine zr_virtual zi62_155 rfl rfl (G.1.at0 rfl) rfl rfl ?_
              refine zcall_dep (d := 0) (Nat.le_of_ble_eq_true rfl) (c36 G (i := k) (by omega) (zbk_v ?_))
              refine zr_static zi62_158 rfl rfl rfl rfl ?_
              refine zcall_dep (d := 0) (Nat.le_of_ble_eq_true rfl) (c65 (zbk_v ?_))
              refine zr_goto zi62_161 rfl ?_
              refine zr_icmp_eq zi62_170 rfl (fun q170 => ?_) (fun q170 => ?_)
              · refine zr_iincN (z := 1) (L' := [some (.ref _), some (.ref _), some (.int (zJ _)), some (.int (zJ _)), some (.int (zJ _)), some (.int (zJ _)), some (.int (zB _))]) zi62_175 rfl rfl rfl rfl ?_
                refine zr_goto zi62_178 rfl ?_
                have hz : zir hh 1 k = true := by unfold zir; first | rfl | (rw [q149]; rfl) | (rw [q109]; rfl)
                refine ih61 (by omega) _ _ (fun i z => ?_)
                rcases Nat.lt_or_ge i k with z1 | z1
                · exact hE i z1
                · obtain rfl : i = k := by omega
                  exact (zFI_of hz).mpr q170
              · refine zr_iconst (v := zJ 0) zi62_173 rfl ?_
                refine zr_zreturn zi62_174 rfl (by decide) ?_
                have hz : zir hh 1 k = true := by unfold zir; first | rfl | (rw [q149]; rfl) | (rw [q109]; rfl)
                rw [zia_f (i := k) (by omega) (fun z => q170 ((zFI_of hz).mp z))] at K
                exact K))
    · first
      | (exfalso; omega)
      | (
         refine zr_aload_n zi62_132 rfl ?_
         refine zr_iload zi62_133 rfl ?_
         refine zr_iconst (v := zJ 2) zi62_135 rfl ?_
         refine zr_virtual zi62_136 rfl rfl (G.1.at0 rfl) rfl rfl ?_
         have hx136 := ztl_J (i := (ztn w hh k 1)) (how := 2) G.2.1 hx96.2
         refine zcall_dep (d := 0) (Nat.le_of_ble_eq_true rfl) (c64 G (by omega) (zbk_v ?_))
         rw [hx136.1]
         refine zr_istore (L' := [some (.ref _), some (.ref _), some (.int (zJ _)), some (.int (zJ _)), some (.int (zJ _)), some (.int (zJ _)), some (.int (zB _))]) zi62_139 rfl rfl ?_
         refine zr_aload_n zi62_141 rfl ?_
         refine zr_iload zi62_142 rfl ?_
         refine zr_virtual zi62_144 rfl rfl (O.1.at0 rfl) rfl rfl ?_
         refine zcall_dep (d := 0) (Nat.le_of_ble_eq_true rfl) (c36 O (i := (ztn w hh k 1)) (by have := hx96.2; omega) (zbk_v ?_))
         refine zr_iload zi62_147 rfl ?_
         refine zr_if_eqB zi62_149 rfl (fun q149 => ?_) (fun q149 => ?_)
         · first
           | (exfalso; omega)
           | (
              refine zr_aload_n zi62_164 rfl ?_
              refine zr_iload zi62_165 rfl ?_
              refine zr_virtual zi62_167 rfl rfl (G.1.at0 rfl) rfl rfl ?_
              refine zcall_dep (d := 0) (Nat.le_of_ble_eq_true rfl) (c36 G (i := k) (by omega) (zbk_v ?_))
              refine zr_icmp_eq zi62_170 rfl (fun q170 => ?_) (fun q170 => ?_)
              · refine zr_iincN (z := 1) (L' := [some (.ref _), some (.ref _), some (.int (zJ _)), some (.int (zJ _)), some (.int (zJ _)), some (.int (zJ _)), some (.int (zB _))]) zi62_175 rfl rfl rfl rfl ?_
                refine zr_goto zi62_178 rfl ?_
                have hz : zir hh 1 k = false := by unfold zir; first | rfl | (rw [q149]; rfl) | (rw [q109]; rfl)
                refine ih61 (by omega) _ _ (fun i z => ?_)
                rcases Nat.lt_or_ge i k with z1 | z1
                · exact hE i z1
                · obtain rfl : i = k := by omega
                  exact (zFI_of hz).mpr q170
              · refine zr_iconst (v := zJ 0) zi62_173 rfl ?_
                refine zr_zreturn zi62_174 rfl (by decide) ?_
                have hz : zir hh 1 k = false := by unfold zir; first | rfl | (rw [q149]; rfl) | (rw [q109]; rfl)
                rw [zia_f (i := k) (by omega) (fun z => q170 ((zFI_of hz).mp z))] at K
                exact K)
         · first
           | (exfalso; omega)
           | (
              refine zr_aload_n zi62_152 rfl ?_
              refine zr_iload zi62_153 rfl ?_
              refine zr_virtual zi62_155 rfl rfl (G.1.at0 rfl) rfl rfl ?_
              refine zcall_dep (d := 0) (Nat.le_of_ble_eq_true rfl) (c36 G (i := k) (by omega) (zbk_v ?_))
              refine zr_static zi62_158 rfl rfl rfl rfl ?_
              refine zcall_dep (d := 0) (Nat.le_of_ble_eq_true rfl) (c65 (zbk_v ?_))
              refine zr_goto zi62_161 rfl ?_
              refine zr_icmp_eq zi62_170 rfl (fun q170 => ?_) (fun q170 => ?_)
              · refine zr_iincN (z := 1) (L' := [some (.ref _), some (.ref _), some (.int (zJ _)), some (.int (zJ _)), some (.int (zJ _)), some (.int (zJ _)), some (.int (zB _))]) zi62_175 rfl rfl rfl rfl ?_
                refine zr_goto zi62_178 rfl ?_
                have hz : zir hh 1 k = true := by unfold zir; first | rfl | (rw [q149]; rfl) | (rw [q109]; rfl)
                refine ih61 (by omega) _ _ (fun i z => ?_)
                rcases Nat.lt_or_ge i k with z1 | z1
                · exact hE i z1
                · obtain rfl : i = k := by omega
                  exact (zFI_of hz).mpr q170
              · refine zr_iconst (v := zJ 0) zi62_173 rfl ?_
                refine zr_zreturn zi62_174 rfl (by decide) ?_
                have hz : zir hh 1 k = true := by unfold zir; first | rfl | (rw [q149]; rfl) | (rw [q109]; rfl)
                rw [zia_f (i := k) (by omega) (fun z => q170 ((zFI_of hz).mp z))] at K
                exact K))
theorem c62_1 {E : zEnv} {h : zPH} {Q : zOut → zPH → Prop} {g w hh : Nat} {cs cl fs : List Int32} (G : yG h g w hh cs cl fs) {o ow oh : Nat} {os ol ofs : List Int32} (O : yG h o ow oh os ol ofs) (K : Q (.inl (some (.int (zB (zia w hh cl ow oh ol 1))))) h) : zcall E 1 62 [.ref g, .ref o, .int (zJ 1)] h Q := by
  obtain ⟨⟨gw1, gw2, gh1, gh2⟩, gcs, gcl, gfs⟩ := G.2
  obtain ⟨⟨ow1, ow2, oh1, oh2⟩, ocs, ocl, ofl⟩ := O.2
  show zwp E _ 62 (0, [some (.ref _), some (.ref _), some (.int (zJ _)), none, none, none, none], [], _) Q
  refine zr_iload_n zi62_0 rfl ?_
  refine zr_iconst (v := zJ 4) zi62_1 rfl ?_
  refine zr_iand zi62_2 ?_
  refine zr_if_eq zi62_3 rfl (fun q3 => ?_) (fun q3 => absurd q3 (by decide))
  refine zr_iconst (v := zJ 0) zi62_10 rfl ?_
  refine zr_istore_n (L' := [some (.ref _), some (.ref _), some (.int (zJ _)), some (.int (zJ _)), none, none, none]) zi62_11 rfl rfl ?_
  refine zr_aload_n zi62_12 rfl ?_
  refine zr_getfield zi62_13 (O.1.at0 rfl) rfl ?_
  refine zr_iload_n zi62_16 rfl ?_
  refine zr_if_eqN zi62_17 rfl (by omega) (fun q17 => ?_) (fun q17 => ?_)
  · first
    | (exfalso; omega)
    | (
       refine zr_aload_n zi62_27 rfl ?_
       refine zr_getfield zi62_28 (G.1.at0 rfl) rfl ?_
       refine zr_icmp_neN zi62_31 rfl (by omega) (by omega) (fun q31 => ?_) (fun q31 => ?_)
       · refine zr_iconst (v := zJ 0) zi62_56 rfl ?_
         refine zr_zreturn zi62_57 rfl (by decide) ?_
         rw [show zia w hh cl ow oh ol 1 = false from by first | exact zia_w (show ¬ ow = w by omega) | exact zia_h (show ¬ oh = hh by omega)] at K
         exact K
       · refine zr_aload_n zi62_34 rfl ?_
         refine zr_getfield zi62_35 (O.1.at0 rfl) rfl ?_
         refine zr_iload_n zi62_38 rfl ?_
         refine zr_if_eqN zi62_39 rfl (by omega) (fun q39 => ?_) (fun q39 => ?_)
         · first
           | (exfalso; omega)
           | (
              refine zr_aload_n zi62_49 rfl ?_
              refine zr_getfield zi62_50 (G.1.at0 rfl) rfl ?_
              refine zr_icmp_eqN zi62_53 rfl (by omega) (by omega) (fun q53 => ?_) (fun q53 => ?_)
              · exact c62L_1 G O (by omega) (by omega) K
              · refine zr_iconst (v := zJ 0) zi62_56 rfl ?_
                refine zr_zreturn zi62_57 rfl (by decide) ?_
                rw [show zia w hh cl ow oh ol 1 = false from by first | exact zia_w (show ¬ ow = w by omega) | exact zia_h (show ¬ oh = hh by omega)] at K
                exact K)
         · first
           | (exfalso; omega)
           | (
              refine zr_aload_n zi62_42 rfl ?_
              refine zr_getfield zi62_43 (G.1.at0 rfl) rfl ?_
              refine zr_goto zi62_46 rfl ?_
              refine zr_icmp_eqN zi62_53 rfl (by omega) (by omega) (fun q53 => ?_) (fun q53 => ?_)
              · exact c62L_1 G O (by omega) (by omega) K
              · refine zr_iconst (v := zJ 0) zi62_56 rfl ?_
                refine zr_zreturn zi62_57 rfl (by decide) ?_
                rw [show zia w hh cl ow oh ol 1 = false from by first | exact zia_w (show ¬ ow = w by omega) | exact zia_h (show ¬ oh = hh by omega)] at K
                exact K))
  · first
    | (exfalso; omega)
    | (
       refine zr_aload_n zi62_20 rfl ?_
       refine zr_getfield zi62_21 (G.1.at0 rfl) rfl ?_
       refine zr_goto zi62_24 rfl ?_
       refine zr_icmp_neN zi62_31 rfl (by omega) (by omega) (fun q31 => ?_) (fun q31 => ?_)
       · refine zr_iconst (v := zJ 0) zi62_56 rfl ?_
         refine zr_zreturn zi62_57 rfl (by decide) ?_
         rw [show zia w hh cl ow oh ol 1 = false from by first | exact zia_w (show ¬ ow = w by omega) | exact zia_h (show ¬ oh = hh by omega)] at K
         exact K
       · refine zr_aload_n zi62_34 rfl ?_
         refine zr_getfield zi62_35 (O.1.at0 rfl) rfl ?_
         refine zr_iload_n zi62_38 rfl ?_
         refine zr_if_eqN zi62_39 rfl (by omega) (fun q39 => ?_) (fun q39 => ?_)
         · first
           | (exfalso; omega)
           | (
              refine zr_aload_n zi62_49 rfl ?_
              refine zr_getfield zi62_50 (G.1.at0 rfl) rfl ?_
              refine zr_icmp_eqN zi62_53 rfl (by omega) (by omega) (fun q53 => ?_) (fun q53 => ?_)
              · exact c62L_1 G O (by omega) (by omega) K
              · refine zr_iconst (v := zJ 0) zi62_56 rfl ?_
                refine zr_zreturn zi62_57 rfl (by decide) ?_
                rw [show zia w hh cl ow oh ol 1 = false from by first | exact zia_w (show ¬ ow = w by omega) | exact zia_h (show ¬ oh = hh by omega)] at K
                exact K)
         · first
           | (exfalso; omega)
           | (
              refine zr_aload_n zi62_42 rfl ?_
              refine zr_getfield zi62_43 (G.1.at0 rfl) rfl ?_
              refine zr_goto zi62_46 rfl ?_
              refine zr_icmp_eqN zi62_53 rfl (by omega) (by omega) (fun q53 => ?_) (fun q53 => ?_)
              · exact c62L_1 G O (by omega) (by omega) K
              · refine zr_iconst (v := zJ 0) zi62_56 rfl ?_
                refine zr_zreturn zi62_57 rfl (by decide) ?_
                rw [show zia w hh cl ow oh ol 1 = false from by first | exact zia_w (show ¬ ow = w by omega) | exact zia_h (show ¬ oh = hh by omega)] at K
                exact K))
theorem c62L_2 {E : zEnv} {h : zPH} {Q : zOut → zPH → Prop} {g w hh : Nat} {cs cl fs : List Int32} (G : yG h g w hh cs cl fs) {o ow oh : Nat} {os ol ofs : List Int32} (O : yG h o ow oh os ol ofs) (hd1 : ow = w) (hd2 : oh = hh) (K : Q (.inl (some (.int (zB (zia w hh cl ow oh ol 2))))) h) : zwp E 1 62 (58, [some (.ref g), some (.ref o), some (.int (zJ 2)), some (.int (zJ 0)), none, none, none], [], h) Q := by
  obtain ⟨⟨gw1, gw2, gh1, gh2⟩, gcs, gcl, gfs⟩ := G.2
  obtain ⟨⟨ow1, ow2, oh1, oh2⟩, ocs, ocl, ofl⟩ := O.2
  refine zr_iconst (v := zJ 0) zi62_58 rfl ?_
  refine zr_istore (L' := [some (.ref _), some (.ref _), some (.int (zJ _)), some (.int (zJ _)), some (.int (zJ _)), none, none]) zi62_59 rfl rfl ?_
  suffices key61 : ∀ x5 x6, (∀ i, i < 0 → zFI w hh cl ol 2 i) → zwp E 1 62 (61, [some (.ref g), some (.ref o), some (.int (zJ 2)), some (.int (zJ 0)), some (.int (zJ 0)), x5, x6], [], h) Q from key61 _ _ (fun i z => absurd z (Nat.not_lt_zero i))
  refine zloop (P := fun k => ∀ x5 x6, (∀ i, i < k → zFI w hh cl ol 2 i) → zwp E 1 62 (61, [some (.ref g), some (.ref o), some (.int (zJ 2)), some (.int (zJ 0)), some (.int (zJ k)), x5, x6], [], h) Q) (n := w + hh) fun k hk61 ih61 => ?_
  intro x5 x6 hE
  refine zr_iload zi62_61 rfl ?_
  refine zr_aload_n zi62_63 rfl ?_
  refine zr_virtual zi62_64 rfl rfl (G.1.at0 rfl) rfl rfl ?_
  refine zcall_dep (d := 0) (Nat.le_of_ble_eq_true rfl) (c4 G (zbk_v ?_))
  refine zr_icmp_geN zi62_67 rfl (by omega) (by omega) (fun q67 => ?_) (fun q67 => ?_)
  · refine zr_iconst (v := zJ 1) zi62_181 rfl ?_
    refine zr_zreturn zi62_182 rfl (by decide) ?_
    rw [zia_t hd1 hd2 (fun i hi => hE i (by omega))] at K
    exact K
  · refine zr_iload zi62_70 rfl ?_
    refine zr_istore (L' := [some (.ref _), some (.ref _), some (.int (zJ _)), some (.int (zJ _)), some (.int (zJ _)), some (.int (zJ _)), _]) zi62_72 rfl rfl ?_
    refine zr_iconst (v := zJ 0) zi62_74 rfl ?_
    refine zr_istore (L' := [some (.ref _), some (.ref _), some (.int (zJ _)), some (.int (zJ _)), some (.int (zJ _)), some (.int (zJ _)), some (.int (zJ _))]) zi62_75 rfl rfl ?_
    refine zr_iload_n zi62_77 rfl ?_
    refine zr_iconst (v := zJ 1) zi62_78 rfl ?_
    refine zr_iand zi62_79 ?_
    refine zr_if_eq zi62_80 rfl (fun q80 => ?_) (fun q80 => absurd q80 (by decide))
    refine zr_iload_n zi62_101 rfl ?_
    refine zr_iconst (v := zJ 2) zi62_102 rfl ?_
    refine zr_iand zi62_103 ?_
    refine zr_if_eq zi62_104 rfl (fun q104 => absurd q104 (by decide)) (fun q104 => ?_)
    refine zr_iload zi62_107 rfl ?_
    refine zr_if_neN zi62_109 rfl (by omega) (fun q109 => ?_) (fun q109 => ?_)
    · first
      | (exfalso; omega)
      | (
         refine zr_iconst (v := zJ 0) zi62_116 rfl ?_
         refine zr_istore (L' := [some (.ref _), some (.ref _), some (.int (zJ _)), some (.int (zJ _)), some (.int (zJ _)), some (.int (zJ _)), some (.int (zJ _))]) zi62_117 rfl rfl ?_
         refine zr_aload_n zi62_119 rfl ?_
         refine zr_iload zi62_120 rfl ?_
         refine zr_iconst (v := zJ 0) zi62_122 rfl ?_
         refine zr_virtual zi62_123 rfl rfl (G.1.at0 rfl) rfl rfl ?_
         have hx123 := ztl_J (i := k) (how := 0) G.2.1 (show k < w + hh by omega)
         refine zcall_dep (d := 0) (Nat.le_of_ble_eq_true rfl) (c64 G (by omega) (zbk_v ?_))
         rw [hx123.1]
         refine zr_istore (L' := [some (.ref _), some (.ref _), some (.int (zJ _)), some (.int (zJ _)), some (.int (zJ _)), some (.int (zJ _)), some (.int (zJ _))]) zi62_126 rfl rfl ?_
         refine zr_iload_n zi62_128 rfl ?_
         refine zr_if_eqN zi62_129 rfl (by omega) (fun q129 => ?_) (fun q129 => ?_)
         · first
           | (exfalso; omega)
           | (
              refine zr_aload_n zi62_141 rfl ?_
              refine zr_iload zi62_142 rfl ?_
              refine zr_virtual zi62_144 rfl rfl (O.1.at0 rfl) rfl rfl ?_
              refine zcall_dep (d := 0) (Nat.le_of_ble_eq_true rfl) (c36 O (i := (ztn w hh k 0)) (by have := hx123.2; omega) (zbk_v ?_))
              refine zr_iload zi62_147 rfl ?_
              refine zr_if_eqN zi62_149 rfl (by omega) (fun q149 => ?_) (fun q149 => ?_)
              · first
                | (exfalso; omega)
                | (
                   refine zr_aload_n zi62_164 rfl ?_
                   refine zr_iload zi62_165 rfl ?_
                   refine zr_virtual zi62_167 rfl rfl (G.1.at0 rfl) rfl rfl ?_
                   refine zcall_dep (d := 0) (Nat.le_of_ble_eq_true rfl) (c36 G (i := k) (by omega) (zbk_v ?_))
                   refine zr_icmp_eq zi62_170 rfl (fun q170 => ?_) (fun q170 => ?_)
                   · refine zr_iincN (z := 1) (L' := [some (.ref _), some (.ref _), some (.int (zJ _)), some (.int (zJ _)), some (.int (zJ _)), some (.int (zJ _)), some (.int (zJ _))]) zi62_175 rfl rfl rfl rfl ?_
                     refine zr_goto zi62_178 rfl ?_
                     have hz : zir hh 2 k = false := by unfold zir; first | rfl | (rw [q149]; rfl) | (rw [q109]; rfl)
                     refine ih61 (by omega) _ _ (fun i z => ?_)
                     rcases Nat.lt_or_ge i k with z1 | z1
                     · exact hE i z1
                     · obtain rfl : i = k := by omega
                       exact (zFI_of hz).mpr q170
                   · refine zr_iconst (v := zJ 0) zi62_173 rfl ?_
                     refine zr_zreturn zi62_174 rfl (by decide) ?_
                     have hz : zir hh 2 k = false := by unfold zir; first | rfl | (rw [q149]; rfl) | (rw [q109]; rfl)
                     rw [zia_f (i := k) (by omega) (fun z => q170 ((zFI_of hz).mp z))] at K
                     exact K)
              · first
                | (exfalso; omega)
                | (
                   refine zr_aload_n zi62_152 rfl ?_
                   refine zr_iload zi62_153 rfl ?_
                   refine zr_virtual zi62_155 rfl rfl (G.1.at0 rfl) rfl rfl ?_
                   refine zcall_dep (d := 0) (Nat.le_of_ble_eq_true rfl) (c36 G (i := k) (by omega) (zbk_v ?_))
                   refine zr_static zi62_158 rfl rfl rfl rfl ?_
                   refine zcall_dep (d := 0) (Nat.le_of_ble_eq_true rfl) (c65 (zbk_v ?_))
                   refine zr_goto zi62_161 rfl ?_
                   refine zr_icmp_eq zi62_170 rfl (fun q170 => ?_) (fun q170 => ?_)
                   · refine zr_iincN (z := 1) (L' := [some (.ref _), some (.ref _), some (.int (zJ _)), some (.int (zJ _)), some (.int (zJ _)), some (.int (zJ _)), some (.int (zJ _))]) zi62_175 rfl rfl rfl rfl ?_
                     refine zr_goto zi62_178 rfl ?_
                     have hz : zir hh 2 k = true := by unfold zir; first | rfl | (rw [q149]; rfl) | (rw [q109]; rfl)
                     refine ih61 (by omega) _ _ (fun i z => ?_)
                     rcases Nat.lt_or_ge i k with z1 | z1
                     · exact hE i z1
                     · obtain rfl : i = k := by omega
                       exact (zFI_of hz).mpr q170
                   · refine zr_iconst (v := zJ 0) zi62_173 rfl ?_
                     refine zr_zreturn zi62_174 rfl (by decide) ?_
                     have hz : zir hh 2 k = true := by unfold zir; first | rfl | (rw [q149]; rfl) | (rw [q109]; rfl)
                     rw [zia_f (i := k) (by omega) (fun z => q170 ((zFI_of hz).mp z))] at K
                     exact K))
         · first
           | (exfalso; omega)
           | (
              refine zr_aload_n zi62_132 rfl ?_
              refine zr_iload zi62_133 rfl ?_
              refine zr_iconst (v := zJ 2) zi62_135 rfl ?_
              refine zr_virtual zi62_136 rfl rfl (G.1.at0 rfl) rfl rfl ?_
              have hx136 := ztl_J (i := (ztn w hh k 0)) (how := 2) G.2.1 hx123.2
              refine zcall_dep (d := 0) (Nat.le_of_ble_eq_true rfl) (c64 G (by omega) (zbk_v ?_))
              rw [hx136.1]
              refine zr_istore (L' := [some (.ref _), some (.ref _), some (.int (zJ _)), some (.int (zJ _)), some (.int (zJ _)), some (.int (zJ _)), some (.int (zJ _))]) zi62_139 rfl rfl ?_
              refine zr_aload_n zi62_141 rfl ?_
              refine zr_iload zi62_142 rfl ?_
              refine zr_virtual zi62_144 rfl rfl (O.1.at0 rfl) rfl rfl ?_
              refine zcall_dep (d := 0) (Nat.le_of_ble_eq_true rfl) (c36 O (i := (ztn w hh k 0)) (by have := hx123.2; omega) (zbk_v ?_))
              refine zr_iload zi62_147 rfl ?_
              refine zr_if_eqN zi62_149 rfl (by omega) (fun q149 => ?_) (fun q149 => ?_)
              · first
                | (exfalso; omega)
                | (
                   refine zr_aload_n zi62_164 rfl ?_
                   refine zr_iload zi62_165 rfl ?_
                   refine zr_virtual zi62_167 rfl rfl (G.1.at0 rfl) rfl rfl ?_
                   refine zcall_dep (d := 0) (Nat.le_of_ble_eq_true rfl) (c36 G (i := k) (by omega) (zbk_v ?_))
                   refine zr_icmp_eq zi62_170 rfl (fun q170 => ?_) (fun q170 => ?_)
                   · refine zr_iincN (z := 1) (L' := [some (.ref _), some (.ref _), some (.int (zJ _)), some (.int (zJ _)), some (.int (zJ _)), some (.int (zJ _)), some (.int (zJ _))]) zi62_175 rfl rfl rfl rfl ?_
                     refine zr_goto zi62_178 rfl ?_
                     have hz : zir hh 2 k = false := by unfold zir; first | rfl | (rw [q149]; rfl) | (rw [q109]; rfl)
                     refine ih61 (by omega) _ _ (fun i z => ?_)
                     rcases Nat.lt_or_ge i k with z1 | z1
                     · exact hE i z1
                     · obtain rfl : i = k := by omega
                       exact (zFI_of hz).mpr q170
                   · refine zr_iconst (v := zJ 0) zi62_173 rfl ?_
                     refine zr_zreturn zi62_174 rfl (by decide) ?_
                     have hz : zir hh 2 k = false := by unfold zir; first | rfl | (rw [q149]; rfl) | (rw [q109]; rfl)
                     rw [zia_f (i := k) (by omega) (fun z => q170 ((zFI_of hz).mp z))] at K
                     exact K)
              · first
                | (exfalso; omega)
                | (
                   refine zr_aload_n zi62_152 rfl ?_
                   refine zr_iload zi62_153 rfl ?_
                   refine zr_virtual zi62_155 rfl rfl (G.1.at0 rfl) rfl rfl ?_
                   refine zcall_dep (d := 0) (Nat.le_of_ble_eq_true rfl) (c36 G (i := k) (by omega) (zbk_v ?_))
                   refine zr_static zi62_158 rfl rfl rfl rfl ?_
                   refine zcall_dep (d := 0) (Nat.le_of_ble_eq_true rfl) (c65 (zbk_v ?_))
                   refine zr_goto zi62_161 rfl ?_
                   refine zr_icmp_eq zi62_170 rfl (fun q170 => ?_) (fun q170 => ?_)
                   · refine zr_iincN (z := 1) (L' := [some (.ref _), some (.ref _), some (.int (zJ _)), some (.int (zJ _)), some (.int (zJ _)), some (.int (zJ _)), some (.int (zJ _))]) zi62_175 rfl rfl rfl rfl ?_
                     refine zr_goto zi62_178 rfl ?_
                     have hz : zir hh 2 k = true := by unfold zir; first | rfl | (rw [q149]; rfl) | (rw [q109]; rfl)
                     refine ih61 (by omega) _ _ (fun i z => ?_)
                     rcases Nat.lt_or_ge i k with z1 | z1
                     · exact hE i z1
                     · obtain rfl : i = k := by omega
                       exact (zFI_of hz).mpr q170
                   · refine zr_iconst (v := zJ 0) zi62_173 rfl ?_
                     refine zr_zreturn zi62_174 rfl (by decide) ?_
                     have hz : zir hh 2 k = true := by unfold zir; first | rfl | (rw [q149]; rfl) | (rw [q109]; rfl)
                     rw [zia_f (i := k) (by omega) (fun z => q170 ((zFI_of hz).mp z))] at K
                     exact K)))
    · first
      | (exfalso; omega)
      | (
         refine zr_iconst (v := zJ 1) zi62_112 rfl ?_
         refine zr_goto zi62_113 rfl ?_
         refine zr_istore (L' := [some (.ref _), some (.ref _), some (.int (zJ _)), some (.int (zJ _)), some (.int (zJ _)), some (.int (zJ _)), some (.int (zJ _))]) zi62_117 rfl rfl ?_
         refine zr_aload_n zi62_119 rfl ?_
         refine zr_iload zi62_120 rfl ?_
         refine zr_iconst (v := zJ 0) zi62_122 rfl ?_
         refine zr_virtual zi62_123 rfl rfl (G.1.at0 rfl) rfl rfl ?_
         have hx123 := ztl_J (i := k) (how := 0) G.2.1 (show k < w + hh by omega)
         refine zcall_dep (d := 0) (Nat.le_of_ble_eq_true rfl) (c64 G (by omega) (zbk_v ?_))
         rw [hx123.1]
         refine zr_istore (L' := [some (.ref _), some (.ref _), some (.int (zJ _)), some (.int (zJ _)), some (.int (zJ _)), some (.int (zJ _)), some (.int (zJ _))]) zi62_126 rfl rfl ?_
         refine zr_iload_n zi62_128 rfl ?_
         refine zr_if_eqN zi62_129 rfl (by omega) (fun q129 => ?_) (fun q129 => ?_)
         · first
           | (exfalso; omega)
           | (
              refine zr_aload_n zi62_141 rfl ?_
              refine zr_iload zi62_142 rfl ?_
              refine zr_virtual zi62_144 rfl rfl (O.1.at0 rfl) rfl rfl ?_
              refine zcall_dep (d := 0) (Nat.le_of_ble_eq_true rfl) (c36 O (i := (ztn w hh k 0)) (by have := hx123.2; omega) (zbk_v ?_))
              refine zr_iload zi62_147 rfl ?_
              refine zr_if_eqN zi62_149 rfl (by omega) (fun q149 => ?_) (fun q149 => ?_)
              · first
                | (exfalso; omega)
                | (
                   refine zr_aload_n zi62_164 rfl ?_
                   refine zr_iload zi62_165 rfl ?_
                   refine zr_virtual zi62_167 rfl rfl (G.1.at0 rfl) rfl rfl ?_
                   refine zcall_dep (d := 0) (Nat.le_of_ble_eq_true rfl) (c36 G (i := k) (by omega) (zbk_v ?_))
                   refine zr_icmp_eq zi62_170 rfl (fun q170 => ?_) (fun q170 => ?_)
                   · refine zr_iincN (z := 1) (L' := [some (.ref _), some (.ref _), some (.int (zJ _)), some (.int (zJ _)), some (.int (zJ _)), some (.int (zJ _)), some (.int (zJ _))]) zi62_175 rfl rfl rfl rfl ?_
                     refine zr_goto zi62_178 rfl ?_
                     have hz : zir hh 2 k = false := by unfold zir; first | rfl | (rw [q149]; rfl) | (rw [q109]; rfl)
                     refine ih61 (by omega) _ _ (fun i z => ?_)
                     rcases Nat.lt_or_ge i k with z1 | z1
                     · exact hE i z1
                     · obtain rfl : i = k := by omega
                       exact (zFI_of hz).mpr q170
                   · refine zr_iconst (v := zJ 0) zi62_173 rfl ?_
                     refine zr_zreturn zi62_174 rfl (by decide) ?_
                     have hz : zir hh 2 k = false := by unfold zir; first | rfl | (rw [q149]; rfl) | (rw [q109]; rfl)
                     rw [zia_f (i := k) (by omega) (fun z => q170 ((zFI_of hz).mp z))] at K
                     exact K)
              · first
                | (exfalso; omega)
                | (
                   refine zr_aload_n zi62_152 rfl ?_
                   refine zr_iload zi62_153 rfl ?_
                   refine zr_virtual zi62_155 rfl rfl (G.1.at0 rfl) rfl rfl ?_
                   refine zcall_dep (d := 0) (Nat.le_of_ble_eq_true rfl) (c36 G (i := k) (by omega) (zbk_v ?_))
                   refine zr_static zi62_158 rfl rfl rfl rfl ?_
                   refine zcall_dep (d := 0) (Nat.le_of_ble_eq_true rfl) (c65 (zbk_v ?_))
                   refine zr_goto zi62_161 rfl ?_
                   refine zr_icmp_eq zi62_170 rfl (fun q170 => ?_) (fun q170 => ?_)
                   · refine zr_iincN (z := 1) (L' := [some (.ref _), some (.ref _), some (.int (zJ _)), some (.int (zJ _)), some (.int (zJ _)), some (.int (zJ _)), some (.int (zJ _))]) zi62_175 rfl rfl rfl rfl ?_
                     refine zr_goto zi62_178 rfl ?_
                     have hz : zir hh 2 k = true := by unfold zir; first | rfl | (rw [q149]; rfl) | (rw [q109]; rfl)
                     refine ih61 (by omega) _ _ (fun i z => ?_)
                     rcases Nat.lt_or_ge i k with z1 | z1
                     · exact hE i z1
                     · obtain rfl : i = k := by omega
                       exact (zFI_of hz).mpr q170
                   · refine zr_iconst (v := zJ 0) zi62_173 rfl ?_
                     refine zr_zreturn zi62_174 rfl (by decide) ?_
                     have hz : zir hh 2 k = true := by unfold zir; first | rfl | (rw [q149]; rfl) | (rw [q109]; rfl)
                     rw [zia_f (i := k) (by omega) (fun z => q170 ((zFI_of hz).mp z))] at K
                     exact K))
         · first
           | (exfalso; omega)
           | (
              refine zr_aload_n zi62_132 rfl ?_
              refine zr_iload zi62_133 rfl ?_
              refine zr_iconst (v := zJ 2) zi62_135 rfl ?_
              refine zr_virtual zi62_136 rfl rfl (G.1.at0 rfl) rfl rfl ?_
              have hx136 := ztl_J (i := (ztn w hh k 0)) (how := 2) G.2.1 hx123.2
              refine zcall_dep (d := 0) (Nat.le_of_ble_eq_true rfl) (c64 G (by omega) (zbk_v ?_))
              rw [hx136.1]
              refine zr_istore (L' := [some (.ref _), some (.ref _), some (.int (zJ _)), some (.int (zJ _)), some (.int (zJ _)), some (.int (zJ _)), some (.int (zJ _))]) zi62_139 rfl rfl ?_
              refine zr_aload_n zi62_141 rfl ?_
              refine zr_iload zi62_142 rfl ?_
              refine zr_virtual zi62_144 rfl rfl (O.1.at0 rfl) rfl rfl ?_
              refine zcall_dep (d := 0) (Nat.le_of_ble_eq_true rfl) (c36 O (i := (ztn w hh k 0)) (by have := hx123.2; omega) (zbk_v ?_))
              refine zr_iload zi62_147 rfl ?_
              refine zr_if_eqN zi62_149 rfl (by omega) (fun q149 => ?_) (fun q149 => ?_)
              · first
                | (exfalso; omega)
                | (
                   refine zr_aload_n zi62_164 rfl ?_
                   refine zr_iload zi62_165 rfl ?_
                   refine zr_virtual zi62_167 rfl rfl (G.1.at0 rfl) rfl rfl ?_
                   refine zcall_dep (d := 0) (Nat.le_of_ble_eq_true rfl) (c36 G (i := k) (by omega) (zbk_v ?_))
                   refine zr_icmp_eq zi62_170 rfl (fun q170 => ?_) (fun q170 => ?_)
                   · refine zr_iincN (z := 1) (L' := [some (.ref _), some (.ref _), some (.int (zJ _)), some (.int (zJ _)), some (.int (zJ _)), some (.int (zJ _)), some (.int (zJ _))]) zi62_175 rfl rfl rfl rfl ?_
                     refine zr_goto zi62_178 rfl ?_
                     have hz : zir hh 2 k = false := by unfold zir; first | rfl | (rw [q149]; rfl) | (rw [q109]; rfl)
                     refine ih61 (by omega) _ _ (fun i z => ?_)
                     rcases Nat.lt_or_ge i k with z1 | z1
                     · exact hE i z1
                     · obtain rfl : i = k := by omega
                       exact (zFI_of hz).mpr q170
                   · refine zr_iconst (v := zJ 0) zi62_173 rfl ?_
                     refine zr_zreturn zi62_174 rfl (by decide) ?_
                     have hz : zir hh 2 k = false := by unfold zir; first | rfl | (rw [q149]; rfl) | (rw [q109]; rfl)
                     rw [zia_f (i := k) (by omega) (fun z => q170 ((zFI_of hz).mp z))] at K
                     exact K)
              · first
                | (exfalso; omega)
                | (
                   refine zr_aload_n zi62_152 rfl ?_
                   refine zr_iload zi62_153 rfl ?_
                   refine zr_virtual zi62_155 rfl rfl (G.1.at0 rfl) rfl rfl ?_
                   refine zcall_dep (d := 0) (Nat.le_of_ble_eq_true rfl) (c36 G (i := k) (by omega) (zbk_v ?_))
                   refine zr_static zi62_158 rfl rfl rfl rfl ?_
                   refine zcall_dep (d := 0) (Nat.le_of_ble_eq_true rfl) (c65 (zbk_v ?_))
                   refine zr_goto zi62_161 rfl ?_
                   refine zr_icmp_eq zi62_170 rfl (fun q170 => ?_) (fun q170 => ?_)
                   · refine zr_iincN (z := 1) (L' := [some (.ref _), some (.ref _), some (.int (zJ _)), some (.int (zJ _)), some (.int (zJ _)), some (.int (zJ _)), some (.int (zJ _))]) zi62_175 rfl rfl rfl rfl ?_
                     refine zr_goto zi62_178 rfl ?_
                     have hz : zir hh 2 k = true := by unfold zir; first | rfl | (rw [q149]; rfl) | (rw [q109]; rfl)
                     refine ih61 (by omega) _ _ (fun i z => ?_)
                     rcases Nat.lt_or_ge i k with z1 | z1
                     · exact hE i z1
                     · obtain rfl : i = k := by omega
                       exact (zFI_of hz).mpr q170
                   · refine zr_iconst (v := zJ 0) zi62_173 rfl ?_
                     refine zr_zreturn zi62_174 rfl (by decide) ?_
                     have hz : zir hh 2 k = true := by unfold zir; first | rfl | (rw [q149]; rfl) | (rw [q109]; rfl)
                     rw [zia_f (i := k) (by omega) (fun z => q170 ((zFI_of hz).mp z))] at K
                     exact K)))
theorem c62_2 {E : zEnv} {h : zPH} {Q : zOut → zPH → Prop} {g w hh : Nat} {cs cl fs : List Int32} (G : yG h g w hh cs cl fs) {o ow oh : Nat} {os ol ofs : List Int32} (O : yG h o ow oh os ol ofs) (K : Q (.inl (some (.int (zB (zia w hh cl ow oh ol 2))))) h) : zcall E 1 62 [.ref g, .ref o, .int (zJ 2)] h Q := by
  obtain ⟨⟨gw1, gw2, gh1, gh2⟩, gcs, gcl, gfs⟩ := G.2
  obtain ⟨⟨ow1, ow2, oh1, oh2⟩, ocs, ocl, ofl⟩ := O.2
  show zwp E _ 62 (0, [some (.ref _), some (.ref _), some (.int (zJ _)), none, none, none, none], [], _) Q
  refine zr_iload_n zi62_0 rfl ?_
  refine zr_iconst (v := zJ 4) zi62_1 rfl ?_
  refine zr_iand zi62_2 ?_
  refine zr_if_eq zi62_3 rfl (fun q3 => ?_) (fun q3 => absurd q3 (by decide))
  refine zr_iconst (v := zJ 0) zi62_10 rfl ?_
  refine zr_istore_n (L' := [some (.ref _), some (.ref _), some (.int (zJ _)), some (.int (zJ _)), none, none, none]) zi62_11 rfl rfl ?_
  refine zr_aload_n zi62_12 rfl ?_
  refine zr_getfield zi62_13 (O.1.at0 rfl) rfl ?_
  refine zr_iload_n zi62_16 rfl ?_
  refine zr_if_eqN zi62_17 rfl (by omega) (fun q17 => ?_) (fun q17 => ?_)
  · first
    | (exfalso; omega)
    | (
       refine zr_aload_n zi62_27 rfl ?_
       refine zr_getfield zi62_28 (G.1.at0 rfl) rfl ?_
       refine zr_icmp_neN zi62_31 rfl (by omega) (by omega) (fun q31 => ?_) (fun q31 => ?_)
       · refine zr_iconst (v := zJ 0) zi62_56 rfl ?_
         refine zr_zreturn zi62_57 rfl (by decide) ?_
         rw [show zia w hh cl ow oh ol 2 = false from by first | exact zia_w (show ¬ ow = w by omega) | exact zia_h (show ¬ oh = hh by omega)] at K
         exact K
       · refine zr_aload_n zi62_34 rfl ?_
         refine zr_getfield zi62_35 (O.1.at0 rfl) rfl ?_
         refine zr_iload_n zi62_38 rfl ?_
         refine zr_if_eqN zi62_39 rfl (by omega) (fun q39 => ?_) (fun q39 => ?_)
         · first
           | (exfalso; omega)
           | (
              refine zr_aload_n zi62_49 rfl ?_
              refine zr_getfield zi62_50 (G.1.at0 rfl) rfl ?_
              refine zr_icmp_eqN zi62_53 rfl (by omega) (by omega) (fun q53 => ?_) (fun q53 => ?_)
              · exact c62L_2 G O (by omega) (by omega) K
              · refine zr_iconst (v := zJ 0) zi62_56 rfl ?_
                refine zr_zreturn zi62_57 rfl (by decide) ?_
                rw [show zia w hh cl ow oh ol 2 = false from by first | exact zia_w (show ¬ ow = w by omega) | exact zia_h (show ¬ oh = hh by omega)] at K
                exact K)
         · first
           | (exfalso; omega)
           | (
              refine zr_aload_n zi62_42 rfl ?_
              refine zr_getfield zi62_43 (G.1.at0 rfl) rfl ?_
              refine zr_goto zi62_46 rfl ?_
              refine zr_icmp_eqN zi62_53 rfl (by omega) (by omega) (fun q53 => ?_) (fun q53 => ?_)
              · exact c62L_2 G O (by omega) (by omega) K
              · refine zr_iconst (v := zJ 0) zi62_56 rfl ?_
                refine zr_zreturn zi62_57 rfl (by decide) ?_
                rw [show zia w hh cl ow oh ol 2 = false from by first | exact zia_w (show ¬ ow = w by omega) | exact zia_h (show ¬ oh = hh by omega)] at K
                exact K))
  · first
    | (exfalso; omega)
    | (
       refine zr_aload_n zi62_20 rfl ?_
       refine zr_getfield zi62_21 (G.1.at0 rfl) rfl ?_
       refine zr_goto zi62_24 rfl ?_
       refine zr_icmp_neN zi62_31 rfl (by omega) (by omega) (fun q31 => ?_) (fun q31 => ?_)
       · refine zr_iconst (v := zJ 0) zi62_56 rfl ?_
         refine zr_zreturn zi62_57 rfl (by decide) ?_
         rw [show zia w hh cl ow oh ol 2 = false from by first | exact zia_w (show ¬ ow = w by omega) | exact zia_h (show ¬ oh = hh by omega)] at K
         exact K
       · refine zr_aload_n zi62_34 rfl ?_
         refine zr_getfield zi62_35 (O.1.at0 rfl) rfl ?_
         refine zr_iload_n zi62_38 rfl ?_
         refine zr_if_eqN zi62_39 rfl (by omega) (fun q39 => ?_) (fun q39 => ?_)
         · first
           | (exfalso; omega)
           | (
              refine zr_aload_n zi62_49 rfl ?_
              refine zr_getfield zi62_50 (G.1.at0 rfl) rfl ?_
              refine zr_icmp_eqN zi62_53 rfl (by omega) (by omega) (fun q53 => ?_) (fun q53 => ?_)
              · exact c62L_2 G O (by omega) (by omega) K
              · refine zr_iconst (v := zJ 0) zi62_56 rfl ?_
                refine zr_zreturn zi62_57 rfl (by decide) ?_
                rw [show zia w hh cl ow oh ol 2 = false from by first | exact zia_w (show ¬ ow = w by omega) | exact zia_h (show ¬ oh = hh by omega)] at K
                exact K)
         · first
           | (exfalso; omega)
           | (
              refine zr_aload_n zi62_42 rfl ?_
              refine zr_getfield zi62_43 (G.1.at0 rfl) rfl ?_
              refine zr_goto zi62_46 rfl ?_
              refine zr_icmp_eqN zi62_53 rfl (by omega) (by omega) (fun q53 => ?_) (fun q53 => ?_)
              · exact c62L_2 G O (by omega) (by omega) K
              · refine zr_iconst (v := zJ 0) zi62_56 rfl ?_
                refine zr_zreturn zi62_57 rfl (by decide) ?_
                rw [show zia w hh cl ow oh ol 2 = false from by first | exact zia_w (show ¬ ow = w by omega) | exact zia_h (show ¬ oh = hh by omega)] at K
                exact K))
theorem c62L_3 {E : zEnv} {h : zPH} {Q : zOut → zPH → Prop} {g w hh : Nat} {cs cl fs : List Int32} (G : yG h g w hh cs cl fs) {o ow oh : Nat} {os ol ofs : List Int32} (O : yG h o ow oh os ol ofs) (hd1 : ow = w) (hd2 : oh = hh) (K : Q (.inl (some (.int (zB (zia w hh cl ow oh ol 3))))) h) : zwp E 1 62 (58, [some (.ref g), some (.ref o), some (.int (zJ 3)), some (.int (zJ 0)), none, none, none], [], h) Q := by
  obtain ⟨⟨gw1, gw2, gh1, gh2⟩, gcs, gcl, gfs⟩ := G.2
  obtain ⟨⟨ow1, ow2, oh1, oh2⟩, ocs, ocl, ofl⟩ := O.2
  refine zr_iconst (v := zJ 0) zi62_58 rfl ?_
  refine zr_istore (L' := [some (.ref _), some (.ref _), some (.int (zJ _)), some (.int (zJ _)), some (.int (zJ _)), none, none]) zi62_59 rfl rfl ?_
  suffices key61 : ∀ x5 x6, (∀ i, i < 0 → zFI w hh cl ol 3 i) → zwp E 1 62 (61, [some (.ref g), some (.ref o), some (.int (zJ 3)), some (.int (zJ 0)), some (.int (zJ 0)), x5, x6], [], h) Q from key61 _ _ (fun i z => absurd z (Nat.not_lt_zero i))
  refine zloop (P := fun k => ∀ x5 x6, (∀ i, i < k → zFI w hh cl ol 3 i) → zwp E 1 62 (61, [some (.ref g), some (.ref o), some (.int (zJ 3)), some (.int (zJ 0)), some (.int (zJ k)), x5, x6], [], h) Q) (n := w + hh) fun k hk61 ih61 => ?_
  intro x5 x6 hE
  refine zr_iload zi62_61 rfl ?_
  refine zr_aload_n zi62_63 rfl ?_
  refine zr_virtual zi62_64 rfl rfl (G.1.at0 rfl) rfl rfl ?_
  refine zcall_dep (d := 0) (Nat.le_of_ble_eq_true rfl) (c4 G (zbk_v ?_))
  refine zr_icmp_geN zi62_67 rfl (by omega) (by omega) (fun q67 => ?_) (fun q67 => ?_)
  · refine zr_iconst (v := zJ 1) zi62_181 rfl ?_
    refine zr_zreturn zi62_182 rfl (by decide) ?_
    rw [zia_t hd1 hd2 (fun i hi => hE i (by omega))] at K
    exact K
  · refine zr_iload zi62_70 rfl ?_
    refine zr_istore (L' := [some (.ref _), some (.ref _), some (.int (zJ _)), some (.int (zJ _)), some (.int (zJ _)), some (.int (zJ _)), _]) zi62_72 rfl rfl ?_
    refine zr_iconst (v := zJ 0) zi62_74 rfl ?_
    refine zr_istore (L' := [some (.ref _), some (.ref _), some (.int (zJ _)), some (.int (zJ _)), some (.int (zJ _)), some (.int (zJ _)), some (.int (zJ _))]) zi62_75 rfl rfl ?_
    refine zr_iload_n zi62_77 rfl ?_
    refine zr_iconst (v := zJ 1) zi62_78 rfl ?_
    refine zr_iand zi62_79 ?_
    refine zr_if_eq zi62_80 rfl (fun q80 => absurd q80 (by decide)) (fun q80 => ?_)
    refine zr_aload_n zi62_83 rfl ?_
    refine zr_iload zi62_84 rfl ?_
    refine zr_iconst (v := zJ 1) zi62_86 rfl ?_
    refine zr_virtual zi62_87 rfl rfl (G.1.at0 rfl) rfl rfl ?_
    refine zcall_dep (d := 0) (Nat.le_of_ble_eq_true rfl) (c63 G (by omega) (by omega) (zbk_v ?_))
    refine zr_istore (L' := [some (.ref _), some (.ref _), some (.int (zJ _)), some (.int (zJ _)), some (.int (zJ _)), some (.int (zJ _)), some (.int (zB _))]) zi62_90 rfl rfl ?_
    refine zr_aload_n zi62_92 rfl ?_
    refine zr_iload zi62_93 rfl ?_
    refine zr_iconst (v := zJ 1) zi62_95 rfl ?_
    refine zr_virtual zi62_96 rfl rfl (G.1.at0 rfl) rfl rfl ?_
    have hx96 := ztl_J (i := k) (how := 1) G.2.1 (show k < w + hh by omega)
    refine zcall_dep (d := 0) (Nat.le_of_ble_eq_true rfl) (c64 G (by omega) (zbk_v ?_))
    rw [hx96.1]
    refine zr_istore (L' := [some (.ref _), some (.ref _), some (.int (zJ _)), some (.int (zJ _)), some (.int (zJ _)), some (.int (zJ _)), some (.int (zB _))]) zi62_99 rfl rfl ?_
    refine zr_iload_n zi62_101 rfl ?_
    refine zr_iconst (v := zJ 2) zi62_102 rfl ?_
    refine zr_iand zi62_103 ?_
    refine zr_if_eq zi62_104 rfl (fun q104 => absurd q104 (by decide)) (fun q104 => ?_)
    refine zr_iload zi62_107 rfl ?_
    refine zr_if_neB zi62_109 rfl (fun q109 => ?_) (fun q109 => ?_)
    · first
      | (exfalso; omega)
      | (
         refine zr_iconst (v := zJ 0) zi62_116 rfl ?_
         refine zr_istore (L' := [some (.ref _), some (.ref _), some (.int (zJ _)), some (.int (zJ _)), some (.int (zJ _)), some (.int (zJ _)), some (.int (zJ _))]) zi62_117 rfl rfl ?_
         refine zr_aload_n zi62_119 rfl ?_
         refine zr_iload zi62_120 rfl ?_
         refine zr_iconst (v := zJ 0) zi62_122 rfl ?_
         refine zr_virtual zi62_123 rfl rfl (G.1.at0 rfl) rfl rfl ?_
         have hx123 := ztl_J (i := (ztn w hh k 1)) (how := 0) G.2.1 hx96.2
         refine zcall_dep (d := 0) (Nat.le_of_ble_eq_true rfl) (c64 G (by omega) (zbk_v ?_))
         rw [hx123.1]
         refine zr_istore (L' := [some (.ref _), some (.ref _), some (.int (zJ _)), some (.int (zJ _)), some (.int (zJ _)), some (.int (zJ _)), some (.int (zJ _))]) zi62_126 rfl rfl ?_
         refine zr_iload_n zi62_128 rfl ?_
         refine zr_if_eqN zi62_129 rfl (by omega) (fun q129 => ?_) (fun q129 => ?_)
         · first
           | (exfalso; omega)
           | (
              refine zr_aload_n zi62_141 rfl ?_
              refine zr_iload zi62_142 rfl ?_
              refine zr_virtual zi62_144 rfl rfl (O.1.at0 rfl) rfl rfl ?_
              refine zcall_dep (d := 0) (Nat.le_of_ble_eq_true rfl) (c36 O (i := (ztn w hh (ztn w hh k 1) 0)) (by have := hx123.2; omega) (zbk_v ?_))
              refine zr_iload zi62_147 rfl ?_
              refine zr_if_eqN zi62_149 rfl (by omega) (fun q149 => ?_) (fun q149 => ?_)
              · first
                | (exfalso; omega)
                | (
                   refine zr_aload_n zi62_164 rfl ?_
                   refine zr_iload zi62_165 rfl ?_
                   refine zr_virtual zi62_167 rfl rfl (G.1.at0 rfl) rfl rfl ?_
                   refine zcall_dep (d := 0) (Nat.le_of_ble_eq_true rfl) (c36 G (i := k) (by omega) (zbk_v ?_))
                   refine zr_icmp_eq zi62_170 rfl (fun q170 => ?_) (fun q170 => ?_)
                   · refine zr_iincN (z := 1) (L' := [some (.ref _), some (.ref _), some (.int (zJ _)), some (.int (zJ _)), some (.int (zJ _)), some (.int (zJ _)), some (.int (zJ _))]) zi62_175 rfl rfl rfl rfl ?_
                     refine zr_goto zi62_178 rfl ?_
                     have hz : zir hh 3 k = false := by unfold zir; first | rfl | (rw [q149]; rfl) | (rw [q109]; rfl)
                     refine ih61 (by omega) _ _ (fun i z => ?_)
                     rcases Nat.lt_or_ge i k with z1 | z1
                     · exact hE i z1
                     · obtain rfl : i = k := by omega
                       exact (zFI_of hz).mpr q170
                   · refine zr_iconst (v := zJ 0) zi62_173 rfl ?_
                     refine zr_zreturn zi62_174 rfl (by decide) ?_
                     have hz : zir hh 3 k = false := by unfold zir; first | rfl | (rw [q149]; rfl) | (rw [q109]; rfl)
                     rw [zia_f (i := k) (by omega) (fun z => q170 ((zFI_of hz).mp z))] at K
                     exact K)
              · first
                | (exfalso; omega)
                | (
                   refine zr_aload_n zi62_152 rfl ?_
                   refine zr_iload zi62_153 rfl ?_
                   refine zr_virtual zi62_155 rfl rfl (G.1.at0 rfl) rfl rfl ?_
                   refine zcall_dep (d := 0) (Nat.le_of_ble_eq_true rfl) (c36 G (i := k) (by omega) (zbk_v ?_))
                   refine zr_static zi62_158 rfl rfl rfl rfl ?_
                   refine zcall_dep (d := 0) (Nat.le_of_ble_eq_true rfl) (c65 (zbk_v ?_))
                   refine zr_goto zi62_161 rfl ?_
                   refine zr_icmp_eq zi62_170 rfl (fun q170 => ?_) (fun q170 => ?_)
                   · refine zr_iincN (z := 1) (L' := [some (.ref _), some (.ref _), some (.int (zJ _)), some (.int (zJ _)), some (.int (zJ _)), some (.int (zJ _)), some (.int (zJ _))]) zi62_175 rfl rfl rfl rfl ?_
                     refine zr_goto zi62_178 rfl ?_
                     have hz : zir hh 3 k = true := by unfold zir; first | rfl | (rw [q149]; rfl) | (rw [q109]; rfl)
                     refine ih61 (by omega) _ _ (fun i z => ?_)
                     rcases Nat.lt_or_ge i k with z1 | z1
                     · exact hE i z1
                     · obtain rfl : i = k := by omega
                       exact (zFI_of hz).mpr q170
                   · refine zr_iconst (v := zJ 0) zi62_173 rfl ?_
                     refine zr_zreturn zi62_174 rfl (by decide) ?_
                     have hz : zir hh 3 k = true := by unfold zir; first | rfl | (rw [q149]; rfl) | (rw [q109]; rfl)
                     rw [zia_f (i := k) (by omega) (fun z => q170 ((zFI_of hz).mp z))] at K
                     exact K))
         · first
           | (exfalso; omega)
           | (
              refine zr_aload_n zi62_132 rfl ?_
              refine zr_iload zi62_133 rfl ?_
              refine zr_iconst (v := zJ 2) zi62_135 rfl ?_
              refine zr_virtual zi62_136 rfl rfl (G.1.at0 rfl) rfl rfl ?_
              have hx136 := ztl_J (i := (ztn w hh (ztn w hh k 1) 0)) (how := 2) G.2.1 hx123.2
              refine zcall_dep (d := 0) (Nat.le_of_ble_eq_true rfl) (c64 G (by omega) (zbk_v ?_))
              rw [hx136.1]
              refine zr_istore (L' := [some (.ref _), some (.ref _), some (.int (zJ _)), some (.int (zJ _)), some (.int (zJ _)), some (.int (zJ _)), some (.int (zJ _))]) zi62_139 rfl rfl ?_
              refine zr_aload_n zi62_141 rfl ?_
              refine zr_iload zi62_142 rfl ?_
              refine zr_virtual zi62_144 rfl rfl (O.1.at0 rfl) rfl rfl ?_
              refine zcall_dep (d := 0) (Nat.le_of_ble_eq_true rfl) (c36 O (i := (ztn w hh (ztn w hh k 1) 0)) (by have := hx123.2; omega) (zbk_v ?_))
              refine zr_iload zi62_147 rfl ?_
              refine zr_if_eqN zi62_149 rfl (by omega) (fun q149 => ?_) (fun q149 => ?_)
              · first
                | (exfalso; omega)
                | (
                   refine zr_aload_n zi62_164 rfl ?_
                   refine zr_iload zi62_165 rfl ?_
                   refine zr_virtual zi62_167 rfl rfl (G.1.at0 rfl) rfl rfl ?_
                   refine zcall_dep (d := 0) (Nat.le_of_ble_eq_true rfl) (c36 G (i := k) (by omega) (zbk_v ?_))
                   refine zr_icmp_eq zi62_170 rfl (fun q170 => ?_) (fun q170 => ?_)
                   · refine zr_iincN (z := 1) (L' := [some (.ref _), some (.ref _), some (.int (zJ _)), some (.int (zJ _)), some (.int (zJ _)), some (.int (zJ _)), some (.int (zJ _))]) zi62_175 rfl rfl rfl rfl ?_
                     refine zr_goto zi62_178 rfl ?_
                     have hz : zir hh 3 k = false := by unfold zir; first | rfl | (rw [q149]; rfl) | (rw [q109]; rfl)
                     refine ih61 (by omega) _ _ (fun i z => ?_)
                     rcases Nat.lt_or_ge i k with z1 | z1
                     · exact hE i z1
                     · obtain rfl : i = k := by omega
                       exact (zFI_of hz).mpr q170
                   · refine zr_iconst (v := zJ 0) zi62_173 rfl ?_
                     refine zr_zreturn zi62_174 rfl (by decide) ?_
                     have hz : zir hh 3 k = false := by unfold zir; first | rfl | (rw [q149]; rfl) | (rw [q109]; rfl)
                     rw [zia_f (i := k) (by omega) (fun z => q170 ((zFI_of hz).mp z))] at K
                     exact K)
              · first
                | (exfalso; omega)
                | (
                   refine zr_aload_n zi62_152 rfl ?_
                   refine zr_iload zi62_153 rfl ?_
                   refine zr_virtual zi62_155 rfl rfl (G.1.at0 rfl) rfl rfl ?_
                   refine zcall_dep (d := 0) (Nat.le_of_ble_eq_true rfl) (c36 G (i := k) (by omega) (zbk_v ?_))
                   refine zr_static zi62_158 rfl rfl rfl rfl ?_
                   refine zcall_dep (d := 0) (Nat.le_of_ble_eq_true rfl) (c65 (zbk_v ?_))
                   refine zr_goto zi62_161 rfl ?_
                   refine zr_icmp_eq zi62_170 rfl (fun q170 => ?_) (fun q170 => ?_)
                   · refine zr_iincN (z := 1) (L' := [some (.ref _), some (.ref _), some (.int (zJ _)), some (.int (zJ _)), some (.int (zJ _)), some (.int (zJ _)), some (.int (zJ _))]) zi62_175 rfl rfl rfl rfl ?_
                     refine zr_goto zi62_178 rfl ?_
                     have hz : zir hh 3 k = true := by unfold zir; first | rfl | (rw [q149]; rfl) | (rw [q109]; rfl)
                     refine ih61 (by omega) _ _ (fun i z => ?_)
                     rcases Nat.lt_or_ge i k with z1 | z1
                     · exact hE i z1
                     · obtain rfl : i = k := by omega
                       exact (zFI_of hz).mpr q170
                   · refine zr_iconst (v := zJ 0) zi62_173 rfl ?_
                     refine zr_zreturn zi62_174 rfl (by decide) ?_
                     have hz : zir hh 3 k = true := by unfold zir; first | rfl | (rw [q149]; rfl) | (rw [q109]; rfl)
                     rw [zia_f (i := k) (by omega) (fun z => q170 ((zFI_of hz).mp z))] at K
                     exact K)))
    · first
      | (exfalso; omega)
      | (
         refine zr_iconst (v := zJ 1) zi62_112 rfl ?_
         refine zr_goto zi62_113 rfl ?_
         refine zr_istore (L' := [some (.ref _), some (.ref _), some (.int (zJ _)), some (.int (zJ _)), some (.int (zJ _)), some (.int (zJ _)), some (.int (zJ _))]) zi62_117 rfl rfl ?_
         refine zr_aload_n zi62_119 rfl ?_
         refine zr_iload zi62_120 rfl ?_
         refine zr_iconst (v := zJ 0) zi62_122 rfl ?_
         refine zr_virtual zi62_123 rfl rfl (G.1.at0 rfl) rfl rfl ?_
         have hx123 := ztl_J (i := (ztn w hh k 1)) (how := 0) G.2.1 hx96.2
         refine zcall_dep (d := 0) (Nat.le_of_ble_eq_true rfl) (c64 G (by omega) (zbk_v ?_))
         rw [hx123.1]
         refine zr_istore (L' := [some (.ref _), some (.ref _), some (.int (zJ _)), some (.int (zJ _)), some (.int (zJ _)), some (.int (zJ _)), some (.int (zJ _))]) zi62_126 rfl rfl ?_
         refine zr_iload_n zi62_128 rfl ?_
         refine zr_if_eqN zi62_129 rfl (by omega) (fun q129 => ?_) (fun q129 => ?_)
         · first
           | (exfalso; omega)
           | (
              refine zr_aload_n zi62_141 rfl ?_
              refine zr_iload zi62_142 rfl ?_
              refine zr_virtual zi62_144 rfl rfl (O.1.at0 rfl) rfl rfl ?_
              refine zcall_dep (d := 0) (Nat.le_of_ble_eq_true rfl) (c36 O (i := (ztn w hh (ztn w hh k 1) 0)) (by have := hx123.2; omega) (zbk_v ?_))
              refine zr_iload zi62_147 rfl ?_
              refine zr_if_eqN zi62_149 rfl (by omega) (fun q149 => ?_) (fun q149 => ?_)
              · first
                | (exfalso; omega)
                | (
                   refine zr_aload_n zi62_164 rfl ?_
                   refine zr_iload zi62_165 rfl ?_
                   refine zr_virtual zi62_167 rfl rfl (G.1.at0 rfl) rfl rfl ?_
                   refine zcall_dep (d := 0) (Nat.le_of_ble_eq_true rfl) (c36 G (i := k) (by omega) (zbk_v ?_))
                   refine zr_icmp_eq zi62_170 rfl (fun q170 => ?_) (fun q170 => ?_)
                   · refine zr_iincN (z := 1) (L' := [some (.ref _), some (.ref _), some (.int (zJ _)), some (.int (zJ _)), some (.int (zJ _)), some (.int (zJ _)), some (.int (zJ _))]) zi62_175 rfl rfl rfl rfl ?_
                     refine zr_goto zi62_178 rfl ?_
                     have hz : zir hh 3 k = false := by unfold zir; first | rfl | (rw [q149]; rfl) | (rw [q109]; rfl)
                     refine ih61 (by omega) _ _ (fun i z => ?_)
                     rcases Nat.lt_or_ge i k with z1 | z1
                     · exact hE i z1
                     · obtain rfl : i = k := by omega
                       exact (zFI_of hz).mpr q170
                   · refine zr_iconst (v := zJ 0) zi62_173 rfl ?_
                     refine zr_zreturn zi62_174 rfl (by decide) ?_
                     have hz : zir hh 3 k = false := by unfold zir; first | rfl | (rw [q149]; rfl) | (rw [q109]; rfl)
                     rw [zia_f (i := k) (by omega) (fun z => q170 ((zFI_of hz).mp z))] at K
                     exact K)
              · first
                | (exfalso; omega)
                | (
                   refine zr_aload_n zi62_152 rfl ?_
                   refine zr_iload zi62_153 rfl ?_
                   refine zr_virtual zi62_155 rfl rfl (G.1.at0 rfl) rfl rfl ?_
                   refine zcall_dep (d := 0) (Nat.le_of_ble_eq_true rfl) (c36 G (i := k) (by omega) (zbk_v ?_))
                   refine zr_static zi62_158 rfl rfl rfl rfl ?_
                   refine zcall_dep (d := 0) (Nat.le_of_ble_eq_true rfl) (c65 (zbk_v ?_))
                   refine zr_goto zi62_161 rfl ?_
                   refine zr_icmp_eq zi62_170 rfl (fun q170 => ?_) (fun q170 => ?_)
                   · refine zr_iincN (z := 1) (L' := [some (.ref _), some (.ref _), some (.int (zJ _)), some (.int (zJ _)), some (.int (zJ _)), some (.int (zJ _)), some (.int (zJ _))]) zi62_175 rfl rfl rfl rfl ?_
                     refine zr_goto zi62_178 rfl ?_
                     have hz : zir hh 3 k = true := by unfold zir; first | rfl | (rw [q149]; rfl) | (rw [q109]; rfl)
                     refine ih61 (by omega) _ _ (fun i z => ?_)
                     rcases Nat.lt_or_ge i k with z1 | z1
                     · exact hE i z1
                     · obtain rfl : i = k := by omega
                       exact (zFI_of hz).mpr q170
                   · refine zr_iconst (v := zJ 0) zi62_173 rfl ?_
                     refine zr_zreturn zi62_174 rfl (by decide) ?_
                     have hz : zir hh 3 k = true := by unfold zir; first | rfl | (rw [q149]; rfl) | (rw [q109]; rfl)
                     rw [zia_f (i := k) (by omega) (fun z => q170 ((zFI_of hz).mp z))] at K
                     exact K))
         · first
           | (exfalso; omega)
           | (
              refine zr_aload_n zi62_132 rfl ?_
              refine zr_iload zi62_133 rfl ?_
              refine zr_iconst (v := zJ 2) zi62_135 rfl ?_
              refine zr_virtual zi62_136 rfl rfl (G.1.at0 rfl) rfl rfl ?_
              have hx136 := ztl_J (i := (ztn w hh (ztn w hh k 1) 0)) (how := 2) G.2.1 hx123.2
              refine zcall_dep (d := 0) (Nat.le_of_ble_eq_true rfl) (c64 G (by omega) (zbk_v ?_))
              rw [hx136.1]
              refine zr_istore (L' := [some (.ref _), some (.ref _), some (.int (zJ _)), some (.int (zJ _)), some (.int (zJ _)), some (.int (zJ _)), some (.int (zJ _))]) zi62_139 rfl rfl ?_
              refine zr_aload_n zi62_141 rfl ?_
              refine zr_iload zi62_142 rfl ?_
              refine zr_virtual zi62_144 rfl rfl (O.1.at0 rfl) rfl rfl ?_
              refine zcall_dep (d := 0) (Nat.le_of_ble_eq_true rfl) (c36 O (i := (ztn w hh (ztn w hh k 1) 0)) (by have := hx123.2; omega) (zbk_v ?_))
              refine zr_iload zi62_147 rfl ?_
              refine zr_if_eqN zi62_149 rfl (by omega) (fun q149 => ?_) (fun q149 => ?_)
              · first
                | (exfalso; omega)
                | (
                   refine zr_aload_n zi62_164 rfl ?_
                   refine zr_iload zi62_165 rfl ?_
                   refine zr_virtual zi62_167 rfl rfl (G.1.at0 rfl) rfl rfl ?_
                   refine zcall_dep (d := 0) (Nat.le_of_ble_eq_true rfl) (c36 G (i := k) (by omega) (zbk_v ?_))
                   refine zr_icmp_eq zi62_170 rfl (fun q170 => ?_) (fun q170 => ?_)
                   · refine zr_iincN (z := 1) (L' := [some (.ref _), some (.ref _), some (.int (zJ _)), some (.int (zJ _)), some (.int (zJ _)), some (.int (zJ _)), some (.int (zJ _))]) zi62_175 rfl rfl rfl rfl ?_
                     refine zr_goto zi62_178 rfl ?_
                     have hz : zir hh 3 k = false := by unfold zir; first | rfl | (rw [q149]; rfl) | (rw [q109]; rfl)
                     refine ih61 (by omega) _ _ (fun i z => ?_)
                     rcases Nat.lt_or_ge i k with z1 | z1
                     · exact hE i z1
                     · obtain rfl : i = k := by omega
                       exact (zFI_of hz).mpr q170
                   · refine zr_iconst (v := zJ 0) zi62_173 rfl ?_
                     refine zr_zreturn zi62_174 rfl (by decide) ?_
                     have hz : zir hh 3 k = false := by unfold zir; first | rfl | (rw [q149]; rfl) | (rw [q109]; rfl)
                     rw [zia_f (i := k) (by omega) (fun z => q170 ((zFI_of hz).mp z))] at K
                     exact K)
              · first
                | (exfalso; omega)
                | (
                   refine zr_aload_n zi62_152 rfl ?_
                   refine zr_iload zi62_153 rfl ?_
                   refine zr_virtual zi62_155 rfl rfl (G.1.at0 rfl) rfl rfl ?_
                   refine zcall_dep (d := 0) (Nat.le_of_ble_eq_true rfl) (c36 G (i := k) (by omega) (zbk_v ?_))
                   refine zr_static zi62_158 rfl rfl rfl rfl ?_
                   refine zcall_dep (d := 0) (Nat.le_of_ble_eq_true rfl) (c65 (zbk_v ?_))
                   refine zr_goto zi62_161 rfl ?_
                   refine zr_icmp_eq zi62_170 rfl (fun q170 => ?_) (fun q170 => ?_)
                   · refine zr_iincN (z := 1) (L' := [some (.ref _), some (.ref _), some (.int (zJ _)), some (.int (zJ _)), some (.int (zJ _)), some (.int (zJ _)), some (.int (zJ _))]) zi62_175 rfl rfl rfl rfl ?_
                     refine zr_goto zi62_178 rfl ?_
                     have hz : zir hh 3 k = true := by unfold zir; first | rfl | (rw [q149]; rfl) | (rw [q109]; rfl)
                     refine ih61 (by omega) _ _ (fun i z => ?_)
                     rcases Nat.lt_or_ge i k with z1 | z1
                     · exact hE i z1
                     · obtain rfl : i = k := by omega
                       exact (zFI_of hz).mpr q170
                   · refine zr_iconst (v := zJ 0) zi62_173 rfl ?_
                     refine zr_zreturn zi62_174 rfl (by decide) ?_
                     have hz : zir hh 3 k = true := by unfold zir; first | rfl | (rw [q149]; rfl) | (rw [q109]; rfl)
                     rw [zia_f (i := k) (by omega) (fun z => q170 ((zFI_of hz).mp z))] at K
                     exact K)))
theorem c62_3 {E : zEnv} {h : zPH} {Q : zOut → zPH → Prop} {g w hh : Nat} {cs cl fs : List Int32} (G : yG h g w hh cs cl fs) {o ow oh : Nat} {os ol ofs : List Int32} (O : yG h o ow oh os ol ofs) (K : Q (.inl (some (.int (zB (zia w hh cl ow oh ol 3))))) h) : zcall E 1 62 [.ref g, .ref o, .int (zJ 3)] h Q := by
  obtain ⟨⟨gw1, gw2, gh1, gh2⟩, gcs, gcl, gfs⟩ := G.2
  obtain ⟨⟨ow1, ow2, oh1, oh2⟩, ocs, ocl, ofl⟩ := O.2
  show zwp E _ 62 (0, [some (.ref _), some (.ref _), some (.int (zJ _)), none, none, none, none], [], _) Q
  refine zr_iload_n zi62_0 rfl ?_
  refine zr_iconst (v := zJ 4) zi62_1 rfl ?_
  refine zr_iand zi62_2 ?_
  refine zr_if_eq zi62_3 rfl (fun q3 => ?_) (fun q3 => absurd q3 (by decide))
  refine zr_iconst (v := zJ 0) zi62_10 rfl ?_
  refine zr_istore_n (L' := [some (.ref _), some (.ref _), some (.int (zJ _)), some (.int (zJ _)), none, none, none]) zi62_11 rfl rfl ?_
  refine zr_aload_n zi62_12 rfl ?_
  refine zr_getfield zi62_13 (O.1.at0 rfl) rfl ?_
  refine zr_iload_n zi62_16 rfl ?_
  refine zr_if_eqN zi62_17 rfl (by omega) (fun q17 => ?_) (fun q17 => ?_)
  · first
    | (exfalso; omega)
    | (
       refine zr_aload_n zi62_27 rfl ?_
       refine zr_getfield zi62_28 (G.1.at0 rfl) rfl ?_
       refine zr_icmp_neN zi62_31 rfl (by omega) (by omega) (fun q31 => ?_) (fun q31 => ?_)
       · refine zr_iconst (v := zJ 0) zi62_56 rfl ?_
         refine zr_zreturn zi62_57 rfl (by decide) ?_
         rw [show zia w hh cl ow oh ol 3 = false from by first | exact zia_w (show ¬ ow = w by omega) | exact zia_h (show ¬ oh = hh by omega)] at K
         exact K
       · refine zr_aload_n zi62_34 rfl ?_
         refine zr_getfield zi62_35 (O.1.at0 rfl) rfl ?_
         refine zr_iload_n zi62_38 rfl ?_
         refine zr_if_eqN zi62_39 rfl (by omega) (fun q39 => ?_) (fun q39 => ?_)
         · first
           | (exfalso; omega)
           | (
              refine zr_aload_n zi62_49 rfl ?_
              refine zr_getfield zi62_50 (G.1.at0 rfl) rfl ?_
              refine zr_icmp_eqN zi62_53 rfl (by omega) (by omega) (fun q53 => ?_) (fun q53 => ?_)
              · exact c62L_3 G O (by omega) (by omega) K
              · refine zr_iconst (v := zJ 0) zi62_56 rfl ?_
                refine zr_zreturn zi62_57 rfl (by decide) ?_
                rw [show zia w hh cl ow oh ol 3 = false from by first | exact zia_w (show ¬ ow = w by omega) | exact zia_h (show ¬ oh = hh by omega)] at K
                exact K)
         · first
           | (exfalso; omega)
           | (
              refine zr_aload_n zi62_42 rfl ?_
              refine zr_getfield zi62_43 (G.1.at0 rfl) rfl ?_
              refine zr_goto zi62_46 rfl ?_
              refine zr_icmp_eqN zi62_53 rfl (by omega) (by omega) (fun q53 => ?_) (fun q53 => ?_)
              · exact c62L_3 G O (by omega) (by omega) K
              · refine zr_iconst (v := zJ 0) zi62_56 rfl ?_
                refine zr_zreturn zi62_57 rfl (by decide) ?_
                rw [show zia w hh cl ow oh ol 3 = false from by first | exact zia_w (show ¬ ow = w by omega) | exact zia_h (show ¬ oh = hh by omega)] at K
                exact K))
  · first
    | (exfalso; omega)
    | (
       refine zr_aload_n zi62_20 rfl ?_
       refine zr_getfield zi62_21 (G.1.at0 rfl) rfl ?_
       refine zr_goto zi62_24 rfl ?_
       refine zr_icmp_neN zi62_31 rfl (by omega) (by omega) (fun q31 => ?_) (fun q31 => ?_)
       · refine zr_iconst (v := zJ 0) zi62_56 rfl ?_
         refine zr_zreturn zi62_57 rfl (by decide) ?_
         rw [show zia w hh cl ow oh ol 3 = false from by first | exact zia_w (show ¬ ow = w by omega) | exact zia_h (show ¬ oh = hh by omega)] at K
         exact K
       · refine zr_aload_n zi62_34 rfl ?_
         refine zr_getfield zi62_35 (O.1.at0 rfl) rfl ?_
         refine zr_iload_n zi62_38 rfl ?_
         refine zr_if_eqN zi62_39 rfl (by omega) (fun q39 => ?_) (fun q39 => ?_)
         · first
           | (exfalso; omega)
           | (
              refine zr_aload_n zi62_49 rfl ?_
              refine zr_getfield zi62_50 (G.1.at0 rfl) rfl ?_
              refine zr_icmp_eqN zi62_53 rfl (by omega) (by omega) (fun q53 => ?_) (fun q53 => ?_)
              · exact c62L_3 G O (by omega) (by omega) K
              · refine zr_iconst (v := zJ 0) zi62_56 rfl ?_
                refine zr_zreturn zi62_57 rfl (by decide) ?_
                rw [show zia w hh cl ow oh ol 3 = false from by first | exact zia_w (show ¬ ow = w by omega) | exact zia_h (show ¬ oh = hh by omega)] at K
                exact K)
         · first
           | (exfalso; omega)
           | (
              refine zr_aload_n zi62_42 rfl ?_
              refine zr_getfield zi62_43 (G.1.at0 rfl) rfl ?_
              refine zr_goto zi62_46 rfl ?_
              refine zr_icmp_eqN zi62_53 rfl (by omega) (by omega) (fun q53 => ?_) (fun q53 => ?_)
              · exact c62L_3 G O (by omega) (by omega) K
              · refine zr_iconst (v := zJ 0) zi62_56 rfl ?_
                refine zr_zreturn zi62_57 rfl (by decide) ?_
                rw [show zia w hh cl ow oh ol 3 = false from by first | exact zia_w (show ¬ ow = w by omega) | exact zia_h (show ¬ oh = hh by omega)] at K
                exact K))
theorem c62L_4 {E : zEnv} {h : zPH} {Q : zOut → zPH → Prop} {g w hh : Nat} {cs cl fs : List Int32} (G : yG h g w hh cs cl fs) {o ow oh : Nat} {os ol ofs : List Int32} (O : yG h o ow oh os ol ofs) (hd1 : ow = hh) (hd2 : oh = w) (K : Q (.inl (some (.int (zB (zia w hh cl ow oh ol 4))))) h) : zwp E 1 62 (58, [some (.ref g), some (.ref o), some (.int (zJ 4)), some (.int (zJ 1)), none, none, none], [], h) Q := by
  obtain ⟨⟨gw1, gw2, gh1, gh2⟩, gcs, gcl, gfs⟩ := G.2
  obtain ⟨⟨ow1, ow2, oh1, oh2⟩, ocs, ocl, ofl⟩ := O.2
  refine zr_iconst (v := zJ 0) zi62_58 rfl ?_
  refine zr_istore (L' := [some (.ref _), some (.ref _), some (.int (zJ _)), some (.int (zJ _)), some (.int (zJ _)), none, none]) zi62_59 rfl rfl ?_
  suffices key61 : ∀ x5 x6, (∀ i, i < 0 → zFI w hh cl ol 4 i) → zwp E 1 62 (61, [some (.ref g), some (.ref o), some (.int (zJ 4)), some (.int (zJ 1)), some (.int (zJ 0)), x5, x6], [], h) Q from key61 _ _ (fun i z => absurd z (Nat.not_lt_zero i))
  refine zloop (P := fun k => ∀ x5 x6, (∀ i, i < k → zFI w hh cl ol 4 i) → zwp E 1 62 (61, [some (.ref g), some (.ref o), some (.int (zJ 4)), some (.int (zJ 1)), some (.int (zJ k)), x5, x6], [], h) Q) (n := w + hh) fun k hk61 ih61 => ?_
  intro x5 x6 hE
  refine zr_iload zi62_61 rfl ?_
  refine zr_aload_n zi62_63 rfl ?_
  refine zr_virtual zi62_64 rfl rfl (G.1.at0 rfl) rfl rfl ?_
  refine zcall_dep (d := 0) (Nat.le_of_ble_eq_true rfl) (c4 G (zbk_v ?_))
  refine zr_icmp_geN zi62_67 rfl (by omega) (by omega) (fun q67 => ?_) (fun q67 => ?_)
  · refine zr_iconst (v := zJ 1) zi62_181 rfl ?_
    refine zr_zreturn zi62_182 rfl (by decide) ?_
    rw [zia_t hd1 hd2 (fun i hi => hE i (by omega))] at K
    exact K
  · refine zr_iload zi62_70 rfl ?_
    refine zr_istore (L' := [some (.ref _), some (.ref _), some (.int (zJ _)), some (.int (zJ _)), some (.int (zJ _)), some (.int (zJ _)), _]) zi62_72 rfl rfl ?_
    refine zr_iconst (v := zJ 0) zi62_74 rfl ?_
    refine zr_istore (L' := [some (.ref _), some (.ref _), some (.int (zJ _)), some (.int (zJ _)), some (.int (zJ _)), some (.int (zJ _)), some (.int (zJ _))]) zi62_75 rfl rfl ?_
    refine zr_iload_n zi62_77 rfl ?_
    refine zr_iconst (v := zJ 1) zi62_78 rfl ?_
    refine zr_iand zi62_79 ?_
    refine zr_if_eq zi62_80 rfl (fun q80 => ?_) (fun q80 => absurd q80 (by decide))
    refine zr_iload_n zi62_101 rfl ?_
    refine zr_iconst (v := zJ 2) zi62_102 rfl ?_
    refine zr_iand zi62_103 ?_
    refine zr_if_eq zi62_104 rfl (fun q104 => ?_) (fun q104 => absurd q104 (by decide))
    refine zr_iload_n zi62_128 rfl ?_
    refine zr_if_eqN zi62_129 rfl (by omega) (fun q129 => ?_) (fun q129 => ?_)
    · first
      | (exfalso; omega)
      | (
         refine zr_aload_n zi62_141 rfl ?_
         refine zr_iload zi62_142 rfl ?_
         refine zr_virtual zi62_144 rfl rfl (O.1.at0 rfl) rfl rfl ?_
         refine zcall_dep (d := 0) (Nat.le_of_ble_eq_true rfl) (c36 O (i := (ztn w hh k 2)) (by have := hx136.2; omega) (zbk_v ?_))
         refine zr_iload zi62_147 rfl ?_
         refine zr_if_eqN zi62_149 rfl (by omega) (fun q149 => ?_) (fun q149 => ?_)
         · first
           | (exfalso; omega)
           | (
              refine zr_aload_n zi62_164 rfl ?_
              refine zr_iload zi62_165 rfl ?_
              refine zr_virtual zi62_167 rfl rfl (G.1.at0 rfl) rfl rfl ?_
              refine zcall_dep (d := 0) (Nat.le_of_ble_eq_true rfl) (c36 G (i := k) (by omega) (zbk_v ?_))
              refine zr_icmp_eq zi62_170 rfl (fun q170 => ?_) (fun q170 => ?_)
              · refine zr_iincN (z := 1) (L' := [some (.ref _), some (.ref _), some (.int (zJ _)), some (.int (zJ _)), some (.int (zJ _)), some (.int (zJ _)), some (.int (zJ _))]) zi62_175 rfl rfl rfl rfl ?_
                refine zr_goto zi62_178 rfl ?_
                have hz : zir hh 4 k = false := by unfold zir; first | rfl | (rw [q149]; rfl) | (rw [q109]; rfl)
                refine ih61 (by omega) _ _ (fun i z => ?_)
                rcases Nat.lt_or_ge i k with z1 | z1
                · exact hE i z1
                · obtain rfl : i = k := by omega
                  exact (zFI_of hz).mpr q170
              · refine zr_iconst (v := zJ 0) zi62_173 rfl ?_
                refine zr_zreturn zi62_174 rfl (by decide) ?_
                have hz : zir hh 4 k = false := by unfold zir; first | rfl | (rw [q149]; rfl) | (rw [q109]; rfl)
                rw [zia_f (i := k) (by omega) (fun z => q170 ((zFI_of hz).mp z))] at K
                exact K)
         · first
           | (exfalso; omega)
           | (
              refine zr_aload_n zi62_152 rfl ?_
              refine zr_iload zi62_153 rfl ?_
              refine zr_virtual zi62_155 rfl rfl (G.1.at0 rfl) rfl rfl ?_
              refine zcall_dep (d := 0) (Nat.le_of_ble_eq_true rfl) (c36 G (i := k) (by omega) (zbk_v ?_))
              refine zr_static zi62_158 rfl rfl rfl rfl ?_
              refine zcall_dep (d := 0) (Nat.le_of_ble_eq_true rfl) (c65 (zbk_v ?_))
              refine zr_goto zi62_161 rfl ?_
              refine zr_icmp_eq zi62_170 rfl (fun q170 => ?_) (fun q170 => ?_)
              · refine zr_iincN (z := 1) (L' := [some (.ref _), some (.ref _), some (.int (zJ _)), some (.int (zJ _)), some (.int (zJ _)), some (.int (zJ _)), some (.int (zJ _))]) zi62_175 rfl rfl rfl rfl ?_
                refine zr_goto zi62_178 rfl ?_
                have hz : zir hh 4 k = true := by unfold zir; first | rfl | (rw [q149]; rfl) | (rw [q109]; rfl)
                refine ih61 (by omega) _ _ (fun i z => ?_)
                rcases Nat.lt_or_ge i k with z1 | z1
                · exact hE i z1
                · obtain rfl : i = k := by omega
                  exact (zFI_of hz).mpr q170
              · refine zr_iconst (v := zJ 0) zi62_173 rfl ?_
                refine zr_zreturn zi62_174 rfl (by decide) ?_
                have hz : zir hh 4 k = true := by unfold zir; first | rfl | (rw [q149]; rfl) | (rw [q109]; rfl)
                rw [zia_f (i := k) (by omega) (fun z => q170 ((zFI_of hz).mp z))] at K
                exact K))
    · first
      | (exfalso; omega)
      | (
         refine zr_aload_n zi62_132 rfl ?_
         refine zr_iload zi62_133 rfl ?_
         refine zr_iconst (v := zJ 2) zi62_135 rfl ?_
         refine zr_virtual zi62_136 rfl rfl (G.1.at0 rfl) rfl rfl ?_
         have hx136 := ztl_J (i := k) (how := 2) G.2.1 (show k < w + hh by omega)
         refine zcall_dep (d := 0) (Nat.le_of_ble_eq_true rfl) (c64 G (by omega) (zbk_v ?_))
         rw [hx136.1]
         refine zr_istore (L' := [some (.ref _), some (.ref _), some (.int (zJ _)), some (.int (zJ _)), some (.int (zJ _)), some (.int (zJ _)), some (.int (zJ _))]) zi62_139 rfl rfl ?_
         refine zr_aload_n zi62_141 rfl ?_
         refine zr_iload zi62_142 rfl ?_
         refine zr_virtual zi62_144 rfl rfl (O.1.at0 rfl) rfl rfl ?_
         refine zcall_dep (d := 0) (Nat.le_of_ble_eq_true rfl) (c36 O (i := (ztn w hh k 2)) (by have := hx136.2; omega) (zbk_v ?_))
         refine zr_iload zi62_147 rfl ?_
         refine zr_if_eqN zi62_149 rfl (by omega) (fun q149 => ?_) (fun q149 => ?_)
         · first
           | (exfalso; omega)
           | (
              refine zr_aload_n zi62_164 rfl ?_
              refine zr_iload zi62_165 rfl ?_
              refine zr_virtual zi62_167 rfl rfl (G.1.at0 rfl) rfl rfl ?_
              refine zcall_dep (d := 0) (Nat.le_of_ble_eq_true rfl) (c36 G (i := k) (by omega) (zbk_v ?_))
              refine zr_icmp_eq zi62_170 rfl (fun q170 => ?_) (fun q170 => ?_)
              · refine zr_iincN (z := 1) (L' := [some (.ref _), some (.ref _), some (.int (zJ _)), some (.int (zJ _)), some (.int (zJ _)), some (.int (zJ _)), some (.int (zJ _))]) zi62_175 rfl rfl rfl rfl ?_
                refine zr_goto zi62_178 rfl ?_
                have hz : zir hh 4 k = false := by unfold zir; first | rfl | (rw [q149]; rfl) | (rw [q109]; rfl)
                refine ih61 (by omega) _ _ (fun i z => ?_)
                rcases Nat.lt_or_ge i k with z1 | z1
                · exact hE i z1
                · obtain rfl : i = k := by omega
                  exact (zFI_of hz).mpr q170
              · refine zr_iconst (v := zJ 0) zi62_173 rfl ?_
                refine zr_zreturn zi62_174 rfl (by decide) ?_
                have hz : zir hh 4 k = false := by unfold zir; first | rfl | (rw [q149]; rfl) | (rw [q109]; rfl)
                rw [zia_f (i := k) (by omega) (fun z => q170 ((zFI_of hz).mp z))] at K
                exact K)
         · first
           | (exfalso; omega)
           | (
              refine zr_aload_n zi62_152 rfl ?_
              refine zr_iload zi62_153 rfl ?_
              refine zr_virtual zi62_155 rfl rfl (G.1.at0 rfl) rfl rfl ?_
              refine zcall_dep (d := 0) (Nat.le_of_ble_eq_true rfl) (c36 G (i := k) (by omega) (zbk_v ?_))
              refine zr_static zi62_158 rfl rfl rfl rfl ?_
              refine zcall_dep (d := 0) (Nat.le_of_ble_eq_true rfl) (c65 (zbk_v ?_))
              refine zr_goto zi62_161 rfl ?_
              refine zr_icmp_eq zi62_170 rfl (fun q170 => ?_) (fun q170 => ?_)
              · refine zr_iincN (z := 1) (L' := [some (.ref _), some (.ref _), some (.int (zJ _)), some (.int (zJ _)), some (.int (zJ _)), some (.int (zJ _)), some (.int (zJ _))]) zi62_175 rfl rfl rfl rfl ?_
                refine zr_goto zi62_178 rfl ?_
                have hz : zir hh 4 k = true := by unfold zir; first | rfl | (rw [q149]; rfl) | (rw [q109]; rfl)
                refine ih61 (by omega) _ _ (fun i z => ?_)
                rcases Nat.lt_or_ge i k with z1 | z1
                · exact hE i z1
                · obtain rfl : i = k := by omega
                  exact (zFI_of hz).mpr q170
              · refine zr_iconst (v := zJ 0) zi62_173 rfl ?_
                refine zr_zreturn zi62_174 rfl (by decide) ?_
                have hz : zir hh 4 k = true := by unfold zir; first | rfl | (rw [q149]; rfl) | (rw [q109]; rfl)
                rw [zia_f (i := k) (by omega) (fun z => q170 ((zFI_of hz).mp z))] at K
                exact K))
theorem c62_4 {E : zEnv} {h : zPH} {Q : zOut → zPH → Prop} {g w hh : Nat} {cs cl fs : List Int32} (G : yG h g w hh cs cl fs) {o ow oh : Nat} {os ol ofs : List Int32} (O : yG h o ow oh os ol ofs) (K : Q (.inl (some (.int (zB (zia w hh cl ow oh ol 4))))) h) : zcall E 1 62 [.ref g, .ref o, .int (zJ 4)] h Q := by
  obtain ⟨⟨gw1, gw2, gh1, gh2⟩, gcs, gcl, gfs⟩ := G.2
  obtain ⟨⟨ow1, ow2, oh1, oh2⟩, ocs, ocl, ofl⟩ := O.2
  show zwp E _ 62 (0, [some (.ref _), some (.ref _), some (.int (zJ _)), none, none, none, none], [], _) Q
  refine zr_iload_n zi62_0 rfl ?_
  refine zr_iconst (v := zJ 4) zi62_1 rfl ?_
  refine zr_iand zi62_2 ?_
  refine zr_if_eq zi62_3 rfl (fun q3 => absurd q3 (by decide)) (fun q3 => ?_)
  refine zr_iconst (v := zJ 1) zi62_6 rfl ?_
  refine zr_goto zi62_7 rfl ?_
  refine zr_istore_n (L' := [some (.ref _), some (.ref _), some (.int (zJ _)), some (.int (zJ _)), none, none, none]) zi62_11 rfl rfl ?_
  refine zr_aload_n zi62_12 rfl ?_
  refine zr_getfield zi62_13 (O.1.at0 rfl) rfl ?_
  refine zr_iload_n zi62_16 rfl ?_
  refine zr_if_eqN zi62_17 rfl (by omega) (fun q17 => ?_) (fun q17 => ?_)
  · first
    | (exfalso; omega)
    | (
       refine zr_aload_n zi62_27 rfl ?_
       refine zr_getfield zi62_28 (G.1.at0 rfl) rfl ?_
       refine zr_icmp_neN zi62_31 rfl (by omega) (by omega) (fun q31 => ?_) (fun q31 => ?_)
       · refine zr_iconst (v := zJ 0) zi62_56 rfl ?_
         refine zr_zreturn zi62_57 rfl (by decide) ?_
         rw [show zia w hh cl ow oh ol 4 = false from by first | exact zia_w (show ¬ ow = hh by omega) | exact zia_h (show ¬ oh = w by omega)] at K
         exact K
       · refine zr_aload_n zi62_34 rfl ?_
         refine zr_getfield zi62_35 (O.1.at0 rfl) rfl ?_
         refine zr_iload_n zi62_38 rfl ?_
         refine zr_if_eqN zi62_39 rfl (by omega) (fun q39 => ?_) (fun q39 => ?_)
         · first
           | (exfalso; omega)
           | (
              refine zr_aload_n zi62_49 rfl ?_
              refine zr_getfield zi62_50 (G.1.at0 rfl) rfl ?_
              refine zr_icmp_eqN zi62_53 rfl (by omega) (by omega) (fun q53 => ?_) (fun q53 => ?_)
              · exact c62L_4 G O (by omega) (by omega) K
              · refine zr_iconst (v := zJ 0) zi62_56 rfl ?_
                refine zr_zreturn zi62_57 rfl (by decide) ?_
                rw [show zia w hh cl ow oh ol 4 = false from by first | exact zia_w (show ¬ ow = hh by omega) | exact zia_h (show ¬ oh = w by omega)] at K
                exact K)
         · first
           | (exfalso; omega)
           | (
              refine zr_aload_n zi62_42 rfl ?_
              refine zr_getfield zi62_43 (G.1.at0 rfl) rfl ?_
              refine zr_goto zi62_46 rfl ?_
              refine zr_icmp_eqN zi62_53 rfl (by omega) (by omega) (fun q53 => ?_) (fun q53 => ?_)
              · exact c62L_4 G O (by omega) (by omega) K
              · refine zr_iconst (v := zJ 0) zi62_56 rfl ?_
                refine zr_zreturn zi62_57 rfl (by decide) ?_
                rw [show zia w hh cl ow oh ol 4 = false from by first | exact zia_w (show ¬ ow = hh by omega) | exact zia_h (show ¬ oh = w by omega)] at K
                exact K))
  · first
    | (exfalso; omega)
    | (
       refine zr_aload_n zi62_20 rfl ?_
       refine zr_getfield zi62_21 (G.1.at0 rfl) rfl ?_
       refine zr_goto zi62_24 rfl ?_
       refine zr_icmp_neN zi62_31 rfl (by omega) (by omega) (fun q31 => ?_) (fun q31 => ?_)
       · refine zr_iconst (v := zJ 0) zi62_56 rfl ?_
         refine zr_zreturn zi62_57 rfl (by decide) ?_
         rw [show zia w hh cl ow oh ol 4 = false from by first | exact zia_w (show ¬ ow = hh by omega) | exact zia_h (show ¬ oh = w by omega)] at K
         exact K
       · refine zr_aload_n zi62_34 rfl ?_
         refine zr_getfield zi62_35 (O.1.at0 rfl) rfl ?_
         refine zr_iload_n zi62_38 rfl ?_
         refine zr_if_eqN zi62_39 rfl (by omega) (fun q39 => ?_) (fun q39 => ?_)
         · first
           | (exfalso; omega)
           | (
              refine zr_aload_n zi62_49 rfl ?_
              refine zr_getfield zi62_50 (G.1.at0 rfl) rfl ?_
              refine zr_icmp_eqN zi62_53 rfl (by omega) (by omega) (fun q53 => ?_) (fun q53 => ?_)
              · exact c62L_4 G O (by omega) (by omega) K
              · refine zr_iconst (v := zJ 0) zi62_56 rfl ?_
                refine zr_zreturn zi62_57 rfl (by decide) ?_
                rw [show zia w hh cl ow oh ol 4 = false from by first | exact zia_w (show ¬ ow = hh by omega) | exact zia_h (show ¬ oh = w by omega)] at K
                exact K)
         · first
           | (exfalso; omega)
           | (
              refine zr_aload_n zi62_42 rfl ?_
              refine zr_getfield zi62_43 (G.1.at0 rfl) rfl ?_
              refine zr_goto zi62_46 rfl ?_
              refine zr_icmp_eqN zi62_53 rfl (by omega) (by omega) (fun q53 => ?_) (fun q53 => ?_)
              · exact c62L_4 G O (by omega) (by omega) K
              · refine zr_iconst (v := zJ 0) zi62_56 rfl ?_
                refine zr_zreturn zi62_57 rfl (by decide) ?_
                rw [show zia w hh cl ow oh ol 4 = false from by first | exact zia_w (show ¬ ow = hh by omega) | exact zia_h (show ¬ oh = w by omega)] at K
                exact K))
theorem c62L_5 {E : zEnv} {h : zPH} {Q : zOut → zPH → Prop} {g w hh : Nat} {cs cl fs : List Int32} (G : yG h g w hh cs cl fs) {o ow oh : Nat} {os ol ofs : List Int32} (O : yG h o ow oh os ol ofs) (hd1 : ow = hh) (hd2 : oh = w) (K : Q (.inl (some (.int (zB (zia w hh cl ow oh ol 5))))) h) : zwp E 1 62 (58, [some (.ref g), some (.ref o), some (.int (zJ 5)), some (.int (zJ 1)), none, none, none], [], h) Q := by
  obtain ⟨⟨gw1, gw2, gh1, gh2⟩, gcs, gcl, gfs⟩ := G.2
  obtain ⟨⟨ow1, ow2, oh1, oh2⟩, ocs, ocl, ofl⟩ := O.2
  refine zr_iconst (v := zJ 0) zi62_58 rfl ?_
  refine zr_istore (L' := [some (.ref _), some (.ref _), some (.int (zJ _)), some (.int (zJ _)), some (.int (zJ _)), none, none]) zi62_59 rfl rfl ?_
  suffices key61 : ∀ x5 x6, (∀ i, i < 0 → zFI w hh cl ol 5 i) → zwp E 1 62 (61, [some (.ref g), some (.ref o), some (.int (zJ 5)), some (.int (zJ 1)), some (.int (zJ 0)), x5, x6], [], h) Q from key61 _ _ (fun i z => absurd z (Nat.not_lt_zero i))
  refine zloop (P := fun k => ∀ x5 x6, (∀ i, i < k → zFI w hh cl ol 5 i) → zwp E 1 62 (61, [some (.ref g), some (.ref o), some (.int (zJ 5)), some (.int (zJ 1)), some (.int (zJ k)), x5, x6], [], h) Q) (n := w + hh) fun k hk61 ih61 => ?_
  intro x5 x6 hE
  refine zr_iload zi62_61 rfl ?_
  refine zr_aload_n zi62_63 rfl ?_
  refine zr_virtual zi62_64 rfl rfl (G.1.at0 rfl) rfl rfl ?_
  refine zcall_dep (d := 0) (Nat.le_of_ble_eq_true rfl) (c4 G (zbk_v ?_))
  refine zr_icmp_geN zi62_67 rfl (by omega) (by omega) (fun q67 => ?_) (fun q67 => ?_)
  · refine zr_iconst (v := zJ 1) zi62_181 rfl ?_
    refine zr_zreturn zi62_182 rfl (by decide) ?_
    rw [zia_t hd1 hd2 (fun i hi => hE i (by omega))] at K
    exact K
  · refine zr_iload zi62_70 rfl ?_
    refine zr_istore (L' := [some (.ref _), some (.ref _), some (.int (zJ _)), some (.int (zJ _)), some (.int (zJ _)), some (.int (zJ _)), _]) zi62_72 rfl rfl ?_
    refine zr_iconst (v := zJ 0) zi62_74 rfl ?_
    refine zr_istore (L' := [some (.ref _), some (.ref _), some (.int (zJ _)), some (.int (zJ _)), some (.int (zJ _)), some (.int (zJ _)), some (.int (zJ _))]) zi62_75 rfl rfl ?_
    refine zr_iload_n zi62_77 rfl ?_
    refine zr_iconst (v := zJ 1) zi62_78 rfl ?_
    refine zr_iand zi62_79 ?_
    refine zr_if_eq zi62_80 rfl (fun q80 => absurd q80 (by decide)) (fun q80 => ?_)
    refine zr_aload_n zi62_83 rfl ?_
    refine zr_iload zi62_84 rfl ?_
    refine zr_iconst (v := zJ 1) zi62_86 rfl ?_
    refine zr_virtual zi62_87 rfl rfl (G.1.at0 rfl) rfl rfl ?_
    refine zcall_dep (d := 0) (Nat.le_of_ble_eq_true rfl) (c63 G (by omega) (by omega) (zbk_v ?_))
    refine zr_istore (L' := [some (.ref _), some (.ref _), some (.int (zJ _)), some (.int (zJ _)), some (.int (zJ _)), some (.int (zJ _)), some (.int (zB _))]) zi62_90 rfl rfl ?_
    refine zr_aload_n zi62_92 rfl ?_
    refine zr_iload zi62_93 rfl ?_
    refine zr_iconst (v := zJ 1) zi62_95 rfl ?_
    refine zr_virtual zi62_96 rfl rfl (G.1.at0 rfl) rfl rfl ?_
    have hx96 := ztl_J (i := k) (how := 1) G.2.1 (show k < w + hh by omega)
    refine zcall_dep (d := 0) (Nat.le_of_ble_eq_true rfl) (c64 G (by omega) (zbk_v ?_))
    rw [hx96.1]
    refine zr_istore (L' := [some (.ref _), some (.ref _), some (.int (zJ _)), some (.int (zJ _)), some (.int (zJ _)), some (.int (zJ _)), some (.int (zB _))]) zi62_99 rfl rfl ?_
    refine zr_iload_n zi62_101 rfl ?_
    refine zr_iconst (v := zJ 2) zi62_102 rfl ?_
    refine zr_iand zi62_103 ?_
    refine zr_if_eq zi62_104 rfl (fun q104 => ?_) (fun q104 => absurd q104 (by decide))
    refine zr_iload_n zi62_128 rfl ?_
    refine zr_if_eqN zi62_129 rfl (by omega) (fun q129 => ?_) (fun q129 => ?_)
    · first
      | (exfalso; omega)
      | (
         refine zr_aload_n zi62_141 rfl ?_
         refine zr_iload zi62_142 rfl ?_
         refine zr_virtual zi62_144 rfl rfl (O.1.at0 rfl) rfl rfl ?_
         refine zcall_dep (d := 0) (Nat.le_of_ble_eq_true rfl) (c36 O (i := (ztn w hh (ztn w hh k 1) 2)) (by have := hx136.2; omega) (zbk_v ?_))
         refine zr_iload zi62_147 rfl ?_
         refine zr_if_eqB zi62_149 rfl (fun q149 => ?_) (fun q149 => ?_)
         · first
           | (exfalso; omega)
           | (
              refine zr_aload_n zi62_164 rfl ?_
              refine zr_iload zi62_165 rfl ?_
              refine zr_virtual zi62_167 rfl rfl (G.1.at0 rfl) rfl rfl ?_
              refine zcall_dep (d := 0) (Nat.le_of_ble_eq_true rfl) (c36 G (i := k) (by omega) (zbk_v ?_))
              refine zr_icmp_eq zi62_170 rfl (fun q170 => ?_) (fun q170 => ?_)
              · refine zr_iincN (z := 1) (L' := [some (.ref _), some (.ref _), some (.int (zJ _)), some (.int (zJ _)), some (.int (zJ _)), some (.int (zJ _)), some (.int (zB _))]) zi62_175 rfl rfl rfl rfl ?_
                refine zr_goto zi62_178 rfl ?_
                have hz : zir hh 5 k = false := by unfold zir; first | rfl | (rw [q149]; rfl) | (rw [q109]; rfl)
                refine ih61 (by omega) _ _ (fun i z => ?_)
                rcases Nat.lt_or_ge i k with z1 | z1
                · exact hE i z1
                · obtain rfl : i = k := by omega
                  exact (zFI_of hz).mpr q170
              · refine zr_iconst (v := zJ 0) zi62_173 rfl ?_
                refine zr_zreturn zi62_174 rfl (by decide) ?_
                have hz : zir hh 5 k = false := by unfold zir; first | rfl | (rw [q149]; rfl) | (rw [q109]; rfl)
                rw [zia_f (i := k) (by omega) (fun z => q170 ((zFI_of hz).mp z))] at K
                exact K)
         · first
           | (exfalso; omega)
           | (
              refine zr_aload_n zi62_152 rfl ?_
              refine zr_iload zi62_153 rfl ?_
              refine zr_virtual zi62_155 rfl rfl (G.1.at0 rfl) rfl rfl ?_
              refine zcall_dep (d := 0) (Nat.le_of_ble_eq_true rfl) (c36 G (i := k) (by omega) (zbk_v ?_))
              refine zr_static zi62_158 rfl rfl rfl rfl ?_
              refine zcall_dep (d := 0) (Nat.le_of_ble_eq_true rfl) (c65 (zbk_v ?_))
              refine zr_goto zi62_161 rfl ?_
              refine zr_icmp_eq zi62_170 rfl (fun q170 => ?_) (fun q170 => ?_)
              · refine zr_iincN (z := 1) (L' := [some (.ref _), some (.ref _), some (.int (zJ _)), some (.int (zJ _)), some (.int (zJ _)), some (.int (zJ _)), some (.int (zB _))]) zi62_175 rfl rfl rfl rfl ?_
                refine zr_goto zi62_178 rfl ?_
                have hz : zir hh 5 k = true := by unfold zir; first | rfl | (rw [q149]; rfl) | (rw [q109]; rfl)
                refine ih61 (by omega) _ _ (fun i z => ?_)
                rcases Nat.lt_or_ge i k with z1 | z1
                · exact hE i z1
                · obtain rfl : i = k := by omega
                  exact (zFI_of hz).mpr q170
              · refine zr_iconst (v := zJ 0) zi62_173 rfl ?_
                refine zr_zreturn zi62_174 rfl (by decide) ?_
                have hz : zir hh 5 k = true := by unfold zir; first | rfl | (rw [q149]; rfl) | (rw [q109]; rfl)
                rw [zia_f (i := k) (by omega) (fun z => q170 ((zFI_of hz).mp z))] at K
                exact K))
    · first
      | (exfalso; omega)
      | (
         refine zr_aload_n zi62_132 rfl ?_
         refine zr_iload zi62_133 rfl ?_
         refine zr_iconst (v := zJ 2) zi62_135 rfl ?_
         refine zr_virtual zi62_136 rfl rfl (G.1.at0 rfl) rfl rfl ?_
         have hx136 := ztl_J (i := (ztn w hh k 1)) (how := 2) G.2.1 hx96.2
         refine zcall_dep (d := 0) (Nat.le_of_ble_eq_true rfl) (c64 G (by omega) (zbk_v ?_))
         rw [hx136.1]
         refine zr_istore (L' := [some (.ref _), some (.ref _), some (.int (zJ _)), some (.int (zJ _)), some (.int (zJ _)), some (.int (zJ _)), some (.int (zB _))]) zi62_139 rfl rfl ?_
         refine zr_aload_n zi62_141 rfl ?_
         refine zr_iload zi62_142 rfl ?_
         refine zr_virtual zi62_144 rfl rfl (O.1.at0 rfl) rfl rfl ?_
         refine zcall_dep (d := 0) (Nat.le_of_ble_eq_true rfl) (c36 O (i := (ztn w hh (ztn w hh k 1) 2)) (by have := hx136.2; omega) (zbk_v ?_))
         refine zr_iload zi62_147 rfl ?_
         refine zr_if_eqB zi62_149 rfl (fun q149 => ?_) (fun q149 => ?_)
         · first
           | (exfalso; omega)
           | (
              refine zr_aload_n zi62_164 rfl ?_
              refine zr_iload zi62_165 rfl ?_
              refine zr_virtual zi62_167 rfl rfl (G.1.at0 rfl) rfl rfl ?_
              refine zcall_dep (d := 0) (Nat.le_of_ble_eq_true rfl) (c36 G (i := k) (by omega) (zbk_v ?_))
              refine zr_icmp_eq zi62_170 rfl (fun q170 => ?_) (fun q170 => ?_)
              · refine zr_iincN (z := 1) (L' := [some (.ref _), some (.ref _), some (.int (zJ _)), some (.int (zJ _)), some (.int (zJ _)), some (.int (zJ _)), some (.int (zB _))]) zi62_175 rfl rfl rfl rfl ?_
                refine zr_goto zi62_178 rfl ?_
                have hz : zir hh 5 k = false := by unfold zir; first | rfl | (rw [q149]; rfl) | (rw [q109]; rfl)
                refine ih61 (by omega) _ _ (fun i z => ?_)
                rcases Nat.lt_or_ge i k with z1 | z1
                · exact hE i z1
                · obtain rfl : i = k := by omega
                  exact (zFI_of hz).mpr q170
              · refine zr_iconst (v := zJ 0) zi62_173 rfl ?_
                refine zr_zreturn zi62_174 rfl (by decide) ?_
                have hz : zir hh 5 k = false := by unfold zir; first | rfl | (rw [q149]; rfl) | (rw [q109]; rfl)
                rw [zia_f (i := k) (by omega) (fun z => q170 ((zFI_of hz).mp z))] at K
                exact K)
         · first
           | (exfalso; omega)
           | (
              refine zr_aload_n zi62_152 rfl ?_
              refine zr_iload zi62_153 rfl ?_
              refine zr_virtual zi62_155 rfl rfl (G.1.at0 rfl) rfl rfl ?_
              refine zcall_dep (d := 0) (Nat.le_of_ble_eq_true rfl) (c36 G (i := k) (by omega) (zbk_v ?_))
              refine zr_static zi62_158 rfl rfl rfl rfl ?_
              refine zcall_dep (d := 0) (Nat.le_of_ble_eq_true rfl) (c65 (zbk_v ?_))
              refine zr_goto zi62_161 rfl ?_
              refine zr_icmp_eq zi62_170 rfl (fun q170 => ?_) (fun q170 => ?_)
              · refine zr_iincN (z := 1) (L' := [some (.ref _), some (.ref _), some (.int (zJ _)), some (.int (zJ _)), some (.int (zJ _)), some (.int (zJ _)), some (.int (zB _))]) zi62_175 rfl rfl rfl rfl ?_
                refine zr_goto zi62_178 rfl ?_
                have hz : zir hh 5 k = true := by unfold zir; first | rfl | (rw [q149]; rfl) | (rw [q109]; rfl)
                refine ih61 (by omega) _ _ (fun i z => ?_)
                rcases Nat.lt_or_ge i k with z1 | z1
                · exact hE i z1
                · obtain rfl : i = k := by omega
                  exact (zFI_of hz).mpr q170
              · refine zr_iconst (v := zJ 0) zi62_173 rfl ?_
                refine zr_zreturn zi62_174 rfl (by decide) ?_
                have hz : zir hh 5 k = true := by unfold zir; first | rfl | (rw [q149]; rfl) | (rw [q109]; rfl)
                rw [zia_f (i := k) (by omega) (fun z => q170 ((zFI_of hz).mp z))] at K
                exact K))
theorem c62_5 {E : zEnv} {h : zPH} {Q : zOut → zPH → Prop} {g w hh : Nat} {cs cl fs : List Int32} (G : yG h g w hh cs cl fs) {o ow oh : Nat} {os ol ofs : List Int32} (O : yG h o ow oh os ol ofs) (K : Q (.inl (some (.int (zB (zia w hh cl ow oh ol 5))))) h) : zcall E 1 62 [.ref g, .ref o, .int (zJ 5)] h Q := by
  obtain ⟨⟨gw1, gw2, gh1, gh2⟩, gcs, gcl, gfs⟩ := G.2
  obtain ⟨⟨ow1, ow2, oh1, oh2⟩, ocs, ocl, ofl⟩ := O.2
  show zwp E _ 62 (0, [some (.ref _), some (.ref _), some (.int (zJ _)), none, none, none, none], [], _) Q
  refine zr_iload_n zi62_0 rfl ?_
  refine zr_iconst (v := zJ 4) zi62_1 rfl ?_
  refine zr_iand zi62_2 ?_
  refine zr_if_eq zi62_3 rfl (fun q3 => absurd q3 (by decide)) (fun q3 => ?_)
  refine zr_iconst (v := zJ 1) zi62_6 rfl ?_
  refine zr_goto zi62_7 rfl ?_
  refine zr_istore_n (L' := [some (.ref _), some (.ref _), some (.int (zJ _)), some (.int (zJ _)), none, none, none]) zi62_11 rfl rfl ?_
  refine zr_aload_n zi62_12 rfl ?_
  refine zr_getfield zi62_13 (O.1.at0 rfl) rfl ?_
  refine zr_iload_n zi62_16 rfl ?_
  refine zr_if_eqN zi62_17 rfl (by omega) (fun q17 => ?_) (fun q17 => ?_)
  · first
    | (exfalso; omega)
    | (
       refine zr_aload_n zi62_27 rfl ?_
       refine zr_getfield zi62_28 (G.1.at0 rfl) rfl ?_
       refine zr_icmp_neN zi62_31 rfl (by omega) (by omega) (fun q31 => ?_) (fun q31 => ?_)
       · refine zr_iconst (v := zJ 0) zi62_56 rfl ?_
         refine zr_zreturn zi62_57 rfl (by decide) ?_
         rw [show zia w hh cl ow oh ol 5 = false from by first | exact zia_w (show ¬ ow = hh by omega) | exact zia_h (show ¬ oh = w by omega)] at K
         exact K
       · refine zr_aload_n zi62_34 rfl ?_
         refine zr_getfield zi62_35 (O.1.at0 rfl) rfl ?_
         refine zr_iload_n zi62_38 rfl ?_
         refine zr_if_eqN zi62_39 rfl (by omega) (fun q39 => ?_) (fun q39 => ?_)
         · first
           | (exfalso; omega)
           | (
              refine zr_aload_n zi62_49 rfl ?_
              refine zr_getfield zi62_50 (G.1.at0 rfl) rfl ?_
              refine zr_icmp_eqN zi62_53 rfl (by omega) (by omega) (fun q53 => ?_) (fun q53 => ?_)
              · exact c62L_5 G O (by omega) (by omega) K
              · refine zr_iconst (v := zJ 0) zi62_56 rfl ?_
                refine zr_zreturn zi62_57 rfl (by decide) ?_
                rw [show zia w hh cl ow oh ol 5 = false from by first | exact zia_w (show ¬ ow = hh by omega) | exact zia_h (show ¬ oh = w by omega)] at K
                exact K)
         · first
           | (exfalso; omega)
           | (
              refine zr_aload_n zi62_42 rfl ?_
              refine zr_getfield zi62_43 (G.1.at0 rfl) rfl ?_
              refine zr_goto zi62_46 rfl ?_
              refine zr_icmp_eqN zi62_53 rfl (by omega) (by omega) (fun q53 => ?_) (fun q53 => ?_)
              · exact c62L_5 G O (by omega) (by omega) K
              · refine zr_iconst (v := zJ 0) zi62_56 rfl ?_
                refine zr_zreturn zi62_57 rfl (by decide) ?_
                rw [show zia w hh cl ow oh ol 5 = false from by first | exact zia_w (show ¬ ow = hh by omega) | exact zia_h (show ¬ oh = w by omega)] at K
                exact K))
  · first
    | (exfalso; omega)
    | (
       refine zr_aload_n zi62_20 rfl ?_
       refine zr_getfield zi62_21 (G.1.at0 rfl) rfl ?_
       refine zr_goto zi62_24 rfl ?_
       refine zr_icmp_neN zi62_31 rfl (by omega) (by omega) (fun q31 => ?_) (fun q31 => ?_)
       · refine zr_iconst (v := zJ 0) zi62_56 rfl ?_
         refine zr_zreturn zi62_57 rfl (by decide) ?_
         rw [show zia w hh cl ow oh ol 5 = false from by first | exact zia_w (show ¬ ow = hh by omega) | exact zia_h (show ¬ oh = w by omega)] at K
         exact K
       · refine zr_aload_n zi62_34 rfl ?_
         refine zr_getfield zi62_35 (O.1.at0 rfl) rfl ?_
         refine zr_iload_n zi62_38 rfl ?_
         refine zr_if_eqN zi62_39 rfl (by omega) (fun q39 => ?_) (fun q39 => ?_)
         · first
           | (exfalso; omega)
           | (
              refine zr_aload_n zi62_49 rfl ?_
              refine zr_getfield zi62_50 (G.1.at0 rfl) rfl ?_
              refine zr_icmp_eqN zi62_53 rfl (by omega) (by omega) (fun q53 => ?_) (fun q53 => ?_)
              · exact c62L_5 G O (by omega) (by omega) K
              · refine zr_iconst (v := zJ 0) zi62_56 rfl ?_
                refine zr_zreturn zi62_57 rfl (by decide) ?_
                rw [show zia w hh cl ow oh ol 5 = false from by first | exact zia_w (show ¬ ow = hh by omega) | exact zia_h (show ¬ oh = w by omega)] at K
                exact K)
         · first
           | (exfalso; omega)
           | (
              refine zr_aload_n zi62_42 rfl ?_
              refine zr_getfield zi62_43 (G.1.at0 rfl) rfl ?_
              refine zr_goto zi62_46 rfl ?_
              refine zr_icmp_eqN zi62_53 rfl (by omega) (by omega) (fun q53 => ?_) (fun q53 => ?_)
              · exact c62L_5 G O (by omega) (by omega) K
              · refine zr_iconst (v := zJ 0) zi62_56 rfl ?_
                refine zr_zreturn zi62_57 rfl (by decide) ?_
                rw [show zia w hh cl ow oh ol 5 = false from by first | exact zia_w (show ¬ ow = hh by omega) | exact zia_h (show ¬ oh = w by omega)] at K
                exact K))
theorem c62L_6 {E : zEnv} {h : zPH} {Q : zOut → zPH → Prop} {g w hh : Nat} {cs cl fs : List Int32} (G : yG h g w hh cs cl fs) {o ow oh : Nat} {os ol ofs : List Int32} (O : yG h o ow oh os ol ofs) (hd1 : ow = hh) (hd2 : oh = w) (K : Q (.inl (some (.int (zB (zia w hh cl ow oh ol 6))))) h) : zwp E 1 62 (58, [some (.ref g), some (.ref o), some (.int (zJ 6)), some (.int (zJ 1)), none, none, none], [], h) Q := by
  obtain ⟨⟨gw1, gw2, gh1, gh2⟩, gcs, gcl, gfs⟩ := G.2
  obtain ⟨⟨ow1, ow2, oh1, oh2⟩, ocs, ocl, ofl⟩ := O.2
  refine zr_iconst (v := zJ 0) zi62_58 rfl ?_
  refine zr_istore (L' := [some (.ref _), some (.ref _), some (.int (zJ _)), some (.int (zJ _)), some (.int (zJ _)), none, none]) zi62_59 rfl rfl ?_
  suffices key61 : ∀ x5 x6, (∀ i, i < 0 → zFI w hh cl ol 6 i) → zwp E 1 62 (61, [some (.ref g), some (.ref o), some (.int (zJ 6)), some (.int (zJ 1)), some (.int (zJ 0)), x5, x6], [], h) Q from key61 _ _ (fun i z => absurd z (Nat.not_lt_zero i))
  refine zloop (P := fun k => ∀ x5 x6, (∀ i, i < k → zFI w hh cl ol 6 i) → zwp E 1 62 (61, [some (.ref g), some (.ref o), some (.int (zJ 6)), some (.int (zJ 1)), some (.int (zJ k)), x5, x6], [], h) Q) (n := w + hh) fun k hk61 ih61 => ?_
  intro x5 x6 hE
  refine zr_iload zi62_61 rfl ?_
  refine zr_aload_n zi62_63 rfl ?_
  refine zr_virtual zi62_64 rfl rfl (G.1.at0 rfl) rfl rfl ?_
  refine zcall_dep (d := 0) (Nat.le_of_ble_eq_true rfl) (c4 G (zbk_v ?_))
  refine zr_icmp_geN zi62_67 rfl (by omega) (by omega) (fun q67 => ?_) (fun q67 => ?_)
  · refine zr_iconst (v := zJ 1) zi62_181 rfl ?_
    refine zr_zreturn zi62_182 rfl (by decide) ?_
    rw [zia_t hd1 hd2 (fun i hi => hE i (by omega))] at K
    exact K
  · refine zr_iload zi62_70 rfl ?_
    refine zr_istore (L' := [some (.ref _), some (.ref _), some (.int (zJ _)), some (.int (zJ _)), some (.int (zJ _)), some (.int (zJ _)), _]) zi62_72 rfl rfl ?_
    refine zr_iconst (v := zJ 0) zi62_74 rfl ?_
    refine zr_istore (L' := [some (.ref _), some (.ref _), some (.int (zJ _)), some (.int (zJ _)), some (.int (zJ _)), some (.int (zJ _)), some (.int (zJ _))]) zi62_75 rfl rfl ?_
    refine zr_iload_n zi62_77 rfl ?_
    refine zr_iconst (v := zJ 1) zi62_78 rfl ?_
    refine zr_iand zi62_79 ?_
    refine zr_if_eq zi62_80 rfl (fun q80 => ?_) (fun q80 => absurd q80 (by decide))
    refine zr_iload_n zi62_101 rfl ?_
    refine zr_iconst (v := zJ 2) zi62_102 rfl ?_
    refine zr_iand zi62_103 ?_
    refine zr_if_eq zi62_104 rfl (fun q104 => absurd q104 (by decide)) (fun q104 => ?_)
    refine zr_iload zi62_107 rfl ?_
    refine zr_if_neN zi62_109 rfl (by omega) (fun q109 => ?_) (fun q109 => ?_)
    · first
      | (exfalso; omega)
      | (
         refine zr_iconst (v := zJ 0) zi62_116 rfl ?_
         refine zr_istore (L' := [some (.ref _), some (.ref _), some (.int (zJ _)), some (.int (zJ _)), some (.int (zJ _)), some (.int (zJ _)), some (.int (zJ _))]) zi62_117 rfl rfl ?_
         refine zr_aload_n zi62_119 rfl ?_
         refine zr_iload zi62_120 rfl ?_
         refine zr_iconst (v := zJ 0) zi62_122 rfl ?_
         refine zr_virtual zi62_123 rfl rfl (G.1.at0 rfl) rfl rfl ?_
         have hx123 := ztl_J (i := k) (how := 0) G.2.1 (show k < w + hh by omega)
         refine zcall_dep (d := 0) (Nat.le_of_ble_eq_true rfl) (c64 G (by omega) (zbk_v ?_))
         rw [hx123.1]
         refine zr_istore (L' := [some (.ref _), some (.ref _), some (.int (zJ _)), some (.int (zJ _)), some (.int (zJ _)), some (.int (zJ _)), some (.int (zJ _))]) zi62_126 rfl rfl ?_
         refine zr_iload_n zi62_128 rfl ?_
         refine zr_if_eqN zi62_129 rfl (by omega) (fun q129 => ?_) (fun q129 => ?_)
         · first
           | (exfalso; omega)
           | (
              refine zr_aload_n zi62_141 rfl ?_
              refine zr_iload zi62_142 rfl ?_
              refine zr_virtual zi62_144 rfl rfl (O.1.at0 rfl) rfl rfl ?_
              refine zcall_dep (d := 0) (Nat.le_of_ble_eq_true rfl) (c36 O (i := (ztn w hh (ztn w hh k 0) 2)) (by have := hx136.2; omega) (zbk_v ?_))
              refine zr_iload zi62_147 rfl ?_
              refine zr_if_eqN zi62_149 rfl (by omega) (fun q149 => ?_) (fun q149 => ?_)
              · first
                | (exfalso; omega)
                | (
                   refine zr_aload_n zi62_164 rfl ?_
                   refine zr_iload zi62_165 rfl ?_
                   refine zr_virtual zi62_167 rfl rfl (G.1.at0 rfl) rfl rfl ?_
                   refine zcall_dep (d := 0) (Nat.le_of_ble_eq_true rfl) (c36 G (i := k) (by omega) (zbk_v ?_))
                   refine zr_icmp_eq zi62_170 rfl (fun q170 => ?_) (fun q170 => ?_)
                   · refine zr_iincN (z := 1) (L' := [some (.ref _), some (.ref _), some (.int (zJ _)), some (.int (zJ _)), some (.int (zJ _)), some (.int (zJ _)), some (.int (zJ _))]) zi62_175 rfl rfl rfl rfl ?_
                     refine zr_goto zi62_178 rfl ?_
                     have hz : zir hh 6 k = false := by unfold zir; first | rfl | (rw [q149]; rfl) | (rw [q109]; rfl)
                     refine ih61 (by omega) _ _ (fun i z => ?_)
                     rcases Nat.lt_or_ge i k with z1 | z1
                     · exact hE i z1
                     · obtain rfl : i = k := by omega
                       exact (zFI_of hz).mpr q170
                   · refine zr_iconst (v := zJ 0) zi62_173 rfl ?_
                     refine zr_zreturn zi62_174 rfl (by decide) ?_
                     have hz : zir hh 6 k = false := by unfold zir; first | rfl | (rw [q149]; rfl) | (rw [q109]; rfl)
                     rw [zia_f (i := k) (by omega) (fun z => q170 ((zFI_of hz).mp z))] at K
                     exact K)
              · first
                | (exfalso; omega)
                | (
                   refine zr_aload_n zi62_152 rfl ?_
                   refine zr_iload zi62_153 rfl ?_
                   refine zr_virtual zi62_155 rfl rfl (G.1.at0 rfl) rfl rfl ?_
                   refine zcall_dep (d := 0) (Nat.le_of_ble_eq_true rfl) (c36 G (i := k) (by omega) (zbk_v ?_))
                   refine zr_static zi62_158 rfl rfl rfl rfl ?_
                   refine zcall_dep (d := 0) (Nat.le_of_ble_eq_true rfl) (c65 (zbk_v ?_))
                   refine zr_goto zi62_161 rfl ?_
                   refine zr_icmp_eq zi62_170 rfl (fun q170 => ?_) (fun q170 => ?_)
                   · refine zr_iincN (z := 1) (L' := [some (.ref _), some (.ref _), some (.int (zJ _)), some (.int (zJ _)), some (.int (zJ _)), some (.int (zJ _)), some (.int (zJ _))]) zi62_175 rfl rfl rfl rfl ?_
                     refine zr_goto zi62_178 rfl ?_
                     have hz : zir hh 6 k = true := by unfold zir; first | rfl | (rw [q149]; rfl) | (rw [q109]; rfl)
                     refine ih61 (by omega) _ _ (fun i z => ?_)
                     rcases Nat.lt_or_ge i k with z1 | z1
                     · exact hE i z1
                     · obtain rfl : i = k := by omega
                       exact (zFI_of hz).mpr q170
                   · refine zr_iconst (v := zJ 0) zi62_173 rfl ?_
                     refine zr_zreturn zi62_174 rfl (by decide) ?_
                     have hz : zir hh 6 k = true := by unfold zir; first | rfl | (rw [q149]; rfl) | (rw [q109]; rfl)
                     rw [zia_f (i := k) (by omega) (fun z => q170 ((zFI_of hz).mp z))] at K
                     exact K))
         · first
           | (exfalso; omega)
           | (
              refine zr_aload_n zi62_132 rfl ?_
              refine zr_iload zi62_133 rfl ?_
              refine zr_iconst (v := zJ 2) zi62_135 rfl ?_
              refine zr_virtual zi62_136 rfl rfl (G.1.at0 rfl) rfl rfl ?_
              have hx136 := ztl_J (i := (ztn w hh k 0)) (how := 2) G.2.1 hx123.2
              refine zcall_dep (d := 0) (Nat.le_of_ble_eq_true rfl) (c64 G (by omega) (zbk_v ?_))
              rw [hx136.1]
              refine zr_istore (L' := [some (.ref _), some (.ref _), some (.int (zJ _)), some (.int (zJ _)), some (.int (zJ _)), some (.int (zJ _)), some (.int (zJ _))]) zi62_139 rfl rfl ?_
              refine zr_aload_n zi62_141 rfl ?_
              refine zr_iload zi62_142 rfl ?_
              refine zr_virtual zi62_144 rfl rfl (O.1.at0 rfl) rfl rfl ?_
              refine zcall_dep (d := 0) (Nat.le_of_ble_eq_true rfl) (c36 O (i := (ztn w hh (ztn w hh k 0) 2)) (by have := hx136.2; omega) (zbk_v ?_))
              refine zr_iload zi62_147 rfl ?_
              refine zr_if_eqN zi62_149 rfl (by omega) (fun q149 => ?_) (fun q149 => ?_)
              · first
                | (exfalso; omega)
                | (
                   refine zr_aload_n zi62_164 rfl ?_
                   refine zr_iload zi62_165 rfl ?_
                   refine zr_virtual zi62_167 rfl rfl (G.1.at0 rfl) rfl rfl ?_
                   refine zcall_dep (d := 0) (Nat.le_of_ble_eq_true rfl) (c36 G (i := k) (by omega) (zbk_v ?_))
                   refine zr_icmp_eq zi62_170 rfl (fun q170 => ?_) (fun q170 => ?_)
                   · refine zr_iincN (z := 1) (L' := [some (.ref _), some (.ref _), some (.int (zJ _)), some (.int (zJ _)), some (.int (zJ _)), some (.int (zJ _)), some (.int (zJ _))]) zi62_175 rfl rfl rfl rfl ?_
                     refine zr_goto zi62_178 rfl ?_
                     have hz : zir hh 6 k = false := by unfold zir; first | rfl | (rw [q149]; rfl) | (rw [q109]; rfl)
                     refine ih61 (by omega) _ _ (fun i z => ?_)
                     rcases Nat.lt_or_ge i k with z1 | z1
                     · exact hE i z1
                     · obtain rfl : i = k := by omega
                       exact (zFI_of hz).mpr q170
                   · refine zr_iconst (v := zJ 0) zi62_173 rfl ?_
                     refine zr_zreturn zi62_174 rfl (by decide) ?_
                     have hz : zir hh 6 k = false := by unfold zir; first | rfl | (rw [q149]; rfl) | (rw [q109]; rfl)
                     rw [zia_f (i := k) (by omega) (fun z => q170 ((zFI_of hz).mp z))] at K
                     exact K)
              · first
                | (exfalso; omega)
                | (
                   refine zr_aload_n zi62_152 rfl ?_
                   refine zr_iload zi62_153 rfl ?_
                   refine zr_virtual zi62_155 rfl rfl (G.1.at0 rfl) rfl rfl ?_
                   refine zcall_dep (d := 0) (Nat.le_of_ble_eq_true rfl) (c36 G (i := k) (by omega) (zbk_v ?_))
                   refine zr_static zi62_158 rfl rfl rfl rfl ?_
                   refine zcall_dep (d := 0) (Nat.le_of_ble_eq_true rfl) (c65 (zbk_v ?_))
                   refine zr_goto zi62_161 rfl ?_
                   refine zr_icmp_eq zi62_170 rfl (fun q170 => ?_) (fun q170 => ?_)
                   · refine zr_iincN (z := 1) (L' := [some (.ref _), some (.ref _), some (.int (zJ _)), some (.int (zJ _)), some (.int (zJ _)), some (.int (zJ _)), some (.int (zJ _))]) zi62_175 rfl rfl rfl rfl ?_
                     refine zr_goto zi62_178 rfl ?_
                     have hz : zir hh 6 k = true := by unfold zir; first | rfl | (rw [q149]; rfl) | (rw [q109]; rfl)
                     refine ih61 (by omega) _ _ (fun i z => ?_)
                     rcases Nat.lt_or_ge i k with z1 | z1
                     · exact hE i z1
                     · obtain rfl : i = k := by omega
                       exact (zFI_of hz).mpr q170
                   · refine zr_iconst (v := zJ 0) zi62_173 rfl ?_
                     refine zr_zreturn zi62_174 rfl (by decide) ?_
                     have hz : zir hh 6 k = true := by unfold zir; first | rfl | (rw [q149]; rfl) | (rw [q109]; rfl)
                     rw [zia_f (i := k) (by omega) (fun z => q170 ((zFI_of hz).mp z))] at K
                     exact K)))
    · first
      | (exfalso; omega)
      | (
         refine zr_iconst (v := zJ 1) zi62_112 rfl ?_
         refine zr_goto zi62_113 rfl ?_
         refine zr_istore (L' := [some (.ref _), some (.ref _), some (.int (zJ _)), some (.int (zJ _)), some (.int (zJ _)), some (.int (zJ _)), some (.int (zJ _))]) zi62_117 rfl rfl ?_
         refine zr_aload_n zi62_119 rfl ?_
         refine zr_iload zi62_120 rfl ?_
         refine zr_iconst (v := zJ 0) zi62_122 rfl ?_
         refine zr_virtual zi62_123 rfl rfl (G.1.at0 rfl) rfl rfl ?_
         have hx123 := ztl_J (i := k) (how := 0) G.2.1 (show k < w + hh by omega)
         refine zcall_dep (d := 0) (Nat.le_of_ble_eq_true rfl) (c64 G (by omega) (zbk_v ?_))
         rw [hx123.1]
         refine zr_istore (L' := [some (.ref _), some (.ref _), some (.int (zJ _)), some (.int (zJ _)), some (.int (zJ _)), some (.int (zJ _)), some (.int (zJ _))]) zi62_126 rfl rfl ?_
         refine zr_iload_n zi62_128 rfl ?_
         refine zr_if_eqN zi62_129 rfl (by omega) (fun q129 => ?_) (fun q129 => ?_)
         · first
           | (exfalso; omega)
           | (
              refine zr_aload_n zi62_141 rfl ?_
              refine zr_iload zi62_142 rfl ?_
              refine zr_virtual zi62_144 rfl rfl (O.1.at0 rfl) rfl rfl ?_
              refine zcall_dep (d := 0) (Nat.le_of_ble_eq_true rfl) (c36 O (i := (ztn w hh (ztn w hh k 0) 2)) (by have := hx136.2; omega) (zbk_v ?_))
              refine zr_iload zi62_147 rfl ?_
              refine zr_if_eqN zi62_149 rfl (by omega) (fun q149 => ?_) (fun q149 => ?_)
              · first
                | (exfalso; omega)
                | (
                   refine zr_aload_n zi62_164 rfl ?_
                   refine zr_iload zi62_165 rfl ?_
                   refine zr_virtual zi62_167 rfl rfl (G.1.at0 rfl) rfl rfl ?_
                   refine zcall_dep (d := 0) (Nat.le_of_ble_eq_true rfl) (c36 G (i := k) (by omega) (zbk_v ?_))
                   refine zr_icmp_eq zi62_170 rfl (fun q170 => ?_) (fun q170 => ?_)
                   · refine zr_iincN (z := 1) (L' := [some (.ref _), some (.ref _), some (.int (zJ _)), some (.int (zJ _)), some (.int (zJ _)), some (.int (zJ _)), some (.int (zJ _))]) zi62_175 rfl rfl rfl rfl ?_
                     refine zr_goto zi62_178 rfl ?_
                     have hz : zir hh 6 k = false := by unfold zir; first | rfl | (rw [q149]; rfl) | (rw [q109]; rfl)
                     refine ih61 (by omega) _ _ (fun i z => ?_)
                     rcases Nat.lt_or_ge i k with z1 | z1
                     · exact hE i z1
                     · obtain rfl : i = k := by omega
                       exact (zFI_of hz).mpr q170
                   · refine zr_iconst (v := zJ 0) zi62_173 rfl ?_
                     refine zr_zreturn zi62_174 rfl (by decide) ?_
                     have hz : zir hh 6 k = false := by unfold zir; first | rfl | (rw [q149]; rfl) | (rw [q109]; rfl)
                     rw [zia_f (i := k) (by omega) (fun z => q170 ((zFI_of hz).mp z))] at K
                     exact K)
              · first
                | (exfalso; omega)
                | (
                   refine zr_aload_n zi62_152 rfl ?_
                   refine zr_iload zi62_153 rfl ?_
                   refine zr_virtual zi62_155 rfl rfl (G.1.at0 rfl) rfl rfl ?_
                   refine zcall_dep (d := 0) (Nat.le_of_ble_eq_true rfl) (c36 G (i := k) (by omega) (zbk_v ?_))
                   refine zr_static zi62_158 rfl rfl rfl rfl ?_
                   refine zcall_dep (d := 0) (Nat.le_of_ble_eq_true rfl) (c65 (zbk_v ?_))
                   refine zr_goto zi62_161 rfl ?_
                   refine zr_icmp_eq zi62_170 rfl (fun q170 => ?_) (fun q170 => ?_)
                   · refine zr_iincN (z := 1) (L' := [some (.ref _), some (.ref _), some (.int (zJ _)), some (.int (zJ _)), some (.int (zJ _)), some (.int (zJ _)), some (.int (zJ _))]) zi62_175 rfl rfl rfl rfl ?_
                     refine zr_goto zi62_178 rfl ?_
                     have hz : zir hh 6 k = true := by unfold zir; first | rfl | (rw [q149]; rfl) | (rw [q109]; rfl)
                     refine ih61 (by omega) _ _ (fun i z => ?_)
                     rcases Nat.lt_or_ge i k with z1 | z1
                     · exact hE i z1
                     · obtain rfl : i = k := by omega
                       exact (zFI_of hz).mpr q170
                   · refine zr_iconst (v := zJ 0) zi62_173 rfl ?_
                     refine zr_zreturn zi62_174 rfl (by decide) ?_
                     have hz : zir hh 6 k = true := by unfold zir; first | rfl | (rw [q149]; rfl) | (rw [q109]; rfl)
                     rw [zia_f (i := k) (by omega) (fun z => q170 ((zFI_of hz).mp z))] at K
                     exact K))
         · first
           | (exfalso; omega)
           | (
              refine zr_aload_n zi62_132 rfl ?_
              refine zr_iload zi62_133 rfl ?_
              refine zr_iconst (v := zJ 2) zi62_135 rfl ?_
              refine zr_virtual zi62_136 rfl rfl (G.1.at0 rfl) rfl rfl ?_
              have hx136 := ztl_J (i := (ztn w hh k 0)) (how := 2) G.2.1 hx123.2
              refine zcall_dep (d := 0) (Nat.le_of_ble_eq_true rfl) (c64 G (by omega) (zbk_v ?_))
              rw [hx136.1]
              refine zr_istore (L' := [some (.ref _), some (.ref _), some (.int (zJ _)), some (.int (zJ _)), some (.int (zJ _)), some (.int (zJ _)), some (.int (zJ _))]) zi62_139 rfl rfl ?_
              refine zr_aload_n zi62_141 rfl ?_
              refine zr_iload zi62_142 rfl ?_
              refine zr_virtual zi62_144 rfl rfl (O.1.at0 rfl) rfl rfl ?_
              refine zcall_dep (d := 0) (Nat.le_of_ble_eq_true rfl) (c36 O (i := (ztn w hh (ztn w hh k 0) 2)) (by have := hx136.2; omega) (zbk_v ?_))
              refine zr_iload zi62_147 rfl ?_
              refine zr_if_eqN zi62_149 rfl (by omega) (fun q149 => ?_) (fun q149 => ?_)
              · first
                | (exfalso; omega)
                | (
                   refine zr_aload_n zi62_164 rfl ?_
                   refine zr_iload zi62_165 rfl ?_
                   refine zr_virtual zi62_167 rfl rfl (G.1.at0 rfl) rfl rfl ?_
                   refine zcall_dep (d := 0) (Nat.le_of_ble_eq_true rfl) (c36 G (i := k) (by omega) (zbk_v ?_))
                   refine zr_icmp_eq zi62_170 rfl (fun q170 => ?_) (fun q170 => ?_)
                   · refine zr_iincN (z := 1) (L' := [some (.ref _), some (.ref _), some (.int (zJ _)), some (.int (zJ _)), some (.int (zJ _)), some (.int (zJ _)), some (.int (zJ _))]) zi62_175 rfl rfl rfl rfl ?_
                     refine zr_goto zi62_178 rfl ?_
                     have hz : zir hh 6 k = false := by unfold zir; first | rfl | (rw [q149]; rfl) | (rw [q109]; rfl)
                     refine ih61 (by omega) _ _ (fun i z => ?_)
                     rcases Nat.lt_or_ge i k with z1 | z1
                     · exact hE i z1
                     · obtain rfl : i = k := by omega
                       exact (zFI_of hz).mpr q170
                   · refine zr_iconst (v := zJ 0) zi62_173 rfl ?_
                     refine zr_zreturn zi62_174 rfl (by decide) ?_
                     have hz : zir hh 6 k = false := by unfold zir; first | rfl | (rw [q149]; rfl) | (rw [q109]; rfl)
                     rw [zia_f (i := k) (by omega) (fun z => q170 ((zFI_of hz).mp z))] at K
                     exact K)
              · first
                | (exfalso; omega)
                | (
                   refine zr_aload_n zi62_152 rfl ?_
                   refine zr_iload zi62_153 rfl ?_
                   refine zr_virtual zi62_155 rfl rfl (G.1.at0 rfl) rfl rfl ?_
                   refine zcall_dep (d := 0) (Nat.le_of_ble_eq_true rfl) (c36 G (i := k) (by omega) (zbk_v ?_))
                   refine zr_static zi62_158 rfl rfl rfl rfl ?_
                   refine zcall_dep (d := 0) (Nat.le_of_ble_eq_true rfl) (c65 (zbk_v ?_))
                   refine zr_goto zi62_161 rfl ?_
                   refine zr_icmp_eq zi62_170 rfl (fun q170 => ?_) (fun q170 => ?_)
                   · refine zr_iincN (z := 1) (L' := [some (.ref _), some (.ref _), some (.int (zJ _)), some (.int (zJ _)), some (.int (zJ _)), some (.int (zJ _)), some (.int (zJ _))]) zi62_175 rfl rfl rfl rfl ?_
                     refine zr_goto zi62_178 rfl ?_
                     have hz : zir hh 6 k = true := by unfold zir; first | rfl | (rw [q149]; rfl) | (rw [q109]; rfl)
                     refine ih61 (by omega) _ _ (fun i z => ?_)
                     rcases Nat.lt_or_ge i k with z1 | z1
                     · exact hE i z1
                     · obtain rfl : i = k := by omega
                       exact (zFI_of hz).mpr q170
                   · refine zr_iconst (v := zJ 0) zi62_173 rfl ?_
                     refine zr_zreturn zi62_174 rfl (by decide) ?_
                     have hz : zir hh 6 k = true := by unfold zir; first | rfl | (rw [q149]; rfl) | (rw [q109]; rfl)
                     rw [zia_f (i := k) (by omega) (fun z => q170 ((zFI_of hz).mp z))] at K
                     exact K)))
theorem c62_6 {E : zEnv} {h : zPH} {Q : zOut → zPH → Prop} {g w hh : Nat} {cs cl fs : List Int32} (G : yG h g w hh cs cl fs) {o ow oh : Nat} {os ol ofs : List Int32} (O : yG h o ow oh os ol ofs) (K : Q (.inl (some (.int (zB (zia w hh cl ow oh ol 6))))) h) : zcall E 1 62 [.ref g, .ref o, .int (zJ 6)] h Q := by
  obtain ⟨⟨gw1, gw2, gh1, gh2⟩, gcs, gcl, gfs⟩ := G.2
  obtain ⟨⟨ow1, ow2, oh1, oh2⟩, ocs, ocl, ofl⟩ := O.2
  show zwp E _ 62 (0, [some (.ref _), some (.ref _), some (.int (zJ _)), none, none, none, none], [], _) Q
  refine zr_iload_n zi62_0 rfl ?_
  refine zr_iconst (v := zJ 4) zi62_1 rfl ?_
  refine zr_iand zi62_2 ?_
  refine zr_if_eq zi62_3 rfl (fun q3 => absurd q3 (by decide)) (fun q3 => ?_)
  refine zr_iconst (v := zJ 1) zi62_6 rfl ?_
  refine zr_goto zi62_7 rfl ?_
  refine zr_istore_n (L' := [some (.ref _), some (.ref _), some (.int (zJ _)), some (.int (zJ _)), none, none, none]) zi62_11 rfl rfl ?_
  refine zr_aload_n zi62_12 rfl ?_
  refine zr_getfield zi62_13 (O.1.at0 rfl) rfl ?_
  refine zr_iload_n zi62_16 rfl ?_
  refine zr_if_eqN zi62_17 rfl (by omega) (fun q17 => ?_) (fun q17 => ?_)
  · first
    | (exfalso; omega)
    | (
       refine zr_aload_n zi62_27 rfl ?_
       refine zr_getfield zi62_28 (G.1.at0 rfl) rfl ?_
       refine zr_icmp_neN zi62_31 rfl (by omega) (by omega) (fun q31 => ?_) (fun q31 => ?_)
       · refine zr_iconst (v := zJ 0) zi62_56 rfl ?_
         refine zr_zreturn zi62_57 rfl (by decide) ?_
         rw [show zia w hh cl ow oh ol 6 = false from by first | exact zia_w (show ¬ ow = hh by omega) | exact zia_h (show ¬ oh = w by omega)] at K
         exact K
       · refine zr_aload_n zi62_34 rfl ?_
         refine zr_getfield zi62_35 (O.1.at0 rfl) rfl ?_
         refine zr_iload_n zi62_38 rfl ?_
         refine zr_if_eqN zi62_39 rfl (by omega) (fun q39 => ?_) (fun q39 => ?_)
         · first
           | (exfalso; omega)
           | (
              refine zr_aload_n zi62_49 rfl ?_
              refine zr_getfield zi62_50 (G.1.at0 rfl) rfl ?_
              refine zr_icmp_eqN zi62_53 rfl (by omega) (by omega) (fun q53 => ?_) (fun q53 => ?_)
              · exact c62L_6 G O (by omega) (by omega) K
              · refine zr_iconst (v := zJ 0) zi62_56 rfl ?_
                refine zr_zreturn zi62_57 rfl (by decide) ?_
                rw [show zia w hh cl ow oh ol 6 = false from by first | exact zia_w (show ¬ ow = hh by omega) | exact zia_h (show ¬ oh = w by omega)] at K
                exact K)
         · first
           | (exfalso; omega)
           | (
              refine zr_aload_n zi62_42 rfl ?_
              refine zr_getfield zi62_43 (G.1.at0 rfl) rfl ?_
              refine zr_goto zi62_46 rfl ?_
              refine zr_icmp_eqN zi62_53 rfl (by omega) (by omega) (fun q53 => ?_) (fun q53 => ?_)
              · exact c62L_6 G O (by omega) (by omega) K
              · refine zr_iconst (v := zJ 0) zi62_56 rfl ?_
                refine zr_zreturn zi62_57 rfl (by decide) ?_
                rw [show zia w hh cl ow oh ol 6 = false from by first | exact zia_w (show ¬ ow = hh by omega) | exact zia_h (show ¬ oh = w by omega)] at K
                exact K))
  · first
    | (exfalso; omega)
    | (
       refine zr_aload_n zi62_20 rfl ?_
       refine zr_getfield zi62_21 (G.1.at0 rfl) rfl ?_
       refine zr_goto zi62_24 rfl ?_
       refine zr_icmp_neN zi62_31 rfl (by omega) (by omega) (fun q31 => ?_) (fun q31 => ?_)
       · refine zr_iconst (v := zJ 0) zi62_56 rfl ?_
         refine zr_zreturn zi62_57 rfl (by decide) ?_
         rw [show zia w hh cl ow oh ol 6 = false from by first | exact zia_w (show ¬ ow = hh by omega) | exact zia_h (show ¬ oh = w by omega)] at K
         exact K
       · refine zr_aload_n zi62_34 rfl ?_
         refine zr_getfield zi62_35 (O.1.at0 rfl) rfl ?_
         refine zr_iload_n zi62_38 rfl ?_
         refine zr_if_eqN zi62_39 rfl (by omega) (fun q39 => ?_) (fun q39 => ?_)
         · first
           | (exfalso; omega)
           | (
              refine zr_aload_n zi62_49 rfl ?_
              refine zr_getfield zi62_50 (G.1.at0 rfl) rfl ?_
              refine zr_icmp_eqN zi62_53 rfl (by omega) (by omega) (fun q53 => ?_) (fun q53 => ?_)
              · exact c62L_6 G O (by omega) (by omega) K
              · refine zr_iconst (v := zJ 0) zi62_56 rfl ?_
                refine zr_zreturn zi62_57 rfl (by decide) ?_
                rw [show zia w hh cl ow oh ol 6 = false from by first | exact zia_w (show ¬ ow = hh by omega) | exact zia_h (show ¬ oh = w by omega)] at K
                exact K)
         · first
           | (exfalso; omega)
           | (
              refine zr_aload_n zi62_42 rfl ?_
              refine zr_getfield zi62_43 (G.1.at0 rfl) rfl ?_
              refine zr_goto zi62_46 rfl ?_
              refine zr_icmp_eqN zi62_53 rfl (by omega) (by omega) (fun q53 => ?_) (fun q53 => ?_)
              · exact c62L_6 G O (by omega) (by omega) K
              · refine zr_iconst (v := zJ 0) zi62_56 rfl ?_
                refine zr_zreturn zi62_57 rfl (by decide) ?_
                rw [show zia w hh cl ow oh ol 6 = false from by first | exact zia_w (show ¬ ow = hh by omega) | exact zia_h (show ¬ oh = w by omega)] at K
                exact K))
theorem c62L_7 {E : zEnv} {h : zPH} {Q : zOut → zPH → Prop} {g w hh : Nat} {cs cl fs : List Int32} (G : yG h g w hh cs cl fs) {o ow oh : Nat} {os ol ofs : List Int32} (O : yG h o ow oh os ol ofs) (hd1 : ow = hh) (hd2 : oh = w) (K : Q (.inl (some (.int (zB (zia w hh cl ow oh ol 7))))) h) : zwp E 1 62 (58, [some (.ref g), some (.ref o), some (.int (zJ 7)), some (.int (zJ 1)), none, none, none], [], h) Q := by
  obtain ⟨⟨gw1, gw2, gh1, gh2⟩, gcs, gcl, gfs⟩ := G.2
  obtain ⟨⟨ow1, ow2, oh1, oh2⟩, ocs, ocl, ofl⟩ := O.2
  refine zr_iconst (v := zJ 0) zi62_58 rfl ?_
  refine zr_istore (L' := [some (.ref _), some (.ref _), some (.int (zJ _)), some (.int (zJ _)), some (.int (zJ _)), none, none]) zi62_59 rfl rfl ?_
  suffices key61 : ∀ x5 x6, (∀ i, i < 0 → zFI w hh cl ol 7 i) → zwp E 1 62 (61, [some (.ref g), some (.ref o), some (.int (zJ 7)), some (.int (zJ 1)), some (.int (zJ 0)), x5, x6], [], h) Q from key61 _ _ (fun i z => absurd z (Nat.not_lt_zero i))
  refine zloop (P := fun k => ∀ x5 x6, (∀ i, i < k → zFI w hh cl ol 7 i) → zwp E 1 62 (61, [some (.ref g), some (.ref o), some (.int (zJ 7)), some (.int (zJ 1)), some (.int (zJ k)), x5, x6], [], h) Q) (n := w + hh) fun k hk61 ih61 => ?_
  intro x5 x6 hE
  refine zr_iload zi62_61 rfl ?_
  refine zr_aload_n zi62_63 rfl ?_
  refine zr_virtual zi62_64 rfl rfl (G.1.at0 rfl) rfl rfl ?_
  refine zcall_dep (d := 0) (Nat.le_of_ble_eq_true rfl) (c4 G (zbk_v ?_))
  refine zr_icmp_geN zi62_67 rfl (by omega) (by omega) (fun q67 => ?_) (fun q67 => ?_)
  · refine zr_iconst (v := zJ 1) zi62_181 rfl ?_
    refine zr_zreturn zi62_182 rfl (by decide) ?_
    rw [zia_t hd1 hd2 (fun i hi => hE i (by omega))] at K
    exact K
  · refine zr_iload zi62_70 rfl ?_
    refine zr_istore (L' := [some (.ref _), some (.ref _), some (.int (zJ _)), some (.int (zJ _)), some (.int (zJ _)), some (.int (zJ _)), _]) zi62_72 rfl rfl ?_
    refine zr_iconst (v := zJ 0) zi62_74 rfl ?_
    refine zr_istore (L' := [some (.ref _), some (.ref _), some (.int (zJ _)), some (.int (zJ _)), some (.int (zJ _)), some (.int (zJ _)), some (.int (zJ _))]) zi62_75 rfl rfl ?_
    refine zr_iload_n zi62_77 rfl ?_
    refine zr_iconst (v := zJ 1) zi62_78 rfl ?_
    refine zr_iand zi62_79 ?_
    refine zr_if_eq zi62_80 rfl (fun q80 => absurd q80 (by decide)) (fun q80 => ?_)
    refine zr_aload_n zi62_83 rfl ?_
    refine zr_iload zi62_84 rfl ?_
    refine zr_iconst (v := zJ 1) zi62_86 rfl ?_
    refine zr_virtual zi62_87 rfl rfl (G.1.at0 rfl) rfl rfl ?_
    refine zcall_dep (d := 0) (Nat.le_of_ble_eq_true rfl) (c63 G (by omega) (by omega) (zbk_v ?_))
    refine zr_istore (L' := [some (.ref _), some (.ref _), some (.int (zJ _)), some (.int (zJ _)), some (.int (zJ _)), some (.int (zJ _)), some (.int (zB _))]) zi62_90 rfl rfl ?_
    refine zr_aload_n zi62_92 rfl ?_
    refine zr_iload zi62_93 rfl ?_
    refine zr_iconst (v := zJ 1) zi62_95 rfl ?_
    refine zr_virtual zi62_96 rfl rfl (G.1.at0 rfl) rfl rfl ?_
    have hx96 := ztl_J (i := k) (how := 1) G.2.1 (show k < w + hh by omega)
    refine zcall_dep (d := 0) (Nat.le_of_ble_eq_true rfl) (c64 G (by omega) (zbk_v ?_))
    rw [hx96.1]
    refine zr_istore (L' := [some (.ref _), some (.ref _), some (.int (zJ _)), some (.int (zJ _)), some (.int (zJ _)), some (.int (zJ _)), some (.int (zB _))]) zi62_99 rfl rfl ?_
    refine zr_iload_n zi62_101 rfl ?_
    refine zr_iconst (v := zJ 2) zi62_102 rfl ?_
    refine zr_iand zi62_103 ?_
    refine zr_if_eq zi62_104 rfl (fun q104 => absurd q104 (by decide)) (fun q104 => ?_)
    refine zr_iload zi62_107 rfl ?_
    refine zr_if_neB zi62_109 rfl (fun q109 => ?_) (fun q109 => ?_)
    · first
      | (exfalso; omega)
      | (
         refine zr_iconst (v := zJ 0) zi62_116 rfl ?_
         refine zr_istore (L' := [some (.ref _), some (.ref _), some (.int (zJ _)), some (.int (zJ _)), some (.int (zJ _)), some (.int (zJ _)), some (.int (zJ _))]) zi62_117 rfl rfl ?_
         refine zr_aload_n zi62_119 rfl ?_
         refine zr_iload zi62_120 rfl ?_
         refine zr_iconst (v := zJ 0) zi62_122 rfl ?_
         refine zr_virtual zi62_123 rfl rfl (G.1.at0 rfl) rfl rfl ?_
         have hx123 := ztl_J (i := (ztn w hh k 1)) (how := 0) G.2.1 hx96.2
         refine zcall_dep (d := 0) (Nat.le_of_ble_eq_true rfl) (c64 G (by omega) (zbk_v ?_))
         rw [hx123.1]
         refine zr_istore (L' := [some (.ref _), some (.ref _), some (.int (zJ _)), some (.int (zJ _)), some (.int (zJ _)), some (.int (zJ _)), some (.int (zJ _))]) zi62_126 rfl rfl ?_
         refine zr_iload_n zi62_128 rfl ?_
         refine zr_if_eqN zi62_129 rfl (by omega) (fun q129 => ?_) (fun q129 => ?_)
         · first
           | (exfalso; omega)
           | (
              refine zr_aload_n zi62_141 rfl ?_
              refine zr_iload zi62_142 rfl ?_
              refine zr_virtual zi62_144 rfl rfl (O.1.at0 rfl) rfl rfl ?_
              refine zcall_dep (d := 0) (Nat.le_of_ble_eq_true rfl) (c36 O (i := (ztn w hh (ztn w hh (ztn w hh k 1) 0) 2)) (by have := hx136.2; omega) (zbk_v ?_))
              refine zr_iload zi62_147 rfl ?_
              refine zr_if_eqN zi62_149 rfl (by omega) (fun q149 => ?_) (fun q149 => ?_)
              · first
                | (exfalso; omega)
                | (
                   refine zr_aload_n zi62_164 rfl ?_
                   refine zr_iload zi62_165 rfl ?_
                   refine zr_virtual zi62_167 rfl rfl (G.1.at0 rfl) rfl rfl ?_
                   refine zcall_dep (d := 0) (Nat.le_of_ble_eq_true rfl) (c36 G (i := k) (by omega) (zbk_v ?_))
                   refine zr_icmp_eq zi62_170 rfl (fun q170 => ?_) (fun q170 => ?_)
                   · refine zr_iincN (z := 1) (L' := [some (.ref _), some (.ref _), some (.int (zJ _)), some (.int (zJ _)), some (.int (zJ _)), some (.int (zJ _)), some (.int (zJ _))]) zi62_175 rfl rfl rfl rfl ?_
                     refine zr_goto zi62_178 rfl ?_
                     have hz : zir hh 7 k = false := by unfold zir; first | rfl | (rw [q149]; rfl) | (rw [q109]; rfl)
                     refine ih61 (by omega) _ _ (fun i z => ?_)
                     rcases Nat.lt_or_ge i k with z1 | z1
                     · exact hE i z1
                     · obtain rfl : i = k := by omega
                       exact (zFI_of hz).mpr q170
                   · refine zr_iconst (v := zJ 0) zi62_173 rfl ?_
                     refine zr_zreturn zi62_174 rfl (by decide) ?_
                     have hz : zir hh 7 k = false := by unfold zir; first | rfl | (rw [q149]; rfl) | (rw [q109]; rfl)
                     rw [zia_f (i := k) (by omega) (fun z => q170 ((zFI_of hz).mp z))] at K
                     exact K)
              · first
                | (exfalso; omega)
                | (
                   refine zr_aload_n zi62_152 rfl ?_
                   refine zr_iload zi62_153 rfl ?_
                   refine zr_virtual zi62_155 rfl rfl (G.1.at0 rfl) rfl rfl ?_
                   refine zcall_dep (d := 0) (Nat.le_of_ble_eq_true rfl) (c36 G (i := k) (by omega) (zbk_v ?_))
                   refine zr_static zi62_158 rfl rfl rfl rfl ?_
                   refine zcall_dep (d := 0) (Nat.le_of_ble_eq_true rfl) (c65 (zbk_v ?_))
                   refine zr_goto zi62_161 rfl ?_
                   refine zr_icmp_eq zi62_170 rfl (fun q170 => ?_) (fun q170 => ?_)
                   · refine zr_iincN (z := 1) (L' := [some (.ref _), some (.ref _), some (.int (zJ _)), some (.int (zJ _)), some (.int (zJ _)), some (.int (zJ _)), some (.int (zJ _))]) zi62_175 rfl rfl rfl rfl ?_
                     refine zr_goto zi62_178 rfl ?_
                     have hz : zir hh 7 k = true := by unfold zir; first | rfl | (rw [q149]; rfl) | (rw [q109]; rfl)
                     refine ih61 (by omega) _ _ (fun i z => ?_)
                     rcases Nat.lt_or_ge i k with z1 | z1
                     · exact hE i z1
                     · obtain rfl : i = k := by omega
                       exact (zFI_of hz).mpr q170
                   · refine zr_iconst (v := zJ 0) zi62_173 rfl ?_
                     refine zr_zreturn zi62_174 rfl (by decide) ?_
                     have hz : zir hh 7 k = true := by unfold zir; first | rfl | (rw [q149]; rfl) | (rw [q109]; rfl)
                     rw [zia_f (i := k) (by omega) (fun z => q170 ((zFI_of hz).mp z))] at K
                     exact K))
         · first
           | (exfalso; omega)
           | (
              refine zr_aload_n zi62_132 rfl ?_
              refine zr_iload zi62_133 rfl ?_
              refine zr_iconst (v := zJ 2) zi62_135 rfl ?_
              refine zr_virtual zi62_136 rfl rfl (G.1.at0 rfl) rfl rfl ?_
              have hx136 := ztl_J (i := (ztn w hh (ztn w hh k 1) 0)) (how := 2) G.2.1 hx123.2
              refine zcall_dep (d := 0) (Nat.le_of_ble_eq_true rfl) (c64 G (by omega) (zbk_v ?_))
              rw [hx136.1]
              refine zr_istore (L' := [some (.ref _), some (.ref _), some (.int (zJ _)), some (.int (zJ _)), some (.int (zJ _)), some (.int (zJ _)), some (.int (zJ _))]) zi62_139 rfl rfl ?_
              refine zr_aload_n zi62_141 rfl ?_
              refine zr_iload zi62_142 rfl ?_
              refine zr_virtual zi62_144 rfl rfl (O.1.at0 rfl) rfl rfl ?_
              refine zcall_dep (d := 0) (Nat.le_of_ble_eq_true rfl) (c36 O (i := (ztn w hh (ztn w hh (ztn w hh k 1) 0) 2)) (by have := hx136.2; omega) (zbk_v ?_))
              refine zr_iload zi62_147 rfl ?_
              refine zr_if_eqN zi62_149 rfl (by omega) (fun q149 => ?_) (fun q149 => ?_)
              · first
                | (exfalso; omega)
                | (
                   refine zr_aload_n zi62_164 rfl ?_
                   refine zr_iload zi62_165 rfl ?_
                   refine zr_virtual zi62_167 rfl rfl (G.1.at0 rfl) rfl rfl ?_
                   refine zcall_dep (d := 0) (Nat.le_of_ble_eq_true rfl) (c36 G (i := k) (by omega) (zbk_v ?_))
                   refine zr_icmp_eq zi62_170 rfl (fun q170 => ?_) (fun q170 => ?_)
                   · refine zr_iincN (z := 1) (L' := [some (.ref _), some (.ref _), some (.int (zJ _)), some (.int (zJ _)), some (.int (zJ _)), some (.int (zJ _)), some (.int (zJ _))]) zi62_175 rfl rfl rfl rfl ?_
                     refine zr_goto zi62_178 rfl ?_
                     have hz : zir hh 7 k = false := by unfold zir; first | rfl | (rw [q149]; rfl) | (rw [q109]; rfl)
                     refine ih61 (by omega) _ _ (fun i z => ?_)
                     rcases Nat.lt_or_ge i k with z1 | z1
                     · exact hE i z1
                     · obtain rfl : i = k := by omega
                       exact (zFI_of hz).mpr q170
                   · refine zr_iconst (v := zJ 0) zi62_173 rfl ?_
                     refine zr_zreturn zi62_174 rfl (by decide) ?_
                     have hz : zir hh 7 k = false := by unfold zir; first | rfl | (rw [q149]; rfl) | (rw [q109]; rfl)
                     rw [zia_f (i := k) (by omega) (fun z => q170 ((zFI_of hz).mp z))] at K
                     exact K)
              · first
                | (exfalso; omega)
                | (
                   refine zr_aload_n zi62_152 rfl ?_
                   refine zr_iload zi62_153 rfl ?_
                   refine zr_virtual zi62_155 rfl rfl (G.1.at0 rfl) rfl rfl ?_
                   refine zcall_dep (d := 0) (Nat.le_of_ble_eq_true rfl) (c36 G (i := k) (by omega) (zbk_v ?_))
                   refine zr_static zi62_158 rfl rfl rfl rfl ?_
                   refine zcall_dep (d := 0) (Nat.le_of_ble_eq_true rfl) (c65 (zbk_v ?_))
                   refine zr_goto zi62_161 rfl ?_
                   refine zr_icmp_eq zi62_170 rfl (fun q170 => ?_) (fun q170 => ?_)
                   · refine zr_iincN (z := 1) (L' := [some (.ref _), some (.ref _), some (.int (zJ _)), some (.int (zJ _)), some (.int (zJ _)), some (.int (zJ _)), some (.int (zJ _))]) zi62_175 rfl rfl rfl rfl ?_
                     refine zr_goto zi62_178 rfl ?_
                     have hz : zir hh 7 k = true := by unfold zir; first | rfl | (rw [q149]; rfl) | (rw [q109]; rfl)
                     refine ih61 (by omega) _ _ (fun i z => ?_)
                     rcases Nat.lt_or_ge i k with z1 | z1
                     · exact hE i z1
                     · obtain rfl : i = k := by omega
                       exact (zFI_of hz).mpr q170
                   · refine zr_iconst (v := zJ 0) zi62_173 rfl ?_
                     refine zr_zreturn zi62_174 rfl (by decide) ?_
                     have hz : zir hh 7 k = true := by unfold zir; first | rfl | (rw [q149]; rfl) | (rw [q109]; rfl)
                     rw [zia_f (i := k) (by omega) (fun z => q170 ((zFI_of hz).mp z))] at K
                     exact K)))
    · first
      | (exfalso; omega)
      | (
         refine zr_iconst (v := zJ 1) zi62_112 rfl ?_
         refine zr_goto zi62_113 rfl ?_
         refine zr_istore (L' := [some (.ref _), some (.ref _), some (.int (zJ _)), some (.int (zJ _)), some (.int (zJ _)), some (.int (zJ _)), some (.int (zJ _))]) zi62_117 rfl rfl ?_
         refine zr_aload_n zi62_119 rfl ?_
         refine zr_iload zi62_120 rfl ?_
         refine zr_iconst (v := zJ 0) zi62_122 rfl ?_
         refine zr_virtual zi62_123 rfl rfl (G.1.at0 rfl) rfl rfl ?_
         have hx123 := ztl_J (i := (ztn w hh k 1)) (how := 0) G.2.1 hx96.2
         refine zcall_dep (d := 0) (Nat.le_of_ble_eq_true rfl) (c64 G (by omega) (zbk_v ?_))
         rw [hx123.1]
         refine zr_istore (L' := [some (.ref _), some (.ref _), some (.int (zJ _)), some (.int (zJ _)), some (.int (zJ _)), some (.int (zJ _)), some (.int (zJ _))]) zi62_126 rfl rfl ?_
         refine zr_iload_n zi62_128 rfl ?_
         refine zr_if_eqN zi62_129 rfl (by omega) (fun q129 => ?_) (fun q129 => ?_)
         · first
           | (exfalso; omega)
           | (
              refine zr_aload_n zi62_141 rfl ?_
              refine zr_iload zi62_142 rfl ?_
              refine zr_virtual zi62_144 rfl rfl (O.1.at0 rfl) rfl rfl ?_
              refine zcall_dep (d := 0) (Nat.le_of_ble_eq_true rfl) (c36 O (i := (ztn w hh (ztn w hh (ztn w hh k 1) 0) 2)) (by have := hx136.2; omega) (zbk_v ?_))
              refine zr_iload zi62_147 rfl ?_
              refine zr_if_eqN zi62_149 rfl (by omega) (fun q149 => ?_) (fun q149 => ?_)
              · first
                | (exfalso; omega)
                | (
                   refine zr_aload_n zi62_164 rfl ?_
                   refine zr_iload zi62_165 rfl ?_
                   refine zr_virtual zi62_167 rfl rfl (G.1.at0 rfl) rfl rfl ?_
                   refine zcall_dep (d := 0) (Nat.le_of_ble_eq_true rfl) (c36 G (i := k) (by omega) (zbk_v ?_))
                   refine zr_icmp_eq zi62_170 rfl (fun q170 => ?_) (fun q170 => ?_)
                   · refine zr_iincN (z := 1) (L' := [some (.ref _), some (.ref _), some (.int (zJ _)), some (.int (zJ _)), some (.int (zJ _)), some (.int (zJ _)), some (.int (zJ _))]) zi62_175 rfl rfl rfl rfl ?_
                     refine zr_goto zi62_178 rfl ?_
                     have hz : zir hh 7 k = false := by unfold zir; first | rfl | (rw [q149]; rfl) | (rw [q109]; rfl)
                     refine ih61 (by omega) _ _ (fun i z => ?_)
                     rcases Nat.lt_or_ge i k with z1 | z1
                     · exact hE i z1
                     · obtain rfl : i = k := by omega
                       exact (zFI_of hz).mpr q170
                   · refine zr_iconst (v := zJ 0) zi62_173 rfl ?_
                     refine zr_zreturn zi62_174 rfl (by decide) ?_
                     have hz : zir hh 7 k = false := by unfold zir; first | rfl | (rw [q149]; rfl) | (rw [q109]; rfl)
                     rw [zia_f (i := k) (by omega) (fun z => q170 ((zFI_of hz).mp z))] at K
                     exact K)
              · first
                | (exfalso; omega)
                | (
                   refine zr_aload_n zi62_152 rfl ?_
                   refine zr_iload zi62_153 rfl ?_
                   refine zr_virtual zi62_155 rfl rfl (G.1.at0 rfl) rfl rfl ?_
                   refine zcall_dep (d := 0) (Nat.le_of_ble_eq_true rfl) (c36 G (i := k) (by omega) (zbk_v ?_))
                   refine zr_static zi62_158 rfl rfl rfl rfl ?_
                   refine zcall_dep (d := 0) (Nat.le_of_ble_eq_true rfl) (c65 (zbk_v ?_))
                   refine zr_goto zi62_161 rfl ?_
                   refine zr_icmp_eq zi62_170 rfl (fun q170 => ?_) (fun q170 => ?_)
                   · refine zr_iincN (z := 1) (L' := [some (.ref _), some (.ref _), some (.int (zJ _)), some (.int (zJ _)), some (.int (zJ _)), some (.int (zJ _)), some (.int (zJ _))]) zi62_175 rfl rfl rfl rfl ?_
                     refine zr_goto zi62_178 rfl ?_
                     have hz : zir hh 7 k = true := by unfold zir; first | rfl | (rw [q149]; rfl) | (rw [q109]; rfl)
                     refine ih61 (by omega) _ _ (fun i z => ?_)
                     rcases Nat.lt_or_ge i k with z1 | z1
                     · exact hE i z1
                     · obtain rfl : i = k := by omega
                       exact (zFI_of hz).mpr q170
                   · refine zr_iconst (v := zJ 0) zi62_173 rfl ?_
                     refine zr_zreturn zi62_174 rfl (by decide) ?_
                     have hz : zir hh 7 k = true := by unfold zir; first | rfl | (rw [q149]; rfl) | (rw [q109]; rfl)
                     rw [zia_f (i := k) (by omega) (fun z => q170 ((zFI_of hz).mp z))] at K
                     exact K))
         · first
           | (exfalso; omega)
           | (
              refine zr_aload_n zi62_132 rfl ?_
              refine zr_iload zi62_133 rfl ?_
              refine zr_iconst (v := zJ 2) zi62_135 rfl ?_
              refine zr_virtual zi62_136 rfl rfl (G.1.at0 rfl) rfl rfl ?_
              have hx136 := ztl_J (i := (ztn w hh (ztn w hh k 1) 0)) (how := 2) G.2.1 hx123.2
              refine zcall_dep (d := 0) (Nat.le_of_ble_eq_true rfl) (c64 G (by omega) (zbk_v ?_))
              rw [hx136.1]
              refine zr_istore (L' := [some (.ref _), some (.ref _), some (.int (zJ _)), some (.int (zJ _)), some (.int (zJ _)), some (.int (zJ _)), some (.int (zJ _))]) zi62_139 rfl rfl ?_
              refine zr_aload_n zi62_141 rfl ?_
              refine zr_iload zi62_142 rfl ?_
              refine zr_virtual zi62_144 rfl rfl (O.1.at0 rfl) rfl rfl ?_
              refine zcall_dep (d := 0) (Nat.le_of_ble_eq_true rfl) (c36 O (i := (ztn w hh (ztn w hh (ztn w hh k 1) 0) 2)) (by have := hx136.2; omega) (zbk_v ?_))
              refine zr_iload zi62_147 rfl ?_
              refine zr_if_eqN zi62_149 rfl (by omega) (fun q149 => ?_) (fun q149 => ?_)
              · first
                | (exfalso; omega)
                | (
                   refine zr_aload_n zi62_164 rfl ?_
                   refine zr_iload zi62_165 rfl ?_
                   refine zr_virtual zi62_167 rfl rfl (G.1.at0 rfl) rfl rfl ?_
                   refine zcall_dep (d := 0) (Nat.le_of_ble_eq_true rfl) (c36 G (i := k) (by omega) (zbk_v ?_))
                   refine zr_icmp_eq zi62_170 rfl (fun q170 => ?_) (fun q170 => ?_)
                   · refine zr_iincN (z := 1) (L' := [some (.ref _), some (.ref _), some (.int (zJ _)), some (.int (zJ _)), some (.int (zJ _)), some (.int (zJ _)), some (.int (zJ _))]) zi62_175 rfl rfl rfl rfl ?_
                     refine zr_goto zi62_178 rfl ?_
                     have hz : zir hh 7 k = false := by unfold zir; first | rfl | (rw [q149]; rfl) | (rw [q109]; rfl)
                     refine ih61 (by omega) _ _ (fun i z => ?_)
                     rcases Nat.lt_or_ge i k with z1 | z1
                     · exact hE i z1
                     · obtain rfl : i = k := by omega
                       exact (zFI_of hz).mpr q170
                   · refine zr_iconst (v := zJ 0) zi62_173 rfl ?_
                     refine zr_zreturn zi62_174 rfl (by decide) ?_
                     have hz : zir hh 7 k = false := by unfold zir; first | rfl | (rw [q149]; rfl) | (rw [q109]; rfl)
                     rw [zia_f (i := k) (by omega) (fun z => q170 ((zFI_of hz).mp z))] at K
                     exact K)
              · first
                | (exfalso; omega)
                | (
                   refine zr_aload_n zi62_152 rfl ?_
                   refine zr_iload zi62_153 rfl ?_
                   refine zr_virtual zi62_155 rfl rfl (G.1.at0 rfl) rfl rfl ?_
                   refine zcall_dep (d := 0) (Nat.le_of_ble_eq_true rfl) (c36 G (i := k) (by omega) (zbk_v ?_))
                   refine zr_static zi62_158 rfl rfl rfl rfl ?_
                   refine zcall_dep (d := 0) (Nat.le_of_ble_eq_true rfl) (c65 (zbk_v ?_))
                   refine zr_goto zi62_161 rfl ?_
                   refine zr_icmp_eq zi62_170 rfl (fun q170 => ?_) (fun q170 => ?_)
                   · refine zr_iincN (z := 1) (L' := [some (.ref _), some (.ref _), some (.int (zJ _)), some (.int (zJ _)), some (.int (zJ _)), some (.int (zJ _)), some (.int (zJ _))]) zi62_175 rfl rfl rfl rfl ?_
                     refine zr_goto zi62_178 rfl ?_
                     have hz : zir hh 7 k = true := by unfold zir; first | rfl | (rw [q149]; rfl) | (rw [q109]; rfl)
                     refine ih61 (by omega) _ _ (fun i z => ?_)
                     rcases Nat.lt_or_ge i k with z1 | z1
                     · exact hE i z1
                     · obtain rfl : i = k := by omega
                       exact (zFI_of hz).mpr q170
                   · refine zr_iconst (v := zJ 0) zi62_173 rfl ?_
                     refine zr_zreturn zi62_174 rfl (by decide) ?_
                     have hz : zir hh 7 k = true := by unfold zir; first | rfl | (rw [q149]; rfl) | (rw [q109]; rfl)
                     rw [zia_f (i := k) (by omega) (fun z => q170 ((zFI_of hz).mp z))] at K
                     exact K)))
theorem c62_7 {E : zEnv} {h : zPH} {Q : zOut → zPH → Prop} {g w hh : Nat} {cs cl fs : List Int32} (G : yG h g w hh cs cl fs) {o ow oh : Nat} {os ol ofs : List Int32} (O : yG h o ow oh os ol ofs) (K : Q (.inl (some (.int (zB (zia w hh cl ow oh ol 7))))) h) : zcall E 1 62 [.ref g, .ref o, .int (zJ 7)] h Q := by
  obtain ⟨⟨gw1, gw2, gh1, gh2⟩, gcs, gcl, gfs⟩ := G.2
  obtain ⟨⟨ow1, ow2, oh1, oh2⟩, ocs, ocl, ofl⟩ := O.2
  show zwp E _ 62 (0, [some (.ref _), some (.ref _), some (.int (zJ _)), none, none, none, none], [], _) Q
  refine zr_iload_n zi62_0 rfl ?_
  refine zr_iconst (v := zJ 4) zi62_1 rfl ?_
  refine zr_iand zi62_2 ?_
  refine zr_if_eq zi62_3 rfl (fun q3 => absurd q3 (by decide)) (fun q3 => ?_)
  refine zr_iconst (v := zJ 1) zi62_6 rfl ?_
  refine zr_goto zi62_7 rfl ?_
  refine zr_istore_n (L' := [some (.ref _), some (.ref _), some (.int (zJ _)), some (.int (zJ _)), none, none, none]) zi62_11 rfl rfl ?_
  refine zr_aload_n zi62_12 rfl ?_
  refine zr_getfield zi62_13 (O.1.at0 rfl) rfl ?_
  refine zr_iload_n zi62_16 rfl ?_
  refine zr_if_eqN zi62_17 rfl (by omega) (fun q17 => ?_) (fun q17 => ?_)
  · first
    | (exfalso; omega)
    | (
       refine zr_aload_n zi62_27 rfl ?_
       refine zr_getfield zi62_28 (G.1.at0 rfl) rfl ?_
       refine zr_icmp_neN zi62_31 rfl (by omega) (by omega) (fun q31 => ?_) (fun q31 => ?_)
       · refine zr_iconst (v := zJ 0) zi62_56 rfl ?_
         refine zr_zreturn zi62_57 rfl (by decide) ?_
         rw [show zia w hh cl ow oh ol 7 = false from by first | exact zia_w (show ¬ ow = hh by omega) | exact zia_h (show ¬ oh = w by omega)] at K
         exact K
       · refine zr_aload_n zi62_34 rfl ?_
         refine zr_getfield zi62_35 (O.1.at0 rfl) rfl ?_
         refine zr_iload_n zi62_38 rfl ?_
         refine zr_if_eqN zi62_39 rfl (by omega) (fun q39 => ?_) (fun q39 => ?_)
         · first
           | (exfalso; omega)
           | (
              refine zr_aload_n zi62_49 rfl ?_
              refine zr_getfield zi62_50 (G.1.at0 rfl) rfl ?_
              refine zr_icmp_eqN zi62_53 rfl (by omega) (by omega) (fun q53 => ?_) (fun q53 => ?_)
              · exact c62L_7 G O (by omega) (by omega) K
              · refine zr_iconst (v := zJ 0) zi62_56 rfl ?_
                refine zr_zreturn zi62_57 rfl (by decide) ?_
                rw [show zia w hh cl ow oh ol 7 = false from by first | exact zia_w (show ¬ ow = hh by omega) | exact zia_h (show ¬ oh = w by omega)] at K
                exact K)
         · first
           | (exfalso; omega)
           | (
              refine zr_aload_n zi62_42 rfl ?_
              refine zr_getfield zi62_43 (G.1.at0 rfl) rfl ?_
              refine zr_goto zi62_46 rfl ?_
              refine zr_icmp_eqN zi62_53 rfl (by omega) (by omega) (fun q53 => ?_) (fun q53 => ?_)
              · exact c62L_7 G O (by omega) (by omega) K
              · refine zr_iconst (v := zJ 0) zi62_56 rfl ?_
                refine zr_zreturn zi62_57 rfl (by decide) ?_
                rw [show zia w hh cl ow oh ol 7 = false from by first | exact zia_w (show ¬ ow = hh by omega) | exact zia_h (show ¬ oh = w by omega)] at K
                exact K))
  · first
    | (exfalso; omega)
    | (
       refine zr_aload_n zi62_20 rfl ?_
       refine zr_getfield zi62_21 (G.1.at0 rfl) rfl ?_
       refine zr_goto zi62_24 rfl ?_
       refine zr_icmp_neN zi62_31 rfl (by omega) (by omega) (fun q31 => ?_) (fun q31 => ?_)
       · refine zr_iconst (v := zJ 0) zi62_56 rfl ?_
         refine zr_zreturn zi62_57 rfl (by decide) ?_
         rw [show zia w hh cl ow oh ol 7 = false from by first | exact zia_w (show ¬ ow = hh by omega) | exact zia_h (show ¬ oh = w by omega)] at K
         exact K
       · refine zr_aload_n zi62_34 rfl ?_
         refine zr_getfield zi62_35 (O.1.at0 rfl) rfl ?_
         refine zr_iload_n zi62_38 rfl ?_
         refine zr_if_eqN zi62_39 rfl (by omega) (fun q39 => ?_) (fun q39 => ?_)
         · first
           | (exfalso; omega)
           | (
              refine zr_aload_n zi62_49 rfl ?_
              refine zr_getfield zi62_50 (G.1.at0 rfl) rfl ?_
              refine zr_icmp_eqN zi62_53 rfl (by omega) (by omega) (fun q53 => ?_) (fun q53 => ?_)
              · exact c62L_7 G O (by omega) (by omega) K
              · refine zr_iconst (v := zJ 0) zi62_56 rfl ?_
                refine zr_zreturn zi62_57 rfl (by decide) ?_
                rw [show zia w hh cl ow oh ol 7 = false from by first | exact zia_w (show ¬ ow = hh by omega) | exact zia_h (show ¬ oh = w by omega)] at K
                exact K)
         · first
           | (exfalso; omega)
           | (
              refine zr_aload_n zi62_42 rfl ?_
              refine zr_getfield zi62_43 (G.1.at0 rfl) rfl ?_
              refine zr_goto zi62_46 rfl ?_
              refine zr_icmp_eqN zi62_53 rfl (by omega) (by omega) (fun q53 => ?_) (fun q53 => ?_)
              · exact c62L_7 G O (by omega) (by omega) K
              · refine zr_iconst (v := zJ 0) zi62_56 rfl ?_
                refine zr_zreturn zi62_57 rfl (by decide) ?_
                rw [show zia w hh cl ow oh ol 7 = false from by first | exact zia_w (show ¬ ow = hh by omega) | exact zia_h (show ¬ oh = w by omega)] at K
                exact K))
theorem c62 {E : zEnv} {h : zPH} {Q : zOut → zPH → Prop} {g w hh : Nat} {cs cl fs : List Int32} (G : yG h g w hh cs cl fs) {o ow oh : Nat} {os ol ofs : List Int32} (O : yG h o ow oh os ol ofs) {t : Nat} (ht : t < 8) (K : Q (.inl (some (.int (zB (zia w hh cl ow oh ol t))))) h) : zcall E 1 62 [.ref g, .ref o, .int (zJ t)] h Q := by
  rcases (show t = 0 ∨ t = 1 ∨ t = 2 ∨ t = 3 ∨ t = 4 ∨ t = 5 ∨ t = 6 ∨ t = 7 by omega) with rfl | rfl | rfl | rfl | rfl | rfl | rfl | rfl
  · exact c62_0 G O K
  · exact c62_1 G O K
  · exact c62_2 G O K
  · exact c62_3 G O K
  · exact c62_4 G O K
  · exact c62_5 G O K
  · exact c62_6 G O K
  · exact c62_7 G O K
def ytr (how hh r c : Nat) : Nat := if how = 2 then c else if how = 0 then hh - 1 - r else r
def ytc (how w r c : Nat) : Nat := if how = 2 then r else w - 1 - c
def zrs (ow oh : Nat) (x : Int32) (how : Nat) : Int32 := if 0 ≤ x then ztl ow oh x how else x
def ztc (how w hh ow oh : Nat) (os cs : List Int32) (r c : Nat) : List Int32 := zpt cs (ycl w hh (ytr how hh r c) (ytc how w r c)) (zst os (ycl ow oh r c)) (zrs ow oh (os.getD (ycl ow oh r c * 4 + 1) 0) how) (os.getD (ycl ow oh r c * 4 + 2) 0) (os.getD (ycl ow oh r c * 4 + 3) 0)
theorem ztc_len (how w hh ow oh : Nat) (os cs : List Int32) (r c : Nat) : (ztc how w hh ow oh os cs r c).length = cs.length := zpt_len _ _ _ _ _ _
/-- a row; all rows -/
def yTc (how w hh ow oh : Nat) (os cs : List Int32) (r : Nat) : Nat → List Int32
  | 0 => cs
  | k + 1 => ztc how w hh ow oh os (yTc how w hh ow oh os cs r k) r k
def yTr (how w hh ow oh : Nat) (os cs : List Int32) : Nat → List Int32
  | 0 => cs
  | k + 1 => yTc how w hh ow oh os (yTr how w hh ow oh os cs k) k ow
def yTx (ow oh how : Nat) (ol : List Int32) (k : Nat) : Int32 := if zrw oh k how = true then zrv (ol.getD k 0) else ol.getD k 0
def yTl (how w hh ow oh : Nat) (ol cl fs : List Int32) : Nat → List Int32 × List Int32
  | 0 => (cl, fs)
  | k + 1 => ((yTl how w hh ow oh ol cl fs k).1.set (ztn ow oh k how) (yTx ow oh how ol k), (yTl how w hh ow oh ol cl fs k).2.set (ztn ow oh k how) (zfg (yTx ow oh how ol k) (yln w hh (ztn ow oh k how))))
theorem c93_0 {E : zEnv} {h : zPH} {Q : zOut → zPH → Prop} {g w hh : Nat} {cs cl fs : List Int32} (G : yG h g w hh cs cl fs) {o ow oh : Nat} {os ol ofs : List Int32} (O : yG h o ow oh os ol ofs) (hd : g + 4 ≤ o ∨ o + 4 ≤ g) {r c : Nat} (hr : r < oh) (hc : c < ow) (hdm : w = ow ∧ hh = oh) (K : ∀ h1, yFr (yIv g 4) h h1 0 0 → yG h1 g w hh (ztc 0 w hh ow oh os cs r c) cl fs → Q (.inl none) h1) : zcall E 1 93 [.ref g, .ref o, .int (zJ r), .int (zJ c), .int (zJ 0)] h Q := by
  obtain ⟨⟨gw1, gw2, gh1, gh2⟩, gcs, gcl, gfs⟩ := G.2
  obtain ⟨⟨ow1, ow2, oh1, oh2⟩, ocs, ocl, ofl⟩ := O.2
  have hwh := zwh_b G.2.1
  have owh := zwh_b O.2.1
  have hof := ycl_b (w := ow) (hh := oh) (i := r) (p := c) (by omega) (by rw [yln, if_pos hr]; exact hc)
  have hgf := ycl_b (w := w) (hh := hh) (i := hh - 1 - r) (p := w - 1 - c) (by omega) (by rw [yln, if_pos (show hh - 1 - r < hh by omega)]; omega)
  show zwp E _ 93 (0, [some (.ref _), some (.ref _), some (.int (zJ _)), some (.int (zJ _)), some (.int (zJ _)), none, none, none, none, none], [], _) Q
  refine zr_iload zi93_0 rfl ?_
  refine zr_iconst (v := zJ 2) zi93_2 rfl ?_
  refine zr_icmp_neN zi93_3 rfl (by omega) (by omega) (fun q3 => ?_) (fun q3 => absurd q3 (by omega))
  refine zr_iload zi93_10 rfl ?_
  refine zr_if_neN zi93_12 rfl (by omega) (fun q12 => absurd q12 (by omega)) (fun q12 => ?_)
  refine zr_aload_n zi93_15 rfl ?_
  refine zr_getfield zi93_16 (G.1.at0 rfl) rfl ?_
  refine zr_iconst (v := zJ 1) zi93_19 rfl ?_
  refine zr_isubN zi93_20 (by omega) ?_
  refine zr_iload_n zi93_21 rfl ?_
  refine zr_isubN zi93_22 (by omega) ?_
  refine zr_goto zi93_23 rfl ?_
  refine zr_istore (L' := [some (.ref _), some (.ref _), some (.int (zJ _)), some (.int (zJ _)), some (.int (zJ _)), some (.int (zJ _)), none, none, none, none]) zi93_27 rfl rfl ?_
  refine zr_iload zi93_29 rfl ?_
  refine zr_iconst (v := zJ 2) zi93_31 rfl ?_
  refine zr_icmp_neN zi93_32 rfl (by omega) (by omega) (fun q32 => ?_) (fun q32 => absurd q32 (by omega))
  refine zr_aload_n zi93_39 rfl ?_
  refine zr_getfield zi93_40 (G.1.at0 rfl) rfl ?_
  refine zr_iconst (v := zJ 1) zi93_43 rfl ?_
  refine zr_isubN zi93_44 (by omega) ?_
  refine zr_iload_n zi93_45 rfl ?_
  refine zr_isubN zi93_46 (by omega) ?_
  refine zr_istore (L' := [some (.ref _), some (.ref _), some (.int (zJ _)), some (.int (zJ _)), some (.int (zJ _)), some (.int (zJ _)), some (.int (zJ _)), none, none, none]) zi93_47 rfl rfl ?_
  refine zr_aload_n zi93_49 rfl ?_
  refine zr_iload_n zi93_50 rfl ?_
  refine zr_iload_n zi93_51 rfl ?_
  refine zr_virtual zi93_52 rfl rfl (O.1.at0 rfl) rfl rfl ?_
  refine zcall_dep (d := 0) (Nat.le_of_ble_eq_true rfl) (c21 O (by omega) (by omega) (zbk_v ?_))
  refine zr_istore (L' := [some (.ref _), some (.ref _), some (.int (zJ _)), some (.int (zJ _)), some (.int (zJ _)), some (.int (zJ _)), some (.int (zJ _)), some (.int (zJ _)), none, none]) zi93_55 rfl rfl ?_
  refine zr_aload_n zi93_57 rfl ?_
  refine zr_iload zi93_58 rfl ?_
  refine zr_iconst (v := zJ 1) zi93_60 rfl ?_
  refine zr_virtual zi93_61 rfl rfl (O.1.at0 rfl) rfl rfl ?_
  refine zcall_dep (d := 0) (Nat.le_of_ble_eq_true rfl) (c41 O (by omega) (by omega) (zbk_v ?_))
  refine zr_istore (L' := [some (.ref _), some (.ref _), some (.int (zJ _)), some (.int (zJ _)), some (.int (zJ _)), some (.int (zJ _)), some (.int (zJ _)), some (.int (zJ _)), some (.int _), none]) zi93_64 rfl rfl ?_
  refine zr_iload zi93_66 rfl ?_
  refine zr_if_ge zi93_68 rfl (fun q68 => ?_) (fun q68 => ?_)
  · refine zr_aload_n zi93_76 rfl ?_
    refine zr_iload zi93_77 rfl ?_
    refine zr_iload zi93_79 rfl ?_
    refine zr_virtual zi93_81 rfl rfl (O.1.at0 rfl) rfl rfl ?_
    refine zcall_dep (d := 0) (Nat.le_of_ble_eq_true rfl) (c64 O (by omega) (zbk_v ?_))
    refine zr_istore (L' := [some (.ref _), some (.ref _), some (.int (zJ _)), some (.int (zJ _)), some (.int (zJ _)), some (.int (zJ _)), some (.int (zJ _)), some (.int (zJ _)), some (.int _), some (.int _)]) zi93_84 rfl rfl ?_
    refine zr_aload_n zi93_86 rfl ?_
    refine zr_aload_n zi93_87 rfl ?_
    refine zr_iload zi93_88 rfl ?_
    refine zr_iload zi93_90 rfl ?_
    refine zr_virtual zi93_92 rfl rfl (G.1.at0 rfl) rfl rfl ?_
    refine zcall_dep (d := 0) (Nat.le_of_ble_eq_true rfl) (c21 G (by omega) (by omega) (zbk_v ?_))
    refine zr_aload_n zi93_95 rfl ?_
    refine zr_iload zi93_96 rfl ?_
    refine zr_virtual zi93_98 rfl rfl (O.1.at0 rfl) rfl rfl ?_
    refine zcall_dep (d := 0) (Nat.le_of_ble_eq_true rfl) (c16 O (by omega) (zbk_v ?_))
    refine zr_iload zi93_101 rfl ?_
    refine zr_aload_n zi93_103 rfl ?_
    refine zr_iload zi93_104 rfl ?_
    refine zr_iconst (v := zJ 2) zi93_106 rfl ?_
    refine zr_virtual zi93_107 rfl rfl (O.1.at0 rfl) rfl rfl ?_
    refine zcall_dep (d := 0) (Nat.le_of_ble_eq_true rfl) (c41 O (by omega) (by omega) (zbk_v ?_))
    refine zr_aload_n zi93_110 rfl ?_
    refine zr_iload zi93_111 rfl ?_
    refine zr_iconst (v := zJ 3) zi93_113 rfl ?_
    refine zr_virtual zi93_114 rfl rfl (O.1.at0 rfl) rfl rfl ?_
    refine zcall_dep (d := 0) (Nat.le_of_ble_eq_true rfl) (c41 O (by omega) (by omega) (zbk_v ?_))
    refine zr_virtual zi93_117 rfl rfl (G.1.at0 rfl) rfl rfl ?_
    refine zcall_dep (d := 0) (Nat.le_of_ble_eq_true rfl) (c3 G (show ycl w hh (hh - 1 - r) (w - 1 - c) < 25 by omega) (fun h117 F117 G117 => zbk_0 ?_))
    have O_117 := O.fr F117 (by intro a z1 z2 z3; simp only [yIv] at z3; omega)
    refine zr_return zi93_120 rfl ?_
    refine K _ F117 ?_
    rw [ztc, zrs]
    first | rw [if_pos q68] | rw [if_neg q68]
    exact G117
  · refine zr_iload zi93_71 rfl ?_
    refine zr_goto zi93_73 rfl ?_
    refine zr_istore (L' := [some (.ref _), some (.ref _), some (.int (zJ _)), some (.int (zJ _)), some (.int (zJ _)), some (.int (zJ _)), some (.int (zJ _)), some (.int (zJ _)), some (.int _), some (.int _)]) zi93_84 rfl rfl ?_
    refine zr_aload_n zi93_86 rfl ?_
    refine zr_aload_n zi93_87 rfl ?_
    refine zr_iload zi93_88 rfl ?_
    refine zr_iload zi93_90 rfl ?_
    refine zr_virtual zi93_92 rfl rfl (G.1.at0 rfl) rfl rfl ?_
    refine zcall_dep (d := 0) (Nat.le_of_ble_eq_true rfl) (c21 G (by omega) (by omega) (zbk_v ?_))
    refine zr_aload_n zi93_95 rfl ?_
    refine zr_iload zi93_96 rfl ?_
    refine zr_virtual zi93_98 rfl rfl (O.1.at0 rfl) rfl rfl ?_
    refine zcall_dep (d := 0) (Nat.le_of_ble_eq_true rfl) (c16 O (by omega) (zbk_v ?_))
    refine zr_iload zi93_101 rfl ?_
    refine zr_aload_n zi93_103 rfl ?_
    refine zr_iload zi93_104 rfl ?_
    refine zr_iconst (v := zJ 2) zi93_106 rfl ?_
    refine zr_virtual zi93_107 rfl rfl (O.1.at0 rfl) rfl rfl ?_
    refine zcall_dep (d := 0) (Nat.le_of_ble_eq_true rfl) (c41 O (by omega) (by omega) (zbk_v ?_))
    refine zr_aload_n zi93_110 rfl ?_
    refine zr_iload zi93_111 rfl ?_
    refine zr_iconst (v := zJ 3) zi93_113 rfl ?_
    refine zr_virtual zi93_114 rfl rfl (O.1.at0 rfl) rfl rfl ?_
    refine zcall_dep (d := 0) (Nat.le_of_ble_eq_true rfl) (c41 O (by omega) (by omega) (zbk_v ?_))
    refine zr_virtual zi93_117 rfl rfl (G.1.at0 rfl) rfl rfl ?_
    refine zcall_dep (d := 0) (Nat.le_of_ble_eq_true rfl) (c3 G (show ycl w hh (hh - 1 - r) (w - 1 - c) < 25 by omega) (fun h117 F117 G117 => zbk_0 ?_))
    have O_117 := O.fr F117 (by intro a z1 z2 z3; simp only [yIv] at z3; omega)
    refine zr_return zi93_120 rfl ?_
    refine K _ F117 ?_
    rw [ztc, zrs]
    first | rw [if_pos q68] | rw [if_neg q68]
    exact G117
theorem c93_1 {E : zEnv} {h : zPH} {Q : zOut → zPH → Prop} {g w hh : Nat} {cs cl fs : List Int32} (G : yG h g w hh cs cl fs) {o ow oh : Nat} {os ol ofs : List Int32} (O : yG h o ow oh os ol ofs) (hd : g + 4 ≤ o ∨ o + 4 ≤ g) {r c : Nat} (hr : r < oh) (hc : c < ow) (hdm : w = ow ∧ hh = oh) (K : ∀ h1, yFr (yIv g 4) h h1 0 0 → yG h1 g w hh (ztc 1 w hh ow oh os cs r c) cl fs → Q (.inl none) h1) : zcall E 1 93 [.ref g, .ref o, .int (zJ r), .int (zJ c), .int (zJ 1)] h Q := by
  obtain ⟨⟨gw1, gw2, gh1, gh2⟩, gcs, gcl, gfs⟩ := G.2
  obtain ⟨⟨ow1, ow2, oh1, oh2⟩, ocs, ocl, ofl⟩ := O.2
  have hwh := zwh_b G.2.1
  have owh := zwh_b O.2.1
  have hof := ycl_b (w := ow) (hh := oh) (i := r) (p := c) (by omega) (by rw [yln, if_pos hr]; exact hc)
  have hgf := ycl_b (w := w) (hh := hh) (i := r) (p := w - 1 - c) (by omega) (by rw [yln, if_pos (show r < hh by omega)]; omega)
  show zwp E _ 93 (0, [some (.ref _), some (.ref _), some (.int (zJ _)), some (.int (zJ _)), some (.int (zJ _)), none, none, none, none, none], [], _) Q
  refine zr_iload zi93_0 rfl ?_
  refine zr_iconst (v := zJ 2) zi93_2 rfl ?_
  refine zr_icmp_neN zi93_3 rfl (by omega) (by omega) (fun q3 => ?_) (fun q3 => absurd q3 (by omega))
  refine zr_iload zi93_10 rfl ?_
  refine zr_if_neN zi93_12 rfl (by omega) (fun q12 => ?_) (fun q12 => absurd q12 (by omega))
  refine zr_iload_n zi93_26 rfl ?_
  refine zr_istore (L' := [some (.ref _), some (.ref _), some (.int (zJ _)), some (.int (zJ _)), some (.int (zJ _)), some (.int (zJ _)), none, none, none, none]) zi93_27 rfl rfl ?_
  refine zr_iload zi93_29 rfl ?_
  refine zr_iconst (v := zJ 2) zi93_31 rfl ?_
  refine zr_icmp_neN zi93_32 rfl (by omega) (by omega) (fun q32 => ?_) (fun q32 => absurd q32 (by omega))
  refine zr_aload_n zi93_39 rfl ?_
  refine zr_getfield zi93_40 (G.1.at0 rfl) rfl ?_
  refine zr_iconst (v := zJ 1) zi93_43 rfl ?_
  refine zr_isubN zi93_44 (by omega) ?_
  refine zr_iload_n zi93_45 rfl ?_
  refine zr_isubN zi93_46 (by omega) ?_
  refine zr_istore (L' := [some (.ref _), some (.ref _), some (.int (zJ _)), some (.int (zJ _)), some (.int (zJ _)), some (.int (zJ _)), some (.int (zJ _)), none, none, none]) zi93_47 rfl rfl ?_
  refine zr_aload_n zi93_49 rfl ?_
  refine zr_iload_n zi93_50 rfl ?_
  refine zr_iload_n zi93_51 rfl ?_
  refine zr_virtual zi93_52 rfl rfl (O.1.at0 rfl) rfl rfl ?_
  refine zcall_dep (d := 0) (Nat.le_of_ble_eq_true rfl) (c21 O (by omega) (by omega) (zbk_v ?_))
  refine zr_istore (L' := [some (.ref _), some (.ref _), some (.int (zJ _)), some (.int (zJ _)), some (.int (zJ _)), some (.int (zJ _)), some (.int (zJ _)), some (.int (zJ _)), none, none]) zi93_55 rfl rfl ?_
  refine zr_aload_n zi93_57 rfl ?_
  refine zr_iload zi93_58 rfl ?_
  refine zr_iconst (v := zJ 1) zi93_60 rfl ?_
  refine zr_virtual zi93_61 rfl rfl (O.1.at0 rfl) rfl rfl ?_
  refine zcall_dep (d := 0) (Nat.le_of_ble_eq_true rfl) (c41 O (by omega) (by omega) (zbk_v ?_))
  refine zr_istore (L' := [some (.ref _), some (.ref _), some (.int (zJ _)), some (.int (zJ _)), some (.int (zJ _)), some (.int (zJ _)), some (.int (zJ _)), some (.int (zJ _)), some (.int _), none]) zi93_64 rfl rfl ?_
  refine zr_iload zi93_66 rfl ?_
  refine zr_if_ge zi93_68 rfl (fun q68 => ?_) (fun q68 => ?_)
  · refine zr_aload_n zi93_76 rfl ?_
    refine zr_iload zi93_77 rfl ?_
    refine zr_iload zi93_79 rfl ?_
    refine zr_virtual zi93_81 rfl rfl (O.1.at0 rfl) rfl rfl ?_
    refine zcall_dep (d := 0) (Nat.le_of_ble_eq_true rfl) (c64 O (by omega) (zbk_v ?_))
    refine zr_istore (L' := [some (.ref _), some (.ref _), some (.int (zJ _)), some (.int (zJ _)), some (.int (zJ _)), some (.int (zJ _)), some (.int (zJ _)), some (.int (zJ _)), some (.int _), some (.int _)]) zi93_84 rfl rfl ?_
    refine zr_aload_n zi93_86 rfl ?_
    refine zr_aload_n zi93_87 rfl ?_
    refine zr_iload zi93_88 rfl ?_
    refine zr_iload zi93_90 rfl ?_
    refine zr_virtual zi93_92 rfl rfl (G.1.at0 rfl) rfl rfl ?_
    refine zcall_dep (d := 0) (Nat.le_of_ble_eq_true rfl) (c21 G (by omega) (by omega) (zbk_v ?_))
    refine zr_aload_n zi93_95 rfl ?_
    refine zr_iload zi93_96 rfl ?_
    refine zr_virtual zi93_98 rfl rfl (O.1.at0 rfl) rfl rfl ?_
    refine zcall_dep (d := 0) (Nat.le_of_ble_eq_true rfl) (c16 O (by omega) (zbk_v ?_))
    refine zr_iload zi93_101 rfl ?_
    refine zr_aload_n zi93_103 rfl ?_
    refine zr_iload zi93_104 rfl ?_
    refine zr_iconst (v := zJ 2) zi93_106 rfl ?_
    refine zr_virtual zi93_107 rfl rfl (O.1.at0 rfl) rfl rfl ?_
    refine zcall_dep (d := 0) (Nat.le_of_ble_eq_true rfl) (c41 O (by omega) (by omega) (zbk_v ?_))
    refine zr_aload_n zi93_110 rfl ?_
    refine zr_iload zi93_111 rfl ?_
    refine zr_iconst (v := zJ 3) zi93_113 rfl ?_
    refine zr_virtual zi93_114 rfl rfl (O.1.at0 rfl) rfl rfl ?_
    refine zcall_dep (d := 0) (Nat.le_of_ble_eq_true rfl) (c41 O (by omega) (by omega) (zbk_v ?_))
    refine zr_virtual zi93_117 rfl rfl (G.1.at0 rfl) rfl rfl ?_
    refine zcall_dep (d := 0) (Nat.le_of_ble_eq_true rfl) (c3 G (show ycl w hh (r) (w - 1 - c) < 25 by omega) (fun h117 F117 G117 => zbk_0 ?_))
    have O_117 := O.fr F117 (by intro a z1 z2 z3; simp only [yIv] at z3; omega)
    refine zr_return zi93_120 rfl ?_
    refine K _ F117 ?_
    rw [ztc, zrs]
    first | rw [if_pos q68] | rw [if_neg q68]
    exact G117
  · refine zr_iload zi93_71 rfl ?_
    refine zr_goto zi93_73 rfl ?_
    refine zr_istore (L' := [some (.ref _), some (.ref _), some (.int (zJ _)), some (.int (zJ _)), some (.int (zJ _)), some (.int (zJ _)), some (.int (zJ _)), some (.int (zJ _)), some (.int _), some (.int _)]) zi93_84 rfl rfl ?_
    refine zr_aload_n zi93_86 rfl ?_
    refine zr_aload_n zi93_87 rfl ?_
    refine zr_iload zi93_88 rfl ?_
    refine zr_iload zi93_90 rfl ?_
    refine zr_virtual zi93_92 rfl rfl (G.1.at0 rfl) rfl rfl ?_
    refine zcall_dep (d := 0) (Nat.le_of_ble_eq_true rfl) (c21 G (by omega) (by omega) (zbk_v ?_))
    refine zr_aload_n zi93_95 rfl ?_
    refine zr_iload zi93_96 rfl ?_
    refine zr_virtual zi93_98 rfl rfl (O.1.at0 rfl) rfl rfl ?_
    refine zcall_dep (d := 0) (Nat.le_of_ble_eq_true rfl) (c16 O (by omega) (zbk_v ?_))
    refine zr_iload zi93_101 rfl ?_
    refine zr_aload_n zi93_103 rfl ?_
    refine zr_iload zi93_104 rfl ?_
    refine zr_iconst (v := zJ 2) zi93_106 rfl ?_
    refine zr_virtual zi93_107 rfl rfl (O.1.at0 rfl) rfl rfl ?_
    refine zcall_dep (d := 0) (Nat.le_of_ble_eq_true rfl) (c41 O (by omega) (by omega) (zbk_v ?_))
    refine zr_aload_n zi93_110 rfl ?_
    refine zr_iload zi93_111 rfl ?_
    refine zr_iconst (v := zJ 3) zi93_113 rfl ?_
    refine zr_virtual zi93_114 rfl rfl (O.1.at0 rfl) rfl rfl ?_
    refine zcall_dep (d := 0) (Nat.le_of_ble_eq_true rfl) (c41 O (by omega) (by omega) (zbk_v ?_))
    refine zr_virtual zi93_117 rfl rfl (G.1.at0 rfl) rfl rfl ?_
    refine zcall_dep (d := 0) (Nat.le_of_ble_eq_true rfl) (c3 G (show ycl w hh (r) (w - 1 - c) < 25 by omega) (fun h117 F117 G117 => zbk_0 ?_))
    have O_117 := O.fr F117 (by intro a z1 z2 z3; simp only [yIv] at z3; omega)
    refine zr_return zi93_120 rfl ?_
    refine K _ F117 ?_
    rw [ztc, zrs]
    first | rw [if_pos q68] | rw [if_neg q68]
    exact G117
theorem c93_2 {E : zEnv} {h : zPH} {Q : zOut → zPH → Prop} {g w hh : Nat} {cs cl fs : List Int32} (G : yG h g w hh cs cl fs) {o ow oh : Nat} {os ol ofs : List Int32} (O : yG h o ow oh os ol ofs) (hd : g + 4 ≤ o ∨ o + 4 ≤ g) {r c : Nat} (hr : r < oh) (hc : c < ow) (hdm : w = oh ∧ hh = ow) (K : ∀ h1, yFr (yIv g 4) h h1 0 0 → yG h1 g w hh (ztc 2 w hh ow oh os cs r c) cl fs → Q (.inl none) h1) : zcall E 1 93 [.ref g, .ref o, .int (zJ r), .int (zJ c), .int (zJ 2)] h Q := by
  obtain ⟨⟨gw1, gw2, gh1, gh2⟩, gcs, gcl, gfs⟩ := G.2
  obtain ⟨⟨ow1, ow2, oh1, oh2⟩, ocs, ocl, ofl⟩ := O.2
  have hwh := zwh_b G.2.1
  have owh := zwh_b O.2.1
  have hof := ycl_b (w := ow) (hh := oh) (i := r) (p := c) (by omega) (by rw [yln, if_pos hr]; exact hc)
  have hgf := ycl_b (w := w) (hh := hh) (i := c) (p := r) (by omega) (by rw [yln, if_pos (show c < hh by omega)]; omega)
  show zwp E _ 93 (0, [some (.ref _), some (.ref _), some (.int (zJ _)), some (.int (zJ _)), some (.int (zJ _)), none, none, none, none, none], [], _) Q
  refine zr_iload zi93_0 rfl ?_
  refine zr_iconst (v := zJ 2) zi93_2 rfl ?_
  refine zr_icmp_neN zi93_3 rfl (by omega) (by omega) (fun q3 => absurd q3 (by omega)) (fun q3 => ?_)
  refine zr_iload_n zi93_6 rfl ?_
  refine zr_goto zi93_7 rfl ?_
  refine zr_istore (L' := [some (.ref _), some (.ref _), some (.int (zJ _)), some (.int (zJ _)), some (.int (zJ _)), some (.int (zJ _)), none, none, none, none]) zi93_27 rfl rfl ?_
  refine zr_iload zi93_29 rfl ?_
  refine zr_iconst (v := zJ 2) zi93_31 rfl ?_
  refine zr_icmp_neN zi93_32 rfl (by omega) (by omega) (fun q32 => absurd q32 (by omega)) (fun q32 => ?_)
  refine zr_iload_n zi93_35 rfl ?_
  refine zr_goto zi93_36 rfl ?_
  refine zr_istore (L' := [some (.ref _), some (.ref _), some (.int (zJ _)), some (.int (zJ _)), some (.int (zJ _)), some (.int (zJ _)), some (.int (zJ _)), none, none, none]) zi93_47 rfl rfl ?_
  refine zr_aload_n zi93_49 rfl ?_
  refine zr_iload_n zi93_50 rfl ?_
  refine zr_iload_n zi93_51 rfl ?_
  refine zr_virtual zi93_52 rfl rfl (O.1.at0 rfl) rfl rfl ?_
  refine zcall_dep (d := 0) (Nat.le_of_ble_eq_true rfl) (c21 O (by omega) (by omega) (zbk_v ?_))
  refine zr_istore (L' := [some (.ref _), some (.ref _), some (.int (zJ _)), some (.int (zJ _)), some (.int (zJ _)), some (.int (zJ _)), some (.int (zJ _)), some (.int (zJ _)), none, none]) zi93_55 rfl rfl ?_
  refine zr_aload_n zi93_57 rfl ?_
  refine zr_iload zi93_58 rfl ?_
  refine zr_iconst (v := zJ 1) zi93_60 rfl ?_
  refine zr_virtual zi93_61 rfl rfl (O.1.at0 rfl) rfl rfl ?_
  refine zcall_dep (d := 0) (Nat.le_of_ble_eq_true rfl) (c41 O (by omega) (by omega) (zbk_v ?_))
  refine zr_istore (L' := [some (.ref _), some (.ref _), some (.int (zJ _)), some (.int (zJ _)), some (.int (zJ _)), some (.int (zJ _)), some (.int (zJ _)), some (.int (zJ _)), some (.int _), none]) zi93_64 rfl rfl ?_
  refine zr_iload zi93_66 rfl ?_
  refine zr_if_ge zi93_68 rfl (fun q68 => ?_) (fun q68 => ?_)
  · refine zr_aload_n zi93_76 rfl ?_
    refine zr_iload zi93_77 rfl ?_
    refine zr_iload zi93_79 rfl ?_
    refine zr_virtual zi93_81 rfl rfl (O.1.at0 rfl) rfl rfl ?_
    refine zcall_dep (d := 0) (Nat.le_of_ble_eq_true rfl) (c64 O (by omega) (zbk_v ?_))
    refine zr_istore (L' := [some (.ref _), some (.ref _), some (.int (zJ _)), some (.int (zJ _)), some (.int (zJ _)), some (.int (zJ _)), some (.int (zJ _)), some (.int (zJ _)), some (.int _), some (.int _)]) zi93_84 rfl rfl ?_
    refine zr_aload_n zi93_86 rfl ?_
    refine zr_aload_n zi93_87 rfl ?_
    refine zr_iload zi93_88 rfl ?_
    refine zr_iload zi93_90 rfl ?_
    refine zr_virtual zi93_92 rfl rfl (G.1.at0 rfl) rfl rfl ?_
    refine zcall_dep (d := 0) (Nat.le_of_ble_eq_true rfl) (c21 G (by omega) (by omega) (zbk_v ?_))
    refine zr_aload_n zi93_95 rfl ?_
    refine zr_iload zi93_96 rfl ?_
    refine zr_virtual zi93_98 rfl rfl (O.1.at0 rfl) rfl rfl ?_
    refine zcall_dep (d := 0) (Nat.le_of_ble_eq_true rfl) (c16 O (by omega) (zbk_v ?_))
    refine zr_iload zi93_101 rfl ?_
    refine zr_aload_n zi93_103 rfl ?_
    refine zr_iload zi93_104 rfl ?_
    refine zr_iconst (v := zJ 2) zi93_106 rfl ?_
    refine zr_virtual zi93_107 rfl rfl (O.1.at0 rfl) rfl rfl ?_
    refine zcall_dep (d := 0) (Nat.le_of_ble_eq_true rfl) (c41 O (by omega) (by omega) (zbk_v ?_))
    refine zr_aload_n zi93_110 rfl ?_
    refine zr_iload zi93_111 rfl ?_
    refine zr_iconst (v := zJ 3) zi93_113 rfl ?_
    refine zr_virtual zi93_114 rfl rfl (O.1.at0 rfl) rfl rfl ?_
    refine zcall_dep (d := 0) (Nat.le_of_ble_eq_true rfl) (c41 O (by omega) (by omega) (zbk_v ?_))
    refine zr_virtual zi93_117 rfl rfl (G.1.at0 rfl) rfl rfl ?_
    refine zcall_dep (d := 0) (Nat.le_of_ble_eq_true rfl) (c3 G (show ycl w hh (c) (r) < 25 by omega) (fun h117 F117 G117 => zbk_0 ?_))
    have O_117 := O.fr F117 (by intro a z1 z2 z3; simp only [yIv] at z3; omega)
    refine zr_return zi93_120 rfl ?_
    refine K _ F117 ?_
    rw [ztc, zrs]
    first | rw [if_pos q68] | rw [if_neg q68]
    exact G117
  · refine zr_iload zi93_71 rfl ?_
    refine zr_goto zi93_73 rfl ?_
    refine zr_istore (L' := [some (.ref _), some (.ref _), some (.int (zJ _)), some (.int (zJ _)), some (.int (zJ _)), some (.int (zJ _)), some (.int (zJ _)), some (.int (zJ _)), some (.int _), some (.int _)]) zi93_84 rfl rfl ?_
    refine zr_aload_n zi93_86 rfl ?_
    refine zr_aload_n zi93_87 rfl ?_
    refine zr_iload zi93_88 rfl ?_
    refine zr_iload zi93_90 rfl ?_
    refine zr_virtual zi93_92 rfl rfl (G.1.at0 rfl) rfl rfl ?_
    refine zcall_dep (d := 0) (Nat.le_of_ble_eq_true rfl) (c21 G (by omega) (by omega) (zbk_v ?_))
    refine zr_aload_n zi93_95 rfl ?_
    refine zr_iload zi93_96 rfl ?_
    refine zr_virtual zi93_98 rfl rfl (O.1.at0 rfl) rfl rfl ?_
    refine zcall_dep (d := 0) (Nat.le_of_ble_eq_true rfl) (c16 O (by omega) (zbk_v ?_))
    refine zr_iload zi93_101 rfl ?_
    refine zr_aload_n zi93_103 rfl ?_
    refine zr_iload zi93_104 rfl ?_
    refine zr_iconst (v := zJ 2) zi93_106 rfl ?_
    refine zr_virtual zi93_107 rfl rfl (O.1.at0 rfl) rfl rfl ?_
    refine zcall_dep (d := 0) (Nat.le_of_ble_eq_true rfl) (c41 O (by omega) (by omega) (zbk_v ?_))
    refine zr_aload_n zi93_110 rfl ?_
    refine zr_iload zi93_111 rfl ?_
    refine zr_iconst (v := zJ 3) zi93_113 rfl ?_
    refine zr_virtual zi93_114 rfl rfl (O.1.at0 rfl) rfl rfl ?_
    refine zcall_dep (d := 0) (Nat.le_of_ble_eq_true rfl) (c41 O (by omega) (by omega) (zbk_v ?_))
    refine zr_virtual zi93_117 rfl rfl (G.1.at0 rfl) rfl rfl ?_
    refine zcall_dep (d := 0) (Nat.le_of_ble_eq_true rfl) (c3 G (show ycl w hh (c) (r) < 25 by omega) (fun h117 F117 G117 => zbk_0 ?_))
    have O_117 := O.fr F117 (by intro a z1 z2 z3; simp only [yIv] at z3; omega)
    refine zr_return zi93_120 rfl ?_
    refine K _ F117 ?_
    rw [ztc, zrs]
    first | rw [if_pos q68] | rw [if_neg q68]
    exact G117
theorem c92_0 {E : zEnv} {h : zPH} {Q : zOut → zPH → Prop} (S : ySs E h) {g w hh : Nat} {cs cl fs : List Int32} (G : yG h g w hh cs cl fs) {o ow oh : Nat} {os ol ofs : List Int32} (O : yG h o ow oh os ol ofs) (hd : g + 4 ≤ o ∨ o + 4 ≤ g) (K : ∀ h1, yFr (yIv g 4) h h1 0 0 → yG h1 g ow oh (yTr 0 ow oh ow oh os cs oh) (yTl 0 ow oh ow oh ol cl fs (ow + oh)).1 (yTl 0 ow oh ow oh ol cl fs (ow + oh)).2 → Q (.inl none) h1) : zcall E 2 92 [.ref g, .ref o, .int (zJ 0)] h Q := by
  obtain ⟨⟨gw1, gw2, gh1, gh2⟩, gcs, gcl, gfs⟩ := G.2
  obtain ⟨⟨ow1, ow2, oh1, oh2⟩, ocs, ocl, ofl⟩ := O.2
  show zwp E _ 92 (0, [some (.ref _), some (.ref _), some (.int (zJ _)), none, none], [], _) Q
  refine zr_aload_n zi92_0 rfl ?_
  refine zr_iload_n zi92_1 rfl ?_
  refine zr_iconst (v := zJ 2) zi92_2 rfl ?_
  refine zr_icmp_neN zi92_3 rfl (by omega) (by omega) (fun q3 => ?_) (fun q3 => absurd q3 (by omega))
  refine zr_aload_n zi92_13 rfl ?_
  refine zr_getfield zi92_14 (O.1.at0 rfl) rfl ?_
  refine zr_putfield zi92_17 (G.1.at0 rfl) rfl rfl ?_
  refine yG.wob G (by first | omega | (simp only [List.length_set, zpt_len]; omega)) (fun h17 F17 G17 => ?_)
  have O_17 := O.fr F17 (by intro a z1 z2 z3; simp only [yIv] at z3; omega)
  have S_17 := F17.ss S
  refine zr_aload_n zi92_20 rfl ?_
  refine zr_iload_n zi92_21 rfl ?_
  refine zr_iconst (v := zJ 2) zi92_22 rfl ?_
  refine zr_icmp_neN zi92_23 rfl (by omega) (by omega) (fun q23 => ?_) (fun q23 => absurd q23 (by omega))
  refine zr_aload_n zi92_33 rfl ?_
  refine zr_getfield zi92_34 (O_17.1.at0 rfl) rfl ?_
  refine zr_putfield zi92_37 (G17.1.at0 rfl) rfl rfl ?_
  refine yG.wob G17 (by first | omega | (simp only [List.length_set, zpt_len]; omega)) (fun h37 F37 G37 => ?_)
  have O_37 := O_17.fr F37 (by intro a z1 z2 z3; simp only [yIv] at z3; omega)
  have S_37 := F37.ss S_17
  refine zr_iconst (v := zJ 0) zi92_40 rfl ?_
  refine zr_istore_n (L' := [some (.ref _), some (.ref _), some (.int (zJ _)), some (.int (zJ _)), none]) zi92_41 rfl rfl ?_
  suffices key42 : ∀ h1 x4, (yFr (yIv g 4) h h1 0 0) → (yG h1 g ow oh (yTr 0 ow oh ow oh os cs 0) cl fs) → zwp E 2 92 (42, [some (.ref g), some (.ref o), some (.int (zJ 0)), some (.int (zJ 0)), x4], [], h1) Q from key42 _ _ (F17.trans F37) G37
  refine zloop (P := fun r => ∀ h1 x4, (yFr (yIv g 4) h h1 0 0) → (yG h1 g ow oh (yTr 0 ow oh ow oh os cs r) cl fs) → zwp E 2 92 (42, [some (.ref g), some (.ref o), some (.int (zJ 0)), some (.int (zJ r)), x4], [], h1) Q) (n := oh) fun r hk42 ih42 => ?_
  intro h1 x4 F1 G1
  have O_1 := O.fr F1 (by intro a z1 z2 z3; simp only [yIv] at z3; omega)
  have S_1 := F1.ss S
  refine zr_iload_n zi92_42 rfl ?_
  refine zr_aload_n zi92_43 rfl ?_
  refine zr_getfield zi92_44 (O_1.1.at0 rfl) rfl ?_
  refine zr_icmp_geN zi92_47 rfl (by omega) (by omega) (fun q47 => ?_) (fun q47 => ?_)
  · obtain rfl : oh = r := by omega
    refine zr_iconst (v := zJ 0) zi92_83 rfl ?_
    refine zr_istore_n (L' := [some (.ref _), some (.ref _), some (.int (zJ _)), some (.int (zJ _)), _]) zi92_84 rfl rfl ?_
    suffices key85 : ∀ h1 x4, (yFr (yIv g 4) h h1 0 0) → (yG h1 g ow oh (yTr 0 ow oh ow oh os cs oh) (yTl 0 ow oh ow oh ol cl fs 0).1 (yTl 0 ow oh ow oh ol cl fs 0).2) → zwp E 2 92 (85, [some (.ref g), some (.ref o), some (.int (zJ 0)), some (.int (zJ 0)), x4], [], h1) Q from key85 h1 _ F1 G1
    refine zloop (P := fun k => ∀ h1 x4, (yFr (yIv g 4) h h1 0 0) → (yG h1 g ow oh (yTr 0 ow oh ow oh os cs oh) (yTl 0 ow oh ow oh ol cl fs k).1 (yTl 0 ow oh ow oh ol cl fs k).2) → zwp E 2 92 (85, [some (.ref g), some (.ref o), some (.int (zJ 0)), some (.int (zJ k)), x4], [], h1) Q) (n := ow + oh) fun k hk85 ih85 => ?_
    intro h1 x4 F1 G1
    have O_1 := O.fr F1 (by intro a z1 z2 z3; simp only [yIv] at z3; omega)
    have S_1 := F1.ss S
    have htl := fun (q : k < ow + oh) => ztl_J (how := 0) O.2.1 q
    refine zr_iload_n zi92_85 rfl ?_
    refine zr_aload_n zi92_86 rfl ?_
    refine zr_virtual zi92_87 rfl rfl (O_1.1.at0 rfl) rfl rfl ?_
    refine zcall_dep (d := 0) (Nat.le_of_ble_eq_true rfl) (c4 O_1 (zbk_v ?_))
    refine zr_icmp_geN zi92_90 rfl (by omega) (by omega) (fun q90 => ?_) (fun q90 => ?_)
    · refine zr_return zi92_135 rfl ?_
      obtain rfl : k = ow + oh := by omega
      exact K _ F1 G1
    · refine zr_aload_n zi92_93 rfl ?_
      refine zr_iload_n zi92_94 rfl ?_
      refine zr_virtual zi92_95 rfl rfl (O_1.1.at0 rfl) rfl rfl ?_
      refine zcall_dep (d := 0) (Nat.le_of_ble_eq_true rfl) (c36 O_1 (by omega) (zbk_v ?_))
      refine zr_istore (L' := [some (.ref _), some (.ref _), some (.int (zJ _)), some (.int (zJ _)), some (.int _)]) zi92_98 rfl rfl ?_
      refine zr_aload_n zi92_100 rfl ?_
      refine zr_aload_n zi92_101 rfl ?_
      refine zr_iload_n zi92_102 rfl ?_
      refine zr_iload_n zi92_103 rfl ?_
      refine zr_virtual zi92_104 rfl rfl (O_1.1.at0 rfl) rfl rfl ?_
      refine zcall_dep (d := 0) (Nat.le_of_ble_eq_true rfl) (c64 O_1 (by omega) (zbk_v ?_))
      rw [(htl q90).1]
      refine zr_aload_n zi92_107 rfl ?_
      refine zr_iload_n zi92_108 rfl ?_
      refine zr_iload_n zi92_109 rfl ?_
      refine zr_virtual zi92_110 rfl rfl (O_1.1.at0 rfl) rfl rfl ?_
      refine zcall_dep (d := 0) (Nat.le_of_ble_eq_true rfl) (c63 O_1 (by omega) (by omega) (zbk_v ?_))
      refine zr_if_eqB zi92_113 rfl (fun q113 => ?_) (fun q113 => ?_)
      · refine zr_iload zi92_124 rfl ?_
        refine zr_virtual zi92_126 rfl rfl (G1.1.at0 rfl) rfl rfl ?_
        refine zcall_dep (d := 1) (Nat.le_of_ble_eq_true rfl) (c5 S_1 G1 (by have := htl q90; omega) (fun h126 F126 G126 => zbk_0 ?_))
        have O_126 := O_1.fr F126 (by intro a z1 z2 z3; simp only [yIv] at z3; omega)
        have S_126 := F126.ss S_1
        refine zr_iincN (z := 1) (L' := [some (.ref _), some (.ref _), some (.int (zJ _)), some (.int (zJ _)), some (.int _)]) zi92_129 rfl rfl rfl rfl ?_
        refine zr_goto zi92_132 rfl ?_
        refine ih85 (by omega) _ _ (F1.trans F126) ?_
        rw [yTl, yTx]
        first | rw [if_pos q113] | rw [if_neg (by rw [q113]; decide)]
        exact G126
      · refine zr_iload zi92_116 rfl ?_
        refine zr_static zi92_118 rfl rfl rfl rfl ?_
        refine zcall_dep (d := 0) (Nat.le_of_ble_eq_true rfl) (c65 (zbk_v ?_))
        refine zr_goto zi92_121 rfl ?_
        refine zr_virtual zi92_126 rfl rfl (G1.1.at0 rfl) rfl rfl ?_
        refine zcall_dep (d := 1) (Nat.le_of_ble_eq_true rfl) (c5 S_1 G1 (by have := htl q90; omega) (fun h126 F126 G126 => zbk_0 ?_))
        have O_126 := O_1.fr F126 (by intro a z1 z2 z3; simp only [yIv] at z3; omega)
        have S_126 := F126.ss S_1
        refine zr_iincN (z := 1) (L' := [some (.ref _), some (.ref _), some (.int (zJ _)), some (.int (zJ _)), some (.int _)]) zi92_129 rfl rfl rfl rfl ?_
        refine zr_goto zi92_132 rfl ?_
        refine ih85 (by omega) _ _ (F1.trans F126) ?_
        rw [yTl, yTx]
        first | rw [if_pos q113] | rw [if_neg (by rw [q113]; decide)]
        exact G126
  · refine zr_iconst (v := zJ 0) zi92_50 rfl ?_
    refine zr_istore (L' := [some (.ref _), some (.ref _), some (.int (zJ _)), some (.int (zJ _)), some (.int (zJ _))]) zi92_51 rfl rfl ?_
    suffices key53 : ∀ h2, (yFr (yIv g 4) h h2 0 0) → (yG h2 g ow oh (yTc 0 ow oh ow oh os (yTr 0 ow oh ow oh os cs r) r 0) cl fs) → zwp E 2 92 (53, [some (.ref g), some (.ref o), some (.int (zJ 0)), some (.int (zJ r)), some (.int (zJ 0))], [], h2) Q from key53 h1 F1 G1
    refine zloop (P := fun k => ∀ h2, (yFr (yIv g 4) h h2 0 0) → (yG h2 g ow oh (yTc 0 ow oh ow oh os (yTr 0 ow oh ow oh os cs r) r k) cl fs) → zwp E 2 92 (53, [some (.ref g), some (.ref o), some (.int (zJ 0)), some (.int (zJ r)), some (.int (zJ k))], [], h2) Q) (n := ow) fun k hk53 ih53 => ?_
    intro h2 F2 G2
    have O_2 := O.fr F2 (by intro a z1 z2 z3; simp only [yIv] at z3; omega)
    have S_2 := F2.ss S
    refine zr_iload zi92_53 rfl ?_
    refine zr_aload_n zi92_55 rfl ?_
    refine zr_getfield zi92_56 (O_2.1.at0 rfl) rfl ?_
    refine zr_icmp_geN zi92_59 rfl (by omega) (by omega) (fun q59 => ?_) (fun q59 => ?_)
    · obtain rfl : ow = k := by omega
      refine zr_iincN (z := 1) (L' := [some (.ref _), some (.ref _), some (.int (zJ _)), some (.int (zJ _)), some (.int (zJ _))]) zi92_77 rfl rfl rfl rfl ?_
      refine zr_goto zi92_80 rfl ?_
      have en := ih42 (by omega) _ (some (.int (zJ ow))) F2
      rw [yTr] at en
      exact en G2
    · refine zr_aload_n zi92_62 rfl ?_
      refine zr_aload_n zi92_63 rfl ?_
      refine zr_iload_n zi92_64 rfl ?_
      refine zr_iload zi92_65 rfl ?_
      refine zr_iload_n zi92_67 rfl ?_
      refine zr_virtual zi92_68 rfl rfl (G2.1.at0 rfl) rfl rfl ?_
      refine zcall_dep (d := 1) (Nat.le_of_ble_eq_true rfl) (c93_0 G2 O_2 (by omega) (by omega) (by omega) (by omega) (fun h68 F68 G68 => zbk_0 ?_))
      have O_68 := O_2.fr F68 (by intro a z1 z2 z3; simp only [yIv] at z3; omega)
      have S_68 := F68.ss S_2
      refine zr_iincN (z := 1) (L' := [some (.ref _), some (.ref _), some (.int (zJ _)), some (.int (zJ _)), some (.int (zJ _))]) zi92_71 rfl rfl rfl rfl ?_
      refine zr_goto zi92_74 rfl ?_
      exact ih53 (by omega) _ (F2.trans F68) G68
theorem c92_1 {E : zEnv} {h : zPH} {Q : zOut → zPH → Prop} (S : ySs E h) {g w hh : Nat} {cs cl fs : List Int32} (G : yG h g w hh cs cl fs) {o ow oh : Nat} {os ol ofs : List Int32} (O : yG h o ow oh os ol ofs) (hd : g + 4 ≤ o ∨ o + 4 ≤ g) (K : ∀ h1, yFr (yIv g 4) h h1 0 0 → yG h1 g ow oh (yTr 1 ow oh ow oh os cs oh) (yTl 1 ow oh ow oh ol cl fs (ow + oh)).1 (yTl 1 ow oh ow oh ol cl fs (ow + oh)).2 → Q (.inl none) h1) : zcall E 2 92 [.ref g, .ref o, .int (zJ 1)] h Q := by
  obtain ⟨⟨gw1, gw2, gh1, gh2⟩, gcs, gcl, gfs⟩ := G.2
  obtain ⟨⟨ow1, ow2, oh1, oh2⟩, ocs, ocl, ofl⟩ := O.2
  show zwp E _ 92 (0, [some (.ref _), some (.ref _), some (.int (zJ _)), none, none], [], _) Q
  refine zr_aload_n zi92_0 rfl ?_
  refine zr_iload_n zi92_1 rfl ?_
  refine zr_iconst (v := zJ 2) zi92_2 rfl ?_
  refine zr_icmp_neN zi92_3 rfl (by omega) (by omega) (fun q3 => ?_) (fun q3 => absurd q3 (by omega))
  refine zr_aload_n zi92_13 rfl ?_
  refine zr_getfield zi92_14 (O.1.at0 rfl) rfl ?_
  refine zr_putfield zi92_17 (G.1.at0 rfl) rfl rfl ?_
  refine yG.wob G (by first | omega | (simp only [List.length_set, zpt_len]; omega)) (fun h17 F17 G17 => ?_)
  have O_17 := O.fr F17 (by intro a z1 z2 z3; simp only [yIv] at z3; omega)
  have S_17 := F17.ss S
  refine zr_aload_n zi92_20 rfl ?_
  refine zr_iload_n zi92_21 rfl ?_
  refine zr_iconst (v := zJ 2) zi92_22 rfl ?_
  refine zr_icmp_neN zi92_23 rfl (by omega) (by omega) (fun q23 => ?_) (fun q23 => absurd q23 (by omega))
  refine zr_aload_n zi92_33 rfl ?_
  refine zr_getfield zi92_34 (O_17.1.at0 rfl) rfl ?_
  refine zr_putfield zi92_37 (G17.1.at0 rfl) rfl rfl ?_
  refine yG.wob G17 (by first | omega | (simp only [List.length_set, zpt_len]; omega)) (fun h37 F37 G37 => ?_)
  have O_37 := O_17.fr F37 (by intro a z1 z2 z3; simp only [yIv] at z3; omega)
  have S_37 := F37.ss S_17
  refine zr_iconst (v := zJ 0) zi92_40 rfl ?_
  refine zr_istore_n (L' := [some (.ref _), some (.ref _), some (.int (zJ _)), some (.int (zJ _)), none]) zi92_41 rfl rfl ?_
  suffices key42 : ∀ h1 x4, (yFr (yIv g 4) h h1 0 0) → (yG h1 g ow oh (yTr 1 ow oh ow oh os cs 0) cl fs) → zwp E 2 92 (42, [some (.ref g), some (.ref o), some (.int (zJ 1)), some (.int (zJ 0)), x4], [], h1) Q from key42 _ _ (F17.trans F37) G37
  refine zloop (P := fun r => ∀ h1 x4, (yFr (yIv g 4) h h1 0 0) → (yG h1 g ow oh (yTr 1 ow oh ow oh os cs r) cl fs) → zwp E 2 92 (42, [some (.ref g), some (.ref o), some (.int (zJ 1)), some (.int (zJ r)), x4], [], h1) Q) (n := oh) fun r hk42 ih42 => ?_
  intro h1 x4 F1 G1
  have O_1 := O.fr F1 (by intro a z1 z2 z3; simp only [yIv] at z3; omega)
  have S_1 := F1.ss S
  refine zr_iload_n zi92_42 rfl ?_
  refine zr_aload_n zi92_43 rfl ?_
  refine zr_getfield zi92_44 (O_1.1.at0 rfl) rfl ?_
  refine zr_icmp_geN zi92_47 rfl (by omega) (by omega) (fun q47 => ?_) (fun q47 => ?_)
  · obtain rfl : oh = r := by omega
    refine zr_iconst (v := zJ 0) zi92_83 rfl ?_
    refine zr_istore_n (L' := [some (.ref _), some (.ref _), some (.int (zJ _)), some (.int (zJ _)), _]) zi92_84 rfl rfl ?_
    suffices key85 : ∀ h1 x4, (yFr (yIv g 4) h h1 0 0) → (yG h1 g ow oh (yTr 1 ow oh ow oh os cs oh) (yTl 1 ow oh ow oh ol cl fs 0).1 (yTl 1 ow oh ow oh ol cl fs 0).2) → zwp E 2 92 (85, [some (.ref g), some (.ref o), some (.int (zJ 1)), some (.int (zJ 0)), x4], [], h1) Q from key85 h1 _ F1 G1
    refine zloop (P := fun k => ∀ h1 x4, (yFr (yIv g 4) h h1 0 0) → (yG h1 g ow oh (yTr 1 ow oh ow oh os cs oh) (yTl 1 ow oh ow oh ol cl fs k).1 (yTl 1 ow oh ow oh ol cl fs k).2) → zwp E 2 92 (85, [some (.ref g), some (.ref o), some (.int (zJ 1)), some (.int (zJ k)), x4], [], h1) Q) (n := ow + oh) fun k hk85 ih85 => ?_
    intro h1 x4 F1 G1
    have O_1 := O.fr F1 (by intro a z1 z2 z3; simp only [yIv] at z3; omega)
    have S_1 := F1.ss S
    have htl := fun (q : k < ow + oh) => ztl_J (how := 1) O.2.1 q
    refine zr_iload_n zi92_85 rfl ?_
    refine zr_aload_n zi92_86 rfl ?_
    refine zr_virtual zi92_87 rfl rfl (O_1.1.at0 rfl) rfl rfl ?_
    refine zcall_dep (d := 0) (Nat.le_of_ble_eq_true rfl) (c4 O_1 (zbk_v ?_))
    refine zr_icmp_geN zi92_90 rfl (by omega) (by omega) (fun q90 => ?_) (fun q90 => ?_)
    · refine zr_return zi92_135 rfl ?_
      obtain rfl : k = ow + oh := by omega
      exact K _ F1 G1
    · refine zr_aload_n zi92_93 rfl ?_
      refine zr_iload_n zi92_94 rfl ?_
      refine zr_virtual zi92_95 rfl rfl (O_1.1.at0 rfl) rfl rfl ?_
      refine zcall_dep (d := 0) (Nat.le_of_ble_eq_true rfl) (c36 O_1 (by omega) (zbk_v ?_))
      refine zr_istore (L' := [some (.ref _), some (.ref _), some (.int (zJ _)), some (.int (zJ _)), some (.int _)]) zi92_98 rfl rfl ?_
      refine zr_aload_n zi92_100 rfl ?_
      refine zr_aload_n zi92_101 rfl ?_
      refine zr_iload_n zi92_102 rfl ?_
      refine zr_iload_n zi92_103 rfl ?_
      refine zr_virtual zi92_104 rfl rfl (O_1.1.at0 rfl) rfl rfl ?_
      refine zcall_dep (d := 0) (Nat.le_of_ble_eq_true rfl) (c64 O_1 (by omega) (zbk_v ?_))
      rw [(htl q90).1]
      refine zr_aload_n zi92_107 rfl ?_
      refine zr_iload_n zi92_108 rfl ?_
      refine zr_iload_n zi92_109 rfl ?_
      refine zr_virtual zi92_110 rfl rfl (O_1.1.at0 rfl) rfl rfl ?_
      refine zcall_dep (d := 0) (Nat.le_of_ble_eq_true rfl) (c63 O_1 (by omega) (by omega) (zbk_v ?_))
      refine zr_if_eqB zi92_113 rfl (fun q113 => ?_) (fun q113 => ?_)
      · refine zr_iload zi92_124 rfl ?_
        refine zr_virtual zi92_126 rfl rfl (G1.1.at0 rfl) rfl rfl ?_
        refine zcall_dep (d := 1) (Nat.le_of_ble_eq_true rfl) (c5 S_1 G1 (by have := htl q90; omega) (fun h126 F126 G126 => zbk_0 ?_))
        have O_126 := O_1.fr F126 (by intro a z1 z2 z3; simp only [yIv] at z3; omega)
        have S_126 := F126.ss S_1
        refine zr_iincN (z := 1) (L' := [some (.ref _), some (.ref _), some (.int (zJ _)), some (.int (zJ _)), some (.int _)]) zi92_129 rfl rfl rfl rfl ?_
        refine zr_goto zi92_132 rfl ?_
        refine ih85 (by omega) _ _ (F1.trans F126) ?_
        rw [yTl, yTx]
        first | rw [if_pos q113] | rw [if_neg (by rw [q113]; decide)]
        exact G126
      · refine zr_iload zi92_116 rfl ?_
        refine zr_static zi92_118 rfl rfl rfl rfl ?_
        refine zcall_dep (d := 0) (Nat.le_of_ble_eq_true rfl) (c65 (zbk_v ?_))
        refine zr_goto zi92_121 rfl ?_
        refine zr_virtual zi92_126 rfl rfl (G1.1.at0 rfl) rfl rfl ?_
        refine zcall_dep (d := 1) (Nat.le_of_ble_eq_true rfl) (c5 S_1 G1 (by have := htl q90; omega) (fun h126 F126 G126 => zbk_0 ?_))
        have O_126 := O_1.fr F126 (by intro a z1 z2 z3; simp only [yIv] at z3; omega)
        have S_126 := F126.ss S_1
        refine zr_iincN (z := 1) (L' := [some (.ref _), some (.ref _), some (.int (zJ _)), some (.int (zJ _)), some (.int _)]) zi92_129 rfl rfl rfl rfl ?_
        refine zr_goto zi92_132 rfl ?_
        refine ih85 (by omega) _ _ (F1.trans F126) ?_
        rw [yTl, yTx]
        first | rw [if_pos q113] | rw [if_neg (by rw [q113]; decide)]
        exact G126
  · refine zr_iconst (v := zJ 0) zi92_50 rfl ?_
    refine zr_istore (L' := [some (.ref _), some (.ref _), some (.int (zJ _)), some (.int (zJ _)), some (.int (zJ _))]) zi92_51 rfl rfl ?_
    suffices key53 : ∀ h2, (yFr (yIv g 4) h h2 0 0) → (yG h2 g ow oh (yTc 1 ow oh ow oh os (yTr 1 ow oh ow oh os cs r) r 0) cl fs) → zwp E 2 92 (53, [some (.ref g), some (.ref o), some (.int (zJ 1)), some (.int (zJ r)), some (.int (zJ 0))], [], h2) Q from key53 h1 F1 G1
    refine zloop (P := fun k => ∀ h2, (yFr (yIv g 4) h h2 0 0) → (yG h2 g ow oh (yTc 1 ow oh ow oh os (yTr 1 ow oh ow oh os cs r) r k) cl fs) → zwp E 2 92 (53, [some (.ref g), some (.ref o), some (.int (zJ 1)), some (.int (zJ r)), some (.int (zJ k))], [], h2) Q) (n := ow) fun k hk53 ih53 => ?_
    intro h2 F2 G2
    have O_2 := O.fr F2 (by intro a z1 z2 z3; simp only [yIv] at z3; omega)
    have S_2 := F2.ss S
    refine zr_iload zi92_53 rfl ?_
    refine zr_aload_n zi92_55 rfl ?_
    refine zr_getfield zi92_56 (O_2.1.at0 rfl) rfl ?_
    refine zr_icmp_geN zi92_59 rfl (by omega) (by omega) (fun q59 => ?_) (fun q59 => ?_)
    · obtain rfl : ow = k := by omega
      refine zr_iincN (z := 1) (L' := [some (.ref _), some (.ref _), some (.int (zJ _)), some (.int (zJ _)), some (.int (zJ _))]) zi92_77 rfl rfl rfl rfl ?_
      refine zr_goto zi92_80 rfl ?_
      have en := ih42 (by omega) _ (some (.int (zJ ow))) F2
      rw [yTr] at en
      exact en G2
    · refine zr_aload_n zi92_62 rfl ?_
      refine zr_aload_n zi92_63 rfl ?_
      refine zr_iload_n zi92_64 rfl ?_
      refine zr_iload zi92_65 rfl ?_
      refine zr_iload_n zi92_67 rfl ?_
      refine zr_virtual zi92_68 rfl rfl (G2.1.at0 rfl) rfl rfl ?_
      refine zcall_dep (d := 1) (Nat.le_of_ble_eq_true rfl) (c93_1 G2 O_2 (by omega) (by omega) (by omega) (by omega) (fun h68 F68 G68 => zbk_0 ?_))
      have O_68 := O_2.fr F68 (by intro a z1 z2 z3; simp only [yIv] at z3; omega)
      have S_68 := F68.ss S_2
      refine zr_iincN (z := 1) (L' := [some (.ref _), some (.ref _), some (.int (zJ _)), some (.int (zJ _)), some (.int (zJ _))]) zi92_71 rfl rfl rfl rfl ?_
      refine zr_goto zi92_74 rfl ?_
      exact ih53 (by omega) _ (F2.trans F68) G68
theorem c92_2 {E : zEnv} {h : zPH} {Q : zOut → zPH → Prop} (S : ySs E h) {g w hh : Nat} {cs cl fs : List Int32} (G : yG h g w hh cs cl fs) {o ow oh : Nat} {os ol ofs : List Int32} (O : yG h o ow oh os ol ofs) (hd : g + 4 ≤ o ∨ o + 4 ≤ g) (K : ∀ h1, yFr (yIv g 4) h h1 0 0 → yG h1 g oh ow (yTr 2 oh ow ow oh os cs oh) (yTl 2 oh ow ow oh ol cl fs (ow + oh)).1 (yTl 2 oh ow ow oh ol cl fs (ow + oh)).2 → Q (.inl none) h1) : zcall E 2 92 [.ref g, .ref o, .int (zJ 2)] h Q := by
  obtain ⟨⟨gw1, gw2, gh1, gh2⟩, gcs, gcl, gfs⟩ := G.2
  obtain ⟨⟨ow1, ow2, oh1, oh2⟩, ocs, ocl, ofl⟩ := O.2
  show zwp E _ 92 (0, [some (.ref _), some (.ref _), some (.int (zJ _)), none, none], [], _) Q
  refine zr_aload_n zi92_0 rfl ?_
  refine zr_iload_n zi92_1 rfl ?_
  refine zr_iconst (v := zJ 2) zi92_2 rfl ?_
  refine zr_icmp_neN zi92_3 rfl (by omega) (by omega) (fun q3 => absurd q3 (by omega)) (fun q3 => ?_)
  refine zr_aload_n zi92_6 rfl ?_
  refine zr_getfield zi92_7 (O.1.at0 rfl) rfl ?_
  refine zr_goto zi92_10 rfl ?_
  refine zr_putfield zi92_17 (G.1.at0 rfl) rfl rfl ?_
  refine yG.wob G (by first | omega | (simp only [List.length_set, zpt_len]; omega)) (fun h17 F17 G17 => ?_)
  have O_17 := O.fr F17 (by intro a z1 z2 z3; simp only [yIv] at z3; omega)
  have S_17 := F17.ss S
  refine zr_aload_n zi92_20 rfl ?_
  refine zr_iload_n zi92_21 rfl ?_
  refine zr_iconst (v := zJ 2) zi92_22 rfl ?_
  refine zr_icmp_neN zi92_23 rfl (by omega) (by omega) (fun q23 => absurd q23 (by omega)) (fun q23 => ?_)
  refine zr_aload_n zi92_26 rfl ?_
  refine zr_getfield zi92_27 (O_17.1.at0 rfl) rfl ?_
  refine zr_goto zi92_30 rfl ?_
  refine zr_putfield zi92_37 (G17.1.at0 rfl) rfl rfl ?_
  refine yG.wob G17 (by first | omega | (simp only [List.length_set, zpt_len]; omega)) (fun h37 F37 G37 => ?_)
  have O_37 := O_17.fr F37 (by intro a z1 z2 z3; simp only [yIv] at z3; omega)
  have S_37 := F37.ss S_17
  refine zr_iconst (v := zJ 0) zi92_40 rfl ?_
  refine zr_istore_n (L' := [some (.ref _), some (.ref _), some (.int (zJ _)), some (.int (zJ _)), none]) zi92_41 rfl rfl ?_
  suffices key42 : ∀ h1 x4, (yFr (yIv g 4) h h1 0 0) → (yG h1 g oh ow (yTr 2 oh ow ow oh os cs 0) cl fs) → zwp E 2 92 (42, [some (.ref g), some (.ref o), some (.int (zJ 2)), some (.int (zJ 0)), x4], [], h1) Q from key42 _ _ (F17.trans F37) G37
  refine zloop (P := fun r => ∀ h1 x4, (yFr (yIv g 4) h h1 0 0) → (yG h1 g oh ow (yTr 2 oh ow ow oh os cs r) cl fs) → zwp E 2 92 (42, [some (.ref g), some (.ref o), some (.int (zJ 2)), some (.int (zJ r)), x4], [], h1) Q) (n := oh) fun r hk42 ih42 => ?_
  intro h1 x4 F1 G1
  have O_1 := O.fr F1 (by intro a z1 z2 z3; simp only [yIv] at z3; omega)
  have S_1 := F1.ss S
  refine zr_iload_n zi92_42 rfl ?_
  refine zr_aload_n zi92_43 rfl ?_
  refine zr_getfield zi92_44 (O_1.1.at0 rfl) rfl ?_
  refine zr_icmp_geN zi92_47 rfl (by omega) (by omega) (fun q47 => ?_) (fun q47 => ?_)
  · obtain rfl : oh = r := by omega
    refine zr_iconst (v := zJ 0) zi92_83 rfl ?_
    refine zr_istore_n (L' := [some (.ref _), some (.ref _), some (.int (zJ _)), some (.int (zJ _)), _]) zi92_84 rfl rfl ?_
    suffices key85 : ∀ h1 x4, (yFr (yIv g 4) h h1 0 0) → (yG h1 g oh ow (yTr 2 oh ow ow oh os cs oh) (yTl 2 oh ow ow oh ol cl fs 0).1 (yTl 2 oh ow ow oh ol cl fs 0).2) → zwp E 2 92 (85, [some (.ref g), some (.ref o), some (.int (zJ 2)), some (.int (zJ 0)), x4], [], h1) Q from key85 h1 _ F1 G1
    refine zloop (P := fun k => ∀ h1 x4, (yFr (yIv g 4) h h1 0 0) → (yG h1 g oh ow (yTr 2 oh ow ow oh os cs oh) (yTl 2 oh ow ow oh ol cl fs k).1 (yTl 2 oh ow ow oh ol cl fs k).2) → zwp E 2 92 (85, [some (.ref g), some (.ref o), some (.int (zJ 2)), some (.int (zJ k)), x4], [], h1) Q) (n := ow + oh) fun k hk85 ih85 => ?_
    intro h1 x4 F1 G1
    have O_1 := O.fr F1 (by intro a z1 z2 z3; simp only [yIv] at z3; omega)
    have S_1 := F1.ss S
    have htl := fun (q : k < ow + oh) => ztl_J (how := 2) O.2.1 q
    refine zr_iload_n zi92_85 rfl ?_
    refine zr_aload_n zi92_86 rfl ?_
    refine zr_virtual zi92_87 rfl rfl (O_1.1.at0 rfl) rfl rfl ?_
    refine zcall_dep (d := 0) (Nat.le_of_ble_eq_true rfl) (c4 O_1 (zbk_v ?_))
    refine zr_icmp_geN zi92_90 rfl (by omega) (by omega) (fun q90 => ?_) (fun q90 => ?_)
    · refine zr_return zi92_135 rfl ?_
      obtain rfl : k = ow + oh := by omega
      exact K _ F1 G1
    · refine zr_aload_n zi92_93 rfl ?_
      refine zr_iload_n zi92_94 rfl ?_
      refine zr_virtual zi92_95 rfl rfl (O_1.1.at0 rfl) rfl rfl ?_
      refine zcall_dep (d := 0) (Nat.le_of_ble_eq_true rfl) (c36 O_1 (by omega) (zbk_v ?_))
      refine zr_istore (L' := [some (.ref _), some (.ref _), some (.int (zJ _)), some (.int (zJ _)), some (.int _)]) zi92_98 rfl rfl ?_
      refine zr_aload_n zi92_100 rfl ?_
      refine zr_aload_n zi92_101 rfl ?_
      refine zr_iload_n zi92_102 rfl ?_
      refine zr_iload_n zi92_103 rfl ?_
      refine zr_virtual zi92_104 rfl rfl (O_1.1.at0 rfl) rfl rfl ?_
      refine zcall_dep (d := 0) (Nat.le_of_ble_eq_true rfl) (c64 O_1 (by omega) (zbk_v ?_))
      rw [(htl q90).1]
      refine zr_aload_n zi92_107 rfl ?_
      refine zr_iload_n zi92_108 rfl ?_
      refine zr_iload_n zi92_109 rfl ?_
      refine zr_virtual zi92_110 rfl rfl (O_1.1.at0 rfl) rfl rfl ?_
      refine zcall_dep (d := 0) (Nat.le_of_ble_eq_true rfl) (c63 O_1 (by omega) (by omega) (zbk_v ?_))
      refine zr_if_eqB zi92_113 rfl (fun q113 => ?_) (fun q113 => ?_)
      · refine zr_iload zi92_124 rfl ?_
        refine zr_virtual zi92_126 rfl rfl (G1.1.at0 rfl) rfl rfl ?_
        refine zcall_dep (d := 1) (Nat.le_of_ble_eq_true rfl) (c5 S_1 G1 (by have := htl q90; omega) (fun h126 F126 G126 => zbk_0 ?_))
        have O_126 := O_1.fr F126 (by intro a z1 z2 z3; simp only [yIv] at z3; omega)
        have S_126 := F126.ss S_1
        refine zr_iincN (z := 1) (L' := [some (.ref _), some (.ref _), some (.int (zJ _)), some (.int (zJ _)), some (.int _)]) zi92_129 rfl rfl rfl rfl ?_
        refine zr_goto zi92_132 rfl ?_
        refine ih85 (by omega) _ _ (F1.trans F126) ?_
        rw [yTl, yTx]
        first | rw [if_pos q113] | rw [if_neg (by rw [q113]; decide)]
        exact G126
      · refine zr_iload zi92_116 rfl ?_
        refine zr_static zi92_118 rfl rfl rfl rfl ?_
        refine zcall_dep (d := 0) (Nat.le_of_ble_eq_true rfl) (c65 (zbk_v ?_))
        refine zr_goto zi92_121 rfl ?_
        refine zr_virtual zi92_126 rfl rfl (G1.1.at0 rfl) rfl rfl ?_
        refine zcall_dep (d := 1) (Nat.le_of_ble_eq_true rfl) (c5 S_1 G1 (by have := htl q90; omega) (fun h126 F126 G126 => zbk_0 ?_))
        have O_126 := O_1.fr F126 (by intro a z1 z2 z3; simp only [yIv] at z3; omega)
        have S_126 := F126.ss S_1
        refine zr_iincN (z := 1) (L' := [some (.ref _), some (.ref _), some (.int (zJ _)), some (.int (zJ _)), some (.int _)]) zi92_129 rfl rfl rfl rfl ?_
        refine zr_goto zi92_132 rfl ?_
        refine ih85 (by omega) _ _ (F1.trans F126) ?_
        rw [yTl, yTx]
        first | rw [if_pos q113] | rw [if_neg (by rw [q113]; decide)]
        exact G126
  · refine zr_iconst (v := zJ 0) zi92_50 rfl ?_
    refine zr_istore (L' := [some (.ref _), some (.ref _), some (.int (zJ _)), some (.int (zJ _)), some (.int (zJ _))]) zi92_51 rfl rfl ?_
    suffices key53 : ∀ h2, (yFr (yIv g 4) h h2 0 0) → (yG h2 g oh ow (yTc 2 oh ow ow oh os (yTr 2 oh ow ow oh os cs r) r 0) cl fs) → zwp E 2 92 (53, [some (.ref g), some (.ref o), some (.int (zJ 2)), some (.int (zJ r)), some (.int (zJ 0))], [], h2) Q from key53 h1 F1 G1
    refine zloop (P := fun k => ∀ h2, (yFr (yIv g 4) h h2 0 0) → (yG h2 g oh ow (yTc 2 oh ow ow oh os (yTr 2 oh ow ow oh os cs r) r k) cl fs) → zwp E 2 92 (53, [some (.ref g), some (.ref o), some (.int (zJ 2)), some (.int (zJ r)), some (.int (zJ k))], [], h2) Q) (n := ow) fun k hk53 ih53 => ?_
    intro h2 F2 G2
    have O_2 := O.fr F2 (by intro a z1 z2 z3; simp only [yIv] at z3; omega)
    have S_2 := F2.ss S
    refine zr_iload zi92_53 rfl ?_
    refine zr_aload_n zi92_55 rfl ?_
    refine zr_getfield zi92_56 (O_2.1.at0 rfl) rfl ?_
    refine zr_icmp_geN zi92_59 rfl (by omega) (by omega) (fun q59 => ?_) (fun q59 => ?_)
    · obtain rfl : ow = k := by omega
      refine zr_iincN (z := 1) (L' := [some (.ref _), some (.ref _), some (.int (zJ _)), some (.int (zJ _)), some (.int (zJ _))]) zi92_77 rfl rfl rfl rfl ?_
      refine zr_goto zi92_80 rfl ?_
      have en := ih42 (by omega) _ (some (.int (zJ ow))) F2
      rw [yTr] at en
      exact en G2
    · refine zr_aload_n zi92_62 rfl ?_
      refine zr_aload_n zi92_63 rfl ?_
      refine zr_iload_n zi92_64 rfl ?_
      refine zr_iload zi92_65 rfl ?_
      refine zr_iload_n zi92_67 rfl ?_
      refine zr_virtual zi92_68 rfl rfl (G2.1.at0 rfl) rfl rfl ?_
      refine zcall_dep (d := 1) (Nat.le_of_ble_eq_true rfl) (c93_2 G2 O_2 (by omega) (by omega) (by omega) (by omega) (fun h68 F68 G68 => zbk_0 ?_))
      have O_68 := O_2.fr F68 (by intro a z1 z2 z3; simp only [yIv] at z3; omega)
      have S_68 := F68.ss S_2
      refine zr_iincN (z := 1) (L' := [some (.ref _), some (.ref _), some (.int (zJ _)), some (.int (zJ _)), some (.int (zJ _))]) zi92_71 rfl rfl rfl rfl ?_
      refine zr_goto zi92_74 rfl ?_
      exact ih53 (by omega) _ (F2.trans F68) G68
