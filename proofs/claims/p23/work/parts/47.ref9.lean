/-! ===== the reference: what is asked ===== -/
/-- in how many pictures a cell is dark -/
def rdn (l : List Int32) (x : Int32) : Nat → Int32
  | 0 => zJ 0
  | k + 1 => rdn l x k + (l.getD k 0 >>> (x &&& 31) &&& zJ 1)
def rch (l : List Int32) (x : Int32) : UInt64 := if l.length = 0 then FP.dconst0 else FP.ddiv (FP.i2d (rdn l x l.length)) (FP.i2d (zJ l.length))
/-- what is settled -/
def rsl2 (l : List Int32) (u : Int32) : Nat → Int32 × Int32
  | 0 => (u, u)
  | k + 1 => ((rsl2 l u k).1 &&& l.getD k 0, (rsl2 l u k).2 &&& (l.getD k 0 ^^^ (-1)))
def rsb (x0 : List Int32) (m : Int32) : Nat → Int32
  | 0 => zJ 0
  | k + 1 => rsb x0 m k ||| (if x0.getD k 0 = 0 ∧ zbit m k = true then ysh1 k else zJ 0)
def rse (w hh : Nat) (x0 l : List Int32) : Int32 := rsb x0 ((rsl2 l (if l.length = 0 then zJ 0 else -1) l.length).1 ||| (rsl2 l (if l.length = 0 then zJ 0 else -1) l.length).2) (w * hh)
theorem rsb_y {x0 : List Int32} {m : Int32} {k : Nat} (h : x0.getD k 0 = 0) (h2 : zbit m k = true) : rsb x0 m (k + 1) = rsb x0 m k ||| ysh1 k := by rw [rsb, if_pos ⟨h, h2⟩]
theorem rsb_n {x0 : List Int32} {m : Int32} {k : Nat} (h : ¬ (x0.getD k 0 = 0 ∧ zbit m k = true)) : rsb x0 m (k + 1) = rsb x0 m k ||| zJ 0 := by rw [rsb, if_neg h]
/-- a board, as it is now -/
def rob (w hh : Nat) (x0 cl : List Int32) (ng : Nat) (mi sp : Int32) (l : List Int32) (t : Nat) : Int32 := [zJ w, zJ hh, zJ (rcc x0 (zJ 0) (w * hh)), zJ (rcc x0 (zJ 1) (w * hh)), zJ (rbk w hh x0 cl (w + hh)), zJ ng, mi, zJ l.length, zJ (zol cl (w + hh)), sp, rse w hh x0 l].getD t 0
theorem r11 {ly : List Int32} (h : ly.length = 11) (a0 a1 a2 a3 a4 a5 a6 a7 a8 a9 a10 : Int32) : ((((((((((ly.set 0 a0).set 1 a1).set 2 a2).set 3 a3).set 4 a4).set 5 a5).set 6 a6).set 7 a7).set 8 a8).set 9 a9).set 10 a10 = [a0, a1, a2, a3, a4, a5, a6, a7, a8, a9, a10] := by
  match ly, h with
  | [_, _, _, _, _, _, _, _, _, _, _], _ => rfl
/-- how loose -/
def rui (w hh : Nat) (x0 : List Int32) (i : Nat) : Nat → Nat
  | 0 => 0
  | k + 1 => if x0.getD (ycl w hh i k) 0 = 0 then rui w hh x0 i k + 1 else rui w hh x0 i k
def rls (w hh : Nat) (x0 cl : List Int32) : Nat → UInt64
  | 0 => FP.dconst0
  | k + 1 => FP.dadd (rls w hh x0 cl k) (FP.ddiv (FP.i2d (zJ (rcw w hh x0 cl k))) (FP.i2d (zJ (1 * 2 ^ rui w hh x0 k (yln w hh k)))))
def rlo (w hh : Nat) (x0 cl : List Int32) : UInt64 := FP.ddiv (rls w hh x0 cl (w + hh)) (FP.i2d (zJ (w + hh)))
/-- fog -/
def rsh3 (l : List Int32) (c : Nat) : UInt32 := FP.fdiv (FP.i2f (rdn l (zJ c) l.length)) (FP.i2f (zJ l.length))
def rfg (l x0 : List Int32) : Nat → UInt32
  | 0 => FP.fconst0
  | k + 1 => if x0.getD k 0 = 0 ∧ ¬ l.length = 0 then FP.fadd (rfg l x0 k) (Native.java_lang_Math.nans.pick32 false (rsh3 l k) (FP.fsub FP.fconst1 (rsh3 l k))) else rfg l x0 k
theorem rfg_y {l x0 : List Int32} {k : Nat} (h1 : x0.getD k 0 = 0) (h2 : ¬ l.length = 0) : rfg l x0 (k + 1) = FP.fadd (rfg l x0 k) (Native.java_lang_Math.nans.pick32 false (rsh3 l k) (FP.fsub FP.fconst1 (rsh3 l k))) := by rw [rfg, if_pos ⟨h1, h2⟩]
theorem rfg_n {l x0 : List Int32} {k : Nat} (h1 : ¬ x0.getD k 0 = 0) : rfg l x0 (k + 1) = rfg l x0 k := by rw [rfg, if_neg (fun z => h1 z.1)]
theorem rfg_l {l x0 : List Int32} {k : Nat} (h2 : l.length = 0) : rfg l x0 (k + 1) = rfg l x0 k := by rw [rfg, if_neg (fun z => z.2 h2)]
/-- where to look -/
def rhn (w hh : Nat) (x0 cl : List Int32) : Nat → Int32 × Int32
  | 0 => (-1, zJ 0)
  | k + 1 => if rsz (rfo w hh x0 cl k true ||| rfo w hh x0 cl k false) ≤ (rhn w hh x0 cl k).2 then rhn w hh x0 cl k else (zJ k, rsz (rfo w hh x0 cl k true ||| rfo w hh x0 cl k false))
/-- where to guess -/
def rfr (l : List Int32) (c : Nat) : UInt64 := FP.dsub (rch l (zJ c)) 4602678819172646912 &&& 0x7fffffffffffffff
def rts (l x0 : List Int32) : Nat → Int32 × UInt64
  | 0 => (-1, FP.dconst0)
  | k + 1 => if x0.getD k 0 = 0 ∧ ((rts l x0 k).1 = -1 ∨ Op.cmpValue (FP.dcmp (rfr l k) (rts l x0 k).2) .l < 0) then (zJ k, rfr l k) else rts l x0 k
theorem rts_1 {l x0 : List Int32} {k : Nat} (h1 : x0.getD k 0 = 0) (h2 : (rts l x0 k).1 = -1) : rts l x0 (k + 1) = (zJ k, rfr l k) := by rw [rts, if_pos ⟨h1, Or.inl h2⟩]
theorem rts_2 {l x0 : List Int32} {k : Nat} (h1 : x0.getD k 0 = 0) (h2 : Op.cmpValue (FP.dcmp (rfr l k) (rts l x0 k).2) .l < 0) : rts l x0 (k + 1) = (zJ k, rfr l k) := by rw [rts, if_pos ⟨h1, Or.inr h2⟩]
theorem rts_n {l x0 : List Int32} {k : Nat} (h1 : ¬ x0.getD k 0 = 0) : rts l x0 (k + 1) = rts l x0 k := by rw [rts, if_neg (fun z => h1 z.1)]
theorem rts_s {l x0 : List Int32} {k : Nat} (h1 : ¬ (rts l x0 k).1 = -1) (h2 : ¬ Op.cmpValue (FP.dcmp (rfr l k) (rts l x0 k).2) .l < 0) : rts l x0 (k + 1) = rts l x0 k := by rw [rts, if_neg (fun z => z.2.elim h1 h2)]
theorem yM_min {K : Nat} {a b : UInt32} (ha : yM32 K a) (hb : yM32 K b) : yM32 K (Native.java_lang_Math.nans.pick32 false a b) := by
  unfold Native.java_lang_Math.nans.pick32
  split
  · exact ha
  · exact hb
  · split
    · exact hb
    · exact ha
theorem c219 {E : zEnv} {h : zPH} {Q : zOut → zPH → Prop} {q : Nat} {l : List Int32} {x : Int32} (Xq : h.1 q = some (64, zis l)) (hl : l.length ≤ 500) (K : ∀ v, v = rdn l x l.length → Q (.inl (some (.int v))) h) : zcall E 0 219 [.ref q, .int x] h Q := by
  show zwp E _ 219 (0, [some (.ref _), some (.int _), none, none, none, none, none], [], _) Q
  refine zr_iconst (v := zJ 0) zi219_0 rfl ?_
  refine zr_istore_n (L' := [some (.ref _), some (.int _), some (.int (zJ _)), none, none, none, none]) zi219_1 rfl rfl ?_
  refine zr_aload_n zi219_2 rfl ?_
  refine zr_astore_n (L' := [some (.ref _), some (.int _), some (.int (zJ _)), some (.ref _), none, none, none]) zi219_3 rfl rfl ?_
  refine zr_aload_n zi219_4 rfl ?_
  refine zr_arraylength (v := zJ l.length) zi219_5 Xq rfl (zlenJ rfl) ?_
  refine zr_istore (L' := [some (.ref _), some (.int _), some (.int (zJ _)), some (.ref _), some (.int (zJ _)), none, none]) zi219_6 rfl rfl ?_
  refine zr_iconst (v := zJ 0) zi219_8 rfl ?_
  refine zr_istore (L' := [some (.ref _), some (.int _), some (.int (zJ _)), some (.ref _), some (.int (zJ _)), some (.int (zJ _)), none]) zi219_9 rfl rfl ?_
  suffices key11 : ∀ x6, zwp E 0 219 (11, [some (.ref q), some (.int x), some (.int (rdn l x 0)), some (.ref q), some (.int (zJ l.length)), some (.int (zJ 0)), x6], [], h) Q from key11 _
  refine zloop (P := fun k => ∀ x6, zwp E 0 219 (11, [some (.ref q), some (.int x), some (.int (rdn l x k)), some (.ref q), some (.int (zJ l.length)), some (.int (zJ k)), x6], [], h) Q) (n := l.length) fun k hk11 ih11 => ?_
  intro x6
  refine zr_iload zi219_11 rfl ?_
  refine zr_iload zi219_13 rfl ?_
  refine zr_icmp_geN zi219_15 rfl (by omega) (by omega) (fun q15 => ?_) (fun q15 => ?_)
  · refine zr_iload_n zi219_39 rfl ?_
    refine zr_ireturn zi219_40 rfl ?_
    obtain rfl : k = l.length := by omega
    exact K _ rfl
  · refine zr_aload_n zi219_18 rfl ?_
    refine zr_iload zi219_19 rfl ?_
    refine zr_ialoadN zi219_21 Xq rfl (by omega) (by first | omega | (simp only [List.length_set, zpt_len]; omega)) ?_
    refine zr_istore (L' := [some (.ref _), some (.int _), some (.int _), some (.ref _), some (.int (zJ _)), some (.int (zJ _)), some (.int _)]) zi219_22 rfl rfl ?_
    refine zr_iload_n zi219_24 rfl ?_
    refine zr_iload zi219_25 rfl ?_
    refine zr_iload_n zi219_27 rfl ?_
    refine zr_ishr zi219_28 ?_
    refine zr_iconst (v := zJ 1) zi219_29 rfl ?_
    refine zr_iand zi219_30 ?_
    refine zr_iadd zi219_31 ?_
    refine zr_istore_n (L' := [some (.ref _), some (.int _), some (.int _), some (.ref _), some (.int (zJ _)), some (.int (zJ _)), some (.int _)]) zi219_32 rfl rfl ?_
    refine zr_iincN (z := 1) (L' := [some (.ref _), some (.int _), some (.int _), some (.ref _), some (.int (zJ _)), some (.int (zJ _)), some (.int _)]) zi219_33 rfl rfl rfl rfl ?_
    refine zr_goto zi219_36 rfl ?_
    exact ih11 (by omega) _
theorem c218 {E : zEnv} {h : zPH} {Q : zOut → zPH → Prop} {q : Nat} {l : List Int32} {x : Int32} (Xq : h.1 q = some (64, zis l)) (hl : l.length ≤ 500) (K : ∀ v, yM64 1057 v → v = rch l x → Q (.inl (some (.double v))) h) : zcall E 1 218 [.ref q, .int x] h Q := by
  show zwp E _ 218 (0, [some (.ref _), some (.int _)], [], _) Q
  refine zr_aload_n zi218_0 rfl ?_
  refine zr_arraylength (v := zJ l.length) zi218_1 Xq rfl (zlenJ rfl) ?_
  refine zr_if_neN zi218_2 rfl (by omega) (fun q2 => ?_) (fun q2 => ?_)
  · refine zr_aload_n zi218_9 rfl ?_
    refine zr_iload_n zi218_10 rfl ?_
    refine zr_static zi218_11 rfl rfl rfl rfl ?_
    refine zcall_dep (d := 0) (Nat.le_of_ble_eq_true rfl) (c219 Xq (by omega) (fun v11 ev11 => zbk_v ?_))
    subst ev11
    refine zr_i2d zi218_14 ?_
    refine zr_aload_n zi218_15 rfl ?_
    refine zr_arraylength (v := zJ l.length) zi218_16 Xq rfl (zlenJ rfl) ?_
    refine zr_i2d zi218_17 ?_
    have hne : zJ l.length ≠ 0 := fun e => q2 ((zJ_eq (b := 0) (by omega) (by omega)).mp e)
    have hr := yM_ddiv (yM_i2d (rdn l x l.length)) hne (by omega)
    have hrc : FP.ddiv (FP.i2d (rdn l x l.length)) (FP.i2d (zJ l.length)) = rch l x := by rw [rch, if_neg q2]
    refine zr_ddiv zi218_18 (hr.zn (by omega)) ?_
    refine zr_dreturn zi218_19 rfl ?_
    exact K _ hr hrc
  · refine zr_dconst0 zi218_5 ?_
    have hr : yM64 1057 FP.dconst0 := by unfold yM64; decide
    have hrc : FP.dconst0 = rch l x := by rw [rch, if_pos q2]
    refine zr_goto zi218_6 rfl ?_
    refine zr_dreturn zi218_19 rfl ?_
    exact K _ hr hrc
theorem c214 {E : zEnv} {h : zPH} {Q : zOut → zPH → Prop} {b r c g w hh : Nat} {x0 x1 x2 x3 cl : List Int32} {mi sp : Int32} (P : rB h b r c g w hh x0 x1 x2 x3 cl mi sp) {q : Nat} {l : List Int32} (Xq : h.1 q = some (64, zis l)) (hl : l.length ≤ 500) (K : ∀ v, v = rse w hh x0 l → Q (.inl (some (.int v))) h) : zcall E 1 214 [.ref b, .ref q] h Q := by
  obtain ⟨⟨gw1, gw2, gh1, gh2⟩, ⟨l0, l1, l2, l3, lcl⟩, d1, d2, d3⟩ := P.2.2.2
  have hwh := zwh_b (w := w) (hh := hh) ⟨gw1, gw2, gh1, gh2⟩
  show zwp E _ 214 (0, [some (.ref _), some (.ref _), none, none, none, none, none, none], [], _) Q
  refine zr_aload_n zi214_0 rfl ?_
  refine zr_arraylength (v := zJ l.length) zi214_1 Xq rfl (zlenJ rfl) ?_
  refine zr_if_neN zi214_2 rfl (by omega) (fun q2 => ?_) (fun q2 => ?_)
  · refine zr_iconst (v := (-1)) zi214_9 rfl ?_
    refine zr_istore_n (L' := [some (.ref _), some (.ref _), some (.int _), none, none, none, none, none]) zi214_10 rfl rfl ?_
    refine zr_iload_n zi214_11 rfl ?_
    refine zr_istore_n (L' := [some (.ref _), some (.ref _), some (.int _), some (.int _), none, none, none, none]) zi214_12 rfl rfl ?_
    refine zr_aload_n zi214_13 rfl ?_
    refine zr_astore (L' := [some (.ref _), some (.ref _), some (.int _), some (.int _), some (.ref _), none, none, none]) zi214_14 rfl rfl ?_
    refine zr_aload zi214_16 rfl ?_
    refine zr_arraylength (v := zJ l.length) zi214_18 Xq rfl (zlenJ rfl) ?_
    refine zr_istore (L' := [some (.ref _), some (.ref _), some (.int _), some (.int _), some (.ref _), some (.int (zJ _)), none, none]) zi214_19 rfl rfl ?_
    refine zr_iconst (v := zJ 0) zi214_21 rfl ?_
    refine zr_istore (L' := [some (.ref _), some (.ref _), some (.int _), some (.int _), some (.ref _), some (.int (zJ _)), some (.int (zJ _)), none]) zi214_22 rfl rfl ?_
    suffices key24 : ∀ x7, zwp E 1 214 (24, [some (.ref b), some (.ref q), some (.int (rsl2 l (-1) 0).1), some (.int (rsl2 l (-1) 0).2), some (.ref q), some (.int (zJ l.length)), some (.int (zJ 0)), x7], [], h) Q from key24 _
    refine zloop (P := fun k => ∀ x7, zwp E 1 214 (24, [some (.ref b), some (.ref q), some (.int (rsl2 l (-1) k).1), some (.int (rsl2 l (-1) k).2), some (.ref q), some (.int (zJ l.length)), some (.int (zJ k)), x7], [], h) Q) (n := l.length) fun k hk24 ih24 => ?_
    intro x7
    refine zr_iload zi214_24 rfl ?_
    refine zr_iload zi214_26 rfl ?_
    refine zr_icmp_geN zi214_28 rfl (by omega) (by omega) (fun q28 => ?_) (fun q28 => ?_)
    · refine zr_iconst (v := zJ 0) zi214_56 rfl ?_
      refine zr_istore (L' := [some (.ref _), some (.ref _), some (.int _), some (.int _), some (.int (zJ _)), some (.int (zJ _)), some (.int (zJ _)), _]) zi214_57 rfl rfl ?_
      refine zr_iconst (v := zJ 0) zi214_59 rfl ?_
      refine zr_istore (L' := [some (.ref _), some (.ref _), some (.int _), some (.int _), some (.int (zJ _)), some (.int (zJ _)), some (.int (zJ _)), _]) zi214_60 rfl rfl ?_
      obtain rfl : k = l.length := by omega
      suffices key62 : zwp E 1 214 (62, [some (.ref b), some (.ref q), some (.int (rsl2 l (-1) l.length).1), some (.int (rsl2 l (-1) l.length).2), some (.int (rsb x0 ((rsl2 l (-1) l.length).1 ||| (rsl2 l (-1) l.length).2) 0)), some (.int (zJ 0)), some (.int (zJ l.length)), x7], [], h) Q from key62 
      refine zloop (P := fun i => zwp E 1 214 (62, [some (.ref b), some (.ref q), some (.int (rsl2 l (-1) l.length).1), some (.int (rsl2 l (-1) l.length).2), some (.int (rsb x0 ((rsl2 l (-1) l.length).1 ||| (rsl2 l (-1) l.length).2) i)), some (.int (zJ i)), some (.int (zJ l.length)), x7], [], h) Q) (n := w * hh) fun i hk62 ih62 => ?_
      refine zr_iload zi214_62 rfl ?_
      refine zr_aload_n zi214_64 rfl ?_
      refine zr_virtual zi214_65 rfl rfl (P.1.at0 rfl) rfl rfl ?_
      refine zcall_dep (d := 0) (Nat.le_of_ble_eq_true rfl) (c156 P (zbk_v ?_))
      refine zr_icmp_geN zi214_68 rfl (by omega) (by omega) (fun q68 => ?_) (fun q68 => ?_)
      · refine zr_iload zi214_110 rfl ?_
        refine zr_ireturn zi214_112 rfl ?_
        obtain rfl : i = w * hh := by omega
        exact K _ (by first | rw [rse, if_neg q2] | rw [rse, if_pos q2])
      · refine zr_iload zi214_71 rfl ?_
        refine zr_aload_n zi214_73 rfl ?_
        refine zr_iload zi214_74 rfl ?_
        refine zr_virtual zi214_76 rfl rfl (P.1.at0 rfl) rfl rfl ?_
        refine zcall_dep (d := 0) (Nat.le_of_ble_eq_true rfl) (c174 P (by omega) (zbk_v ?_))
        refine zr_if_ne zi214_79 rfl (fun q79 => ?_) (fun q79 => ?_)
        · refine zr_iconst (v := zJ 0) zi214_100 rfl ?_
          refine zr_ior zi214_101 ?_
          refine zr_istore (L' := [some (.ref _), some (.ref _), some (.int _), some (.int _), some (.int _), some (.int (zJ _)), some (.int (zJ _)), _]) zi214_102 rfl rfl ?_
          refine zr_iincN (z := 1) (L' := [some (.ref _), some (.ref _), some (.int _), some (.int _), some (.int _), some (.int (zJ _)), some (.int (zJ _)), _]) zi214_104 rfl rfl rfl rfl ?_
          refine zr_goto zi214_107 rfl ?_
          have en := ih62 (by omega)
          first
            | (rw [rsb_y q79 q90] at en; exact en)
            | (rw [rsb_n (fun z => q79 z.1)] at en; exact en)
            | (rw [rsb_n (fun z => by have z2 := z.2; rw [q90] at z2; cases z2)] at en; exact en)
        · refine zr_iload_n zi214_82 rfl ?_
          refine zr_iload_n zi214_83 rfl ?_
          refine zr_ior zi214_84 ?_
          refine zr_iload zi214_85 rfl ?_
          refine zr_static zi214_87 rfl rfl rfl rfl ?_
          refine zcall_dep (d := 0) (Nat.le_of_ble_eq_true rfl) (c175 (by omega) (zbk_v ?_))
          refine zr_if_eqB zi214_90 rfl (fun q90 => ?_) (fun q90 => ?_)
          · refine zr_iconst (v := zJ 0) zi214_100 rfl ?_
            refine zr_ior zi214_101 ?_
            refine zr_istore (L' := [some (.ref _), some (.ref _), some (.int _), some (.int _), some (.int _), some (.int (zJ _)), some (.int (zJ _)), _]) zi214_102 rfl rfl ?_
            refine zr_iincN (z := 1) (L' := [some (.ref _), some (.ref _), some (.int _), some (.int _), some (.int _), some (.int (zJ _)), some (.int (zJ _)), _]) zi214_104 rfl rfl rfl rfl ?_
            refine zr_goto zi214_107 rfl ?_
            have en := ih62 (by omega)
            first
              | (rw [rsb_y q79 q90] at en; exact en)
              | (rw [rsb_n (fun z => q79 z.1)] at en; exact en)
              | (rw [rsb_n (fun z => by have z2 := z.2; rw [q90] at z2; cases z2)] at en; exact en)
          · refine zr_iconst (v := zJ 1) zi214_93 rfl ?_
            refine zr_iload zi214_94 rfl ?_
            refine zr_ishl zi214_96 ?_
            refine zr_goto zi214_97 rfl ?_
            refine zr_ior zi214_101 ?_
            refine zr_istore (L' := [some (.ref _), some (.ref _), some (.int _), some (.int _), some (.int _), some (.int (zJ _)), some (.int (zJ _)), _]) zi214_102 rfl rfl ?_
            refine zr_iincN (z := 1) (L' := [some (.ref _), some (.ref _), some (.int _), some (.int _), some (.int _), some (.int (zJ _)), some (.int (zJ _)), _]) zi214_104 rfl rfl rfl rfl ?_
            refine zr_goto zi214_107 rfl ?_
            have en := ih62 (by omega)
            first
              | (rw [rsb_y q79 q90] at en; exact en)
              | (rw [rsb_n (fun z => q79 z.1)] at en; exact en)
              | (rw [rsb_n (fun z => by have z2 := z.2; rw [q90] at z2; cases z2)] at en; exact en)
    · refine zr_aload zi214_31 rfl ?_
      refine zr_iload zi214_33 rfl ?_
      refine zr_ialoadN zi214_35 Xq rfl (by omega) (by first | omega | (simp only [List.length_set, zpt_len]; omega)) ?_
      refine zr_istore (L' := [some (.ref _), some (.ref _), some (.int _), some (.int _), some (.ref _), some (.int (zJ _)), some (.int (zJ _)), some (.int _)]) zi214_36 rfl rfl ?_
      refine zr_iload_n zi214_38 rfl ?_
      refine zr_iload zi214_39 rfl ?_
      refine zr_iand zi214_41 ?_
      refine zr_istore_n (L' := [some (.ref _), some (.ref _), some (.int _), some (.int _), some (.ref _), some (.int (zJ _)), some (.int (zJ _)), some (.int _)]) zi214_42 rfl rfl ?_
      refine zr_iload_n zi214_43 rfl ?_
      refine zr_iload zi214_44 rfl ?_
      refine zr_iconst (v := (-1)) zi214_46 rfl ?_
      refine zr_ixor zi214_47 ?_
      refine zr_iand zi214_48 ?_
      refine zr_istore_n (L' := [some (.ref _), some (.ref _), some (.int _), some (.int _), some (.ref _), some (.int (zJ _)), some (.int (zJ _)), some (.int _)]) zi214_49 rfl rfl ?_
      refine zr_iincN (z := 1) (L' := [some (.ref _), some (.ref _), some (.int _), some (.int _), some (.ref _), some (.int (zJ _)), some (.int (zJ _)), some (.int _)]) zi214_50 rfl rfl rfl rfl ?_
      refine zr_goto zi214_53 rfl ?_
      exact ih24 (by omega) _
  · refine zr_iconst (v := zJ 0) zi214_5 rfl ?_
    refine zr_goto zi214_6 rfl ?_
    refine zr_istore_n (L' := [some (.ref _), some (.ref _), some (.int (zJ _)), none, none, none, none, none]) zi214_10 rfl rfl ?_
    refine zr_iload_n zi214_11 rfl ?_
    refine zr_istore_n (L' := [some (.ref _), some (.ref _), some (.int (zJ _)), some (.int (zJ _)), none, none, none, none]) zi214_12 rfl rfl ?_
    refine zr_aload_n zi214_13 rfl ?_
    refine zr_astore (L' := [some (.ref _), some (.ref _), some (.int (zJ _)), some (.int (zJ _)), some (.ref _), none, none, none]) zi214_14 rfl rfl ?_
    refine zr_aload zi214_16 rfl ?_
    refine zr_arraylength (v := zJ l.length) zi214_18 Xq rfl (zlenJ rfl) ?_
    refine zr_istore (L' := [some (.ref _), some (.ref _), some (.int (zJ _)), some (.int (zJ _)), some (.ref _), some (.int (zJ _)), none, none]) zi214_19 rfl rfl ?_
    refine zr_iconst (v := zJ 0) zi214_21 rfl ?_
    refine zr_istore (L' := [some (.ref _), some (.ref _), some (.int (zJ _)), some (.int (zJ _)), some (.ref _), some (.int (zJ _)), some (.int (zJ _)), none]) zi214_22 rfl rfl ?_
    suffices key24 : ∀ x7, zwp E 1 214 (24, [some (.ref b), some (.ref q), some (.int (rsl2 l (zJ 0) 0).1), some (.int (rsl2 l (zJ 0) 0).2), some (.ref q), some (.int (zJ l.length)), some (.int (zJ 0)), x7], [], h) Q from key24 _
    refine zloop (P := fun k => ∀ x7, zwp E 1 214 (24, [some (.ref b), some (.ref q), some (.int (rsl2 l (zJ 0) k).1), some (.int (rsl2 l (zJ 0) k).2), some (.ref q), some (.int (zJ l.length)), some (.int (zJ k)), x7], [], h) Q) (n := l.length) fun k hk24 ih24 => ?_
    intro x7
    refine zr_iload zi214_24 rfl ?_
    refine zr_iload zi214_26 rfl ?_
    refine zr_icmp_geN zi214_28 rfl (by omega) (by omega) (fun q28 => ?_) (fun q28 => ?_)
    · refine zr_iconst (v := zJ 0) zi214_56 rfl ?_
      refine zr_istore (L' := [some (.ref _), some (.ref _), some (.int _), some (.int _), some (.int (zJ _)), some (.int (zJ _)), some (.int (zJ _)), _]) zi214_57 rfl rfl ?_
      refine zr_iconst (v := zJ 0) zi214_59 rfl ?_
      refine zr_istore (L' := [some (.ref _), some (.ref _), some (.int _), some (.int _), some (.int (zJ _)), some (.int (zJ _)), some (.int (zJ _)), _]) zi214_60 rfl rfl ?_
      obtain rfl : k = l.length := by omega
      suffices key62 : zwp E 1 214 (62, [some (.ref b), some (.ref q), some (.int (rsl2 l (zJ 0) l.length).1), some (.int (rsl2 l (zJ 0) l.length).2), some (.int (rsb x0 ((rsl2 l (zJ 0) l.length).1 ||| (rsl2 l (zJ 0) l.length).2) 0)), some (.int (zJ 0)), some (.int (zJ l.length)), x7], [], h) Q from key62 
      refine zloop (P := fun i => zwp E 1 214 (62, [some (.ref b), some (.ref q), some (.int (rsl2 l (zJ 0) l.length).1), some (.int (rsl2 l (zJ 0) l.length).2), some (.int (rsb x0 ((rsl2 l (zJ 0) l.length).1 ||| (rsl2 l (zJ 0) l.length).2) i)), some (.int (zJ i)), some (.int (zJ l.length)), x7], [], h) Q) (n := w * hh) fun i hk62 ih62 => ?_
      refine zr_iload zi214_62 rfl ?_
      refine zr_aload_n zi214_64 rfl ?_
      refine zr_virtual zi214_65 rfl rfl (P.1.at0 rfl) rfl rfl ?_
      refine zcall_dep (d := 0) (Nat.le_of_ble_eq_true rfl) (c156 P (zbk_v ?_))
      refine zr_icmp_geN zi214_68 rfl (by omega) (by omega) (fun q68 => ?_) (fun q68 => ?_)
      · refine zr_iload zi214_110 rfl ?_
        refine zr_ireturn zi214_112 rfl ?_
        obtain rfl : i = w * hh := by omega
        exact K _ (by first | rw [rse, if_neg q2] | rw [rse, if_pos q2])
      · refine zr_iload zi214_71 rfl ?_
        refine zr_aload_n zi214_73 rfl ?_
        refine zr_iload zi214_74 rfl ?_
        refine zr_virtual zi214_76 rfl rfl (P.1.at0 rfl) rfl rfl ?_
        refine zcall_dep (d := 0) (Nat.le_of_ble_eq_true rfl) (c174 P (by omega) (zbk_v ?_))
        refine zr_if_ne zi214_79 rfl (fun q79 => ?_) (fun q79 => ?_)
        · refine zr_iconst (v := zJ 0) zi214_100 rfl ?_
          refine zr_ior zi214_101 ?_
          refine zr_istore (L' := [some (.ref _), some (.ref _), some (.int _), some (.int _), some (.int _), some (.int (zJ _)), some (.int (zJ _)), _]) zi214_102 rfl rfl ?_
          refine zr_iincN (z := 1) (L' := [some (.ref _), some (.ref _), some (.int _), some (.int _), some (.int _), some (.int (zJ _)), some (.int (zJ _)), _]) zi214_104 rfl rfl rfl rfl ?_
          refine zr_goto zi214_107 rfl ?_
          have en := ih62 (by omega)
          first
            | (rw [rsb_y q79 q90] at en; exact en)
            | (rw [rsb_n (fun z => q79 z.1)] at en; exact en)
            | (rw [rsb_n (fun z => by have z2 := z.2; rw [q90] at z2; cases z2)] at en; exact en)
        · refine zr_iload_n zi214_82 rfl ?_
          refine zr_iload_n zi214_83 rfl ?_
          refine zr_ior zi214_84 ?_
          refine zr_iload zi214_85 rfl ?_
          refine zr_static zi214_87 rfl rfl rfl rfl ?_
          refine zcall_dep (d := 0) (Nat.le_of_ble_eq_true rfl) (c175 (by omega) (zbk_v ?_))
          refine zr_if_eqB zi214_90 rfl (fun q90 => ?_) (fun q90 => ?_)
          · refine zr_iconst (v := zJ 0) zi214_100 rfl ?_
            refine zr_ior zi214_101 ?_
            refine zr_istore (L' := [some (.ref _), some (.ref _), some (.int _), some (.int _), some (.int _), some (.int (zJ _)), some (.int (zJ _)), _]) zi214_102 rfl rfl ?_
            refine zr_iincN (z := 1) (L' := [some (.ref _), some (.ref _), some (.int _), some (.int _), some (.int _), some (.int (zJ _)), some (.int (zJ _)), _]) zi214_104 rfl rfl rfl rfl ?_
            refine zr_goto zi214_107 rfl ?_
            have en := ih62 (by omega)
            first
              | (rw [rsb_y q79 q90] at en; exact en)
              | (rw [rsb_n (fun z => q79 z.1)] at en; exact en)
              | (rw [rsb_n (fun z => by have z2 := z.2; rw [q90] at z2; cases z2)] at en; exact en)
          · refine zr_iconst (v := zJ 1) zi214_93 rfl ?_
            refine zr_iload zi214_94 rfl ?_
            refine zr_ishl zi214_96 ?_
            refine zr_goto zi214_97 rfl ?_
            refine zr_ior zi214_101 ?_
            refine zr_istore (L' := [some (.ref _), some (.ref _), some (.int _), some (.int _), some (.int _), some (.int (zJ _)), some (.int (zJ _)), _]) zi214_102 rfl rfl ?_
            refine zr_iincN (z := 1) (L' := [some (.ref _), some (.ref _), some (.int _), some (.int _), some (.int _), some (.int (zJ _)), some (.int (zJ _)), _]) zi214_104 rfl rfl rfl rfl ?_
            refine zr_goto zi214_107 rfl ?_
            have en := ih62 (by omega)
            first
              | (rw [rsb_y q79 q90] at en; exact en)
              | (rw [rsb_n (fun z => q79 z.1)] at en; exact en)
              | (rw [rsb_n (fun z => by have z2 := z.2; rw [q90] at z2; cases z2)] at en; exact en)
    · refine zr_aload zi214_31 rfl ?_
      refine zr_iload zi214_33 rfl ?_
      refine zr_ialoadN zi214_35 Xq rfl (by omega) (by first | omega | (simp only [List.length_set, zpt_len]; omega)) ?_
      refine zr_istore (L' := [some (.ref _), some (.ref _), some (.int _), some (.int _), some (.ref _), some (.int (zJ _)), some (.int (zJ _)), some (.int _)]) zi214_36 rfl rfl ?_
      refine zr_iload_n zi214_38 rfl ?_
      refine zr_iload zi214_39 rfl ?_
      refine zr_iand zi214_41 ?_
      refine zr_istore_n (L' := [some (.ref _), some (.ref _), some (.int _), some (.int _), some (.ref _), some (.int (zJ _)), some (.int (zJ _)), some (.int _)]) zi214_42 rfl rfl ?_
      refine zr_iload_n zi214_43 rfl ?_
      refine zr_iload zi214_44 rfl ?_
      refine zr_iconst (v := (-1)) zi214_46 rfl ?_
      refine zr_ixor zi214_47 ?_
      refine zr_iand zi214_48 ?_
      refine zr_istore_n (L' := [some (.ref _), some (.ref _), some (.int _), some (.int _), some (.ref _), some (.int (zJ _)), some (.int (zJ _)), some (.int _)]) zi214_49 rfl rfl ?_
      refine zr_iincN (z := 1) (L' := [some (.ref _), some (.ref _), some (.int _), some (.int _), some (.ref _), some (.int (zJ _)), some (.int (zJ _)), some (.int _)]) zi214_50 rfl rfl rfl rfl ?_
      refine zr_goto zi214_53 rfl ?_
      exact ih24 (by omega) _
theorem c212 {E : zEnv} {h : zPH} {Q : zOut → zPH → Prop} {b r c g w hh : Nat} {x0 x1 x2 x3 cl : List Int32} {mi sp : Int32} (P : rB h b r c g w hh x0 x1 x2 x3 cl mi sp) {eg ng : Nat} {mc : Int32} (Lg : yBk h g [(8, [.ref eg, .int (zJ ng), .int mc])]) {q : Nat} {l : List Int32} (Xq : h.1 q = some (64, zis l)) (hl : l.length ≤ 500) {t : Nat} (ht : t < 11) (hq : q < h.2.1) (K : ∀ h1 v, yFr (fun x => h.2.1 ≤ x) h h1 1 11 → v = rob w hh x0 cl ng mi sp l t → Q (.inl (some (.int v))) h1) : zcall E 5 212 [.ref b, .ref q, .int (zJ t)] h Q := by
  obtain ⟨⟨gw1, gw2, gh1, gh2⟩, ⟨l0, l1, l2, l3, lcl⟩, d1, d2, d3⟩ := P.2.2.2
  have hwh := zwh_b (w := w) (hh := hh) ⟨gw1, gw2, gh1, gh2⟩
  show zwp E _ 212 (0, [some (.ref _), some (.ref _), some (.int (zJ _)), none, none, none, none, none], [], _) Q
  refine zr_iconst (v := zJ 0) zi212_0 rfl ?_
  refine zr_istore_n (L' := [some (.ref _), some (.ref _), some (.int (zJ _)), some (.int (zJ _)), none, none, none, none]) zi212_1 rfl rfl ?_
  refine zr_aload_n zi212_2 rfl ?_
  refine zr_getfield zi212_3 (P.1.at0 rfl) rfl ?_
  refine zr_astore (L' := [some (.ref _), some (.ref _), some (.int (zJ _)), some (.int (zJ _)), some (.ref _), none, none, none]) zi212_6 rfl rfl ?_
  refine zr_aload zi212_8 rfl ?_
  refine zr_arraylength (v := zJ (w + hh)) zi212_10 (P.ca.at0 rfl) rfl (zlenJ lcl) ?_
  refine zr_istore (L' := [some (.ref _), some (.ref _), some (.int (zJ _)), some (.int (zJ _)), some (.ref _), some (.int (zJ _)), none, none]) zi212_11 rfl rfl ?_
  refine zr_iconst (v := zJ 0) zi212_13 rfl ?_
  refine zr_istore (L' := [some (.ref _), some (.ref _), some (.int (zJ _)), some (.int (zJ _)), some (.ref _), some (.int (zJ _)), some (.int (zJ _)), none]) zi212_14 rfl rfl ?_
  suffices key16 : ∀ x7, zwp E 5 212 (16, [some (.ref b), some (.ref q), some (.int (zJ t)), some (.int (zJ (zol cl 0))), some (.ref c), some (.int (zJ (w + hh))), some (.int (zJ 0)), x7], [], h) Q from key16 _
  refine zloop (P := fun k => ∀ x7, zwp E 5 212 (16, [some (.ref b), some (.ref q), some (.int (zJ t)), some (.int (zJ (zol cl k))), some (.ref c), some (.int (zJ (w + hh))), some (.int (zJ k)), x7], [], h) Q) (n := w + hh) fun k hk16 ih16 => ?_
  intro x7
  refine zr_iload zi212_16 rfl ?_
  refine zr_iload zi212_18 rfl ?_
  refine zr_icmp_geN zi212_20 rfl (by omega) (by omega) (fun q20 => ?_) (fun q20 => ?_)
  · refine zr_bipush (v := zJ 11) zi212_50 rfl ?_
    have hPl := P.lt
    have hgl : g + 1 ≤ h.2.1 := Lg.1
    refine zr_newarrayN zi212_52 (by omega) rfl ?_
    refine zw_n (fun h52 y F52 ey Xy N52 n52 => ?_)
    have P52 := P.fr (F52 (fun _ => False)) (fun _ _ z => z)
    have Xq52 := N52 q _ (by omega) Xq
    have Lg52 := (F52 (fun _ => False)).bk Lg (fun _ _ _ z => z)
    obtain ⟨ly, hy, Xy0⟩ : ∃ ly : List Int32, ly.length = 11 ∧ h52.1 y = some (64, zis ly) := ⟨_, List.length_replicate, Xy⟩
    refine zr_dup zi212_54 rfl ?_
    refine zr_iconst (v := zJ 0) zi212_55 rfl ?_
    refine zr_aload_n zi212_56 rfl ?_
    refine zr_getfield zi212_57 (P52.1.at0 rfl) rfl ?_
    refine zr_iastoreN zi212_60 Xy0 (by omega) (by first | omega | (simp only [List.length_set, zpt_len]; omega)) ?_
    refine zw_c (N := h.2.1) Xy0 (by decide) (by omega) (fun h60 F60 X60 N60 d60 => ?_)
    have P60 := P52.fr F60 (fun x z1 z2 => by have z2 : _ ≤ x := z2; rcases z1 with z | z | z <;> (have := z.2; omega))
    have Xq60 := N60 q _ (by omega) Xq52
    have Lg60 := F60.bk Lg52 (fun x z1 z2 z3 => by have z2 : x < g + 1 := z2; have z3 : _ ≤ x := z3; omega)
    refine zr_dup zi212_61 rfl ?_
    refine zr_iconst (v := zJ 1) zi212_62 rfl ?_
    refine zr_aload_n zi212_63 rfl ?_
    refine zr_getfield zi212_64 (P60.1.at0 rfl) rfl ?_
    refine zr_iastoreN zi212_67 X60 (by omega) (by first | omega | (simp only [List.length_set, zpt_len]; omega)) ?_
    refine zw_c (N := h.2.1) X60 (by decide) (by omega) (fun h67 F67 X67 N67 d67 => ?_)
    have P67 := P60.fr F67 (fun x z1 z2 => by have z2 : _ ≤ x := z2; rcases z1 with z | z | z <;> (have := z.2; omega))
    have Xq67 := N67 q _ (by omega) Xq60
    have Lg67 := F67.bk Lg60 (fun x z1 z2 z3 => by have z2 : x < g + 1 := z2; have z3 : _ ≤ x := z3; omega)
    refine zr_dup zi212_68 rfl ?_
    refine zr_iconst (v := zJ 2) zi212_69 rfl ?_
    refine zr_aload_n zi212_70 rfl ?_
    refine zr_iconst (v := zJ 0) zi212_71 rfl ?_
    refine zr_virtual zi212_72 rfl rfl (P67.1.at0 rfl) rfl rfl ?_
    refine zcall_dep (d := 0) (Nat.le_of_ble_eq_true rfl) (c202 P67 (zbk_v ?_))
    refine zr_iastoreN zi212_75 X67 (by omega) (by first | omega | (simp only [List.length_set, zpt_len]; omega)) ?_
    refine zw_c (N := h.2.1) X67 (by decide) (by omega) (fun h75 F75 X75 N75 d75 => ?_)
    have P75 := P67.fr F75 (fun x z1 z2 => by have z2 : _ ≤ x := z2; rcases z1 with z | z | z <;> (have := z.2; omega))
    have Xq75 := N75 q _ (by omega) Xq67
    have Lg75 := F75.bk Lg67 (fun x z1 z2 z3 => by have z2 : x < g + 1 := z2; have z3 : _ ≤ x := z3; omega)
    refine zr_dup zi212_76 rfl ?_
    refine zr_iconst (v := zJ 3) zi212_77 rfl ?_
    refine zr_aload_n zi212_78 rfl ?_
    refine zr_iconst (v := zJ 1) zi212_79 rfl ?_
    refine zr_virtual zi212_80 rfl rfl (P75.1.at0 rfl) rfl rfl ?_
    refine zcall_dep (d := 0) (Nat.le_of_ble_eq_true rfl) (c202 P75 (zbk_v ?_))
    refine zr_iastoreN zi212_83 X75 (by omega) (by first | omega | (simp only [List.length_set, zpt_len]; omega)) ?_
    refine zw_c (N := h.2.1) X75 (by decide) (by omega) (fun h83 F83 X83 N83 d83 => ?_)
    have P83 := P75.fr F83 (fun x z1 z2 => by have z2 : _ ≤ x := z2; rcases z1 with z | z | z <;> (have := z.2; omega))
    have Xq83 := N83 q _ (by omega) Xq75
    have Lg83 := F83.bk Lg75 (fun x z1 z2 z3 => by have z2 : x < g + 1 := z2; have z3 : _ ≤ x := z3; omega)
    refine zr_dup zi212_84 rfl ?_
    refine zr_iconst (v := zJ 4) zi212_85 rfl ?_
    refine zr_aload_n zi212_86 rfl ?_
    refine zr_virtual zi212_87 rfl rfl (P83.1.at0 rfl) rfl rfl ?_
    refine zcall_dep (d := 4) (Nat.le_of_ble_eq_true rfl) (c213 P83 (zbk_v ?_))
    refine zr_iastoreN zi212_90 X83 (by omega) (by first | omega | (simp only [List.length_set, zpt_len]; omega)) ?_
    refine zw_c (N := h.2.1) X83 (by decide) (by omega) (fun h90 F90 X90 N90 d90 => ?_)
    have P90 := P83.fr F90 (fun x z1 z2 => by have z2 : _ ≤ x := z2; rcases z1 with z | z | z <;> (have := z.2; omega))
    have Xq90 := N90 q _ (by omega) Xq83
    have Lg90 := F90.bk Lg83 (fun x z1 z2 z3 => by have z2 : x < g + 1 := z2; have z3 : _ ≤ x := z3; omega)
    refine zr_dup zi212_91 rfl ?_
    refine zr_iconst (v := zJ 5) zi212_92 rfl ?_
    refine zr_aload_n zi212_93 rfl ?_
    refine zr_getfield zi212_94 (P90.1.at0 rfl) rfl ?_
    refine zr_iface zi212_97 rfl (Lg90.at0 rfl) rfl rfl ?_
    refine zcall_dep (d := 0) (Nat.le_of_ble_eq_true rfl) (c153 Lg90 (zbk_v ?_))
    refine zr_iastoreN zi212_102 X90 (by omega) (by first | omega | (simp only [List.length_set, zpt_len]; omega)) ?_
    refine zw_c (N := h.2.1) X90 (by decide) (by omega) (fun h102 F102 X102 N102 d102 => ?_)
    have P102 := P90.fr F102 (fun x z1 z2 => by have z2 : _ ≤ x := z2; rcases z1 with z | z | z <;> (have := z.2; omega))
    have Xq102 := N102 q _ (by omega) Xq90
    have Lg102 := F102.bk Lg90 (fun x z1 z2 z3 => by have z2 : x < g + 1 := z2; have z3 : _ ≤ x := z3; omega)
    refine zr_dup zi212_103 rfl ?_
    refine zr_bipush (v := zJ 6) zi212_104 rfl ?_
    refine zr_aload_n zi212_106 rfl ?_
    refine zr_getfield zi212_107 (P102.1.at0 rfl) rfl ?_
    refine zr_iastoreN zi212_110 X102 (by omega) (by first | omega | (simp only [List.length_set, zpt_len]; omega)) ?_
    refine zw_c (N := h.2.1) X102 (by decide) (by omega) (fun h110 F110 X110 N110 d110 => ?_)
    have P110 := P102.fr F110 (fun x z1 z2 => by have z2 : _ ≤ x := z2; rcases z1 with z | z | z <;> (have := z.2; omega))
    have Xq110 := N110 q _ (by omega) Xq102
    have Lg110 := F110.bk Lg102 (fun x z1 z2 z3 => by have z2 : x < g + 1 := z2; have z3 : _ ≤ x := z3; omega)
    refine zr_dup zi212_111 rfl ?_
    refine zr_bipush (v := zJ 7) zi212_112 rfl ?_
    refine zr_aload_n zi212_114 rfl ?_
    refine zr_arraylength (v := zJ l.length) zi212_115 Xq110 rfl (zlenJ rfl) ?_
    refine zr_iastoreN zi212_116 X110 (by omega) (by first | omega | (simp only [List.length_set, zpt_len]; omega)) ?_
    refine zw_c (N := h.2.1) X110 (by decide) (by omega) (fun h116 F116 X116 N116 d116 => ?_)
    have P116 := P110.fr F116 (fun x z1 z2 => by have z2 : _ ≤ x := z2; rcases z1 with z | z | z <;> (have := z.2; omega))
    have Xq116 := N116 q _ (by omega) Xq110
    have Lg116 := F116.bk Lg110 (fun x z1 z2 z3 => by have z2 : x < g + 1 := z2; have z3 : _ ≤ x := z3; omega)
    refine zr_dup zi212_117 rfl ?_
    refine zr_bipush (v := zJ 8) zi212_118 rfl ?_
    refine zr_iload_n zi212_120 rfl ?_
    refine zr_iastoreN zi212_121 X116 (by omega) (by first | omega | (simp only [List.length_set, zpt_len]; omega)) ?_
    refine zw_c (N := h.2.1) X116 (by decide) (by omega) (fun h121 F121 X121 N121 d121 => ?_)
    have P121 := P116.fr F121 (fun x z1 z2 => by have z2 : _ ≤ x := z2; rcases z1 with z | z | z <;> (have := z.2; omega))
    have Xq121 := N121 q _ (by omega) Xq116
    have Lg121 := F121.bk Lg116 (fun x z1 z2 z3 => by have z2 : x < g + 1 := z2; have z3 : _ ≤ x := z3; omega)
    refine zr_dup zi212_122 rfl ?_
    refine zr_bipush (v := zJ 9) zi212_123 rfl ?_
    refine zr_aload_n zi212_125 rfl ?_
    refine zr_getfield zi212_126 (P121.1.at0 rfl) rfl ?_
    refine zr_iastoreN zi212_129 X121 (by omega) (by first | omega | (simp only [List.length_set, zpt_len]; omega)) ?_
    refine zw_c (N := h.2.1) X121 (by decide) (by omega) (fun h129 F129 X129 N129 d129 => ?_)
    have P129 := P121.fr F129 (fun x z1 z2 => by have z2 : _ ≤ x := z2; rcases z1 with z | z | z <;> (have := z.2; omega))
    have Xq129 := N129 q _ (by omega) Xq121
    have Lg129 := F129.bk Lg121 (fun x z1 z2 z3 => by have z2 : x < g + 1 := z2; have z3 : _ ≤ x := z3; omega)
    refine zr_dup zi212_130 rfl ?_
    refine zr_bipush (v := zJ 10) zi212_131 rfl ?_
    refine zr_aload_n zi212_133 rfl ?_
    refine zr_aload_n zi212_134 rfl ?_
    refine zr_static zi212_135 rfl rfl rfl rfl ?_
    refine zcall_dep (d := 1) (Nat.le_of_ble_eq_true rfl) (c214 P129 Xq129 (by omega) (fun v135 ev135 => zbk_v ?_))
    subst ev135
    refine zr_iastoreN zi212_138 X129 (by omega) (by first | omega | (simp only [List.length_set, zpt_len]; omega)) ?_
    refine zw_c (N := h.2.1) X129 (by decide) (by omega) (fun h138 F138 X138 N138 d138 => ?_)
    have P138 := P129.fr F138 (fun x z1 z2 => by have z2 : _ ≤ x := z2; rcases z1 with z | z | z <;> (have := z.2; omega))
    have Xq138 := N138 q _ (by omega) Xq129
    have Lg138 := F138.bk Lg129 (fun x z1 z2 z3 => by have z2 : x < g + 1 := z2; have z3 : _ ≤ x := z3; omega)
    refine zr_astore (L' := [some (.ref _), some (.ref _), some (.int (zJ _)), some (.int (zJ _)), some (.ref _), some (.int (zJ _)), some (.int (zJ _)), _]) zi212_139 rfl rfl ?_
    refine zr_aload zi212_141 rfl ?_
    refine zr_iload_n zi212_143 rfl ?_
    refine zr_ialoadN zi212_144 X138 rfl (by omega) (by first | omega | (simp only [List.length_set, zpt_len]; omega)) ?_
    refine zr_ireturn zi212_145 rfl ?_
    obtain rfl : k = w + hh := by omega
    exact K _ _ (((((((((((((F52 _).trans F60).trans F67).trans F75).trans F83).trans F90).trans F102).trans F110).trans F116).trans F121).trans F129).trans F138).fit (by omega) (by omega)) (by rw [r11 hy]; rfl)
  · refine zr_aload zi212_23 rfl ?_
    refine zr_iload zi212_25 rfl ?_
    refine zr_ialoadN zi212_27 (P.ca.at0 rfl) rfl (by omega) (by first | omega | (simp only [List.length_set, zpt_len]; omega)) ?_
    refine zr_istore (L' := [some (.ref _), some (.ref _), some (.int (zJ _)), some (.int (zJ _)), some (.ref _), some (.int (zJ _)), some (.int (zJ _)), some (.int _)]) zi212_28 rfl rfl ?_
    refine zr_iload_n zi212_30 rfl ?_
    refine zr_iload zi212_31 rfl ?_
    refine zr_iconst (v := (-1)) zi212_33 rfl ?_
    refine zr_icmp_ne zi212_34 rfl (fun q34 => ?_) (fun q34 => ?_)
    · refine zr_iconst (v := zJ 0) zi212_41 rfl ?_
      refine zr_iaddN zi212_42 ?_
      refine zr_istore_n (L' := [some (.ref _), some (.ref _), some (.int (zJ _)), some (.int (zJ _)), some (.ref _), some (.int (zJ _)), some (.int (zJ _)), some (.int _)]) zi212_43 rfl rfl ?_
      refine zr_iincN (z := 1) (L' := [some (.ref _), some (.ref _), some (.int (zJ _)), some (.int (zJ _)), some (.ref _), some (.int (zJ _)), some (.int (zJ _)), some (.int _)]) zi212_44 rfl rfl rfl rfl ?_
      refine zr_goto zi212_47 rfl ?_
      have en := ih16 (by omega) (some (.int (cl.getD k 0)))
      rw [zol] at en
      first | (rw [if_pos q34] at en; exact en) | (rw [if_neg q34] at en; exact en)
    · refine zr_iconst (v := zJ 1) zi212_37 rfl ?_
      refine zr_goto zi212_38 rfl ?_
      refine zr_iaddN zi212_42 ?_
      refine zr_istore_n (L' := [some (.ref _), some (.ref _), some (.int (zJ _)), some (.int (zJ _)), some (.ref _), some (.int (zJ _)), some (.int (zJ _)), some (.int _)]) zi212_43 rfl rfl ?_
      refine zr_iincN (z := 1) (L' := [some (.ref _), some (.ref _), some (.int (zJ _)), some (.int (zJ _)), some (.ref _), some (.int (zJ _)), some (.int (zJ _)), some (.int _)]) zi212_44 rfl rfl rfl rfl ?_
      refine zr_goto zi212_47 rfl ?_
      have en := ih16 (by omega) (some (.int (cl.getD k 0)))
      rw [zol] at en
      first | (rw [if_pos q34] at en; exact en) | (rw [if_neg q34] at en; exact en)
theorem rui_le (w hh : Nat) (x0 : List Int32) (i k : Nat) : rui w hh x0 i k ≤ k := by
  induction k with
  | zero => exact Nat.le_refl _
  | succ k ih => rw [rui]; split <;> omega
theorem c221 {E : zEnv} {h : zPH} {Q : zOut → zPH → Prop} {b r c g w hh : Nat} {x0 x1 x2 x3 cl : List Int32} {mi sp : Int32} (P : rB h b r c g w hh x0 x1 x2 x3 cl mi sp) (K : ∀ v, yM64 1079 v → v = rlo w hh x0 cl → Q (.inl (some (.double v))) h) : zcall E 4 221 [.ref b] h Q := by
  obtain ⟨⟨gw1, gw2, gh1, gh2⟩, ⟨l0, l1, l2, l3, lcl⟩, d1, d2, d3⟩ := P.2.2.2
  have hwh := zwh_b (w := w) (hh := hh) ⟨gw1, gw2, gh1, gh2⟩
  show zwp E _ 221 (0, [some (.ref _), none, none, none, none, none], [], _) Q
  refine zr_dconst0 zi221_0 ?_
  refine zr_dstore_n (L' := [some (.ref _), some (.double _), none, none, none, none]) zi221_1 rfl rfl ?_
  refine zr_iconst (v := zJ 0) zi221_2 rfl ?_
  refine zr_istore_n (L' := [some (.ref _), some (.double _), none, some (.int (zJ _)), none, none]) zi221_3 rfl rfl ?_
  suffices key4 : ∀ x4 x5, (yM64 (1057 + 2 * 0) (rls w hh x0 cl 0)) → zwp E 4 221 (4, [some (.ref b), some (.double (rls w hh x0 cl 0)), none, some (.int (zJ 0)), x4, x5], [], h) Q from key4 _ _ (show yM64 (1057 + 2 * 0) FP.dconst0 by unfold yM64; decide)
  refine zloop (P := fun k => ∀ x4 x5, (yM64 (1057 + 2 * k) (rls w hh x0 cl k)) → zwp E 4 221 (4, [some (.ref b), some (.double (rls w hh x0 cl k)), none, some (.int (zJ k)), x4, x5], [], h) Q) (n := w + hh) fun k hk4 ih4 => ?_
  intro x4 x5 hv
  refine zr_iload_n zi221_4 rfl ?_
  refine zr_aload_n zi221_5 rfl ?_
  refine zr_virtual zi221_6 rfl rfl (P.1.at0 rfl) rfl rfl ?_
  refine zcall_dep (d := 0) (Nat.le_of_ble_eq_true rfl) (c167 P (zbk_v ?_))
  refine zr_icmp_geN zi221_9 rfl (by omega) (by omega) (fun q9 => ?_) (fun q9 => ?_)
  · refine zr_dload_n zi221_79 rfl ?_
    refine zr_aload_n zi221_80 rfl ?_
    refine zr_virtual zi221_81 rfl rfl (P.1.at0 rfl) rfl rfl ?_
    refine zcall_dep (d := 0) (Nat.le_of_ble_eq_true rfl) (c167 P (zbk_v ?_))
    refine zr_i2d zi221_84 ?_
    obtain rfl : k = w + hh := by omega
    have hr := yM_ddiv (v := zJ (w + hh)) (hv.mono (K' := 1078) (by omega)) (fun e => by have h2 := (zJ_eq (b := 0) (by omega) (by omega)).mp e; omega) (by omega)
    refine zr_ddiv zi221_85 (hr.zn (by omega)) ?_
    refine zr_dreturn zi221_86 rfl ?_
    exact K _ hr rfl
  · refine zr_iconst (v := zJ 0) zi221_12 rfl ?_
    refine zr_istore (L' := [some (.ref _), some (.double _), none, some (.int (zJ _)), some (.int (zJ _)), _]) zi221_13 rfl rfl ?_
    refine zr_iconst (v := zJ 0) zi221_15 rfl ?_
    refine zr_istore (L' := [some (.ref _), some (.double _), none, some (.int (zJ _)), some (.int (zJ _)), some (.int (zJ _))]) zi221_16 rfl rfl ?_
    suffices key18 : zwp E 4 221 (18, [some (.ref b), some (.double (rls w hh x0 cl k)), none, some (.int (zJ k)), some (.int (zJ (rui w hh x0 k 0))), some (.int (zJ 0))], [], h) Q from key18 
    refine zloop (P := fun i => zwp E 4 221 (18, [some (.ref b), some (.double (rls w hh x0 cl k)), none, some (.int (zJ k)), some (.int (zJ (rui w hh x0 k i))), some (.int (zJ i))], [], h) Q) (n := yln w hh k) fun i hk18 ih18 => ?_
    have hln0 := yln_b k ⟨gw1, gw2, gh1, gh2⟩
    refine zr_iload zi221_18 rfl ?_
    refine zr_aload_n zi221_20 rfl ?_
    refine zr_iload_n zi221_21 rfl ?_
    refine zr_virtual zi221_22 rfl rfl (P.1.at0 rfl) rfl rfl ?_
    refine zcall_dep (d := 0) (Nat.le_of_ble_eq_true rfl) (c168 P (by omega) (zbk_v ?_))
    refine zr_icmp_geN zi221_25 rfl (by omega) (by omega) (fun q25 => ?_) (fun q25 => ?_)
    · obtain rfl : i = yln w hh k := by omega
      have hur := rui_le w hh x0 k (yln w hh k)
      refine zr_dload_n zi221_58 rfl ?_
      refine zr_aload_n zi221_59 rfl ?_
      refine zr_iload_n zi221_60 rfl ?_
      refine zr_virtual zi221_61 rfl rfl (P.1.at0 rfl) rfl rfl ?_
      refine zcall_dep (d := 3) (Nat.le_of_ble_eq_true rfl) (c171 P (by omega) (zbk_v ?_))
      refine zr_i2d zi221_64 ?_
      refine zr_iconst (v := zJ 1) zi221_65 rfl ?_
      refine zr_iload zi221_66 rfl ?_
      refine zr_ishlN zi221_68 (by omega) ?_
      refine zr_i2d zi221_69 ?_
      have hne : zJ (1 * 2 ^ rui w hh x0 k (yln w hh k)) ≠ 0 := zJ_p2 (by omega)
      have hq := yM_ddiv (yM_i2d (zJ (rcw w hh x0 cl k))) hne (by omega)
      refine zr_ddiv zi221_70 (hq.zn (by omega)) ?_
      refine zr_dadd zi221_71 ((yM_dadd (hv.mono (K' := 1080) (by omega)) (hq.mono (by omega)) (by omega)).zn (by omega)) ?_
      refine zr_dstore_n (L' := [some (.ref _), some (.double _), none, some (.int (zJ _)), some (.int (zJ _)), some (.int (zJ _))]) zi221_72 rfl rfl ?_
      refine zr_iincN (z := 1) (L' := [some (.ref _), some (.double _), none, some (.int (zJ _)), some (.int (zJ _)), some (.int (zJ _))]) zi221_73 rfl rfl rfl rfl ?_
      refine zr_goto zi221_76 rfl ?_
      exact ih4 (by omega) _ _ ((yM_dadd hv (hq.mono (by omega)) (by omega)).mono (by omega))
    · have hc := ycl_b (show k < w + hh by omega) q25
      refine zr_iload zi221_28 rfl ?_
      refine zr_aload_n zi221_30 rfl ?_
      refine zr_aload_n zi221_31 rfl ?_
      refine zr_iload_n zi221_32 rfl ?_
      refine zr_iload zi221_33 rfl ?_
      refine zr_virtual zi221_35 rfl rfl (P.1.at0 rfl) rfl rfl ?_
      refine zcall_dep (d := 0) (Nat.le_of_ble_eq_true rfl) (c173 P (by omega) (by omega) (zbk_v ?_))
      refine zr_virtual zi221_38 rfl rfl (P.1.at0 rfl) rfl rfl ?_
      refine zcall_dep (d := 0) (Nat.le_of_ble_eq_true rfl) (c174 P (by omega) (zbk_v ?_))
      refine zr_if_ne zi221_41 rfl (fun q41 => ?_) (fun q41 => ?_)
      · refine zr_iconst (v := zJ 0) zi221_48 rfl ?_
        refine zr_iaddN zi221_49 ?_
        refine zr_istore (L' := [some (.ref _), some (.double _), none, some (.int (zJ _)), some (.int (zJ _)), some (.int (zJ _))]) zi221_50 rfl rfl ?_
        refine zr_iincN (z := 1) (L' := [some (.ref _), some (.double _), none, some (.int (zJ _)), some (.int (zJ _)), some (.int (zJ _))]) zi221_52 rfl rfl rfl rfl ?_
        refine zr_goto zi221_55 rfl ?_
        have en := ih18 (by omega)
        rw [rui] at en
        first | (rw [if_pos q41] at en; exact en) | (rw [if_neg q41] at en; exact en)
      · refine zr_iconst (v := zJ 1) zi221_44 rfl ?_
        refine zr_goto zi221_45 rfl ?_
        refine zr_iaddN zi221_49 ?_
        refine zr_istore (L' := [some (.ref _), some (.double _), none, some (.int (zJ _)), some (.int (zJ _)), some (.int (zJ _))]) zi221_50 rfl rfl ?_
        refine zr_iincN (z := 1) (L' := [some (.ref _), some (.double _), none, some (.int (zJ _)), some (.int (zJ _)), some (.int (zJ _))]) zi221_52 rfl rfl rfl rfl ?_
        refine zr_goto zi221_55 rfl ?_
        have en := ih18 (by omega)
        rw [rui] at en
        first | (rw [if_pos q41] at en; exact en) | (rw [if_neg q41] at en; exact en)
theorem c222 {E : zEnv} {h : zPH} {Q : zOut → zPH → Prop} {b r c g w hh : Nat} {x0 x1 x2 x3 cl : List Int32} {mi sp : Int32} (P : rB h b r c g w hh x0 x1 x2 x3 cl mi sp) {q : Nat} {l : List Int32} (Xq : h.1 q = some (64, zis l)) (hl : l.length ≤ 500) (K : ∀ v, yM32 230 v → v = rfg l x0 (w * hh) → Q (.inl (some (.float v))) h) : zcall E 1 222 [.ref b, .ref q] h Q := by
  obtain ⟨⟨gw1, gw2, gh1, gh2⟩, ⟨l0, l1, l2, l3, lcl⟩, d1, d2, d3⟩ := P.2.2.2
  have hwh := zwh_b (w := w) (hh := hh) ⟨gw1, gw2, gh1, gh2⟩
  show zwp E _ 222 (0, [some (.ref _), some (.ref _), none, none, none], [], _) Q
  refine zr_fconst0 zi222_0 ?_
  refine zr_fstore_n (L' := [some (.ref _), some (.ref _), some (.float _), none, none]) zi222_1 rfl rfl ?_
  refine zr_iconst (v := zJ 0) zi222_2 rfl ?_
  refine zr_istore_n (L' := [some (.ref _), some (.ref _), some (.float _), some (.int (zJ _)), none]) zi222_3 rfl rfl ?_
  suffices key4 : ∀ x4, (yM32 (170 + 2 * 0) (rfg l x0 0)) → zwp E 1 222 (4, [some (.ref b), some (.ref q), some (.float (rfg l x0 0)), some (.int (zJ 0)), x4], [], h) Q from key4 _ (show yM32 (170 + 2 * 0) FP.fconst0 by unfold yM32; decide)
  refine zloop (P := fun k => ∀ x4, (yM32 (170 + 2 * k) (rfg l x0 k)) → zwp E 1 222 (4, [some (.ref b), some (.ref q), some (.float (rfg l x0 k)), some (.int (zJ k)), x4], [], h) Q) (n := w * hh) fun k hk4 ih4 => ?_
  intro x4 hv
  refine zr_iload_n zi222_4 rfl ?_
  refine zr_aload_n zi222_5 rfl ?_
  refine zr_virtual zi222_6 rfl rfl (P.1.at0 rfl) rfl rfl ?_
  refine zcall_dep (d := 0) (Nat.le_of_ble_eq_true rfl) (c156 P (zbk_v ?_))
  refine zr_icmp_geN zi222_9 rfl (by omega) (by omega) (fun q9 => ?_) (fun q9 => ?_)
  · refine zr_fload_n zi222_58 rfl ?_
    refine zr_freturn zi222_59 rfl ?_
    obtain rfl : k = w * hh := by omega
    exact K _ (hv.mono (by omega)) rfl
  · refine zr_aload_n zi222_12 rfl ?_
    refine zr_iload_n zi222_13 rfl ?_
    refine zr_virtual zi222_14 rfl rfl (P.1.at0 rfl) rfl rfl ?_
    refine zcall_dep (d := 0) (Nat.le_of_ble_eq_true rfl) (c174 P (by omega) (zbk_v ?_))
    refine zr_if_ne zi222_17 rfl (fun q17 => ?_) (fun q17 => ?_)
    · refine zr_iincN (z := 1) (L' := [some (.ref _), some (.ref _), some (.float _), some (.int (zJ _)), _]) zi222_52 rfl rfl rfl rfl ?_
      refine zr_goto zi222_55 rfl ?_
      have en := ih4 (by omega)
      first
        | (rw [rfg_y q17 q22] at en; exact en _ hw3)
        | (rw [rfg_n q17] at en; exact en _ (hv.mono (by omega)))
        | (rw [rfg_l q22] at en; exact en _ (hv.mono (by omega)))
    · refine zr_aload_n zi222_20 rfl ?_
      refine zr_arraylength (v := zJ l.length) zi222_21 Xq rfl (zlenJ rfl) ?_
      refine zr_if_neN zi222_22 rfl (by omega) (fun q22 => ?_) (fun q22 => ?_)
      · refine zr_aload_n zi222_28 rfl ?_
        refine zr_iload_n zi222_29 rfl ?_
        refine zr_static zi222_30 rfl rfl rfl rfl ?_
        refine zcall_dep (d := 0) (Nat.le_of_ble_eq_true rfl) (c219 Xq (by omega) (fun v30 ev30 => zbk_v ?_))
        subst ev30
        refine zr_i2f zi222_33 ?_
        refine zr_aload_n zi222_34 rfl ?_
        refine zr_arraylength (v := zJ l.length) zi222_35 Xq rfl (zlenJ rfl) ?_
        refine zr_i2f zi222_36 ?_
        have hne : zJ l.length ≠ 0 := fun e => q22 ((zJ_eq (b := 0) (by omega) (by omega)).mp e)
        have hs := yM_fdiv (yM_i2f (rdn l (zJ k) l.length)) hne (by omega)
        refine zr_fdiv zi222_37 (hs.zn (by omega)) ?_
        refine zr_fstore (L' := [some (.ref _), some (.ref _), some (.float _), some (.int (zJ _)), some (.float _)]) zi222_38 rfl rfl ?_
        refine zr_fload_n zi222_40 rfl ?_
        refine zr_fload zi222_41 rfl ?_
        refine zr_fconst1 zi222_43 ?_
        refine zr_fload zi222_44 rfl ?_
        have hr2 := yM_fsub (a := FP.fconst1) (K := 161) (by unfold yM32; decide) hs (by omega)
        refine zr_fsub zi222_46 (hr2.zn (by omega)) ?_
        refine zr_fmin zi222_47 (hs.zn (by omega)) (hr2.zn (by omega)) rfl ?_
        have hm := yM_min (hs.mono (K' := 163) (by omega)) hr2
        have hw3 := (yM_fadd hv (hm.mono (K' := 170 + 2 * k) (by omega)) (by omega)).mono (K' := 170 + 2 * (k + 1)) (by omega)
        refine zr_fadd zi222_50 (hw3.zn (by omega)) ?_
        refine zr_fstore_n (L' := [some (.ref _), some (.ref _), some (.float _), some (.int (zJ _)), some (.float _)]) zi222_51 rfl rfl ?_
        refine zr_iincN (z := 1) (L' := [some (.ref _), some (.ref _), some (.float _), some (.int (zJ _)), some (.float _)]) zi222_52 rfl rfl rfl rfl ?_
        refine zr_goto zi222_55 rfl ?_
        have en := ih4 (by omega)
        first
          | (rw [rfg_y q17 q22] at en; exact en _ hw3)
          | (rw [rfg_n q17] at en; exact en _ (hv.mono (by omega)))
          | (rw [rfg_l q22] at en; exact en _ (hv.mono (by omega)))
      · refine zr_goto zi222_25 rfl ?_
        refine zr_iincN (z := 1) (L' := [some (.ref _), some (.ref _), some (.float _), some (.int (zJ _)), _]) zi222_52 rfl rfl rfl rfl ?_
        refine zr_goto zi222_55 rfl ?_
        have en := ih4 (by omega)
        first
          | (rw [rfg_y q17 q22] at en; exact en _ hw3)
          | (rw [rfg_n q17] at en; exact en _ (hv.mono (by omega)))
          | (rw [rfg_l q22] at en; exact en _ (hv.mono (by omega)))
theorem c226 {E : zEnv} {h : zPH} {Q : zOut → zPH → Prop} {b r c g w hh : Nat} {x0 x1 x2 x3 cl : List Int32} {mi sp : Int32} (P : rB h b r c g w hh x0 x1 x2 x3 cl mi sp) (K : ∀ v, v = (rhn w hh x0 cl (w + hh)).1 → Q (.inl (some (.int v))) h) : zcall E 4 226 [.ref b] h Q := by
  obtain ⟨⟨gw1, gw2, gh1, gh2⟩, ⟨l0, l1, l2, l3, lcl⟩, d1, d2, d3⟩ := P.2.2.2
  have hwh := zwh_b (w := w) (hh := hh) ⟨gw1, gw2, gh1, gh2⟩
  show zwp E _ 226 (0, [some (.ref _), none, none, none, none], [], _) Q
  refine zr_iconst (v := (-1)) zi226_0 rfl ?_
  refine zr_istore_n (L' := [some (.ref _), some (.int _), none, none, none]) zi226_1 rfl rfl ?_
  refine zr_iconst (v := zJ 0) zi226_2 rfl ?_
  refine zr_istore_n (L' := [some (.ref _), some (.int _), some (.int (zJ _)), none, none]) zi226_3 rfl rfl ?_
  refine zr_iconst (v := zJ 0) zi226_4 rfl ?_
  refine zr_istore_n (L' := [some (.ref _), some (.int _), some (.int (zJ _)), some (.int (zJ _)), none]) zi226_5 rfl rfl ?_
  suffices key6 : ∀ x4, zwp E 4 226 (6, [some (.ref b), some (.int (rhn w hh x0 cl 0).1), some (.int (rhn w hh x0 cl 0).2), some (.int (zJ 0)), x4], [], h) Q from key6 _
  refine zloop (P := fun k => ∀ x4, zwp E 4 226 (6, [some (.ref b), some (.int (rhn w hh x0 cl k).1), some (.int (rhn w hh x0 cl k).2), some (.int (zJ k)), x4], [], h) Q) (n := w + hh) fun k hk6 ih6 => ?_
  intro x4
  refine zr_iload_n zi226_6 rfl ?_
  refine zr_aload_n zi226_7 rfl ?_
  refine zr_virtual zi226_8 rfl rfl (P.1.at0 rfl) rfl rfl ?_
  refine zcall_dep (d := 0) (Nat.le_of_ble_eq_true rfl) (c167 P (zbk_v ?_))
  refine zr_icmp_geN zi226_11 rfl (by omega) (by omega) (fun q11 => ?_) (fun q11 => ?_)
  · refine zr_iload_n zi226_52 rfl ?_
    refine zr_ireturn zi226_53 rfl ?_
    obtain rfl : k = w + hh := by omega
    exact K _ rfl
  · refine zr_aload_n zi226_14 rfl ?_
    refine zr_iload_n zi226_15 rfl ?_
    refine zr_iconst (v := zB true) zi226_16 rfl ?_
    refine zr_virtual zi226_17 rfl rfl (P.1.at0 rfl) rfl rfl ?_
    refine zcall_dep (d := 3) (Nat.le_of_ble_eq_true rfl) (c188 P (by omega) (zbk_v ?_))
    refine zr_aload_n zi226_20 rfl ?_
    refine zr_iload_n zi226_21 rfl ?_
    refine zr_iconst (v := zB false) zi226_22 rfl ?_
    refine zr_virtual zi226_23 rfl rfl (P.1.at0 rfl) rfl rfl ?_
    refine zcall_dep (d := 3) (Nat.le_of_ble_eq_true rfl) (c188 P (by omega) (zbk_v ?_))
    refine zr_ior zi226_26 ?_
    refine zr_static zi226_27 rfl rfl rfl rfl ?_
    refine zcall_dep (d := 0) (Nat.le_of_ble_eq_true rfl) (c189 (zbk_v ?_))
    refine zr_istore (L' := [some (.ref _), some (.int _), some (.int _), some (.int (zJ _)), some (.int _)]) zi226_30 rfl rfl ?_
    refine zr_iload zi226_32 rfl ?_
    refine zr_iload_n zi226_34 rfl ?_
    refine zr_icmp_gt zi226_35 rfl (fun q35 => ?_) (fun q35 => ?_)
    · refine zr_iload_n zi226_41 rfl ?_
      refine zr_istore_n (L' := [some (.ref _), some (.int (zJ _)), some (.int _), some (.int (zJ _)), some (.int _)]) zi226_42 rfl rfl ?_
      refine zr_iload zi226_43 rfl ?_
      refine zr_istore_n (L' := [some (.ref _), some (.int (zJ _)), some (.int _), some (.int (zJ _)), some (.int _)]) zi226_45 rfl rfl ?_
      refine zr_iincN (z := 1) (L' := [some (.ref _), some (.int (zJ _)), some (.int _), some (.int (zJ _)), some (.int _)]) zi226_46 rfl rfl rfl rfl ?_
      refine zr_goto zi226_49 rfl ?_
      have en := ih6 (by omega)
      rw [rhn] at en
      first | (rw [if_neg (Int32.not_le.mpr q35)] at en; exact en _) | (rw [if_pos (Int32.not_lt.mp q35)] at en; exact en _)
    · refine zr_goto zi226_38 rfl ?_
      refine zr_iincN (z := 1) (L' := [some (.ref _), some (.int _), some (.int _), some (.int (zJ _)), some (.int _)]) zi226_46 rfl rfl rfl rfl ?_
      refine zr_goto zi226_49 rfl ?_
      have en := ih6 (by omega)
      rw [rhn] at en
      first | (rw [if_neg (Int32.not_le.mpr q35)] at en; exact en _) | (rw [if_pos (Int32.not_lt.mp q35)] at en; exact en _)
theorem c228 {E : zEnv} {h : zPH} {Q : zOut → zPH → Prop} {b r c g w hh : Nat} {x0 x1 x2 x3 cl : List Int32} {mi sp : Int32} (P : rB h b r c g w hh x0 x1 x2 x3 cl mi sp) {q : Nat} {l : List Int32} (Xq : h.1 q = some (64, zis l)) (hl : l.length ≤ 500) (K : ∀ v, v = (if l.length = 0 then -1 else (rts l x0 (w * hh)).1) → Q (.inl (some (.int v))) h) : zcall E 2 228 [.ref b, .ref q] h Q := by
  obtain ⟨⟨gw1, gw2, gh1, gh2⟩, ⟨l0, l1, l2, l3, lcl⟩, d1, d2, d3⟩ := P.2.2.2
  have hwh := zwh_b (w := w) (hh := hh) ⟨gw1, gw2, gh1, gh2⟩
  show zwp E _ 228 (0, [some (.ref _), some (.ref _), none, none, none, none, none, none], [], _) Q
  refine zr_iconst (v := (-1)) zi228_0 rfl ?_
  refine zr_istore_n (L' := [some (.ref _), some (.ref _), some (.int _), none, none, none, none, none]) zi228_1 rfl rfl ?_
  refine zr_dconst0 zi228_2 ?_
  refine zr_dstore_n (L' := [some (.ref _), some (.ref _), some (.int _), some (.double _), none, none, none, none]) zi228_3 rfl rfl ?_
  refine zr_iconst (v := zJ 0) zi228_4 rfl ?_
  refine zr_istore (L' := [some (.ref _), some (.ref _), some (.int _), some (.double _), none, some (.int (zJ _)), none, none]) zi228_5 rfl rfl ?_
  suffices key7 : ∀ x6 x7, (l.length = 0 → 0 = 0) → zwp E 2 228 (7, [some (.ref b), some (.ref q), some (.int (rts l x0 0).1), some (.double (rts l x0 0).2), none, some (.int (zJ 0)), x6, x7], [], h) Q from key7 _ _ (fun _ => rfl)
  refine zloop (P := fun k => ∀ x6 x7, (l.length = 0 → k = 0) → zwp E 2 228 (7, [some (.ref b), some (.ref q), some (.int (rts l x0 k).1), some (.double (rts l x0 k).2), none, some (.int (zJ k)), x6, x7], [], h) Q) (n := w * hh) fun k hk7 ih7 => ?_
  intro x6 x7 hk0
  refine zr_iload zi228_7 rfl ?_
  refine zr_aload_n zi228_9 rfl ?_
  refine zr_virtual zi228_10 rfl rfl (P.1.at0 rfl) rfl rfl ?_
  refine zcall_dep (d := 0) (Nat.le_of_ble_eq_true rfl) (c156 P (zbk_v ?_))
  refine zr_icmp_geN zi228_13 rfl (by omega) (by omega) (fun q13 => ?_) (fun q13 => ?_)
  · refine zr_iload_n zi228_72 rfl ?_
    refine zr_ireturn zi228_73 rfl ?_
    obtain rfl : k = w * hh := by omega
    exact K _ (by rw [if_neg (fun z => by have h1 := hk0 z; have h2 := hwh.1; omega)])
  · refine zr_aload_n zi228_16 rfl ?_
    refine zr_arraylength (v := zJ l.length) zi228_17 Xq rfl (zlenJ rfl) ?_
    refine zr_if_leN zi228_18 rfl (by omega) (fun q18 => ?_) (fun q18 => ?_)
    · refine zr_iload_n zi228_72 rfl ?_
      refine zr_ireturn zi228_73 rfl ?_
      exact K _ (by rw [if_pos (by omega), hk0 (by omega)]; rfl)
    · refine zr_aload_n zi228_21 rfl ?_
      refine zr_iload zi228_22 rfl ?_
      refine zr_static zi228_24 rfl rfl rfl rfl ?_
      refine zcall_dep (d := 1) (Nat.le_of_ble_eq_true rfl) (c218 Xq (by omega) (fun v24 M24 ev24 => zbk_v ?_))
      subst ev24
      refine zr_ldc2d zi228_27 ?_
      have hd := yM_dsub (b := 4602678819172646912) M24 (by unfold yM64; decide) (by omega)
      refine zr_dsub zi228_30 (hd.zn (by omega)) ?_
      refine zr_dabs zi228_31 (hd.zn (by omega)) rfl ?_
      refine zr_dstore (L' := [some (.ref _), some (.ref _), some (.int _), some (.double _), none, some (.int (zJ _)), some (.double _), none]) zi228_34 rfl rfl ?_
      refine zr_aload_n zi228_36 rfl ?_
      refine zr_iload zi228_37 rfl ?_
      refine zr_virtual zi228_39 rfl rfl (P.1.at0 rfl) rfl rfl ?_
      refine zcall_dep (d := 0) (Nat.le_of_ble_eq_true rfl) (c174 P (by omega) (zbk_v ?_))
      refine zr_if_ne zi228_42 rfl (fun q42 => ?_) (fun q42 => ?_)
      · refine zr_iincN (z := 1) (L' := [some (.ref _), some (.ref _), some (.int _), some (.double _), none, some (.int (zJ _)), some (.double _), none]) zi228_66 rfl rfl rfl rfl ?_
        refine zr_goto zi228_69 rfl ?_
        have en := ih7 (by omega)
        first
          | (rw [rts_1 q42 q47] at en; exact en _ _ (fun z => by omega))
          | (rw [rts_2 q42 q54] at en; exact en _ _ (fun z => by omega))
          | (rw [rts_n q42] at en; exact en _ _ (fun z => by omega))
          | (rw [rts_s q47 q54] at en; exact en _ _ (fun z => by omega))
      · refine zr_iload_n zi228_45 rfl ?_
        refine zr_iconst (v := (-1)) zi228_46 rfl ?_
        refine zr_icmp_eq zi228_47 rfl (fun q47 => ?_) (fun q47 => ?_)
        · refine zr_iload zi228_60 rfl ?_
          refine zr_istore_n (L' := [some (.ref _), some (.ref _), some (.int (zJ _)), some (.double _), none, some (.int (zJ _)), some (.double _), none]) zi228_62 rfl rfl ?_
          refine zr_dload zi228_63 rfl ?_
          refine zr_dstore_n (L' := [some (.ref _), some (.ref _), some (.int (zJ _)), some (.double _), none, some (.int (zJ _)), some (.double _), none]) zi228_65 rfl rfl ?_
          refine zr_iincN (z := 1) (L' := [some (.ref _), some (.ref _), some (.int (zJ _)), some (.double _), none, some (.int (zJ _)), some (.double _), none]) zi228_66 rfl rfl rfl rfl ?_
          refine zr_goto zi228_69 rfl ?_
          have en := ih7 (by omega)
          first
            | (rw [rts_1 q42 q47] at en; exact en _ _ (fun z => by omega))
            | (rw [rts_2 q42 q54] at en; exact en _ _ (fun z => by omega))
            | (rw [rts_n q42] at en; exact en _ _ (fun z => by omega))
            | (rw [rts_s q47 q54] at en; exact en _ _ (fun z => by omega))
        · refine zr_dload zi228_50 rfl ?_
          refine zr_dload_n zi228_52 rfl ?_
          refine zr_dcmp zi228_53 ?_
          refine zr_if_lt zi228_54 rfl (fun q54 => ?_) (fun q54 => ?_)
          · refine zr_iload zi228_60 rfl ?_
            refine zr_istore_n (L' := [some (.ref _), some (.ref _), some (.int (zJ _)), some (.double _), none, some (.int (zJ _)), some (.double _), none]) zi228_62 rfl rfl ?_
            refine zr_dload zi228_63 rfl ?_
            refine zr_dstore_n (L' := [some (.ref _), some (.ref _), some (.int (zJ _)), some (.double _), none, some (.int (zJ _)), some (.double _), none]) zi228_65 rfl rfl ?_
            refine zr_iincN (z := 1) (L' := [some (.ref _), some (.ref _), some (.int (zJ _)), some (.double _), none, some (.int (zJ _)), some (.double _), none]) zi228_66 rfl rfl rfl rfl ?_
            refine zr_goto zi228_69 rfl ?_
            have en := ih7 (by omega)
            first
              | (rw [rts_1 q42 q47] at en; exact en _ _ (fun z => by omega))
              | (rw [rts_2 q42 q54] at en; exact en _ _ (fun z => by omega))
              | (rw [rts_n q42] at en; exact en _ _ (fun z => by omega))
              | (rw [rts_s q47 q54] at en; exact en _ _ (fun z => by omega))
          · refine zr_goto zi228_57 rfl ?_
            refine zr_iincN (z := 1) (L' := [some (.ref _), some (.ref _), some (.int _), some (.double _), none, some (.int (zJ _)), some (.double _), none]) zi228_66 rfl rfl rfl rfl ?_
            refine zr_goto zi228_69 rfl ?_
            have en := ih7 (by omega)
            first
              | (rw [rts_1 q42 q47] at en; exact en _ _ (fun z => by omega))
              | (rw [rts_2 q42 q54] at en; exact en _ _ (fun z => by omega))
              | (rw [rts_n q42] at en; exact en _ _ (fun z => by omega))
              | (rw [rts_s q47 q54] at en; exact en _ _ (fun z => by omega))
/-- one cell, or two, by which the first picture is told -/
def rio (l : List Int32) (i j : Nat) : Nat → Bool
  | 0 => true
  | k + 1 => rio l i j k && (zbit (l.getD (k + 1) 0 ^^^ l.getD 0 0) i || zbit (l.getD (k + 1) 0 ^^^ l.getD 0 0) j)
theorem rio_f {l : List Int32} {i j k : Nat} (h : rio l i j k = false) (n : Nat) (hn : k ≤ n) : rio l i j n = false := by
  induction hn with
  | refl => exact h
  | step _ ih => rw [rio, ih]; rfl
theorem rio_t {l : List Int32} {i j k : Nat} (h : rio l i j k = true) (n : Nat) (hn : n ≤ k) : rio l i j n = true := by
  cases h1 : rio l i j n with
  | true => rfl
  | false => rw [rio_f h1 k hn] at h; cases h
def rin (l : List Int32) (i : Nat) : Nat → Nat → Nat
  | 0, m => m
  | j + 1, m => if rin l i j m ≤ 1 then rin l i j m else if rio l i (i + j) (l.length - 1) = true then min (rin l i j m) (if j = 0 then 1 else 2) else rin l i j m
theorem rin_stop {l : List Int32} {i j m : Nat} (h : rin l i j m ≤ 1) (n : Nat) (hn : j ≤ n) : rin l i n m = rin l i j m := by
  induction hn with
  | refl => rfl
  | step _ ih => rw [rin, ih, if_pos h]
theorem rin_n {l : List Int32} {i j m : Nat} (h : 1 < rin l i j m) (h2 : rio l i (i + j) (l.length - 1) = false) : rin l i (j + 1) m = rin l i j m := by
  rw [rin, if_neg (by omega), if_neg (by rw [h2]; decide)]
theorem rin_1 {l : List Int32} {i j m : Nat} (h : 1 < rin l i j m) (h2 : rio l i (i + j) (l.length - 1) = true) (h3 : j = 0) : rin l i (j + 1) m = min (rin l i j m) 1 := by
  rw [rin, if_neg (by omega), if_pos h2, if_pos h3]
theorem rin_2 {l : List Int32} {i j m : Nat} (h : 1 < rin l i j m) (h2 : rio l i (i + j) (l.length - 1) = true) (h3 : ¬ j = 0) : rin l i (j + 1) m = min (rin l i j m) 2 := by
  rw [rin, if_neg (by omega), if_pos h2, if_neg h3]
theorem rin_le (l : List Int32) (i j m : Nat) : rin l i j m ≤ m := by
  induction j with
  | zero => exact Nat.le_refl _
  | succ j ih =>
    rw [rin]
    split
    · exact ih
    · split
      · exact Nat.le_trans (Nat.min_le_left _ _) ih
      · exact ih
def ron (l : List Int32) (N : Nat) : Nat → Nat
  | 0 => 3
  | k + 1 => if ron l N k ≤ 1 then ron l N k else rin l k (N - k) (ron l N k)
theorem ron_le (l : List Int32) (N k : Nat) : ron l N k ≤ 3 := by
  induction k with
  | zero => exact Nat.le_refl _
  | succ k ih =>
    rw [ron]
    split
    · exact ih
    · exact Nat.le_trans (rin_le _ _ _ _) ih
theorem ron_stop {l : List Int32} {N k : Nat} (h : ron l N k ≤ 1) (n : Nat) (hn : k ≤ n) : ron l N n = ron l N k := by
  induction hn with
  | refl => rfl
  | step _ ih => rw [ron, ih, if_pos h]
theorem ron_s {l : List Int32} {N k : Nat} (h : 1 < ron l N k) : ron l N (k + 1) = rin l k (N - k) (ron l N k) := by rw [ron, if_neg (by omega)]
def rne (w hh : Nat) (l : List Int32) : Int32 := if l.length < 2 then zJ l.length - zJ 1 else if ron l (w * hh) (w * hh) = 3 then -1 else zJ (ron l (w * hh) (w * hh))
theorem c232 {E : zEnv} {h : zPH} {Q : zOut → zPH → Prop} {q i j : Nat} {l : List Int32} (Xq : h.1 q = some (64, zis l)) (hl : l.length ≤ 500) (hi : i < 32) (hj : j < 32) (K : ∀ b : Bool, b = rio l i j (l.length - 1) → Q (.inl (some (.int (zB b)))) h) : zcall E 1 232 [.ref q, .int (zJ i), .int (zJ j)] h Q := by
  show zwp E _ 232 (0, [some (.ref _), some (.int (zJ _)), some (.int (zJ _)), none, none], [], _) Q
  refine zr_iconst (v := zJ 1) zi232_0 rfl ?_
  refine zr_istore_n (L' := [some (.ref _), some (.int (zJ _)), some (.int (zJ _)), some (.int (zJ _)), none]) zi232_1 rfl rfl ?_
  suffices key2 : ∀ x4, (rio l i j 0 = true) → zwp E 1 232 (2, [some (.ref q), some (.int (zJ i)), some (.int (zJ j)), some (.int (zJ (0 + 1))), x4], [], h) Q from key2 _ rfl
  refine zloop (P := fun k => ∀ x4, (rio l i j k = true) → zwp E 1 232 (2, [some (.ref q), some (.int (zJ i)), some (.int (zJ j)), some (.int (zJ (k + 1))), x4], [], h) Q) (n := l.length) fun k hk2 ih2 => ?_
  intro x4 hE
  refine zr_iload_n zi232_2 rfl ?_
  refine zr_aload_n zi232_3 rfl ?_
  refine zr_arraylength (v := zJ l.length) zi232_4 Xq rfl (zlenJ rfl) ?_
  refine zr_icmp_geN zi232_5 rfl (by omega) (by omega) (fun q5 => ?_) (fun q5 => ?_)
  · refine zr_iconst (v := zB true) zi232_43 rfl ?_
    refine zr_zreturnB zi232_44 rfl ?_
    exact K true (rio_t hE _ (by omega)).symm
  · refine zr_aload_n zi232_8 rfl ?_
    refine zr_iload_n zi232_9 rfl ?_
    refine zr_ialoadN zi232_10 Xq rfl (by omega) (by first | omega | (simp only [List.length_set, zpt_len]; omega)) ?_
    refine zr_aload_n zi232_11 rfl ?_
    refine zr_iconst (v := zJ 0) zi232_12 rfl ?_
    refine zr_ialoadN zi232_13 Xq rfl (by omega) (by first | omega | (simp only [List.length_set, zpt_len]; omega)) ?_
    refine zr_ixor zi232_14 ?_
    refine zr_istore (L' := [some (.ref _), some (.int (zJ _)), some (.int (zJ _)), some (.int (zJ _)), some (.int _)]) zi232_15 rfl rfl ?_
    refine zr_iload zi232_17 rfl ?_
    refine zr_iload_n zi232_19 rfl ?_
    refine zr_static zi232_20 rfl rfl rfl rfl ?_
    refine zcall_dep (d := 0) (Nat.le_of_ble_eq_true rfl) (c175 (by omega) (zbk_v ?_))
    refine zr_if_neB zi232_23 rfl (fun q23 => ?_) (fun q23 => ?_)
    · refine zr_iincN (z := 1) (L' := [some (.ref _), some (.int (zJ _)), some (.int (zJ _)), some (.int (zJ _)), some (.int _)]) zi232_37 rfl rfl rfl rfl ?_
      refine zr_goto zi232_40 rfl ?_
      exact ih2 (by omega) _ (by rw [rio, hE, Bool.true_and]; first | rw [q23, Bool.true_or] | rw [q32, Bool.or_true])
    · refine zr_iload zi232_26 rfl ?_
      refine zr_iload_n zi232_28 rfl ?_
      refine zr_static zi232_29 rfl rfl rfl rfl ?_
      refine zcall_dep (d := 0) (Nat.le_of_ble_eq_true rfl) (c175 (by omega) (zbk_v ?_))
      refine zr_if_neB zi232_32 rfl (fun q32 => ?_) (fun q32 => ?_)
      · refine zr_iincN (z := 1) (L' := [some (.ref _), some (.int (zJ _)), some (.int (zJ _)), some (.int (zJ _)), some (.int _)]) zi232_37 rfl rfl rfl rfl ?_
        refine zr_goto zi232_40 rfl ?_
        exact ih2 (by omega) _ (by rw [rio, hE, Bool.true_and]; first | rw [q23, Bool.true_or] | rw [q32, Bool.or_true])
      · refine zr_iconst (v := zB false) zi232_35 rfl ?_
        refine zr_zreturnB zi232_36 rfl ?_
        exact K false (rio_f (k := k + 1) (by rw [rio, q23, q32, Bool.or_false, Bool.and_false]) _ (by omega)).symm
theorem c231 {E : zEnv} {h : zPH} {Q : zOut → zPH → Prop} {b r c g w hh : Nat} {x0 x1 x2 x3 cl : List Int32} {mi sp : Int32} (P : rB h b r c g w hh x0 x1 x2 x3 cl mi sp) {q : Nat} {l : List Int32} (Xq : h.1 q = some (64, zis l)) (hl : l.length ≤ 500) (K : ∀ v, v = rne w hh l → Q (.inl (some (.int v))) h) : zcall E 2 231 [.ref b, .ref q] h Q := by
  obtain ⟨⟨gw1, gw2, gh1, gh2⟩, ⟨l0, l1, l2, l3, lcl⟩, d1, d2, d3⟩ := P.2.2.2
  have hwh := zwh_b (w := w) (hh := hh) ⟨gw1, gw2, gh1, gh2⟩
  show zwp E _ 231 (0, [some (.ref _), some (.ref _), none, none, none], [], _) Q
  refine zr_aload_n zi231_0 rfl ?_
  refine zr_arraylength (v := zJ l.length) zi231_1 Xq rfl (zlenJ rfl) ?_
  refine zr_iconst (v := zJ 2) zi231_2 rfl ?_
  refine zr_icmp_geN zi231_3 rfl (by omega) (by omega) (fun q3 => ?_) (fun q3 => ?_)
  · refine zr_iconst (v := zJ 3) zi231_11 rfl ?_
    refine zr_istore_n (L' := [some (.ref _), some (.ref _), some (.int (zJ _)), none, none]) zi231_12 rfl rfl ?_
    refine zr_iconst (v := zJ 0) zi231_13 rfl ?_
    refine zr_istore_n (L' := [some (.ref _), some (.ref _), some (.int (zJ _)), some (.int (zJ _)), none]) zi231_14 rfl rfl ?_
    suffices key15 : ∀ x4, zwp E 2 231 (15, [some (.ref b), some (.ref q), some (.int (zJ (ron l (w * hh) 0))), some (.int (zJ 0)), x4], [], h) Q from key15 _
    refine zloop (P := fun k => ∀ x4, zwp E 2 231 (15, [some (.ref b), some (.ref q), some (.int (zJ (ron l (w * hh) k))), some (.int (zJ k)), x4], [], h) Q) (n := w * hh) fun k hk15 ih15 => ?_
    intro x4
    have hro := ron_le l (w * hh) k
    refine zr_iload_n zi231_15 rfl ?_
    refine zr_aload_n zi231_16 rfl ?_
    refine zr_virtual zi231_17 rfl rfl (P.1.at0 rfl) rfl rfl ?_
    refine zcall_dep (d := 0) (Nat.le_of_ble_eq_true rfl) (c156 P (zbk_v ?_))
    refine zr_icmp_geN zi231_20 rfl (by omega) (by omega) (fun q20 => ?_) (fun q20 => ?_)
    · refine zr_iload_n zi231_83 rfl ?_
      refine zr_iconst (v := zJ 3) zi231_84 rfl ?_
      refine zr_icmp_neN zi231_85 rfl (by omega) (by omega) (fun q85 => ?_) (fun q85 => ?_)
      · refine zr_iload_n zi231_92 rfl ?_
        refine zr_ireturn zi231_93 rfl ?_
        have hr : ron l (w * hh) (w * hh) = ron l (w * hh) k := by first | exact ron_stop q25 _ (by omega) | exact congrArg _ (by omega : w * hh = k)
        exact K _ (by rw [rne, if_neg (by omega), hr]; first | rw [if_pos q85] | rw [if_neg q85])
      · refine zr_iconst (v := (-1)) zi231_88 rfl ?_
        refine zr_goto zi231_89 rfl ?_
        refine zr_ireturn zi231_93 rfl ?_
        have hr : ron l (w * hh) (w * hh) = ron l (w * hh) k := by first | exact ron_stop q25 _ (by omega) | exact congrArg _ (by omega : w * hh = k)
        exact K _ (by rw [rne, if_neg (by omega), hr]; first | rw [if_pos q85] | rw [if_neg q85])
    · refine zr_iload_n zi231_23 rfl ?_
      refine zr_iconst (v := zJ 1) zi231_24 rfl ?_
      refine zr_icmp_leN zi231_25 rfl (by omega) (by omega) (fun q25 => ?_) (fun q25 => ?_)
      · refine zr_iload_n zi231_83 rfl ?_
        refine zr_iconst (v := zJ 3) zi231_84 rfl ?_
        refine zr_icmp_neN zi231_85 rfl (by omega) (by omega) (fun q85 => ?_) (fun q85 => ?_)
        · refine zr_iload_n zi231_92 rfl ?_
          refine zr_ireturn zi231_93 rfl ?_
          have hr : ron l (w * hh) (w * hh) = ron l (w * hh) k := by first | exact ron_stop q25 _ (by omega) | exact congrArg _ (by omega : w * hh = k)
          exact K _ (by rw [rne, if_neg (by omega), hr]; first | rw [if_pos q85] | rw [if_neg q85])
        · refine zr_iconst (v := (-1)) zi231_88 rfl ?_
          refine zr_goto zi231_89 rfl ?_
          refine zr_ireturn zi231_93 rfl ?_
          have hr : ron l (w * hh) (w * hh) = ron l (w * hh) k := by first | exact ron_stop q25 _ (by omega) | exact congrArg _ (by omega : w * hh = k)
          exact K _ (by rw [rne, if_neg (by omega), hr]; first | rw [if_pos q85] | rw [if_neg q85])
      · refine zr_iload_n zi231_28 rfl ?_
        refine zr_istore (L' := [some (.ref _), some (.ref _), some (.int (zJ _)), some (.int (zJ _)), some (.int (zJ _))]) zi231_29 rfl rfl ?_
        suffices key31 : (k + 0 ≤ w * hh) → zwp E 2 231 (31, [some (.ref b), some (.ref q), some (.int (zJ (rin l k 0 (ron l (w * hh) k)))), some (.int (zJ k)), some (.int (zJ (k + 0)))], [], h) Q from key31 (by omega)
        refine zloop (P := fun i => (k + i ≤ w * hh) → zwp E 2 231 (31, [some (.ref b), some (.ref q), some (.int (zJ (rin l k i (ron l (w * hh) k)))), some (.int (zJ k)), some (.int (zJ (k + i)))], [], h) Q) (n := w * hh) fun i hk31 ih31 => ?_
        intro hki
        have hri := Nat.le_trans (rin_le l k i (ron l (w * hh) k)) hro
        refine zr_iload zi231_31 rfl ?_
        refine zr_aload_n zi231_33 rfl ?_
        refine zr_virtual zi231_34 rfl rfl (P.1.at0 rfl) rfl rfl ?_
        refine zcall_dep (d := 0) (Nat.le_of_ble_eq_true rfl) (c156 P (zbk_v ?_))
        refine zr_icmp_geN zi231_37 rfl (by omega) (by omega) (fun q37 => ?_) (fun q37 => ?_)
        · refine zr_iincN (z := 1) (L' := [some (.ref _), some (.ref _), some (.int (zJ _)), some (.int (zJ _)), some (.int (zJ _))]) zi231_77 rfl rfl rfl rfl ?_
          refine zr_goto zi231_80 rfl ?_
          have en := ih15 (by omega)
          first
            | (rw [ron_s q25, rin_stop q42 _ (show i ≤ w * hh - k by omega)] at en; exact en _)
            | (rw [ron_s q25, show w * hh - k = i by omega] at en; exact en _)
        · refine zr_iload_n zi231_40 rfl ?_
          refine zr_iconst (v := zJ 1) zi231_41 rfl ?_
          refine zr_icmp_leN zi231_42 rfl (by omega) (by omega) (fun q42 => ?_) (fun q42 => ?_)
          · refine zr_iincN (z := 1) (L' := [some (.ref _), some (.ref _), some (.int (zJ _)), some (.int (zJ _)), some (.int (zJ _))]) zi231_77 rfl rfl rfl rfl ?_
            refine zr_goto zi231_80 rfl ?_
            have en := ih15 (by omega)
            first
              | (rw [ron_s q25, rin_stop q42 _ (show i ≤ w * hh - k by omega)] at en; exact en _)
              | (rw [ron_s q25, show w * hh - k = i by omega] at en; exact en _)
          · refine zr_aload_n zi231_45 rfl ?_
            refine zr_iload_n zi231_46 rfl ?_
            refine zr_iload zi231_47 rfl ?_
            refine zr_static zi231_49 rfl rfl rfl rfl ?_
            refine zcall_dep (d := 1) (Nat.le_of_ble_eq_true rfl) (c232 Xq (by omega) (by omega) (by omega) (fun b49 eb49 => zbk_v ?_))
            subst eb49
            refine zr_if_eqB zi231_52 rfl (fun q52 => ?_) (fun q52 => ?_)
            · refine zr_iincN (z := 1) (L' := [some (.ref _), some (.ref _), some (.int (zJ _)), some (.int (zJ _)), some (.int (zJ _))]) zi231_71 rfl rfl rfl rfl ?_
              refine zr_goto zi231_74 rfl ?_
              have en := ih31 (by omega)
              first
                | (rw [rin_n q42 q52] at en; exact en (by omega))
                | (rw [rin_1 q42 q52 (by omega)] at en; exact en (by omega))
                | (rw [rin_2 q42 q52 (by omega)] at en; exact en (by omega))
            · refine zr_iload_n zi231_55 rfl ?_
              refine zr_iload_n zi231_56 rfl ?_
              refine zr_iload zi231_57 rfl ?_
              refine zr_icmp_neN zi231_59 rfl (by omega) (by omega) (fun q59 => ?_) (fun q59 => ?_)
              · refine zr_iconst (v := zJ 2) zi231_66 rfl ?_
                refine zr_static zi231_67 rfl rfl rfl rfl ?_
                refine zcall_dep (d := 0) (Nat.le_of_ble_eq_true rfl) (c119 (by omega) (by omega) (zbk_v ?_))
                refine zr_istore_n (L' := [some (.ref _), some (.ref _), some (.int (zJ _)), some (.int (zJ _)), some (.int (zJ _))]) zi231_70 rfl rfl ?_
                refine zr_iincN (z := 1) (L' := [some (.ref _), some (.ref _), some (.int (zJ _)), some (.int (zJ _)), some (.int (zJ _))]) zi231_71 rfl rfl rfl rfl ?_
                refine zr_goto zi231_74 rfl ?_
                have en := ih31 (by omega)
                first
                  | (rw [rin_n q42 q52] at en; exact en (by omega))
                  | (rw [rin_1 q42 q52 (by omega)] at en; exact en (by omega))
                  | (rw [rin_2 q42 q52 (by omega)] at en; exact en (by omega))
              · refine zr_iconst (v := zJ 1) zi231_62 rfl ?_
                refine zr_goto zi231_63 rfl ?_
                refine zr_static zi231_67 rfl rfl rfl rfl ?_
                refine zcall_dep (d := 0) (Nat.le_of_ble_eq_true rfl) (c119 (by omega) (by omega) (zbk_v ?_))
                refine zr_istore_n (L' := [some (.ref _), some (.ref _), some (.int (zJ _)), some (.int (zJ _)), some (.int (zJ _))]) zi231_70 rfl rfl ?_
                refine zr_iincN (z := 1) (L' := [some (.ref _), some (.ref _), some (.int (zJ _)), some (.int (zJ _)), some (.int (zJ _))]) zi231_71 rfl rfl rfl rfl ?_
                refine zr_goto zi231_74 rfl ?_
                have en := ih31 (by omega)
                first
                  | (rw [rin_n q42 q52] at en; exact en (by omega))
                  | (rw [rin_1 q42 q52 (by omega)] at en; exact en (by omega))
                  | (rw [rin_2 q42 q52 (by omega)] at en; exact en (by omega))
  · refine zr_aload_n zi231_6 rfl ?_
    refine zr_arraylength (v := zJ l.length) zi231_7 Xq rfl (zlenJ rfl) ?_
    refine zr_iconst (v := zJ 1) zi231_8 rfl ?_
    refine zr_isub zi231_9 ?_
    refine zr_ireturn zi231_10 rfl ?_
    exact K _ (by rw [rne, if_pos (by omega)])
def rae (w hh : Nat) (cl : List Int32) (w2 hh2 : Nat) (cl2 : List Int32) : Bool := decide (w = w2) && decide (hh = hh2) && rall (fun i => decide (cl.getD i 0 = cl2.getD i 0)) (w + hh)
theorem rae_self (w hh : Nat) (cl : List Int32) : rae w hh cl w hh cl = true := by
  unfold rae
  rw [decide_eq_true rfl, decide_eq_true rfl, Bool.true_and, Bool.true_and, rall_iff]
  exact fun i _ => decide_eq_true rfl
theorem rae_w {w hh w2 hh2 : Nat} {cl cl2 : List Int32} (h : ¬ w = w2) : rae w hh cl w2 hh2 cl2 = false := by
  unfold rae
  rw [decide_eq_false h, Bool.false_and, Bool.false_and]
theorem rae_h {w hh w2 hh2 : Nat} {cl cl2 : List Int32} (h : ¬ hh = hh2) : rae w hh cl w2 hh2 cl2 = false := by
  unfold rae
  rw [decide_eq_false h, Bool.and_false, Bool.false_and]
theorem rae_c {w hh w2 hh2 i : Nat} {cl cl2 : List Int32} (hi : i < w + hh) (h : ¬ cl.getD i 0 = cl2.getD i 0) : rae w hh cl w2 hh2 cl2 = false := by
  unfold rae
  rw [rall_no hi (decide_eq_false h), Bool.and_false]
theorem rae_t {w hh : Nat} {cl cl2 : List Int32} (h : ∀ i, i < w + hh → cl.getD i 0 = cl2.getD i 0) : rae w hh cl w hh cl2 = true := by
  unfold rae
  rw [decide_eq_true rfl, decide_eq_true rfl, Bool.true_and, Bool.true_and, rall_iff]
  exact fun i hi => decide_eq_true (h i hi)
theorem c235 {E : zEnv} {h : zPH} {Q : zOut → zPH → Prop} {b r c g w hh : Nat} {x0 x1 x2 x3 cl : List Int32} {mi sp : Int32} (P : rB h b r c g w hh x0 x1 x2 x3 cl mi sp) {b2 r2 c2 g2 w2 hh2 : Nat} {y0 y1 y2 y3 cl2 : List Int32} {mi2 sp2 : Int32} (P2 : rB h b2 r2 c2 g2 w2 hh2 y0 y1 y2 y3 cl2 mi2 sp2) (K : Q (.inl (some (.int (zB (rae w hh cl w2 hh2 cl2))))) h) : zcall E 1 235 [.ref b, .ref b2] h Q := by
  obtain ⟨⟨gw1, gw2, gh1, gh2⟩, ⟨l0, l1, l2, l3, lcl⟩, d1, d2, d3⟩ := P.2.2.2
  have hwh := zwh_b (w := w) (hh := hh) ⟨gw1, gw2, gh1, gh2⟩
  have o2 := P2.2.2.2
  show zwp E _ 235 (0, [some (.ref _), some (.ref _), none], [], _) Q
  refine zr_aload_n zi235_0 rfl ?_
  refine zr_getfield zi235_1 (P.1.at0 rfl) rfl ?_
  refine zr_aload_n zi235_4 rfl ?_
  refine zr_getfield zi235_5 (P2.1.at0 rfl) rfl ?_
  refine zr_icmp_neN zi235_8 rfl (by omega) (by omega) (fun q8 => ?_) (fun q8 => ?_)
  · first | rw [rae_w q8] at K | rw [rae_h q19] at K
    refine zr_iconst (v := zB false) zi235_22 rfl ?_
    refine zr_zreturnB zi235_23 rfl ?_
    exact K
  · refine zr_aload_n zi235_11 rfl ?_
    refine zr_getfield zi235_12 (P.1.at0 rfl) rfl ?_
    refine zr_aload_n zi235_15 rfl ?_
    refine zr_getfield zi235_16 (P2.1.at0 rfl) rfl ?_
    refine zr_icmp_eqN zi235_19 rfl (by omega) (by omega) (fun q19 => ?_) (fun q19 => ?_)
    · obtain rfl : w2 = w := q8.symm
      obtain rfl : hh2 = hh := q19.symm
      refine zr_iconst (v := zJ 0) zi235_24 rfl ?_
      refine zr_istore_n (L' := [some (.ref _), some (.ref _), some (.int (zJ _))]) zi235_25 rfl rfl ?_
      suffices key26 : (∀ i, i < 0 → cl.getD i 0 = cl2.getD i 0) → zwp E 1 235 (26, [some (.ref b), some (.ref b2), some (.int (zJ 0))], [], h) Q from key26 (fun i z => absurd z (Nat.not_lt_zero i))
      refine zloop (P := fun k => (∀ i, i < k → cl.getD i 0 = cl2.getD i 0) → zwp E 1 235 (26, [some (.ref b), some (.ref b2), some (.int (zJ k))], [], h) Q) (n := w2 + hh2) fun k hk26 ih26 => ?_
      intro hE
      refine zr_iload_n zi235_26 rfl ?_
      refine zr_aload_n zi235_27 rfl ?_
      refine zr_virtual zi235_28 rfl rfl (P.1.at0 rfl) rfl rfl ?_
      refine zcall_dep (d := 0) (Nat.le_of_ble_eq_true rfl) (c167 P (zbk_v ?_))
      refine zr_icmp_geN zi235_31 rfl (by omega) (by omega) (fun q31 => ?_) (fun q31 => ?_)
      · obtain rfl : k = w2 + hh2 := by omega
        rw [rae_t hE] at K
        refine zr_iconst (v := zB true) zi235_57 rfl ?_
        refine zr_zreturnB zi235_58 rfl ?_
        exact K
      · refine zr_aload_n zi235_34 rfl ?_
        refine zr_getfield zi235_35 (P.1.at0 rfl) rfl ?_
        refine zr_iload_n zi235_38 rfl ?_
        refine zr_ialoadN zi235_39 (P.ca.at0 rfl) rfl (by omega) (by first | omega | (simp only [List.length_set, zpt_len]; omega)) ?_
        refine zr_aload_n zi235_40 rfl ?_
        refine zr_getfield zi235_41 (P2.1.at0 rfl) rfl ?_
        refine zr_iload_n zi235_44 rfl ?_
        refine zr_ialoadN zi235_45 (P2.ca.at0 rfl) rfl (by omega) (by first | omega | (simp only [List.length_set, zpt_len]; omega)) ?_
        refine zr_icmp_eq zi235_46 rfl (fun q46 => ?_) (fun q46 => ?_)
        · refine zr_iincN (z := 1) (L' := [some (.ref _), some (.ref _), some (.int (zJ _))]) zi235_51 rfl rfl rfl rfl ?_
          refine zr_goto zi235_54 rfl ?_
          refine ih26 (by omega) (fun i z => ?_)
          rcases Nat.lt_or_ge i k with z1 | z1
          · exact hE i z1
          · rw [show i = k by omega]; exact q46
        · rw [rae_c (by omega) q46] at K
          refine zr_iconst (v := zB false) zi235_49 rfl ?_
          refine zr_zreturnB zi235_50 rfl ?_
          exact K
    · first | rw [rae_w q8] at K | rw [rae_h q19] at K
      refine zr_iconst (v := zB false) zi235_22 rfl ?_
      refine zr_zreturnB zi235_23 rfl ?_
      exact K
