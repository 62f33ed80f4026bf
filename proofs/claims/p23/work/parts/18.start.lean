/-! ===== THE START: the world at the law's entry ===== -/
def zfl : List Jvm.Cond := flatC (Jvm.Cond.and given_1 narrow_1)
def zSH : List Int32 := [0, 1, 1, 2, 1, 11, 2, 3, 1, 11, 11, 21, 2, 12, 3, 4, 1, 11, 11, 21, 11, 111, 21, 31, 2, 12, 12, 22, 3, 13, 4, 5]
def zDK : List Int32 := [-1431655766, -858993460, -252645136, -16711936, -65536]
abbrev ztSH : Jvm.Term := .static "TesseraHall" "SHOWN" "[I"
abbrev ztDK : Jvm.Term := .static "TesseraHall" "DARK_AT" "[I"
abbrev ztCS : Jvm.Term := .static "java/lang/String" "COMPACT_STRINGS" "Z"
abbrev ztED : Jvm.Term := .static "java/util/ArrayList" "DEFAULTCAPACITY_EMPTY_ELEMENTDATA" "[Ljava/lang/Object;"
def zpl (t : Jvm.Term) (l : List Int32) : List Jvm.Cond := (List.range l.length).map fun j => Jvm.Cond.eq (.elem t (.int (Int32.ofNat j))) (.int (l.getD j 0))
set_option maxRecDepth 100000 in
theorem zpSH : ∀ w ∈ Jvm.Cond.arrayOf ztSH .int :: Jvm.Cond.eq (.length ztSH) (.int 32) :: zpl ztSH zSH, w ∈ zfl := by decide +kernel
set_option maxRecDepth 100000 in
theorem zpDK : ∀ w ∈ Jvm.Cond.arrayOf ztDK .int :: Jvm.Cond.eq (.length ztDK) (.int 5) :: zpl ztDK zDK, w ∈ zfl := by decide +kernel
set_option maxRecDepth 100000 in
theorem zpED : ∀ w ∈ [Jvm.Cond.arrayOf ztED (.object "java/lang/Object"), Jvm.Cond.eq (.length ztED) (.int 0), Jvm.Cond.eq ztCS (.int 1), Jvm.Cond.isRef (.static Bundle.tN "UNASSIGNED_STACK" Bundle.steD), Jvm.Cond.isRef (.static Bundle.tN "SUPPRESSED_SENTINEL" Bundle.listD), Jvm.Cond.not (.eq (.arg 0) ztSH), Jvm.Cond.not (.eq (.arg 0) ztDK)], w ∈ zfl := by decide +kernel
set_option maxRecDepth 100000 in
theorem zpST : zsts.all (fun e => decide (Jvm.Cond.laysStatic e.1 e.2.1 e.2.2 ∈ zAll) && decide (Jvm.Cond.initialized e.1 ∈ zAll)) = true := by decide +kernel
set_option maxRecDepth 100000 in
theorem zpTH : Jvm.Cond.laysStatic Bundle.tN "UNASSIGNED_STACK" Bundle.steD ∈ zAll ∧ Jvm.Cond.laysStatic Bundle.tN "SUPPRESSED_SENTINEL" Bundle.listD ∈ zAll ∧ Jvm.Cond.initialized Bundle.tN ∈ zAll := by decide +kernel
set_option maxRecDepth 100000 in
theorem zpTX : zstr.all (fun e => decide (Jvm.Cond.stringRef e.1 e.2.1 e.2.2 ∈ zAll) && decide (Jvm.Cond.exactly (.string e.1 e.2.1) "java/lang/String" ∈ zfl)) = true := by decide +kernel
set_option maxRecDepth 100000 in
theorem zpNC : ∀ i, i < 3 → ∀ j, j < 3 → i ≠ j → Jvm.Cond.not (.castable (zexn.getD i "") (zexn.getD j "")) ∈ zfl := by decide +kernel
theorem zexn3 : zexn.length = 3 := rfl
set_option maxRecDepth 100000 in
theorem zpSB : Jvm.Cond.selects "java/lang/StringBuilder" ⟨"java/lang/AbstractStringBuilder", "isLatin1", "()Z"⟩ ⟨"java/lang/AbstractStringBuilder", "isLatin1", "()Z"⟩ ∈ lw_tbl := by decide +kernel
/-- the private methods that zxs names -/
def zxsok : Jvm.Cond → Bool
  | .selects C y z => decide (C = "java/lang/StringBuilder") && (decide (y = z) && (decide (y.cls = "java/lang/AbstractStringBuilder") && (decide (Jvm.Cond.privateMethod y ∈ lw_tbl) && decide (Jvm.Cond.instanceMethod y ∈ lw_tbl))))
  | _ => false
set_option maxRecDepth 100000 in
theorem zpXS : zxs.all zxsok = true := by decide +kernel
theorem zsel_private {y : MethodName} {s : State} {args : Array Value} (hyc : y.cls = "java/lang/AbstractStringBuilder") (hpriv : (Jvm.Cond.privateMethod y).before args s = true) (hinst : (Jvm.Cond.instanceMethod y).before args s = true)
    (hlat : (Jvm.Cond.selects "java/lang/StringBuilder" ⟨"java/lang/AbstractStringBuilder", "isLatin1", "()Z"⟩ ⟨"java/lang/AbstractStringBuilder", "isLatin1", "()Z"⟩).before args s = true) : (Jvm.Cond.selects "java/lang/StringBuilder" y y).before args s = true := by
  obtain ⟨c2, r2, m2, q1, q2, q3, q4, kP, hkP, hkPi⟩ := Cond.selects_spec hlat
  obtain ⟨mk, methM, hnamed, hmethM, -, -⟩ := Cond.instanceMethod_spec hinst
  have hy : y.cls ≠ "java/lang/invoke/MethodHandle" ∧ y.cls ≠ "java/lang/invoke/VarHandle" := by rw [hyc]; decide
  have hfound : s.methodFound? y.cls y.name y.desc = some mk := State.methodFound?_of_named hnamed hy
  have hsel : selectMethod {} s.vm c2 mk = .method mk := selectMethod_private hmethM (Cond.privateMethod_at hpriv mk methM hnamed hmethM)
  have e1 := findClass_of_methodNamed hnamed
  have e2 := findClass_of_methodNamed q3
  rw [hyc] at e1
  have e3 : mk.cls = m2.cls := Option.some.inj (e1.symm.trans e2)
  simp only [Cond.before, Cond.holds, Cond.value, q1, hfound, hnamed, hsel, e3, hkP]
  simp
  exact hkPi
theorem zxuse2 {s : State} {args : Array Value} {w : Jvm.Cond} (hw : w ∈ zXW) (h : w.before args s = true) : w.before #[] s = true := by
  have hg : zxgood w = true := (List.mem_filter.mp hw).2
  cases w <;> try (exfalso; simp [zxgood] at hg; done)
  all_goals first | exact va_any rfl h | exact h
/-- an int array's text -/
def zis (l : List Int32) : List Value := l.map .int
theorem zV_is {l : List Int32} {j : Nat} (hj : j < l.length) : zV (zis l) j = .int (l.getD j 0) := by
  unfold zV zis
  rw [List.getD_eq_getElem?_getD, List.getD_eq_getElem?_getD, List.getElem?_map, List.getElem?_eq_getElem hj]
  rfl
theorem zT_of {s : State} {args : Array Value} {t : Jvm.Term} {l : List Int32} (hl : l.length < 2 ^ 31) (h1 : (Jvm.Cond.arrayOf t .int).before args s = true) (h2 : (Jvm.Cond.eq (.length t) (.int (Int32.ofNat l.length))).before args s = true) (h3 : ∀ w ∈ zpl t l, w.before args s = true) :
    ∃ a : Nat, t.eval args s none [] s = some (.ref a) ∧ va_T .int a l.length (fun j => .int (l.getD j 0)) (fun q => s.heap.size ≤ q) s s.heap :=
  va_Tof hl h1 (va_eqt h2) (fun j hj => va_eqt (h3 _ (List.mem_map.mpr ⟨j, List.mem_range.mpr hj, rfl⟩))) (fun a ha => Nat.not_le.mpr ha)
section ZGS
variable {p : Program} {s : State} {m : MethodId} {meth : Method} {c : Code} {b L : Nat} {xs : Nat → Int32}
theorem zall_of (C0 : lw_At p s m meth c b L xs) : ∀ w ∈ zAll, w.before #[Value.ref b] s = true := by
  obtain ⟨-, -, -, -, -, hts, -⟩ := C0
  intro w hw
  rcases List.mem_append.mp hw with h | h
  · have hok := List.all_eq_true.mp zpXS w h
    unfold zxsok at hok
    split at hok
    · rename_i C y z
      obtain ⟨h1, hok⟩ := Bool.and_eq_true_iff.mp hok
      obtain ⟨h2, hok⟩ := Bool.and_eq_true_iff.mp hok
      obtain ⟨h3, hok⟩ := Bool.and_eq_true_iff.mp hok
      obtain ⟨h4, h5⟩ := Bool.and_eq_true_iff.mp hok
      have h1 := of_decide_eq_true h1
      have h2 := of_decide_eq_true h2
      subst h1
      subst h2
      exact zsel_private (of_decide_eq_true h3) (hts _ (of_decide_eq_true h4)) (hts _ (of_decide_eq_true h5)) (hts _ zpSB)
    · cases hok
  · exact hts w h
theorem zar_of (hts : ∀ w ∈ zWS, w.before #[Value.ref b] s = true) (htx : ∀ w ∈ zXW, w.before #[Value.ref b] s = true) : ∀ k : Nat, ∃ cA : ClassId, ∀ ty, zar[k]? = some ty → zAr s cA ty := by
  have hprim : ∀ ty : FieldType, Jvm.Cond.arrayClass ty ∈ zWS → (match ty with | .object _ => False | .array _ => False | _ => True) → ∃ cA, zAr s cA ty := by
    intro ty hw hty
    obtain ⟨cA, kA, comp, h1, h2, h3⟩ := Cond.arrayClass_spec (hts _ hw)
    exact ⟨cA, kA, comp, h2, h3, h1, by cases ty <;> first | trivial | exact hty.elim⟩
  have hobj : ∀ C : String, Jvm.Cond.arrayOver (.object C) ∈ zXW → ∃ cA, zAr s cA (.object C) := by
    intro C hw
    obtain ⟨comp, cA, kA, h1, -, h2, h3, h4⟩ := Cond.arrayOver_spec (htx _ hw)
    exact ⟨cA, kA, comp, h2, h3, h4, h1⟩
  have harr : ∀ t : FieldType, Jvm.Cond.arrayOver (.array t) ∈ zXW → ∃ cA, zAr s cA (.array t) := by
    intro t hw
    obtain ⟨comp, cA, kA, h1, -, h2, h3, h4⟩ := arrayOverA_spec (htx _ hw)
    exact ⟨cA, kA, comp, h2, h3, h4, h1⟩
  intro k
  match k with
  | 0 => obtain ⟨cA, h⟩ := hprim .int zaci trivial; exact ⟨cA, fun ty hty => Option.some.inj hty ▸ h⟩
  | 1 => obtain ⟨cA, h⟩ := hprim .byte zacb trivial; exact ⟨cA, fun ty hty => Option.some.inj hty ▸ h⟩
  | 2 => obtain ⟨cA, h⟩ := harr .int zov1; exact ⟨cA, fun ty hty => Option.some.inj hty ▸ h⟩
  | 3 => obtain ⟨cA, h⟩ := harr (.array .int) zov2; exact ⟨cA, fun ty hty => Option.some.inj hty ▸ h⟩
  | 4 => obtain ⟨cA, h⟩ := hobj _ zovB; exact ⟨cA, fun ty hty => Option.some.inj hty ▸ h⟩
  | 5 => obtain ⟨cA, h⟩ := hobj _ zovO; exact ⟨cA, fun ty hty => Option.some.inj hty ▸ h⟩
  | k + 6 => exact ⟨0, fun ty hty => by cases hty⟩
theorem zcl_of (hts : ∀ w ∈ zWS, w.before #[Value.ref b] s = true) : ∀ t : Nat, ∃ D : ClassId × (Nat → Nat), ∀ r : vw_C, zcl[t]? = some r → u_Kn s r.1 r.2.1 r.2.2 D.1 D.2 := by
  intro t
  cases ht : zcl[t]? with
  | none => exact ⟨(0, fun _ => 0), fun r hr => by cases hr⟩
  | some r =>
    obtain ⟨_, _, _, -, -, -, -, hin, -, -, hinst, -⟩ := zC_ok _ _ ht
    obtain ⟨cC, iS, h⟩ := u_known hts hin (hts _ hinst)
    exact ⟨(cC, iS), fun r2 hr => Option.some.inj hr ▸ h⟩
theorem ztx_of (hta : ∀ w ∈ zAll, w.before #[Value.ref b] s = true) (hfl : ∀ w ∈ zfl, w.before #[Value.ref b] s = true) : ∀ i : Nat, ∃ a : Nat, ∀ e, zstr[i]? = some e → vk_R e.1 e.2.1 e.2.2 a s := by
  intro i
  cases hi : zstr[i]? with
  | none => exact ⟨0, fun e he => by cases he⟩
  | some e =>
    obtain ⟨h1, h2⟩ := Bool.and_eq_true_iff.mp (List.all_eq_true.mp zpTX e (List.mem_of_getElem? hi))
    obtain ⟨a, _, _, _, q1, -⟩ := Cond.exactly_spec (hfl _ (of_decide_eq_true h2))
    exact ⟨a, fun e2 he => Option.some.inj he ▸ vk_R.of (hta _ (of_decide_eq_true h1)) q1⟩
/-- THE WORLD AT THE LAW'S ENTRY -/
theorem zstart (C0 : lw_At p s m meth c b L xs) (hL : L < 2 ^ 31) : ∃ (G : zG) (a0 a1 a3 : Nat), zgb G = s.heap.size ∧ zgH G = s.heap ∧ zKn G s ∧ (∀ w ∈ zWS, w.before #[Value.ref b] s = true) ∧
    (zgE G).1 0 = .ref a0 ∧ (zgE G).1 1 = .ref a1 ∧ (zgE G).1 2 = .int 1 ∧ (zgE G).1 3 = .ref a3 ∧ zgr G a0 = some (96, zis zSH) ∧ zgr G a1 = some (96, zis zDK) ∧ zgr G a3 = some (101, []) ∧ zgr G b = some (96, zis ((List.range L).map xs)) := by
  have hta := zall_of C0
  have hts : ∀ w ∈ zWS, w.before #[Value.ref b] s = true := fun w hw => hta w (List.mem_filter.mp hw).1
  have htx : ∀ w ∈ zXW, w.before #[Value.ref b] s = true := fun w hw => hta w (List.mem_filter.mp hw).1
  obtain ⟨-, -, -, -, -, -, hX, hbl, -, hgv⟩ := C0
  have hfl : ∀ w ∈ zfl, w.before #[Value.ref b] s = true := flat_of_before _ hgv
  obtain ⟨a0, e0, T0⟩ := zT_of (l := zSH) (by decide) (hfl _ (zpSH _ List.mem_cons_self)) (hfl _ (zpSH _ (List.mem_cons_of_mem _ List.mem_cons_self))) (fun w hw => hfl _ (zpSH _ (List.mem_cons_of_mem _ (List.mem_cons_of_mem _ hw))))
  obtain ⟨a1, e1, T1⟩ := zT_of (l := zDK) (by decide) (hfl _ (zpDK _ List.mem_cons_self)) (hfl _ (zpDK _ (List.mem_cons_of_mem _ List.mem_cons_self))) (fun w hw => hfl _ (zpDK _ (List.mem_cons_of_mem _ (List.mem_cons_of_mem _ hw))))
  have pe : ∀ (i : Nat) (w : Jvm.Cond), ([Jvm.Cond.arrayOf ztED (.object "java/lang/Object"), Jvm.Cond.eq (.length ztED) (.int 0), Jvm.Cond.eq ztCS (.int 1), Jvm.Cond.isRef (.static Bundle.tN "UNASSIGNED_STACK" Bundle.steD), Jvm.Cond.isRef (.static Bundle.tN "SUPPRESSED_SENTINEL" Bundle.listD), Jvm.Cond.not (.eq (.arg 0) ztSH), Jvm.Cond.not (.eq (.arg 0) ztDK)] : List Jvm.Cond)[i]? = some w → w.before #[Value.ref b] s = true := fun i w h => hfl w (zpED w (List.mem_of_getElem? h))
  have hA : ∀ a : Nat, a < s.heap.size → ¬ (fun q : Nat => s.heap.size ≤ q) a := fun a ha => Nat.not_le.mpr ha
  obtain ⟨a3, e3, T3⟩ := va_Tof (N := 0) (f := fun _ => .null) (A := fun q : Nat => s.heap.size ≤ q) (by decide) (pe 0 _ rfl) (va_eqt (pe 1 _ rfl)) (fun j hj => absurd hj (Nat.not_lt_zero _)) hA
  have e2 := va_eqt (pe 2 _ rfl)
  have eb : (Jvm.Term.arg 0).eval #[Value.ref b] s none [] s = some (.ref b) := rfl
  have nb0 : b ≠ a0 := va_neR (pe 5 _ rfl) eb e0
  have nb1 : b ≠ a1 := va_neR (pe 6 _ rfl) eb e1
  obtain ⟨c0, g01, g02, g03, g04, g05, g06, g07⟩ := T0
  obtain ⟨c1, g11, g12, g13, g14, g15, g16, g17⟩ := T1
  obtain ⟨c3, g31, g32, g33, g34, g35, g36, g37⟩ := T3
  obtain ⟨cb, gb1, gb2, gb3, gb4, gb5⟩ := hX
  have hty : ∀ {cell : Cell}, s.isArrayOf cell .int → s.isArrayOf cell (.object "java/lang/Object") → False := by
    rintro cell ⟨-, k, hk, comp, hkind⟩ ⟨-, k', hk', comp', hkind'⟩
    cases Option.some.inj (hk.symm.trans hk')
    rw [hkind] at hkind'
    cases hkind'
  have n01 : a0 ≠ a1 := by
    intro h
    subst h
    cases Option.some.inj (g01.symm.trans g11)
    rw [g05] at g15
    exact absurd g15 (by decide)
  have n03 : a0 ≠ a3 := by
    intro h
    subst h
    cases Option.some.inj (g01.symm.trans g31)
    exact hty g02 g32
  have n13 : a1 ≠ a3 := by
    intro h
    subst h
    cases Option.some.inj (g11.symm.trans g31)
    exact hty g12 g32
  have nb3 : b ≠ a3 := by
    intro h
    subst h
    cases Option.some.inj (gb1.symm.trans g31)
    exact hty gb2 g32
  obtain ⟨D, hD⟩ := Classical.axiomOfChoice (zcl_of hts)
  obtain ⟨AR, hAR⟩ := Classical.axiomOfChoice (zar_of hts htx)
  obtain ⟨TX, hTX⟩ := Classical.axiomOfChoice (ztx_of hta hfl)
  have hst : ∀ (i : Nat) (e : String × String × String), zsts[i]? = some e → (Jvm.Cond.laysStatic e.1 e.2.1 e.2.2).before #[Value.ref b] s = true ∧ (Jvm.Cond.initialized e.1).before #[Value.ref b] s = true := by
    intro i e hi
    obtain ⟨h1, h2⟩ := Bool.and_eq_true_iff.mp (List.all_eq_true.mp zpST e (List.mem_of_getElem? hi))
    exact ⟨hta _ (of_decide_eq_true h1), hta _ (of_decide_eq_true h2)⟩
  have hro : ∀ (a : Nat) (cell : Cell) (ty : FieldType) (k : Nat) (vs : List Value), 96 ≤ k → zar[k - 96]? = some ty → s.heap[a]? = some cell → s.isArrayOf cell ty → cell.vm ≠ .unknown → vs.length ≤ cell.slots.size → cell.slots.size.toInt32 = Int32.ofNat vs.length → (∀ j, j < vs.length → cell.slots[j]? = some (zV vs j)) →
      ∃ (ty : FieldType) (cell : Cell), 96 ≤ (k, vs).1 ∧ zar[(k, vs).1 - 96]? = some ty ∧ a < s.heap.size ∧ s.heap[a]? = some cell ∧ s.isArrayOf cell ty ∧ cell.vm ≠ .unknown ∧ (k, vs).2.length ≤ cell.slots.size ∧ cell.slots.size.toInt32 = Int32.ofNat (k, vs).2.length ∧ ∀ j, j < (k, vs).2.length → cell.slots[j]? = some (zV (k, vs).2 j) :=
    fun a cell ty k vs h1 h2 h3 h4 h5 h6 h7 h8 => ⟨ty, cell, h1, h2, (Array.getElem?_eq_some_iff.mp h3).1, h3, h4, h5, h6, h7, h8⟩
  have hlen : ((List.range L).map xs).length = L := by simp
  refine ⟨((fun t => (D t).1, fun t => (D t).2), AR, s.heap.size, s.heap, (fun i => match i with | 0 => .ref a0 | 1 => .ref a1 | 2 => .int 1 | _ => .ref a3, TX), fun a => if a = a0 then some (96, zis zSH) else if a = a1 then some (96, zis zDK) else if a = a3 then some (101, []) else if a = b then some (96, zis ((List.range L).map xs)) else none), a0, a1, a3, rfl, rfl, ⟨hD, hAR, ?_, ?_, hTX, ?_, ?_, ?_, ?_⟩, hts, rfl, rfl, rfl, rfl, if_pos rfl, ?_, ?_, ?_⟩
  · intro i e hi
    obtain ⟨h1, h2⟩ := hst i e hi
    match i, hi with
    | 0, hi => cases (Option.some.inj hi); exact va_Zof h1 h2 e0 hA
    | 1, hi => cases (Option.some.inj hi); exact va_Zof h1 h2 e1 hA
    | 2, hi => cases (Option.some.inj hi); exact va_Zof h1 h2 e2 hA
    | 3, hi => cases (Option.some.inj hi); exact va_Zof h1 h2 e3 hA
    | k + 4, hi => cases hi
  · exact fun w hw => zxuse2 hw (htx w hw)
  · exact vx_Zqof (hta _ zpTH.1) (hta _ zpTH.2.2) (pe 3 _ rfl) hA
  · exact vx_Zqof (hta _ zpTH.2.1) (hta _ zpTH.2.2) (pe 4 _ rfl) hA
  · intro i j E F hi hj hij
    have li := (List.getElem?_eq_some_iff.mp hi).1
    have lj := (List.getElem?_eq_some_iff.mp hj).1
    rw [zexn3] at li lj
    have h := zpNC i li j lj hij
    rw [List.getD_eq_getElem?_getD, List.getD_eq_getElem?_getD, hi, hj] at h
    exact va_Nc.of (hfl _ h)
  · intro a cc hac
    have hac : (if a = a0 then some (96, zis zSH) else if a = a1 then some (96, zis zDK) else if a = a3 then some (101, []) else if a = b then some (96, zis ((List.range L).map xs)) else none) = some cc := hac
    split at hac
    · rename_i h
      cases hac
      subst h
      exact hro _ c0 _ 96 (zis zSH) (by decide) rfl g01 g02 g03 (by simpa [zis] using g04) (by rw [g05]; simp [zis]) (fun j hj => by rw [zV_is (by simpa [zis] using hj)]; exact g06 j (by simpa [zis] using hj))
    · split at hac
      · rename_i h
        cases hac
        subst h
        exact hro _ c1 _ 96 (zis zDK) (by decide) rfl g11 g12 g13 (by simpa [zis] using g14) (by rw [g15]; simp [zis]) (fun j hj => by rw [zV_is (by simpa [zis] using hj)]; exact g16 j (by simpa [zis] using hj))
      · split at hac
        · rename_i h
          cases hac
          subst h
          exact hro _ c3 _ 101 [] (by decide) rfl g31 g32 g33 g34 g35 (fun j hj => absurd hj (Nat.not_lt_zero _))
        · split at hac
          · rename_i h
            cases hac
            subst h
            refine hro _ cb _ 96 (zis ((List.range L).map xs)) (by decide) rfl gb1 gb2 gb3 (by simp [zis, gb4]) (by rw [gb4]; simp [zis, Nat.toInt32]) (fun j hj => ?_)
            have hj2 : j < ((List.range L).map xs).length := by simpa [zis] using hj
            have hj3 : j < L := by rw [hlen] at hj2; exact hj2
            rw [zV_is hj2, gb5 j hj3]
            simp [hj3]
          · cases hac
  · show (if a1 = a0 then _ else _) = _
    rw [if_neg (Ne.symm n01), if_pos rfl]
  · show (if a3 = a0 then _ else _) = _
    rw [if_neg (Ne.symm n03), if_neg (Ne.symm n13), if_pos rfl]
  · show (if b = a0 then _ else _) = _
    rw [if_neg nb0, if_neg nb1, if_neg nb3, if_pos rfl]
end ZGS
