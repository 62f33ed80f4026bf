/-! ===== fields: (owner, entry) to (tag, place, kind of type, final) ===== -/
def ztyc : FieldType → Nat
  | .int => 0 | .boolean => 1 | .byte => 2 | .long => 3 | .double => 4 | .float => 5 | .object _ => 6 | .array _ => 7 | _ => 9
abbrev zFe : Type := (Nat × Nat) × Nat × Nat × Nat × Nat
def zFok (e : zFe) : Prop := ∃ (own C : String) (T : u_T) (N : Nat) (ref : String) (ty : FieldType), zon[e.1.1]? = some own ∧ zcl[e.2.1]? = some (C, T, N) ∧ e.2.2.1 < N ∧ (Jvm.Cond.fieldLink own e.1.2 ref (T e.2.2.1).2.1 (T e.2.2.1).2.2.1 ∈ zWS ∨ ∃ host, Jvm.Cond.fieldLinkNest own e.1.2 ref (T e.2.2.1).2.1 (T e.2.2.1).2.2.1 host ∈ zXW) ∧
  (ref = (T e.2.2.1).1 ∨ Jvm.Cond.sameField ref (T e.2.2.1).1 (T e.2.2.1).2.1 (T e.2.2.1).2.2.1 ∈ zWS) ∧ parseFieldDescriptor (T e.2.2.1).2.2.1 = some ty ∧ ztyc ty = e.2.2.2.1 ∧ ((T e.2.2.1).2.2.2 = false ∧ e.2.2.2.2 = 0 ∨ (T e.2.2.1).2.2.2 = true ∧ e.2.2.2.2 = 1 ∧ Jvm.Cond.fieldLink own e.1.2 ref (T e.2.2.1).2.1 (T e.2.2.1).2.2.1 ∈ zWS ∨ (T e.2.2.1).2.2.2 = true ∧ e.2.2.2.2 = 2)
def zFl : List (zFe) := [((0, 11), 0, 0, 7, 1),
  ((0, 20), 0, 1, 6, 1),
  ((0, 27), 0, 2, 6, 1),
  ((0, 31), 0, 3, 0, 0),
  ((0, 35), 0, 4, 0, 0),
  ((1, 9), 1, 0, 7, 1),
  ((1, 15), 1, 1, 7, 1),
  ((1, 18), 1, 2, 7, 1),
  ((1, 21), 1, 3, 0, 0),
  ((1, 25), 1, 4, 0, 0),
  ((2, 9), 2, 0, 7, 1),
  ((2, 15), 2, 1, 7, 1),
  ((2, 23), 2, 2, 6, 1),
  ((2, 27), 2, 3, 7, 1),
  ((2, 30), 2, 4, 7, 1),
  ((2, 33), 2, 5, 7, 1),
  ((0, 103), 4, 5, 0, 0),
  ((0, 55), 4, 0, 6, 2),
  ((0, 110), 4, 4, 0, 0),
  ((0, 154), 1, 3, 0, 0),
  ((0, 157), 1, 4, 0, 0),
  ((0, 209), 4, 1, 6, 2),
  ((0, 100), 2, 10, 0, 0),
  ((0, 117), 4, 6, 0, 0),
  ((2, 40), 2, 10, 0, 0),
  ((2, 44), 2, 6, 1, 0),
  ((2, 56), 2, 8, 0, 0),
  ((2, 62), 2, 7, 0, 0),
  ((2, 73), 1, 3, 0, 0),
  ((2, 74), 1, 4, 0, 0),
  ((2, 75), 2, 9, 0, 0),
  ((5, 13), 3, 0, 3, 0),
  ((6, 12), 4, 1, 6, 1),
  ((6, 18), 4, 2, 7, 1),
  ((6, 22), 4, 3, 7, 1),
  ((6, 30), 4, 0, 6, 1),
  ((6, 34), 4, 4, 0, 0),
  ((6, 38), 1, 0, 7, 2),
  ((5, 76), 3, 2, 6, 0),
  ((8, 15), 5, 0, 7, 0),
  ((8, 22), 5, 1, 2, 0),
  ((8, 79), 5, 3, 0, 0),
  ((14, 15), 6, 1, 2, 1),
  ((14, 9), 6, 0, 7, 1),
  ((14, 1048), 5, 2, 1, 0),
  ((5, 87), 3, 1, 4, 0),
  ((15, 10), 7, 1, 6, 1),
  ((16, 9), 8, 0, 7, 0),
  ((17, 7), 8, 2, 0, 0),
  ((15, 16), 7, 0, 0, 0),
  ((16, 48), 8, 1, 0, 0),
  ((19, 12), 9, 4, 6, 0),
  ((19, 18), 9, 0, 0, 0),
  ((19, 22), 9, 1, 0, 0),
  ((19, 25), 9, 3, 7, 0),
  ((19, 38), 9, 2, 7, 0),
  ((16, 63), 8, 2, 0, 0),
  ((15, 73), 9, 3, 7, 0),
  ((15, 93), 9, 5, 0, 0),
  ((15, 96), 9, 6, 0, 0),
  ((15, 102), 9, 4, 6, 0),
  ((15, 107), 9, 2, 7, 0),
  ((21, 7), 10, 0, 7, 1),
  ((21, 13), 10, 1, 0, 1),
  ((21, 17), 10, 2, 1, 1),
  ((15, 121), 10, 0, 7, 1),
  ((15, 122), 10, 1, 0, 1),
  ((15, 125), 10, 2, 1, 1),
  ((15, 133), 9, 0, 0, 0),
  ((15, 136), 9, 1, 0, 0),
  ((15, 151), 7, 2, 0, 0)]
set_option maxRecDepth 20000 in
theorem zFl_0 : zFok (((0, 11), 0, 0, 7, 1)) := ⟨_, _, _, _, "TesseraHall", (.array (.object "TesseraHall$Board")), rfl, rfl, by decide, .inl (zw (zin1 (List.mem_of_getElem? (i := 139) rfl)) rfl), .inl rfl, by decide +kernel, rfl, .inr (.inl ⟨rfl, rfl, (zw (zin1 (List.mem_of_getElem? (i := 139) rfl)) rfl)⟩)⟩
set_option maxRecDepth 20000 in
theorem zFl_1 : zFok (((0, 20), 0, 1, 6, 1)) := ⟨_, _, _, _, "TesseraHall", (.object "TesseraHall$Grid"), rfl, rfl, by decide, .inl (zw (zin1 (List.mem_of_getElem? (i := 140) rfl)) rfl), .inl rfl, by decide +kernel, rfl, .inr (.inl ⟨rfl, rfl, (zw (zin1 (List.mem_of_getElem? (i := 140) rfl)) rfl)⟩)⟩
set_option maxRecDepth 20000 in
theorem zFl_2 : zFok (((0, 27), 0, 2, 6, 1)) := ⟨_, _, _, _, "TesseraHall", (.object "TesseraHall$Album"), rfl, rfl, by decide, .inl (zw (zin1 (List.mem_of_getElem? (i := 141) rfl)) rfl), .inl rfl, by decide +kernel, rfl, .inr (.inl ⟨rfl, rfl, (zw (zin1 (List.mem_of_getElem? (i := 141) rfl)) rfl)⟩)⟩
set_option maxRecDepth 20000 in
theorem zFl_3 : zFok (((0, 31), 0, 3, 0, 0)) := ⟨_, _, _, _, "TesseraHall", .int, rfl, rfl, by decide, .inl (zw (zin1 (List.mem_of_getElem? (i := 142) rfl)) rfl), .inl rfl, by decide +kernel, rfl, .inl ⟨rfl, rfl⟩⟩
set_option maxRecDepth 20000 in
theorem zFl_4 : zFok (((0, 35), 0, 4, 0, 0)) := ⟨_, _, _, _, "TesseraHall", .int, rfl, rfl, by decide, .inl (zw (zin1 (List.mem_of_getElem? (i := 143) rfl)) rfl), .inl rfl, by decide +kernel, rfl, .inl ⟨rfl, rfl⟩⟩
set_option maxRecDepth 20000 in
theorem zFl_5 : zFok (((1, 9), 1, 0, 7, 1)) := ⟨_, _, _, _, "TesseraHall$Grid", (.array .int), rfl, rfl, by decide, .inl (zw (zin1 (List.mem_of_getElem? (i := 74) rfl)) rfl), .inl rfl, by decide +kernel, rfl, .inr (.inl ⟨rfl, rfl, (zw (zin1 (List.mem_of_getElem? (i := 74) rfl)) rfl)⟩)⟩
set_option maxRecDepth 20000 in
theorem zFl_6 : zFok (((1, 15), 1, 1, 7, 1)) := ⟨_, _, _, _, "TesseraHall$Grid", (.array .int), rfl, rfl, by decide, .inl (zw (zin1 (List.mem_of_getElem? (i := 76) rfl)) rfl), .inl rfl, by decide +kernel, rfl, .inr (.inl ⟨rfl, rfl, (zw (zin1 (List.mem_of_getElem? (i := 76) rfl)) rfl)⟩)⟩
set_option maxRecDepth 20000 in
theorem zFl_7 : zFok (((1, 18), 1, 2, 7, 1)) := ⟨_, _, _, _, "TesseraHall$Grid", (.array .int), rfl, rfl, by decide, .inl (zw (zin1 (List.mem_of_getElem? (i := 77) rfl)) rfl), .inl rfl, by decide +kernel, rfl, .inr (.inl ⟨rfl, rfl, (zw (zin1 (List.mem_of_getElem? (i := 77) rfl)) rfl)⟩)⟩
set_option maxRecDepth 20000 in
theorem zFl_8 : zFok (((1, 21), 1, 3, 0, 0)) := ⟨_, _, _, _, "TesseraHall$Grid", .int, rfl, rfl, by decide, .inl (zw (zin1 (List.mem_of_getElem? (i := 78) rfl)) rfl), .inl rfl, by decide +kernel, rfl, .inl ⟨rfl, rfl⟩⟩
set_option maxRecDepth 20000 in
theorem zFl_9 : zFok (((1, 25), 1, 4, 0, 0)) := ⟨_, _, _, _, "TesseraHall$Grid", .int, rfl, rfl, by decide, .inl (zw (zin1 (List.mem_of_getElem? (i := 81) rfl)) rfl), .inl rfl, by decide +kernel, rfl, .inl ⟨rfl, rfl⟩⟩
set_option maxRecDepth 20000 in
theorem zFl_10 : zFok (((2, 9), 2, 0, 7, 1)) := ⟨_, _, _, _, "TesseraHall$Album", (.array .int), rfl, rfl, by decide, .inl (zw (zin1 (List.mem_of_getElem? (i := 104) rfl)) rfl), .inl rfl, by decide +kernel, rfl, .inr (.inl ⟨rfl, rfl, (zw (zin1 (List.mem_of_getElem? (i := 104) rfl)) rfl)⟩)⟩
set_option maxRecDepth 20000 in
theorem zFl_11 : zFok (((2, 15), 2, 1, 7, 1)) := ⟨_, _, _, _, "TesseraHall$Album", (.array .int), rfl, rfl, by decide, .inl (zw (zin1 (List.mem_of_getElem? (i := 105) rfl)) rfl), .inl rfl, by decide +kernel, rfl, .inr (.inl ⟨rfl, rfl, (zw (zin1 (List.mem_of_getElem? (i := 105) rfl)) rfl)⟩)⟩
set_option maxRecDepth 20000 in
theorem zFl_12 : zFok (((2, 23), 2, 2, 6, 1)) := ⟨_, _, _, _, "TesseraHall$Album", (.object "TesseraHall$Grid"), rfl, rfl, by decide, .inl (zw (zin1 (List.mem_of_getElem? (i := 106) rfl)) rfl), .inl rfl, by decide +kernel, rfl, .inr (.inl ⟨rfl, rfl, (zw (zin1 (List.mem_of_getElem? (i := 106) rfl)) rfl)⟩)⟩
set_option maxRecDepth 20000 in
theorem zFl_13 : zFok (((2, 27), 2, 3, 7, 1)) := ⟨_, _, _, _, "TesseraHall$Album", (.array .int), rfl, rfl, by decide, .inl (zw (zin1 (List.mem_of_getElem? (i := 107) rfl)) rfl), .inl rfl, by decide +kernel, rfl, .inr (.inl ⟨rfl, rfl, (zw (zin1 (List.mem_of_getElem? (i := 107) rfl)) rfl)⟩)⟩
set_option maxRecDepth 20000 in
theorem zFl_14 : zFok (((2, 30), 2, 4, 7, 1)) := ⟨_, _, _, _, "TesseraHall$Album", (.array .int), rfl, rfl, by decide, .inl (zw (zin1 (List.mem_of_getElem? (i := 108) rfl)) rfl), .inl rfl, by decide +kernel, rfl, .inr (.inl ⟨rfl, rfl, (zw (zin1 (List.mem_of_getElem? (i := 108) rfl)) rfl)⟩)⟩
set_option maxRecDepth 20000 in
theorem zFl_15 : zFok (((2, 33), 2, 5, 7, 1)) := ⟨_, _, _, _, "TesseraHall$Album", (.array .int), rfl, rfl, by decide, .inl (zw (zin1 (List.mem_of_getElem? (i := 109) rfl)) rfl), .inl rfl, by decide +kernel, rfl, .inr (.inl ⟨rfl, rfl, (zw (zin1 (List.mem_of_getElem? (i := 109) rfl)) rfl)⟩)⟩
set_option maxRecDepth 20000 in
theorem zFl_16 : zFok (((0, 103), 4, 5, 0, 0)) := ⟨_, _, _, _, "TesseraHall$Board", .int, rfl, rfl, by decide, .inr ⟨_, (zx (zin3 (List.mem_of_getElem? (i := 68) rfl)) rfl)⟩, .inl rfl, by decide +kernel, rfl, .inl ⟨rfl, rfl⟩⟩
set_option maxRecDepth 20000 in
theorem zFl_17 : zFok (((0, 55), 4, 0, 6, 2)) := ⟨_, _, _, _, "TesseraHall$Board", (.object "TesseraHall$Grid"), rfl, rfl, by decide, .inr ⟨_, (zx (zin3 (List.mem_of_getElem? (i := 61) rfl)) rfl)⟩, .inl rfl, by decide +kernel, rfl, .inr (.inr ⟨rfl, rfl⟩)⟩
set_option maxRecDepth 20000 in
theorem zFl_18 : zFok (((0, 110), 4, 4, 0, 0)) := ⟨_, _, _, _, "TesseraHall$Board", .int, rfl, rfl, by decide, .inr ⟨_, (zx (zin3 (List.mem_of_getElem? (i := 67) rfl)) rfl)⟩, .inl rfl, by decide +kernel, rfl, .inl ⟨rfl, rfl⟩⟩
set_option maxRecDepth 20000 in
theorem zFl_19 : zFok (((0, 154), 1, 3, 0, 0)) := ⟨_, _, _, _, "TesseraHall$Grid", .int, rfl, rfl, by decide, .inr ⟨_, (zx (zin1 (List.mem_of_getElem? (i := 80) rfl)) rfl)⟩, .inl rfl, by decide +kernel, rfl, .inl ⟨rfl, rfl⟩⟩
set_option maxRecDepth 20000 in
theorem zFl_20 : zFok (((0, 157), 1, 4, 0, 0)) := ⟨_, _, _, _, "TesseraHall$Grid", .int, rfl, rfl, by decide, .inr ⟨_, (zx (zin1 (List.mem_of_getElem? (i := 83) rfl)) rfl)⟩, .inl rfl, by decide +kernel, rfl, .inl ⟨rfl, rfl⟩⟩
set_option maxRecDepth 20000 in
theorem zFl_21 : zFok (((0, 209), 4, 1, 6, 2)) := ⟨_, _, _, _, "TesseraHall$Board", (.object "TesseraHall$Album"), rfl, rfl, by decide, .inr ⟨_, (zx (zin3 (List.mem_of_getElem? (i := 63) rfl)) rfl)⟩, .inl rfl, by decide +kernel, rfl, .inr (.inr ⟨rfl, rfl⟩)⟩
set_option maxRecDepth 20000 in
theorem zFl_22 : zFok (((0, 100), 2, 10, 0, 0)) := ⟨_, _, _, _, "TesseraHall$Album", .int, rfl, rfl, by decide, .inr ⟨_, (zx (zin1 (List.mem_of_getElem? (i := 115) rfl)) rfl)⟩, .inl rfl, by decide +kernel, rfl, .inl ⟨rfl, rfl⟩⟩
set_option maxRecDepth 20000 in
theorem zFl_23 : zFok (((0, 117), 4, 6, 0, 0)) := ⟨_, _, _, _, "TesseraHall$Board", .int, rfl, rfl, by decide, .inr ⟨_, (zx (zin3 (List.mem_of_getElem? (i := 69) rfl)) rfl)⟩, .inl rfl, by decide +kernel, rfl, .inl ⟨rfl, rfl⟩⟩
set_option maxRecDepth 20000 in
theorem zFl_24 : zFok (((2, 40), 2, 10, 0, 0)) := ⟨_, _, _, _, "TesseraHall$Album", .int, rfl, rfl, by decide, .inl (zw (zin1 (List.mem_of_getElem? (i := 114) rfl)) rfl), .inl rfl, by decide +kernel, rfl, .inl ⟨rfl, rfl⟩⟩
set_option maxRecDepth 20000 in
theorem zFl_25 : zFok (((2, 44), 2, 6, 1, 0)) := ⟨_, _, _, _, "TesseraHall$Album", .boolean, rfl, rfl, by decide, .inl (zw (zin1 (List.mem_of_getElem? (i := 110) rfl)) rfl), .inl rfl, by decide +kernel, rfl, .inl ⟨rfl, rfl⟩⟩
set_option maxRecDepth 20000 in
theorem zFl_26 : zFok (((2, 56), 2, 8, 0, 0)) := ⟨_, _, _, _, "TesseraHall$Album", .int, rfl, rfl, by decide, .inl (zw (zin1 (List.mem_of_getElem? (i := 112) rfl)) rfl), .inl rfl, by decide +kernel, rfl, .inl ⟨rfl, rfl⟩⟩
set_option maxRecDepth 20000 in
theorem zFl_27 : zFok (((2, 62), 2, 7, 0, 0)) := ⟨_, _, _, _, "TesseraHall$Album", .int, rfl, rfl, by decide, .inl (zw (zin1 (List.mem_of_getElem? (i := 111) rfl)) rfl), .inl rfl, by decide +kernel, rfl, .inl ⟨rfl, rfl⟩⟩
set_option maxRecDepth 20000 in
theorem zFl_28 : zFok (((2, 73), 1, 3, 0, 0)) := ⟨_, _, _, _, "TesseraHall$Grid", .int, rfl, rfl, by decide, .inr ⟨_, (zx (zin1 (List.mem_of_getElem? (i := 79) rfl)) rfl)⟩, .inl rfl, by decide +kernel, rfl, .inl ⟨rfl, rfl⟩⟩
set_option maxRecDepth 20000 in
theorem zFl_29 : zFok (((2, 74), 1, 4, 0, 0)) := ⟨_, _, _, _, "TesseraHall$Grid", .int, rfl, rfl, by decide, .inr ⟨_, (zx (zin1 (List.mem_of_getElem? (i := 82) rfl)) rfl)⟩, .inl rfl, by decide +kernel, rfl, .inl ⟨rfl, rfl⟩⟩
set_option maxRecDepth 20000 in
theorem zFl_30 : zFok (((2, 75), 2, 9, 0, 0)) := ⟨_, _, _, _, "TesseraHall$Album", .int, rfl, rfl, by decide, .inl (zw (zin1 (List.mem_of_getElem? (i := 113) rfl)) rfl), .inl rfl, by decide +kernel, rfl, .inl ⟨rfl, rfl⟩⟩
set_option maxRecDepth 20000 in
theorem zFl_31 : zFok (((5, 13), 3, 0, 3, 0)) := ⟨_, _, _, _, "TesseraHallLaw$Out", .long, rfl, rfl, by decide, .inr ⟨_, (zx (zin3 (List.mem_of_getElem? (i := 15) rfl)) rfl)⟩, .inl rfl, by decide +kernel, rfl, .inl ⟨rfl, rfl⟩⟩
set_option maxRecDepth 20000 in
theorem zFl_32 : zFok (((6, 12), 4, 1, 6, 1)) := ⟨_, _, _, _, "TesseraHall$Board", (.object "TesseraHall$Album"), rfl, rfl, by decide, .inl (zw (zin3 (List.mem_of_getElem? (i := 62) rfl)) rfl), .inl rfl, by decide +kernel, rfl, .inr (.inl ⟨rfl, rfl, (zw (zin3 (List.mem_of_getElem? (i := 62) rfl)) rfl)⟩)⟩
set_option maxRecDepth 20000 in
theorem zFl_33 : zFok (((6, 18), 4, 2, 7, 1)) := ⟨_, _, _, _, "TesseraHall$Board", (.array .int), rfl, rfl, by decide, .inl (zw (zin3 (List.mem_of_getElem? (i := 64) rfl)) rfl), .inl rfl, by decide +kernel, rfl, .inr (.inl ⟨rfl, rfl, (zw (zin3 (List.mem_of_getElem? (i := 64) rfl)) rfl)⟩)⟩
set_option maxRecDepth 20000 in
theorem zFl_34 : zFok (((6, 22), 4, 3, 7, 1)) := ⟨_, _, _, _, "TesseraHall$Board", (.array .int), rfl, rfl, by decide, .inl (zw (zin3 (List.mem_of_getElem? (i := 65) rfl)) rfl), .inl rfl, by decide +kernel, rfl, .inr (.inl ⟨rfl, rfl, (zw (zin3 (List.mem_of_getElem? (i := 65) rfl)) rfl)⟩)⟩
set_option maxRecDepth 20000 in
theorem zFl_35 : zFok (((6, 30), 4, 0, 6, 1)) := ⟨_, _, _, _, "TesseraHall$Board", (.object "TesseraHall$Grid"), rfl, rfl, by decide, .inl (zw (zin3 (List.mem_of_getElem? (i := 60) rfl)) rfl), .inl rfl, by decide +kernel, rfl, .inr (.inl ⟨rfl, rfl, (zw (zin3 (List.mem_of_getElem? (i := 60) rfl)) rfl)⟩)⟩
set_option maxRecDepth 20000 in
theorem zFl_36 : zFok (((6, 34), 4, 4, 0, 0)) := ⟨_, _, _, _, "TesseraHall$Board", .int, rfl, rfl, by decide, .inl (zw (zin3 (List.mem_of_getElem? (i := 66) rfl)) rfl), .inl rfl, by decide +kernel, rfl, .inl ⟨rfl, rfl⟩⟩
set_option maxRecDepth 20000 in
theorem zFl_37 : zFok (((6, 38), 1, 0, 7, 2)) := ⟨_, _, _, _, "TesseraHall$Grid", (.array .int), rfl, rfl, by decide, .inr ⟨_, (zx (zin1 (List.mem_of_getElem? (i := 75) rfl)) rfl)⟩, .inl rfl, by decide +kernel, rfl, .inr (.inr ⟨rfl, rfl⟩)⟩
set_option maxRecDepth 20000 in
theorem zFl_38 : zFok (((5, 76), 3, 2, 6, 0)) := ⟨_, _, _, _, "TesseraHallLaw$Out", (.object "java/lang/String"), rfl, rfl, by decide, .inr ⟨_, (zx (zin3 (List.mem_of_getElem? (i := 17) rfl)) rfl)⟩, .inl rfl, by decide +kernel, rfl, .inl ⟨rfl, rfl⟩⟩
set_option maxRecDepth 20000 in
theorem zFl_39 : zFok (((8, 15), 5, 0, 7, 0)) := ⟨_, _, _, _, "java/lang/AbstractStringBuilder", (.array .byte), rfl, rfl, by decide, .inl (zw (zin4 (List.mem_of_getElem? (i := 25) rfl)) rfl), .inl rfl, by decide +kernel, rfl, .inl ⟨rfl, rfl⟩⟩
set_option maxRecDepth 20000 in
theorem zFl_40 : zFok (((8, 22), 5, 1, 2, 0)) := ⟨_, _, _, _, "java/lang/AbstractStringBuilder", .byte, rfl, rfl, by decide, .inl (zw (zin4 (List.mem_of_getElem? (i := 26) rfl)) rfl), .inl rfl, by decide +kernel, rfl, .inl ⟨rfl, rfl⟩⟩
set_option maxRecDepth 20000 in
theorem zFl_41 : zFok (((8, 79), 5, 3, 0, 0)) := ⟨_, _, _, _, "java/lang/AbstractStringBuilder", .int, rfl, rfl, by decide, .inl (zw (zin4 (List.mem_of_getElem? (i := 28) rfl)) rfl), .inl rfl, by decide +kernel, rfl, .inl ⟨rfl, rfl⟩⟩
set_option maxRecDepth 20000 in
theorem zFl_42 : zFok (((14, 15), 6, 1, 2, 1)) := ⟨_, _, _, _, "java/lang/String", .byte, rfl, rfl, by decide, .inl (zw (zin5 (List.mem_of_getElem? (i := 23) rfl)) rfl), .inl rfl, by decide +kernel, rfl, .inr (.inl ⟨rfl, rfl, (zw (zin5 (List.mem_of_getElem? (i := 23) rfl)) rfl)⟩)⟩
set_option maxRecDepth 20000 in
theorem zFl_43 : zFok (((14, 9), 6, 0, 7, 1)) := ⟨_, _, _, _, "java/lang/String", (.array .byte), rfl, rfl, by decide, .inl (zw (zin5 (List.mem_of_getElem? (i := 22) rfl)) rfl), .inl rfl, by decide +kernel, rfl, .inr (.inl ⟨rfl, rfl, (zw (zin5 (List.mem_of_getElem? (i := 22) rfl)) rfl)⟩)⟩
set_option maxRecDepth 20000 in
theorem zFl_44 : zFok (((14, 1048), 5, 2, 1, 0)) := ⟨_, _, _, _, "java/lang/AbstractStringBuilder", .boolean, rfl, rfl, by decide, .inl (zw (zin4 (List.mem_of_getElem? (i := 27) rfl)) rfl), .inl rfl, by decide +kernel, rfl, .inl ⟨rfl, rfl⟩⟩
set_option maxRecDepth 20000 in
theorem zFl_45 : zFok (((5, 87), 3, 1, 4, 0)) := ⟨_, _, _, _, "TesseraHallLaw$Out", .double, rfl, rfl, by decide, .inr ⟨_, (zx (zin3 (List.mem_of_getElem? (i := 16) rfl)) rfl)⟩, .inl rfl, by decide +kernel, rfl, .inl ⟨rfl, rfl⟩⟩
set_option maxRecDepth 20000 in
theorem zFl_46 : zFok (((15, 10), 7, 1, 6, 1)) := ⟨_, _, _, _, "TesseraHallModel", (.object "java/util/List"), rfl, rfl, by decide, .inl (zw (zin5 (List.mem_of_getElem? (i := 108) rfl)) rfl), .inl rfl, by decide +kernel, rfl, .inr (.inl ⟨rfl, rfl, (zw (zin5 (List.mem_of_getElem? (i := 108) rfl)) rfl)⟩)⟩
set_option maxRecDepth 20000 in
theorem zFl_47 : zFok (((16, 9), 8, 0, 7, 0)) := ⟨_, _, _, _, "java/util/ArrayList", (.array (.object "java/lang/Object")), rfl, rfl, by decide, .inl (zw (zin5 (List.mem_of_getElem? (i := 95) rfl)) rfl), .inl rfl, by decide +kernel, rfl, .inl ⟨rfl, rfl⟩⟩
set_option maxRecDepth 20000 in
theorem zFl_48 : zFok (((17, 7), 8, 2, 0, 0)) := ⟨_, _, _, _, "java/util/AbstractList", .int, rfl, rfl, by decide, .inl (zw (zin5 (List.mem_of_getElem? (i := 97) rfl)) rfl), .inl rfl, by decide +kernel, rfl, .inl ⟨rfl, rfl⟩⟩
set_option maxRecDepth 20000 in
theorem zFl_49 : zFok (((15, 16), 7, 0, 0, 0)) := ⟨_, _, _, _, "TesseraHallModel", .int, rfl, rfl, by decide, .inl (zw (zin5 (List.mem_of_getElem? (i := 107) rfl)) rfl), .inl rfl, by decide +kernel, rfl, .inl ⟨rfl, rfl⟩⟩
set_option maxRecDepth 20000 in
theorem zFl_50 : zFok (((16, 48), 8, 1, 0, 0)) := ⟨_, _, _, _, "java/util/ArrayList", .int, rfl, rfl, by decide, .inl (zw (zin5 (List.mem_of_getElem? (i := 96) rfl)) rfl), .inl rfl, by decide +kernel, rfl, .inl ⟨rfl, rfl⟩⟩
set_option maxRecDepth 20000 in
theorem zFl_51 : zFok (((19, 12), 9, 4, 6, 0)) := ⟨_, _, _, _, "TesseraHallModel$Board", (.object "java/util/List"), rfl, rfl, by decide, .inl (zw (zin5 (List.mem_of_getElem? (i := 168) rfl)) rfl), .inl rfl, by decide +kernel, rfl, .inl ⟨rfl, rfl⟩⟩
set_option maxRecDepth 20000 in
theorem zFl_52 : zFok (((19, 18), 9, 0, 0, 0)) := ⟨_, _, _, _, "TesseraHallModel$Board", .int, rfl, rfl, by decide, .inl (zw (zin5 (List.mem_of_getElem? (i := 160) rfl)) rfl), .inl rfl, by decide +kernel, rfl, .inl ⟨rfl, rfl⟩⟩
set_option maxRecDepth 20000 in
theorem zFl_53 : zFok (((19, 22), 9, 1, 0, 0)) := ⟨_, _, _, _, "TesseraHallModel$Board", .int, rfl, rfl, by decide, .inl (zw (zin5 (List.mem_of_getElem? (i := 162) rfl)) rfl), .inl rfl, by decide +kernel, rfl, .inl ⟨rfl, rfl⟩⟩
set_option maxRecDepth 20000 in
theorem zFl_54 : zFok (((19, 25), 9, 3, 7, 0)) := ⟨_, _, _, _, "TesseraHallModel$Board", (.array .int), rfl, rfl, by decide, .inl (zw (zin5 (List.mem_of_getElem? (i := 166) rfl)) rfl), .inl rfl, by decide +kernel, rfl, .inl ⟨rfl, rfl⟩⟩
set_option maxRecDepth 20000 in
theorem zFl_55 : zFok (((19, 38), 9, 2, 7, 0)) := ⟨_, _, _, _, "TesseraHallModel$Board", (.array (.array .int)), rfl, rfl, by decide, .inl (zw (zin5 (List.mem_of_getElem? (i := 164) rfl)) rfl), .inl rfl, by decide +kernel, rfl, .inl ⟨rfl, rfl⟩⟩
set_option maxRecDepth 20000 in
theorem zFl_56 : zFok (((16, 63), 8, 2, 0, 0)) := ⟨_, _, _, _, "java/util/ArrayList", .int, rfl, rfl, by decide, .inl (zw (zin5 (List.mem_of_getElem? (i := 98) rfl)) rfl), .inr (zw (zin5 (List.mem_of_getElem? (i := 99) rfl)) rfl), by decide +kernel, rfl, .inl ⟨rfl, rfl⟩⟩
set_option maxRecDepth 20000 in
theorem zFl_57 : zFok (((15, 73), 9, 3, 7, 0)) := ⟨_, _, _, _, "TesseraHallModel$Board", (.array .int), rfl, rfl, by decide, .inl (zw (zin5 (List.mem_of_getElem? (i := 167) rfl)) rfl), .inl rfl, by decide +kernel, rfl, .inl ⟨rfl, rfl⟩⟩
set_option maxRecDepth 20000 in
theorem zFl_58 : zFok (((15, 93), 9, 5, 0, 0)) := ⟨_, _, _, _, "TesseraHallModel$Board", .int, rfl, rfl, by decide, .inl (zw (zin5 (List.mem_of_getElem? (i := 170) rfl)) rfl), .inl rfl, by decide +kernel, rfl, .inl ⟨rfl, rfl⟩⟩
set_option maxRecDepth 20000 in
theorem zFl_59 : zFok (((15, 96), 9, 6, 0, 0)) := ⟨_, _, _, _, "TesseraHallModel$Board", .int, rfl, rfl, by decide, .inl (zw (zin5 (List.mem_of_getElem? (i := 171) rfl)) rfl), .inl rfl, by decide +kernel, rfl, .inl ⟨rfl, rfl⟩⟩
set_option maxRecDepth 20000 in
theorem zFl_60 : zFok (((15, 102), 9, 4, 6, 0)) := ⟨_, _, _, _, "TesseraHallModel$Board", (.object "java/util/List"), rfl, rfl, by decide, .inl (zw (zin5 (List.mem_of_getElem? (i := 169) rfl)) rfl), .inl rfl, by decide +kernel, rfl, .inl ⟨rfl, rfl⟩⟩
set_option maxRecDepth 20000 in
theorem zFl_61 : zFok (((15, 107), 9, 2, 7, 0)) := ⟨_, _, _, _, "TesseraHallModel$Board", (.array (.array .int)), rfl, rfl, by decide, .inl (zw (zin5 (List.mem_of_getElem? (i := 165) rfl)) rfl), .inl rfl, by decide +kernel, rfl, .inl ⟨rfl, rfl⟩⟩
set_option maxRecDepth 20000 in
theorem zFl_62 : zFok (((21, 7), 10, 0, 7, 1)) := ⟨_, _, _, _, "TesseraHallModel$Kept", (.array (.array .int)), rfl, rfl, by decide, .inl (zw (zin6 (List.mem_of_getElem? (i := 140) rfl)) rfl), .inl rfl, by decide +kernel, rfl, .inr (.inl ⟨rfl, rfl, (zw (zin6 (List.mem_of_getElem? (i := 140) rfl)) rfl)⟩)⟩
set_option maxRecDepth 20000 in
theorem zFl_63 : zFok (((21, 13), 10, 1, 0, 1)) := ⟨_, _, _, _, "TesseraHallModel$Kept", .int, rfl, rfl, by decide, .inl (zw (zin6 (List.mem_of_getElem? (i := 142) rfl)) rfl), .inl rfl, by decide +kernel, rfl, .inr (.inl ⟨rfl, rfl, (zw (zin6 (List.mem_of_getElem? (i := 142) rfl)) rfl)⟩)⟩
set_option maxRecDepth 20000 in
theorem zFl_64 : zFok (((21, 17), 10, 2, 1, 1)) := ⟨_, _, _, _, "TesseraHallModel$Kept", .boolean, rfl, rfl, by decide, .inl (zw (zin6 (List.mem_of_getElem? (i := 144) rfl)) rfl), .inl rfl, by decide +kernel, rfl, .inr (.inl ⟨rfl, rfl, (zw (zin6 (List.mem_of_getElem? (i := 144) rfl)) rfl)⟩)⟩
set_option maxRecDepth 20000 in
theorem zFl_65 : zFok (((15, 121), 10, 0, 7, 1)) := ⟨_, _, _, _, "TesseraHallModel$Kept", (.array (.array .int)), rfl, rfl, by decide, .inl (zw (zin6 (List.mem_of_getElem? (i := 141) rfl)) rfl), .inl rfl, by decide +kernel, rfl, .inr (.inl ⟨rfl, rfl, (zw (zin6 (List.mem_of_getElem? (i := 141) rfl)) rfl)⟩)⟩
set_option maxRecDepth 20000 in
theorem zFl_66 : zFok (((15, 122), 10, 1, 0, 1)) := ⟨_, _, _, _, "TesseraHallModel$Kept", .int, rfl, rfl, by decide, .inl (zw (zin6 (List.mem_of_getElem? (i := 143) rfl)) rfl), .inl rfl, by decide +kernel, rfl, .inr (.inl ⟨rfl, rfl, (zw (zin6 (List.mem_of_getElem? (i := 143) rfl)) rfl)⟩)⟩
set_option maxRecDepth 20000 in
theorem zFl_67 : zFok (((15, 125), 10, 2, 1, 1)) := ⟨_, _, _, _, "TesseraHallModel$Kept", .boolean, rfl, rfl, by decide, .inl (zw (zin6 (List.mem_of_getElem? (i := 145) rfl)) rfl), .inl rfl, by decide +kernel, rfl, .inr (.inl ⟨rfl, rfl, (zw (zin6 (List.mem_of_getElem? (i := 145) rfl)) rfl)⟩)⟩
set_option maxRecDepth 20000 in
theorem zFl_68 : zFok (((15, 133), 9, 0, 0, 0)) := ⟨_, _, _, _, "TesseraHallModel$Board", .int, rfl, rfl, by decide, .inl (zw (zin5 (List.mem_of_getElem? (i := 161) rfl)) rfl), .inl rfl, by decide +kernel, rfl, .inl ⟨rfl, rfl⟩⟩
set_option maxRecDepth 20000 in
theorem zFl_69 : zFok (((15, 136), 9, 1, 0, 0)) := ⟨_, _, _, _, "TesseraHallModel$Board", .int, rfl, rfl, by decide, .inl (zw (zin5 (List.mem_of_getElem? (i := 163) rfl)) rfl), .inl rfl, by decide +kernel, rfl, .inl ⟨rfl, rfl⟩⟩
set_option maxRecDepth 20000 in
theorem zFl_70 : zFok (((15, 151), 7, 2, 0, 0)) := ⟨_, _, _, _, "TesseraHallModel", .int, rfl, rfl, by decide, .inl (zw (zin5 (List.mem_of_getElem? (i := 109) rfl)) rfl), .inl rfl, by decide +kernel, rfl, .inl ⟨rfl, rfl⟩⟩
theorem zFl_ok : ∀ e ∈ zFl, zFok e := List.forall_mem_cons.mpr ⟨zFl_0, List.forall_mem_cons.mpr ⟨zFl_1, List.forall_mem_cons.mpr ⟨zFl_2, List.forall_mem_cons.mpr ⟨zFl_3, List.forall_mem_cons.mpr ⟨zFl_4, List.forall_mem_cons.mpr ⟨zFl_5, List.forall_mem_cons.mpr ⟨zFl_6, List.forall_mem_cons.mpr ⟨zFl_7, List.forall_mem_cons.mpr ⟨zFl_8, List.forall_mem_cons.mpr ⟨zFl_9, List.forall_mem_cons.mpr ⟨zFl_10, List.forall_mem_cons.mpr ⟨zFl_11, List.forall_mem_cons.mpr ⟨zFl_12, List.forall_mem_cons.mpr ⟨zFl_13, List.forall_mem_cons.mpr ⟨zFl_14, List.forall_mem_cons.mpr ⟨zFl_15, List.forall_mem_cons.mpr ⟨zFl_16, List.forall_mem_cons.mpr ⟨zFl_17, List.forall_mem_cons.mpr ⟨zFl_18, List.forall_mem_cons.mpr ⟨zFl_19, List.forall_mem_cons.mpr ⟨zFl_20, List.forall_mem_cons.mpr ⟨zFl_21, List.forall_mem_cons.mpr ⟨zFl_22, List.forall_mem_cons.mpr ⟨zFl_23, List.forall_mem_cons.mpr ⟨zFl_24, List.forall_mem_cons.mpr ⟨zFl_25, List.forall_mem_cons.mpr ⟨zFl_26, List.forall_mem_cons.mpr ⟨zFl_27, List.forall_mem_cons.mpr ⟨zFl_28, List.forall_mem_cons.mpr ⟨zFl_29, List.forall_mem_cons.mpr ⟨zFl_30, List.forall_mem_cons.mpr ⟨zFl_31, List.forall_mem_cons.mpr ⟨zFl_32, List.forall_mem_cons.mpr ⟨zFl_33, List.forall_mem_cons.mpr ⟨zFl_34, List.forall_mem_cons.mpr ⟨zFl_35, List.forall_mem_cons.mpr ⟨zFl_36, List.forall_mem_cons.mpr ⟨zFl_37, List.forall_mem_cons.mpr ⟨zFl_38, List.forall_mem_cons.mpr ⟨zFl_39, List.forall_mem_cons.mpr ⟨zFl_40, List.forall_mem_cons.mpr ⟨zFl_41, List.forall_mem_cons.mpr ⟨zFl_42, List.forall_mem_cons.mpr ⟨zFl_43, List.forall_mem_cons.mpr ⟨zFl_44, List.forall_mem_cons.mpr ⟨zFl_45, List.forall_mem_cons.mpr ⟨zFl_46, List.forall_mem_cons.mpr ⟨zFl_47, List.forall_mem_cons.mpr ⟨zFl_48, List.forall_mem_cons.mpr ⟨zFl_49, List.forall_mem_cons.mpr ⟨zFl_50, List.forall_mem_cons.mpr ⟨zFl_51, List.forall_mem_cons.mpr ⟨zFl_52, List.forall_mem_cons.mpr ⟨zFl_53, List.forall_mem_cons.mpr ⟨zFl_54, List.forall_mem_cons.mpr ⟨zFl_55, List.forall_mem_cons.mpr ⟨zFl_56, List.forall_mem_cons.mpr ⟨zFl_57, List.forall_mem_cons.mpr ⟨zFl_58, List.forall_mem_cons.mpr ⟨zFl_59, List.forall_mem_cons.mpr ⟨zFl_60, List.forall_mem_cons.mpr ⟨zFl_61, List.forall_mem_cons.mpr ⟨zFl_62, List.forall_mem_cons.mpr ⟨zFl_63, List.forall_mem_cons.mpr ⟨zFl_64, List.forall_mem_cons.mpr ⟨zFl_65, List.forall_mem_cons.mpr ⟨zFl_66, List.forall_mem_cons.mpr ⟨zFl_67, List.forall_mem_cons.mpr ⟨zFl_68, List.forall_mem_cons.mpr ⟨zFl_69, List.forall_mem_cons.mpr ⟨zFl_70, fun _ h => absurd h List.not_mem_nil⟩⟩⟩⟩⟩⟩⟩⟩⟩⟩⟩⟩⟩⟩⟩⟩⟩⟩⟩⟩⟩⟩⟩⟩⟩⟩⟩⟩⟩⟩⟩⟩⟩⟩⟩⟩⟩⟩⟩⟩⟩⟩⟩⟩⟩⟩⟩⟩⟩⟩⟩⟩⟩⟩⟩⟩⟩⟩⟩⟩⟩⟩⟩⟩⟩⟩⟩⟩⟩⟩⟩
/-! ===== statics ===== -/
def zsts : List (String × String × String) := [("TesseraHall", "SHOWN", "[I"), ("TesseraHall", "DARK_AT", "[I"), ("java/lang/String", "COMPACT_STRINGS", "Z"), ("java/util/ArrayList", "DEFAULTCAPACITY_EMPTY_ELEMENTDATA", "[Ljava/lang/Object;")]
def zSok (e : (Nat × Nat) × Nat) : Prop := ∃ (own C n d : String), zon[e.1.1]? = some own ∧ zsts[e.2]? = some (C, n, d) ∧ (Jvm.Cond.fieldLink own e.1.2 C n d ∈ zWS ∨ ∃ host, Jvm.Cond.fieldLinkNest own e.1.2 C n d host ∈ zXW)
def zSl : List ((Nat × Nat) × Nat) := [((0, 199), 0),
  ((1, 70), 1),
  ((2, 97), 1),
  ((8, 18), 2),
  ((14, 38), 2),
  ((16, 39), 3)]
set_option maxRecDepth 20000 in
theorem zSl_0 : zSok (((0, 199), 0)) := ⟨_, _, _, _, rfl, rfl, .inl (zw (zin1 (List.mem_of_getElem? (i := 72) rfl)) rfl)⟩
set_option maxRecDepth 20000 in
theorem zSl_1 : zSok (((1, 70), 1)) := ⟨_, _, _, _, rfl, rfl, .inr ⟨_, (zx (zin2 (List.mem_of_getElem? (i := 48) rfl)) rfl)⟩⟩
set_option maxRecDepth 20000 in
theorem zSl_2 : zSok (((2, 97), 1)) := ⟨_, _, _, _, rfl, rfl, .inr ⟨_, (zx (zin2 (List.mem_of_getElem? (i := 100) rfl)) rfl)⟩⟩
set_option maxRecDepth 20000 in
theorem zSl_3 : zSok (((8, 18), 2)) := ⟨_, _, _, _, rfl, rfl, .inl (zw (zin4 (List.mem_of_getElem? (i := 16) rfl)) rfl)⟩
set_option maxRecDepth 20000 in
theorem zSl_4 : zSok (((14, 38), 2)) := ⟨_, _, _, _, rfl, rfl, .inl (zw (zin4 (List.mem_of_getElem? (i := 231) rfl)) rfl)⟩
set_option maxRecDepth 20000 in
theorem zSl_5 : zSok (((16, 39), 3)) := ⟨_, _, _, _, rfl, rfl, .inl (zw (zin5 (List.mem_of_getElem? (i := 93) rfl)) rfl)⟩
theorem zSl_ok : ∀ e ∈ zSl, zSok e := List.forall_mem_cons.mpr ⟨zSl_0, List.forall_mem_cons.mpr ⟨zSl_1, List.forall_mem_cons.mpr ⟨zSl_2, List.forall_mem_cons.mpr ⟨zSl_3, List.forall_mem_cons.mpr ⟨zSl_4, List.forall_mem_cons.mpr ⟨zSl_5, fun _ h => absurd h List.not_mem_nil⟩⟩⟩⟩⟩⟩
/-! ===== new, anewarray, multianewarray, checkcast ===== -/
def zNok (e : (Nat × Nat) × Nat) : Prop := ∃ (own : String) (r : vw_C), zon[e.1.1]? = some own ∧ zcl[e.2]? = some r ∧ Jvm.Cond.classLink own e.1.2 r.1 ∈ zWS
def zNl : List ((Nat × Nat) × Nat) := [((0, 15), 1),
  ((0, 24), 2),
  ((2, 18), 1),
  ((0, 9), 4),
  ((6, 9), 2),
  ((6, 25), 1),
  ((0, 221), 5),
  ((7, 18), 6),
  ((11, 45), 5),
  ((15, 7), 8),
  ((15, 42), 9),
  ((19, 9), 8),
  ((15, 105), 10),
  ((19, 13), 9),
  ((15, 180), 5),
  ((5, 8), 0),
  ((5, 114), 7),
  ((5, 14), 3)]
set_option maxRecDepth 20000 in
theorem zNl_0 : zNok (((0, 15), 1)) := ⟨_, _, rfl, rfl, (zw (zin1 (List.mem_of_getElem? (i := 43) rfl)) rfl)⟩
set_option maxRecDepth 20000 in
theorem zNl_1 : zNok (((0, 24), 2)) := ⟨_, _, rfl, rfl, (zw (zin1 (List.mem_of_getElem? (i := 96) rfl)) rfl)⟩
set_option maxRecDepth 20000 in
theorem zNl_2 : zNok (((2, 18), 1)) := ⟨_, _, rfl, rfl, (zw (zin1 (List.mem_of_getElem? (i := 102) rfl)) rfl)⟩
set_option maxRecDepth 20000 in
theorem zNl_3 : zNok (((0, 9), 4)) := ⟨_, _, rfl, rfl, (zw (zin1 (List.mem_of_getElem? (i := 41) rfl)) rfl)⟩
set_option maxRecDepth 20000 in
theorem zNl_4 : zNok (((6, 9), 2)) := ⟨_, _, rfl, rfl, (zw (zin3 (List.mem_of_getElem? (i := 56) rfl)) rfl)⟩
set_option maxRecDepth 20000 in
theorem zNl_5 : zNok (((6, 25), 1)) := ⟨_, _, rfl, rfl, (zw (zin3 (List.mem_of_getElem? (i := 58) rfl)) rfl)⟩
set_option maxRecDepth 20000 in
theorem zNl_6 : zNok (((0, 221), 5)) := ⟨_, _, rfl, rfl, (zw (zin4 (List.mem_of_getElem? (i := 7) rfl)) rfl)⟩
set_option maxRecDepth 20000 in
theorem zNl_7 : zNok (((7, 18), 6)) := ⟨_, _, rfl, rfl, (zw (zin4 (List.mem_of_getElem? (i := 139) rfl)) rfl)⟩
set_option maxRecDepth 20000 in
theorem zNl_8 : zNok (((11, 45), 5)) := ⟨_, _, rfl, rfl, (zw (zin4 (List.mem_of_getElem? (i := 172) rfl)) rfl)⟩
set_option maxRecDepth 20000 in
theorem zNl_9 : zNok (((15, 7), 8)) := ⟨_, _, rfl, rfl, (zw (zin5 (List.mem_of_getElem? (i := 81) rfl)) rfl)⟩
set_option maxRecDepth 20000 in
theorem zNl_10 : zNok (((15, 42), 9)) := ⟨_, _, rfl, rfl, (zw (zin5 (List.mem_of_getElem? (i := 142) rfl)) rfl)⟩
set_option maxRecDepth 20000 in
theorem zNl_11 : zNok (((19, 9), 8)) := ⟨_, _, rfl, rfl, (zw (zin5 (List.mem_of_getElem? (i := 148) rfl)) rfl)⟩
set_option maxRecDepth 20000 in
theorem zNl_12 : zNok (((15, 105), 10)) := ⟨_, _, rfl, rfl, (zw (zin6 (List.mem_of_getElem? (i := 131) rfl)) rfl)⟩
set_option maxRecDepth 20000 in
theorem zNl_13 : zNok (((19, 13), 9)) := ⟨_, _, rfl, rfl, (zw (zin6 (List.mem_of_getElem? (i := 183) rfl)) rfl)⟩
set_option maxRecDepth 20000 in
theorem zNl_14 : zNok (((15, 180), 5)) := ⟨_, _, rfl, rfl, (zw (zin7 (List.mem_of_getElem? (i := 14) rfl)) rfl)⟩
set_option maxRecDepth 20000 in
theorem zNl_15 : zNok (((5, 8), 0)) := ⟨_, _, rfl, rfl, (zw (zin1 (List.mem_of_getElem? (i := 33) rfl)) rfl)⟩
set_option maxRecDepth 20000 in
theorem zNl_16 : zNok (((5, 114), 7)) := ⟨_, _, rfl, rfl, (zw (zin5 (List.mem_of_getElem? (i := 75) rfl)) rfl)⟩
set_option maxRecDepth 20000 in
theorem zNl_17 : zNok (((5, 14), 3)) := ⟨_, _, rfl, rfl, (zw (zin3 (List.mem_of_getElem? (i := 9) rfl)) rfl)⟩
theorem zNl_ok : ∀ e ∈ zNl, zNok e := List.forall_mem_cons.mpr ⟨zNl_0, List.forall_mem_cons.mpr ⟨zNl_1, List.forall_mem_cons.mpr ⟨zNl_2, List.forall_mem_cons.mpr ⟨zNl_3, List.forall_mem_cons.mpr ⟨zNl_4, List.forall_mem_cons.mpr ⟨zNl_5, List.forall_mem_cons.mpr ⟨zNl_6, List.forall_mem_cons.mpr ⟨zNl_7, List.forall_mem_cons.mpr ⟨zNl_8, List.forall_mem_cons.mpr ⟨zNl_9, List.forall_mem_cons.mpr ⟨zNl_10, List.forall_mem_cons.mpr ⟨zNl_11, List.forall_mem_cons.mpr ⟨zNl_12, List.forall_mem_cons.mpr ⟨zNl_13, List.forall_mem_cons.mpr ⟨zNl_14, List.forall_mem_cons.mpr ⟨zNl_15, List.forall_mem_cons.mpr ⟨zNl_16, List.forall_mem_cons.mpr ⟨zNl_17, fun _ h => absurd h List.not_mem_nil⟩⟩⟩⟩⟩⟩⟩⟩⟩⟩⟩⟩⟩⟩⟩⟩⟩⟩
def zAok (e : (Nat × Nat) × Nat) : Prop := ∃ (own : String) (ty : FieldType), zon[e.1.1]? = some own ∧ zar[e.2]? = some ty ∧ ((∃ C, ty = .object C ∧ Jvm.Cond.classLink own e.1.2 C ∈ zWS ∧ Jvm.Cond.arrayOver ty ∈ zXW) ∨ ∃ t, ty = .array t ∧ Jvm.Cond.classLink own e.1.2 ty.toString ∈ zWS ∧ Jvm.Cond.arrayOver ty ∈ zXW)
def zAl : List ((Nat × Nat) × Nat) := [((0, 9), 4),
  ((16, 7), 5),
  ((19, 96), 2)]
set_option maxRecDepth 20000 in
theorem zAl_0 : zAok (((0, 9), 4)) := ⟨_, _, rfl, rfl, .inl ⟨_, rfl, (zw (zin1 (List.mem_of_getElem? (i := 41) rfl)) rfl), (zx (zin1 (List.mem_of_getElem? (i := 42) rfl)) rfl)⟩⟩
set_option maxRecDepth 20000 in
theorem zAl_1 : zAok (((16, 7), 5)) := ⟨_, _, rfl, rfl, .inl ⟨_, rfl, (zw (zin5 (List.mem_of_getElem? (i := 237) rfl)) rfl), (zx (zin5 (List.mem_of_getElem? (i := 234) rfl)) rfl)⟩⟩
set_option maxRecDepth 20000 in
theorem zAl_2 : zAok (((19, 96), 2)) := ⟨_, _, rfl, rfl, .inr ⟨_, rfl, (zw (zin6 (List.mem_of_getElem? (i := 93) rfl)) rfl), (zx (zin5 (List.mem_of_getElem? (i := 159) rfl)) rfl)⟩⟩
theorem zAl_ok : ∀ e ∈ zAl, zAok e := List.forall_mem_cons.mpr ⟨zAl_0, List.forall_mem_cons.mpr ⟨zAl_1, List.forall_mem_cons.mpr ⟨zAl_2, fun _ h => absurd h List.not_mem_nil⟩⟩⟩
def zGok (e : (Nat × Nat) × Nat) : Prop := ∃ (own : String), zon[e.1.1]? = some own ∧ (e.2 = 2 ∧ Jvm.Cond.classLink own e.1.2 "[[I" ∈ zWS ∨ e.2 = 3 ∧ Jvm.Cond.classLink own e.1.2 "[[[I" ∈ zWS)
def zGl : List ((Nat × Nat) × Nat) := [((19, 36), 2),
  ((19, 101), 3)]
set_option maxRecDepth 20000 in
theorem zGl_0 : zGok (((19, 36), 2)) := ⟨_, rfl, .inl ⟨rfl, (zw (zin5 (List.mem_of_getElem? (i := 158) rfl)) rfl)⟩⟩
set_option maxRecDepth 20000 in
theorem zGl_1 : zGok (((19, 101), 3)) := ⟨_, rfl, .inr ⟨rfl, (zw (zin6 (List.mem_of_getElem? (i := 99) rfl)) rfl)⟩⟩
theorem zGl_ok : ∀ e ∈ zGl, zGok e := List.forall_mem_cons.mpr ⟨zGl_0, List.forall_mem_cons.mpr ⟨zGl_1, fun _ h => absurd h List.not_mem_nil⟩⟩
theorem zov1 : Jvm.Cond.arrayOver (.array .int) ∈ zXW := (zx (zin5 (List.mem_of_getElem? (i := 159) rfl)) rfl)
theorem zov2 : Jvm.Cond.arrayOver (.array (.array .int)) ∈ zXW := (zx (zin6 (List.mem_of_getElem? (i := 100) rfl)) rfl)
theorem zaci : Jvm.Cond.arrayClass .int ∈ zWS := (zw (zin1 (List.mem_of_getElem? (i := 95) rfl)) rfl)
theorem zacb : Jvm.Cond.arrayClass .byte ∈ zWS := (zw (zin1 (List.mem_of_getElem? (i := 239) rfl)) rfl)
theorem zovB : Jvm.Cond.arrayOver (.object "TesseraHall$Board") ∈ zXW := (zx (zin1 (List.mem_of_getElem? (i := 42) rfl)) rfl)
theorem zovO : Jvm.Cond.arrayOver (.object "java/lang/Object") ∈ zXW := (zx (zin5 (List.mem_of_getElem? (i := 234) rfl)) rfl)
/-- what may be laid into an array of Objects: tags -/
def zobj : List Nat := [0, 1, 2, 3, 4, 5, 6, 7, 8, 9, 10]
theorem zobj_ok : ∀ t ∈ zobj, ∃ r : vw_C, zcl[t]? = some r ∧ Jvm.Cond.castable r.1 "java/lang/Object" ∈ zXW := List.forall_mem_cons.mpr ⟨⟨_, rfl, (zx (zin7 (List.mem_of_getElem? (i := 130) rfl)) rfl)⟩, List.forall_mem_cons.mpr ⟨⟨_, rfl, (zx (zin7 (List.mem_of_getElem? (i := 131) rfl)) rfl)⟩, List.forall_mem_cons.mpr ⟨⟨_, rfl, (zx (zin7 (List.mem_of_getElem? (i := 132) rfl)) rfl)⟩, List.forall_mem_cons.mpr ⟨⟨_, rfl, (zx (zin7 (List.mem_of_getElem? (i := 135) rfl)) rfl)⟩, List.forall_mem_cons.mpr ⟨⟨_, rfl, (zx (zin7 (List.mem_of_getElem? (i := 129) rfl)) rfl)⟩, List.forall_mem_cons.mpr ⟨⟨_, rfl, (zx (zin7 (List.mem_of_getElem? (i := 141) rfl)) rfl)⟩, List.forall_mem_cons.mpr ⟨⟨_, rfl, (zx (zin7 (List.mem_of_getElem? (i := 142) rfl)) rfl)⟩, List.forall_mem_cons.mpr ⟨⟨_, rfl, (zx (zin7 (List.mem_of_getElem? (i := 133) rfl)) rfl)⟩, List.forall_mem_cons.mpr ⟨⟨_, rfl, (zx (zin7 (List.mem_of_getElem? (i := 134) rfl)) rfl)⟩, List.forall_mem_cons.mpr ⟨⟨_, rfl, (zx (zin7 (List.mem_of_getElem? (i := 138) rfl)) rfl)⟩, List.forall_mem_cons.mpr ⟨⟨_, rfl, (zx (zin7 (List.mem_of_getElem? (i := 140) rfl)) rfl)⟩, fun _ h => absurd h List.not_mem_nil⟩⟩⟩⟩⟩⟩⟩⟩⟩⟩⟩
/-! ===== constants, texts ===== -/
def zKok (e : (Nat × Nat × Nat) × Value) : Prop := ∃ (own : String), zon[e.1.1]? = some own ∧ ((∃ v, e.2 = .int v ∧ e.1.2.2 ≤ 1 ∧ Jvm.Cond.constant own e.1.2.1 v ∈ zWS) ∨ (∃ v, e.2 = .long v ∧ e.1.2.2 = 2 ∧ Jvm.Cond.constantLong own e.1.2.1 v ∈ zWS) ∨ (∃ v, e.2 = .double v ∧ e.1.2.2 = 2 ∧ Jvm.Cond.constantDouble own e.1.2.1 v ∈ zWS))
def zKl : List ((Nat × Nat × Nat) × Value) := [((0, 268, 2), .long 58319),
  ((0, 270, 2), .long 31),
  ((0, 295, 2), .double 4634204016564240384),
  ((3, 265, 1), .int 1431655765),
  ((3, 266, 1), .int 858993459),
  ((3, 267, 1), .int 252645135),
  ((0, 259, 2), .double 4602678819172646912),
  ((8, 39, 0), .int 2147483647),
  ((9, 200, 0), .int 2147483639),
  ((15, 224, 2), .double 4602678819172646912),
  ((15, 252, 2), .long 58319),
  ((15, 254, 2), .long 31),
  ((15, 256, 2), .double 4634204016564240384)]
set_option maxRecDepth 20000 in
theorem zKl_0 : zKok (((0, 268, 2), .long 58319)) := ⟨_, rfl, .inr (.inl ⟨_, rfl, rfl, (zw (zin1 (List.mem_of_getElem? (i := 163) rfl)) rfl)⟩)⟩
set_option maxRecDepth 20000 in
theorem zKl_1 : zKok (((0, 270, 2), .long 31)) := ⟨_, rfl, .inr (.inl ⟨_, rfl, rfl, (zw (zin1 (List.mem_of_getElem? (i := 164) rfl)) rfl)⟩)⟩
set_option maxRecDepth 20000 in
theorem zKl_2 : zKok (((0, 295, 2), .double 4634204016564240384)) := ⟨_, rfl, .inr (.inr ⟨_, rfl, rfl, (zw (zin2 (List.mem_of_getElem? (i := 177) rfl)) rfl)⟩)⟩
set_option maxRecDepth 20000 in
theorem zKl_3 : zKok (((3, 265, 1), .int 1431655765)) := ⟨_, rfl, .inl ⟨_, rfl, by decide, (zw (zin2 (List.mem_of_getElem? (i := 89) rfl)) rfl)⟩⟩
set_option maxRecDepth 20000 in
theorem zKl_4 : zKok (((3, 266, 1), .int 858993459)) := ⟨_, rfl, .inl ⟨_, rfl, by decide, (zw (zin2 (List.mem_of_getElem? (i := 90) rfl)) rfl)⟩⟩
set_option maxRecDepth 20000 in
theorem zKl_5 : zKok (((3, 267, 1), .int 252645135)) := ⟨_, rfl, .inl ⟨_, rfl, by decide, (zw (zin2 (List.mem_of_getElem? (i := 91) rfl)) rfl)⟩⟩
set_option maxRecDepth 20000 in
theorem zKl_6 : zKok (((0, 259, 2), .double 4602678819172646912)) := ⟨_, rfl, .inr (.inr ⟨_, rfl, rfl, (zw (zin2 (List.mem_of_getElem? (i := 217) rfl)) rfl)⟩)⟩
set_option maxRecDepth 20000 in
theorem zKl_7 : zKok (((8, 39, 0), .int 2147483647)) := ⟨_, rfl, .inl ⟨_, rfl, by decide, (zw (zin4 (List.mem_of_getElem? (i := 63) rfl)) rfl)⟩⟩
set_option maxRecDepth 20000 in
theorem zKl_8 : zKok (((9, 200, 0), .int 2147483639)) := ⟨_, rfl, .inl ⟨_, rfl, by decide, (zw (zin4 (List.mem_of_getElem? (i := 59) rfl)) rfl)⟩⟩
set_option maxRecDepth 20000 in
theorem zKl_9 : zKok (((15, 224, 2), .double 4602678819172646912)) := ⟨_, rfl, .inr (.inr ⟨_, rfl, rfl, (zw (zin7 (List.mem_of_getElem? (i := 74) rfl)) rfl)⟩)⟩
set_option maxRecDepth 20000 in
theorem zKl_10 : zKok (((15, 252, 2), .long 58319)) := ⟨_, rfl, .inr (.inl ⟨_, rfl, rfl, (zw (zin7 (List.mem_of_getElem? (i := 116) rfl)) rfl)⟩)⟩
set_option maxRecDepth 20000 in
theorem zKl_11 : zKok (((15, 254, 2), .long 31)) := ⟨_, rfl, .inr (.inl ⟨_, rfl, rfl, (zw (zin7 (List.mem_of_getElem? (i := 117) rfl)) rfl)⟩)⟩
set_option maxRecDepth 20000 in
theorem zKl_12 : zKok (((15, 256, 2), .double 4634204016564240384)) := ⟨_, rfl, .inr (.inr ⟨_, rfl, rfl, (zw (zin7 (List.mem_of_getElem? (i := 118) rfl)) rfl)⟩)⟩
theorem zKl_ok : ∀ e ∈ zKl, zKok e := List.forall_mem_cons.mpr ⟨zKl_0, List.forall_mem_cons.mpr ⟨zKl_1, List.forall_mem_cons.mpr ⟨zKl_2, List.forall_mem_cons.mpr ⟨zKl_3, List.forall_mem_cons.mpr ⟨zKl_4, List.forall_mem_cons.mpr ⟨zKl_5, List.forall_mem_cons.mpr ⟨zKl_6, List.forall_mem_cons.mpr ⟨zKl_7, List.forall_mem_cons.mpr ⟨zKl_8, List.forall_mem_cons.mpr ⟨zKl_9, List.forall_mem_cons.mpr ⟨zKl_10, List.forall_mem_cons.mpr ⟨zKl_11, List.forall_mem_cons.mpr ⟨zKl_12, fun _ h => absurd h List.not_mem_nil⟩⟩⟩⟩⟩⟩⟩⟩⟩⟩⟩⟩⟩
def zstr : List (String × Nat × String) := [("TesseraHall", 319, "no such what"), ("TesseraHall", 313, "no such BOARD"), ("TesseraHall", 315, "no such CELL"), ("TesseraHall", 317, "no such LINE"), ("TesseraHall", 197, "nth is 0 or more"), ("TesseraHall", 239, "nth is 0 to 499"), ("TesseraHall", 40, "WIDE and HIGH are 2 to 5"), ("TesseraHall", 47, "there are 3 BOARDS"), ("TesseraHall", 70, "no such CLUE for this LINE"), ("TesseraHall", 321, "the CELL is not UNKNOWN"), ("TesseraHall", 123, "6 GUESSES stand"), ("TesseraHall", 129, "no GUESS stands"), ("TesseraHall", 141, "how is 0 to 2"), ("TesseraHall", 323, "a GUESS stands"), ("TesseraHall", 162, "no such row"), ("TesseraHall", 165, "no such set of places"), ("TesseraHall", 173, "a CELL is UNKNOWN"), ("TesseraHallModel", 183, "")]
def zLok (e : (Nat × Nat) × Nat) : Prop := ∃ (own tx : String), zon[e.1.1]? = some own ∧ zstr[e.2]? = some (own, e.1.2, tx)
def zLl : List ((Nat × Nat) × Nat) := [((15, 183), 17)]
set_option maxRecDepth 20000 in
theorem zLl_0 : zLok (((15, 183), 17)) := ⟨_, _, rfl, rfl⟩
theorem zLl_ok : ∀ e ∈ zLl, zLok e := List.forall_mem_cons.mpr ⟨zLl_0, fun _ h => absurd h List.not_mem_nil⟩
/-! ===== throw new E(text) ===== -/
def zexn : List String := ["java/lang/IllegalArgumentException", "java/lang/IllegalStateException", "java/lang/IndexOutOfBoundsException"]
def znm : List String := ["java/lang/RuntimeException", "java/lang/Exception"]
def zTok (e : (Nat × Nat × Nat × Nat) × Nat × Nat) : Prop := ∃ (own E tx : String), zon[e.1.1]? = some own ∧ zexn[e.2.1]? = some E ∧ zstr[e.2.2]? = some (own, e.1.2.2.1, tx) ∧ Jvm.Cond.classLink own e.1.2.1 E ∈ zWS ∧ Jvm.Cond.initialized E ∈ zWS ∧ Bundle.fit E = true ∧ (∀ w ∈ vx_atS own e.1.2.2.2 E znm, w ∈ zWS ∨ w ∈ zXW) ∧ (∀ w ∈ Jvm.Cond.classLink own e.1.2.1 E :: Jvm.Cond.initialized E :: vx_atS own e.1.2.2.2 E znm, vx_ot w = true)
theorem zgd {L : List Jvm.Cond} (a b : Jvm.Cond) (ha : vx_ot a = true) (hb : vx_ot b = true) (h : ∀ w ∈ L, vx_ot w = true) : ∀ w ∈ a :: b :: L, vx_ot w = true := List.forall_mem_cons.mpr ⟨ha, List.forall_mem_cons.mpr ⟨hb, h⟩⟩
set_option maxRecDepth 100000 in
set_option maxHeartbeats 4000000 in
theorem zot_0_42 : ∀ w ∈ vx_atS "TesseraHall" 42 "java/lang/IllegalArgumentException" znm, vx_ot w = true := by decide +kernel
set_option maxRecDepth 100000 in
set_option maxHeartbeats 4000000 in
theorem zat_0_42 : ∀ w ∈ vx_atS "TesseraHall" 42 "java/lang/IllegalArgumentException" znm, w ∈ zWS ∨ w ∈ zXW := by decide +kernel
set_option maxRecDepth 100000 in
set_option maxHeartbeats 4000000 in
theorem zot_2_164 : ∀ w ∈ vx_atS "TesseraHall" 164 "java/lang/IndexOutOfBoundsException" znm, vx_ot w = true := by decide +kernel
set_option maxRecDepth 100000 in
set_option maxHeartbeats 4000000 in
theorem zat_2_164 : ∀ w ∈ vx_atS "TesseraHall" 164 "java/lang/IndexOutOfBoundsException" znm, w ∈ zWS ∨ w ∈ zXW := by decide +kernel
set_option maxRecDepth 100000 in
set_option maxHeartbeats 4000000 in
theorem zot_1_49 : ∀ w ∈ vx_atS "TesseraHall" 49 "java/lang/IllegalStateException" znm, vx_ot w = true := by decide +kernel
set_option maxRecDepth 100000 in
set_option maxHeartbeats 4000000 in
theorem zat_1_49 : ∀ w ∈ vx_atS "TesseraHall" 49 "java/lang/IllegalStateException" znm, w ∈ zWS ∨ w ∈ zXW := by decide +kernel
def zTl : List ((Nat × Nat × Nat × Nat) × Nat × Nat) := [((0, 38, 319, 42), 0, 0),
  ((0, 160, 313, 164), 2, 1),
  ((0, 160, 315, 164), 2, 2),
  ((0, 160, 317, 164), 2, 3),
  ((0, 38, 197, 42), 0, 4),
  ((0, 38, 239, 42), 0, 5),
  ((0, 38, 40, 42), 0, 6),
  ((0, 45, 47, 49), 1, 7),
  ((0, 38, 70, 42), 0, 8),
  ((0, 45, 321, 49), 1, 9),
  ((0, 45, 123, 49), 1, 10),
  ((0, 45, 129, 49), 1, 11),
  ((0, 38, 141, 42), 0, 12),
  ((0, 45, 323, 49), 1, 13),
  ((0, 160, 162, 164), 2, 14),
  ((0, 38, 165, 42), 0, 15),
  ((0, 45, 173, 49), 1, 16)]
set_option maxRecDepth 20000 in
theorem zTl_0 : zTok (((0, 38, 319, 42), 0, 0)) := ⟨"TesseraHall", "java/lang/IllegalArgumentException", _, rfl, rfl, rfl, (zw (zin1 (List.mem_of_getElem? (i := 172) rfl)) rfl), (zw (zin1 (List.mem_of_getElem? (i := 12) rfl)) rfl), by decide +kernel, zat_0_42, zgd _ _ (by decide +kernel) (by decide +kernel) (zot_0_42)⟩
set_option maxRecDepth 20000 in
theorem zTl_1 : zTok (((0, 160, 313, 164), 2, 1)) := ⟨"TesseraHall", "java/lang/IndexOutOfBoundsException", _, rfl, rfl, rfl, (zw (zin2 (List.mem_of_getElem? (i := 4) rfl)) rfl), (zw (zin1 (List.mem_of_getElem? (i := 20) rfl)) rfl), by decide +kernel, zat_2_164, zgd _ _ (by decide +kernel) (by decide +kernel) (zot_2_164)⟩
set_option maxRecDepth 20000 in
theorem zTl_2 : zTok (((0, 160, 315, 164), 2, 2)) := ⟨"TesseraHall", "java/lang/IndexOutOfBoundsException", _, rfl, rfl, rfl, (zw (zin2 (List.mem_of_getElem? (i := 4) rfl)) rfl), (zw (zin1 (List.mem_of_getElem? (i := 20) rfl)) rfl), by decide +kernel, zat_2_164, zgd _ _ (by decide +kernel) (by decide +kernel) (zot_2_164)⟩
set_option maxRecDepth 20000 in
theorem zTl_3 : zTok (((0, 160, 317, 164), 2, 3)) := ⟨"TesseraHall", "java/lang/IndexOutOfBoundsException", _, rfl, rfl, rfl, (zw (zin2 (List.mem_of_getElem? (i := 4) rfl)) rfl), (zw (zin1 (List.mem_of_getElem? (i := 20) rfl)) rfl), by decide +kernel, zat_2_164, zgd _ _ (by decide +kernel) (by decide +kernel) (zot_2_164)⟩
set_option maxRecDepth 20000 in
theorem zTl_4 : zTok (((0, 38, 197, 42), 0, 4)) := ⟨"TesseraHall", "java/lang/IllegalArgumentException", _, rfl, rfl, rfl, (zw (zin1 (List.mem_of_getElem? (i := 172) rfl)) rfl), (zw (zin1 (List.mem_of_getElem? (i := 12) rfl)) rfl), by decide +kernel, zat_0_42, zgd _ _ (by decide +kernel) (by decide +kernel) (zot_0_42)⟩
set_option maxRecDepth 20000 in
theorem zTl_5 : zTok (((0, 38, 239, 42), 0, 5)) := ⟨"TesseraHall", "java/lang/IllegalArgumentException", _, rfl, rfl, rfl, (zw (zin1 (List.mem_of_getElem? (i := 172) rfl)) rfl), (zw (zin1 (List.mem_of_getElem? (i := 12) rfl)) rfl), by decide +kernel, zat_0_42, zgd _ _ (by decide +kernel) (by decide +kernel) (zot_0_42)⟩
set_option maxRecDepth 20000 in
theorem zTl_6 : zTok (((0, 38, 40, 42), 0, 6)) := ⟨"TesseraHall", "java/lang/IllegalArgumentException", _, rfl, rfl, rfl, (zw (zin1 (List.mem_of_getElem? (i := 172) rfl)) rfl), (zw (zin1 (List.mem_of_getElem? (i := 12) rfl)) rfl), by decide +kernel, zat_0_42, zgd _ _ (by decide +kernel) (by decide +kernel) (zot_0_42)⟩
set_option maxRecDepth 20000 in
theorem zTl_7 : zTok (((0, 45, 47, 49), 1, 7)) := ⟨"TesseraHall", "java/lang/IllegalStateException", _, rfl, rfl, rfl, (zw (zin3 (List.mem_of_getElem? (i := 35) rfl)) rfl), (zw (zin1 (List.mem_of_getElem? (i := 13) rfl)) rfl), by decide +kernel, zat_1_49, zgd _ _ (by decide +kernel) (by decide +kernel) (zot_1_49)⟩
set_option maxRecDepth 20000 in
theorem zTl_8 : zTok (((0, 38, 70, 42), 0, 8)) := ⟨"TesseraHall", "java/lang/IllegalArgumentException", _, rfl, rfl, rfl, (zw (zin1 (List.mem_of_getElem? (i := 172) rfl)) rfl), (zw (zin1 (List.mem_of_getElem? (i := 12) rfl)) rfl), by decide +kernel, zat_0_42, zgd _ _ (by decide +kernel) (by decide +kernel) (zot_0_42)⟩
set_option maxRecDepth 20000 in
theorem zTl_9 : zTok (((0, 45, 321, 49), 1, 9)) := ⟨"TesseraHall", "java/lang/IllegalStateException", _, rfl, rfl, rfl, (zw (zin3 (List.mem_of_getElem? (i := 35) rfl)) rfl), (zw (zin1 (List.mem_of_getElem? (i := 13) rfl)) rfl), by decide +kernel, zat_1_49, zgd _ _ (by decide +kernel) (by decide +kernel) (zot_1_49)⟩
set_option maxRecDepth 20000 in
theorem zTl_10 : zTok (((0, 45, 123, 49), 1, 10)) := ⟨"TesseraHall", "java/lang/IllegalStateException", _, rfl, rfl, rfl, (zw (zin3 (List.mem_of_getElem? (i := 35) rfl)) rfl), (zw (zin1 (List.mem_of_getElem? (i := 13) rfl)) rfl), by decide +kernel, zat_1_49, zgd _ _ (by decide +kernel) (by decide +kernel) (zot_1_49)⟩
set_option maxRecDepth 20000 in
theorem zTl_11 : zTok (((0, 45, 129, 49), 1, 11)) := ⟨"TesseraHall", "java/lang/IllegalStateException", _, rfl, rfl, rfl, (zw (zin3 (List.mem_of_getElem? (i := 35) rfl)) rfl), (zw (zin1 (List.mem_of_getElem? (i := 13) rfl)) rfl), by decide +kernel, zat_1_49, zgd _ _ (by decide +kernel) (by decide +kernel) (zot_1_49)⟩
set_option maxRecDepth 20000 in
theorem zTl_12 : zTok (((0, 38, 141, 42), 0, 12)) := ⟨"TesseraHall", "java/lang/IllegalArgumentException", _, rfl, rfl, rfl, (zw (zin1 (List.mem_of_getElem? (i := 172) rfl)) rfl), (zw (zin1 (List.mem_of_getElem? (i := 12) rfl)) rfl), by decide +kernel, zat_0_42, zgd _ _ (by decide +kernel) (by decide +kernel) (zot_0_42)⟩
set_option maxRecDepth 20000 in
theorem zTl_13 : zTok (((0, 45, 323, 49), 1, 13)) := ⟨"TesseraHall", "java/lang/IllegalStateException", _, rfl, rfl, rfl, (zw (zin3 (List.mem_of_getElem? (i := 35) rfl)) rfl), (zw (zin1 (List.mem_of_getElem? (i := 13) rfl)) rfl), by decide +kernel, zat_1_49, zgd _ _ (by decide +kernel) (by decide +kernel) (zot_1_49)⟩
set_option maxRecDepth 20000 in
theorem zTl_14 : zTok (((0, 160, 162, 164), 2, 14)) := ⟨"TesseraHall", "java/lang/IndexOutOfBoundsException", _, rfl, rfl, rfl, (zw (zin2 (List.mem_of_getElem? (i := 4) rfl)) rfl), (zw (zin1 (List.mem_of_getElem? (i := 20) rfl)) rfl), by decide +kernel, zat_2_164, zgd _ _ (by decide +kernel) (by decide +kernel) (zot_2_164)⟩
set_option maxRecDepth 20000 in
theorem zTl_15 : zTok (((0, 38, 165, 42), 0, 15)) := ⟨"TesseraHall", "java/lang/IllegalArgumentException", _, rfl, rfl, rfl, (zw (zin1 (List.mem_of_getElem? (i := 172) rfl)) rfl), (zw (zin1 (List.mem_of_getElem? (i := 12) rfl)) rfl), by decide +kernel, zat_0_42, zgd _ _ (by decide +kernel) (by decide +kernel) (zot_0_42)⟩
set_option maxRecDepth 20000 in
theorem zTl_16 : zTok (((0, 45, 173, 49), 1, 16)) := ⟨"TesseraHall", "java/lang/IllegalStateException", _, rfl, rfl, rfl, (zw (zin3 (List.mem_of_getElem? (i := 35) rfl)) rfl), (zw (zin1 (List.mem_of_getElem? (i := 13) rfl)) rfl), by decide +kernel, zat_1_49, zgd _ _ (by decide +kernel) (by decide +kernel) (zot_1_49)⟩
theorem zTl_ok : ∀ e ∈ zTl, zTok e := List.forall_mem_cons.mpr ⟨zTl_0, List.forall_mem_cons.mpr ⟨zTl_1, List.forall_mem_cons.mpr ⟨zTl_2, List.forall_mem_cons.mpr ⟨zTl_3, List.forall_mem_cons.mpr ⟨zTl_4, List.forall_mem_cons.mpr ⟨zTl_5, List.forall_mem_cons.mpr ⟨zTl_6, List.forall_mem_cons.mpr ⟨zTl_7, List.forall_mem_cons.mpr ⟨zTl_8, List.forall_mem_cons.mpr ⟨zTl_9, List.forall_mem_cons.mpr ⟨zTl_10, List.forall_mem_cons.mpr ⟨zTl_11, List.forall_mem_cons.mpr ⟨zTl_12, List.forall_mem_cons.mpr ⟨zTl_13, List.forall_mem_cons.mpr ⟨zTl_14, List.forall_mem_cons.mpr ⟨zTl_15, List.forall_mem_cons.mpr ⟨zTl_16, fun _ h => absurd h List.not_mem_nil⟩⟩⟩⟩⟩⟩⟩⟩⟩⟩⟩⟩⟩⟩⟩⟩⟩
def zHt : List (Nat × Nat) := [(500019, 0), (500021, 1), (500027, 2)]
def zHok (e : (Nat × Nat) × Nat) : Prop := ∃ (own E : String), zon[e.1.1]? = some own ∧ zexn[e.2]? = some E ∧ e.1.2 ≠ 0 ∧ e.1.2 < 100000 ∧ Jvm.Cond.classLink own e.1.2 E ∈ zWS ∧ Jvm.Cond.castable E E ∈ zXW
def zHl : List ((Nat × Nat) × Nat) := [((5, 19), 0),
  ((5, 21), 1),
  ((5, 27), 2)]
set_option maxRecDepth 20000 in
theorem zHl_0 : zHok (((5, 19), 0)) := ⟨_, _, rfl, rfl, by decide, by decide, (zw (zin3 (List.mem_of_getElem? (i := 28) rfl)) rfl), (zx (zin1 (List.mem_of_getElem? (i := 174) rfl)) rfl)⟩
set_option maxRecDepth 20000 in
theorem zHl_1 : zHok (((5, 21), 1)) := ⟨_, _, rfl, rfl, by decide, by decide, (zw (zin3 (List.mem_of_getElem? (i := 29) rfl)) rfl), (zx (zin3 (List.mem_of_getElem? (i := 37) rfl)) rfl)⟩
set_option maxRecDepth 20000 in
theorem zHl_2 : zHok (((5, 27), 2)) := ⟨_, _, rfl, rfl, by decide, by decide, (zw (zin3 (List.mem_of_getElem? (i := 88) rfl)) rfl), (zx (zin2 (List.mem_of_getElem? (i := 6) rfl)) rfl)⟩
theorem zHl_ok : ∀ e ∈ zHl, zHok e := List.forall_mem_cons.mpr ⟨zHl_0, List.forall_mem_cons.mpr ⟨zHl_1, List.forall_mem_cons.mpr ⟨zHl_2, fun _ h => absurd h List.not_mem_nil⟩⟩⟩
theorem zHt_eq : zHt = zHl.map (fun e => (e.1.1 * 100000 + e.1.2, e.2)) := rfl
/-! ===== calls: (owner, entry, kind) to (method, arguments, tag of the receiver) ===== -/
abbrev zVe : Type := (Nat × Nat × Nat) × Nat × Nat × Nat
def zVok (e : zVe) : Prop := ∃ (own : String) (r : zMd), zon[e.1.1]? = some own ∧ zmd e.2.1 = some r ∧ e.2.1 < 238 ∧
  match e.1.2.2 with
  | 0 => r.2.2.2.2.2.2 = [] ∧ (parseMethodDescriptor r.1.desc).map (fun d => d.parameters.length) = some e.2.2.1 ∧ ∃ c : vw_C, zcl[e.2.2.2]? = some c ∧ Jvm.Cond.methodLink own e.1.2.1 r.1 ∈ zWS ∧ Jvm.Cond.instanceMethod r.1 ∈ zWS ∧ Jvm.Cond.selects c.1 r.1 r.1 ∈ zWS
  | 2 => r.2.2.2.2.2.2 = [] ∧ ∃ (c : vw_C) (x : MethodName) (b0 : ByteArray) (m0 : Nat) (r0 : Option FieldType), zcl[e.2.2.2]? = some c ∧ (parseMethodDescriptor x.desc).map (fun d => d.parameters.length) = some e.2.2.1 ∧ x.cls ≠ "java/lang/invoke/MethodHandle" ∧ x.cls ≠ "java/lang/invoke/VarHandle" ∧ Jvm.Cond.methodLink own e.1.2.1 x ∈ zWS ∧ Jvm.Cond.instanceMethod r.1 ∈ zWS ∧ Jvm.Cond.selects c.1 x r.1 ∈ zWS ∧ Jvm.Cond.sameMethod x.cls x.cls x.name x.desc ∈ zWS ∧ Jvm.Cond.instanceMethod x ∈ zWS ∧ Jvm.Cond.code x b0 m0 r0 ∈ zWS
  | 3 => r.2.2.2.2.2.2 = [] ∧ (parseMethodDescriptor r.1.desc).map (fun d => d.parameters.length) = some e.2.2.1 ∧ Jvm.Cond.methodLink own e.1.2.1 r.1 ∈ zWS ∧ Jvm.Cond.static r.1 ∈ zWS
  | 4 => r.2.2.2.2.2.2 = [] ∧ (parseMethodDescriptor r.1.desc).map (fun d => d.parameters.length) = some e.2.2.1 ∧ (∃ host, Jvm.Cond.methodLinkNest own e.1.2.1 r.1 host ∈ zXW) ∧ Jvm.Cond.static r.1 ∈ zWS
  | 5 => r.2.2.2.2.2.2 = [] ∧ (parseMethodDescriptor r.1.desc).map (fun d => d.parameters.length) = some e.2.2.1 ∧ r.1.name = "<init>" ∧ r.2.2.2.1 = none ∧ Jvm.Cond.methodLink own e.1.2.1 r.1 ∈ zWS ∧ Jvm.Cond.instanceMethod r.1 ∈ zWS
  | 6 => r.2.2.2.2.2.2 = [] ∧ (parseMethodDescriptor r.1.desc).map (fun d => d.parameters.length) = some e.2.2.1 ∧ r.1.name = "<init>" ∧ r.2.2.2.1 = none ∧ (∃ host, Jvm.Cond.methodLinkNest own e.1.2.1 r.1 host ∈ zXW) ∧ Jvm.Cond.instanceMethod r.1 ∈ zWS
  | 7 => r.2.2.2.2.2.2 = [] ∧ (parseMethodDescriptor r.1.desc).map (fun d => d.parameters.length) = some e.2.2.1 ∧ r.1.name ≠ "<init>" ∧ ∃ c : vw_C, zcl[e.2.2.2]? = some c ∧ c.1 = own ∧ Jvm.Cond.methodLink own e.1.2.1 r.1 ∈ zWS ∧ Jvm.Cond.sameMethod r.1.cls r.1.cls r.1.name r.1.desc ∈ zWS ∧ Jvm.Cond.superclass own r.1.cls ∈ zWS ∧ Jvm.Cond.instanceMethod r.1 ∈ zWS
  | 8 => r.2.2.2.2.2.2 = [] ∧ ∃ (c : vw_C) (x : MethodName), zcl[e.2.2.2]? = some c ∧ (parseMethodDescriptor x.desc).map (fun d => d.parameters.length) = some e.2.2.1 ∧ x.cls ≠ "java/lang/invoke/MethodHandle" ∧ x.cls ≠ "java/lang/invoke/VarHandle" ∧ Jvm.Cond.methodLink own e.1.2.1 x ∈ zWS ∧ Jvm.Cond.declares x ∈ zXW ∧ Jvm.Cond.interfaceMethod x.cls x.cls x.name x.desc ∈ zXW ∧ Jvm.Cond.selects c.1 x r.1 ∈ zWS ∧ Jvm.Cond.instanceMethod r.1 ∈ zWS ∧ Jvm.Cond.publicMethod r.1 ∈ zXW ∧ Jvm.Cond.unhidden c.1 x.name x.desc ∈ zXW ∧ Jvm.Cond.castable c.1 x.cls ∈ zXW
  | 9 => r.2.2.2.2.2.2 ≠ [] ∧ (parseMethodDescriptor r.1.desc).map (fun d => d.parameters.length) = some e.2.2.1 ∧ Jvm.Cond.methodLink own e.1.2.1 r.1 ∈ zWS ∧ Jvm.Cond.static r.1 ∈ zWS
  | _ => False
def zVl0 : List (zVe) := [((0, 17, 5), 1, 2, 0),
  ((0, 26, 6), 8, 0, 0),
  ((1, 28, 0), 2, 0, 1),
  ((1, 31, 0), 4, 0, 1),
  ((1, 35, 0), 5, 2, 1),
  ((1, 39, 0), 3, 5, 1),
  ((1, 43, 0), 6, 1, 1),
  ((1, 47, 4), 7, 2, 0),
  ((2, 20, 5), 1, 2, 0),
  ((0, 272, 0), 11, 1, 0),
  ((0, 275, 0), 17, 2, 0),
  ((0, 184, 3), 12, 2, 0),
  ((0, 51, 0), 13, 1, 0),
  ((0, 170, 0), 14, 1, 1),
  ((1, 88, 0), 15, 0, 1),
  ((1, 67, 0), 16, 1, 1),
  ((0, 279, 0), 18, 2, 0),
  ((0, 181, 0), 15, 0, 1),
  ((0, 282, 0), 39, 3, 0),
  ((0, 256, 0), 4, 0, 1),
  ((0, 286, 0), 42, 3, 0),
  ((0, 289, 0), 46, 3, 0),
  ((0, 292, 0), 47, 2, 0),
  ((0, 297, 0), 49, 2, 0),
  ((0, 301, 0), 55, 1, 0),
  ((0, 304, 0), 56, 1, 0),
  ((0, 307, 0), 58, 1, 0),
  ((0, 310, 0), 61, 2, 0),
  ((0, 206, 0), 19, 0, 1),
  ((0, 96, 0), 22, 2, 2),
  ((0, 212, 0), 35, 0, 1),
  ((0, 215, 0), 37, 0, 2),
  ((0, 218, 0), 38, 0, 1),
  ((1, 73, 0), 20, 1, 1),
  ((1, 51, 0), 21, 2, 1),
  ((2, 36, 0), 23, 2, 2),
  ((2, 48, 0), 24, 1, 1),
  ((2, 52, 0), 25, 1, 1),
  ((2, 59, 0), 20, 1, 1),
  ((2, 65, 0), 30, 1, 2),
  ((2, 69, 3), 32, 3, 0),
  ((2, 78, 0), 4, 0, 1),
  ((1, 76, 0), 26, 3, 1),
  ((1, 80, 0), 27, 5, 1),
  ((1, 83, 3), 29, 1, 0),
  ((1, 54, 4), 28, 2, 0),
  ((2, 86, 0), 31, 2, 2),
  ((2, 82, 0), 33, 1, 2),
  ((2, 90, 4), 28, 2, 0),
  ((2, 94, 0), 34, 2, 2),
  ((1, 91, 0), 36, 1, 1),
  ((0, 86, 3), 40, 2, 0),
  ((0, 187, 0), 41, 2, 1),
  ((0, 58, 3), 43, 2, 0),
  ((0, 83, 0), 36, 1, 1),
  ((0, 191, 3), 44, 1, 0),
  ((0, 75, 0), 20, 1, 1),
  ((0, 78, 3), 29, 1, 0),
  ((0, 194, 0), 45, 2, 1),
  ((0, 62, 0), 6, 1, 1)]
set_option maxRecDepth 20000 in
theorem zVl0_0 : zVok (((0, 17, 5), 1, 2, 0)) := ⟨_, _, rfl, rfl, by decide, ⟨rfl, by decide +kernel, rfl, rfl, (zw (zin1 (List.mem_of_getElem? (i := 45) rfl)) rfl), (zw (zin1 (List.mem_of_getElem? (i := 46) rfl)) rfl)⟩⟩
set_option maxRecDepth 20000 in
theorem zVl0_1 : zVok (((0, 26, 6), 8, 0, 0)) := ⟨_, _, rfl, rfl, by decide, ⟨rfl, by decide +kernel, rfl, rfl, ⟨_, (zx (zin1 (List.mem_of_getElem? (i := 98) rfl)) rfl)⟩, (zw (zin1 (List.mem_of_getElem? (i := 99) rfl)) rfl)⟩⟩
set_option maxRecDepth 20000 in
theorem zVl0_2 : zVok (((1, 28, 0), 2, 0, 1)) := ⟨_, _, rfl, rfl, by decide, ⟨rfl, by decide +kernel, _, rfl, (zw (zin1 (List.mem_of_getElem? (i := 49) rfl)) rfl), (zw (zin1 (List.mem_of_getElem? (i := 50) rfl)) rfl), (zw (zin1 (List.mem_of_getElem? (i := 51) rfl)) rfl)⟩⟩
set_option maxRecDepth 20000 in
theorem zVl0_3 : zVok (((1, 31, 0), 4, 0, 1)) := ⟨_, _, rfl, rfl, by decide, ⟨rfl, by decide +kernel, _, rfl, (zw (zin1 (List.mem_of_getElem? (i := 57) rfl)) rfl), (zw (zin1 (List.mem_of_getElem? (i := 58) rfl)) rfl), (zw (zin1 (List.mem_of_getElem? (i := 59) rfl)) rfl)⟩⟩
set_option maxRecDepth 20000 in
theorem zVl0_4 : zVok (((1, 35, 0), 5, 2, 1)) := ⟨_, _, rfl, rfl, by decide, ⟨rfl, by decide +kernel, _, rfl, (zw (zin1 (List.mem_of_getElem? (i := 61) rfl)) rfl), (zw (zin1 (List.mem_of_getElem? (i := 62) rfl)) rfl), (zw (zin1 (List.mem_of_getElem? (i := 63) rfl)) rfl)⟩⟩
set_option maxRecDepth 20000 in
theorem zVl0_5 : zVok (((1, 39, 0), 3, 5, 1)) := ⟨_, _, rfl, rfl, by decide, ⟨rfl, by decide +kernel, _, rfl, (zw (zin1 (List.mem_of_getElem? (i := 53) rfl)) rfl), (zw (zin1 (List.mem_of_getElem? (i := 54) rfl)) rfl), (zw (zin1 (List.mem_of_getElem? (i := 55) rfl)) rfl)⟩⟩
set_option maxRecDepth 20000 in
theorem zVl0_6 : zVok (((1, 43, 0), 6, 1, 1)) := ⟨_, _, rfl, rfl, by decide, ⟨rfl, by decide +kernel, _, rfl, (zw (zin1 (List.mem_of_getElem? (i := 65) rfl)) rfl), (zw (zin1 (List.mem_of_getElem? (i := 66) rfl)) rfl), (zw (zin1 (List.mem_of_getElem? (i := 67) rfl)) rfl)⟩⟩
set_option maxRecDepth 20000 in
theorem zVl0_7 : zVok (((1, 47, 4), 7, 2, 0)) := ⟨_, _, rfl, rfl, by decide, ⟨rfl, by decide +kernel, ⟨_, (zx (zin1 (List.mem_of_getElem? (i := 69) rfl)) rfl)⟩, (zw (zin1 (List.mem_of_getElem? (i := 70) rfl)) rfl)⟩⟩
set_option maxRecDepth 20000 in
theorem zVl0_8 : zVok (((2, 20, 5), 1, 2, 0)) := ⟨_, _, rfl, rfl, by decide, ⟨rfl, by decide +kernel, rfl, rfl, (zw (zin1 (List.mem_of_getElem? (i := 103) rfl)) rfl), (zw (zin1 (List.mem_of_getElem? (i := 46) rfl)) rfl)⟩⟩
set_option maxRecDepth 20000 in
theorem zVl0_9 : zVok (((0, 272, 0), 11, 1, 0)) := ⟨_, _, rfl, rfl, by decide, ⟨rfl, by decide +kernel, _, rfl, (zw (zin1 (List.mem_of_getElem? (i := 165) rfl)) rfl), (zw (zin1 (List.mem_of_getElem? (i := 166) rfl)) rfl), (zw (zin1 (List.mem_of_getElem? (i := 167) rfl)) rfl)⟩⟩
set_option maxRecDepth 20000 in
theorem zVl0_10 : zVok (((0, 275, 0), 17, 2, 0)) := ⟨_, _, rfl, rfl, by decide, ⟨rfl, by decide +kernel, _, rfl, (zw (zin2 (List.mem_of_getElem? (i := 32) rfl)) rfl), (zw (zin2 (List.mem_of_getElem? (i := 34) rfl)) rfl), (zw (zinp (List.mem_of_getElem? (i := 2) rfl)) rfl)⟩⟩
set_option maxRecDepth 20000 in
theorem zVl0_11 : zVok (((0, 184, 3), 12, 2, 0)) := ⟨_, _, rfl, rfl, by decide, ⟨rfl, by decide +kernel, (zw (zin1 (List.mem_of_getElem? (i := 169) rfl)) rfl), (zw (zin1 (List.mem_of_getElem? (i := 170) rfl)) rfl)⟩⟩
set_option maxRecDepth 20000 in
theorem zVl0_12 : zVok (((0, 51, 0), 13, 1, 0)) := ⟨_, _, rfl, rfl, by decide, ⟨rfl, by decide +kernel, _, rfl, (zw (zin2 (List.mem_of_getElem? (i := 0) rfl)) rfl), (zw (zin2 (List.mem_of_getElem? (i := 2) rfl)) rfl), (zw (zinp (List.mem_of_getElem? (i := 1) rfl)) rfl)⟩⟩
set_option maxRecDepth 20000 in
theorem zVl0_13 : zVok (((0, 170, 0), 14, 1, 1)) := ⟨_, _, rfl, rfl, by decide, ⟨rfl, by decide +kernel, _, rfl, (zw (zin2 (List.mem_of_getElem? (i := 20) rfl)) rfl), (zw (zin2 (List.mem_of_getElem? (i := 21) rfl)) rfl), (zw (zin2 (List.mem_of_getElem? (i := 22) rfl)) rfl)⟩⟩
set_option maxRecDepth 20000 in
theorem zVl0_14 : zVok (((1, 88, 0), 15, 0, 1)) := ⟨_, _, rfl, rfl, by decide, ⟨rfl, by decide +kernel, _, rfl, (zw (zin2 (List.mem_of_getElem? (i := 24) rfl)) rfl), (zw (zin2 (List.mem_of_getElem? (i := 25) rfl)) rfl), (zw (zin2 (List.mem_of_getElem? (i := 26) rfl)) rfl)⟩⟩
set_option maxRecDepth 20000 in
theorem zVl0_15 : zVok (((1, 67, 0), 16, 1, 1)) := ⟨_, _, rfl, rfl, by decide, ⟨rfl, by decide +kernel, _, rfl, (zw (zin2 (List.mem_of_getElem? (i := 28) rfl)) rfl), (zw (zin2 (List.mem_of_getElem? (i := 29) rfl)) rfl), (zw (zin2 (List.mem_of_getElem? (i := 30) rfl)) rfl)⟩⟩
set_option maxRecDepth 20000 in
theorem zVl0_16 : zVok (((0, 279, 0), 18, 2, 0)) := ⟨_, _, rfl, rfl, by decide, ⟨rfl, by decide +kernel, _, rfl, (zw (zin2 (List.mem_of_getElem? (i := 36) rfl)) rfl), (zw (zin2 (List.mem_of_getElem? (i := 37) rfl)) rfl), (zw (zin2 (List.mem_of_getElem? (i := 38) rfl)) rfl)⟩⟩
set_option maxRecDepth 20000 in
theorem zVl0_17 : zVok (((0, 181, 0), 15, 0, 1)) := ⟨_, _, rfl, rfl, by decide, ⟨rfl, by decide +kernel, _, rfl, (zw (zin2 (List.mem_of_getElem? (i := 129) rfl)) rfl), (zw (zin2 (List.mem_of_getElem? (i := 25) rfl)) rfl), (zw (zin2 (List.mem_of_getElem? (i := 26) rfl)) rfl)⟩⟩
set_option maxRecDepth 20000 in
theorem zVl0_18 : zVok (((0, 282, 0), 39, 3, 0)) := ⟨_, _, rfl, rfl, by decide, ⟨rfl, by decide +kernel, _, rfl, (zw (zin2 (List.mem_of_getElem? (i := 130) rfl)) rfl), (zw (zin2 (List.mem_of_getElem? (i := 131) rfl)) rfl), (zw (zin2 (List.mem_of_getElem? (i := 132) rfl)) rfl)⟩⟩
set_option maxRecDepth 20000 in
theorem zVl0_19 : zVok (((0, 256, 0), 4, 0, 1)) := ⟨_, _, rfl, rfl, by decide, ⟨rfl, by decide +kernel, _, rfl, (zw (zin2 (List.mem_of_getElem? (i := 142) rfl)) rfl), (zw (zin1 (List.mem_of_getElem? (i := 58) rfl)) rfl), (zw (zin1 (List.mem_of_getElem? (i := 59) rfl)) rfl)⟩⟩
set_option maxRecDepth 20000 in
theorem zVl0_20 : zVok (((0, 286, 0), 42, 3, 0)) := ⟨_, _, rfl, rfl, by decide, ⟨rfl, by decide +kernel, _, rfl, (zw (zin2 (List.mem_of_getElem? (i := 143) rfl)) rfl), (zw (zin2 (List.mem_of_getElem? (i := 144) rfl)) rfl), (zw (zin2 (List.mem_of_getElem? (i := 145) rfl)) rfl)⟩⟩
set_option maxRecDepth 20000 in
theorem zVl0_21 : zVok (((0, 289, 0), 46, 3, 0)) := ⟨_, _, rfl, rfl, by decide, ⟨rfl, by decide +kernel, _, rfl, (zw (zin2 (List.mem_of_getElem? (i := 162) rfl)) rfl), (zw (zin2 (List.mem_of_getElem? (i := 163) rfl)) rfl), (zw (zin2 (List.mem_of_getElem? (i := 164) rfl)) rfl)⟩⟩
set_option maxRecDepth 20000 in
theorem zVl0_22 : zVok (((0, 292, 0), 47, 2, 0)) := ⟨_, _, rfl, rfl, by decide, ⟨rfl, by decide +kernel, _, rfl, (zw (zin2 (List.mem_of_getElem? (i := 168) rfl)) rfl), (zw (zin2 (List.mem_of_getElem? (i := 169) rfl)) rfl), (zw (zin2 (List.mem_of_getElem? (i := 170) rfl)) rfl)⟩⟩
set_option maxRecDepth 20000 in
theorem zVl0_23 : zVok (((0, 297, 0), 49, 2, 0)) := ⟨_, _, rfl, rfl, by decide, ⟨rfl, by decide +kernel, _, rfl, (zw (zin2 (List.mem_of_getElem? (i := 178) rfl)) rfl), (zw (zin2 (List.mem_of_getElem? (i := 179) rfl)) rfl), (zw (zin2 (List.mem_of_getElem? (i := 180) rfl)) rfl)⟩⟩
set_option maxRecDepth 20000 in
theorem zVl0_24 : zVok (((0, 301, 0), 55, 1, 0)) := ⟨_, _, rfl, rfl, by decide, ⟨rfl, by decide +kernel, _, rfl, (zw (zin2 (List.mem_of_getElem? (i := 204) rfl)) rfl), (zw (zin2 (List.mem_of_getElem? (i := 205) rfl)) rfl), (zw (zin2 (List.mem_of_getElem? (i := 206) rfl)) rfl)⟩⟩
set_option maxRecDepth 20000 in
theorem zVl0_25 : zVok (((0, 304, 0), 56, 1, 0)) := ⟨_, _, rfl, rfl, by decide, ⟨rfl, by decide +kernel, _, rfl, (zw (zin2 (List.mem_of_getElem? (i := 208) rfl)) rfl), (zw (zin2 (List.mem_of_getElem? (i := 209) rfl)) rfl), (zw (zin2 (List.mem_of_getElem? (i := 210) rfl)) rfl)⟩⟩
set_option maxRecDepth 20000 in
theorem zVl0_26 : zVok (((0, 307, 0), 58, 1, 0)) := ⟨_, _, rfl, rfl, by decide, ⟨rfl, by decide +kernel, _, rfl, (zw (zin2 (List.mem_of_getElem? (i := 218) rfl)) rfl), (zw (zin2 (List.mem_of_getElem? (i := 219) rfl)) rfl), (zw (zin2 (List.mem_of_getElem? (i := 220) rfl)) rfl)⟩⟩
set_option maxRecDepth 20000 in
theorem zVl0_27 : zVok (((0, 310, 0), 61, 2, 0)) := ⟨_, _, rfl, rfl, by decide, ⟨rfl, by decide +kernel, _, rfl, (zw (zin2 (List.mem_of_getElem? (i := 230) rfl)) rfl), (zw (zin2 (List.mem_of_getElem? (i := 231) rfl)) rfl), (zw (zin2 (List.mem_of_getElem? (i := 232) rfl)) rfl)⟩⟩
set_option maxRecDepth 20000 in
theorem zVl0_28 : zVok (((0, 206, 0), 19, 0, 1)) := ⟨_, _, rfl, rfl, by decide, ⟨rfl, by decide +kernel, _, rfl, (zw (zin2 (List.mem_of_getElem? (i := 40) rfl)) rfl), (zw (zin2 (List.mem_of_getElem? (i := 41) rfl)) rfl), (zw (zin2 (List.mem_of_getElem? (i := 42) rfl)) rfl)⟩⟩
set_option maxRecDepth 20000 in
theorem zVl0_29 : zVok (((0, 96, 0), 22, 2, 2)) := ⟨_, _, rfl, rfl, by decide, ⟨rfl, by decide +kernel, _, rfl, (zw (zin2 (List.mem_of_getElem? (i := 54) rfl)) rfl), (zw (zin2 (List.mem_of_getElem? (i := 55) rfl)) rfl), (zw (zin2 (List.mem_of_getElem? (i := 56) rfl)) rfl)⟩⟩
set_option maxRecDepth 20000 in
theorem zVl0_30 : zVok (((0, 212, 0), 35, 0, 1)) := ⟨_, _, rfl, rfl, by decide, ⟨rfl, by decide +kernel, _, rfl, (zw (zin2 (List.mem_of_getElem? (i := 113) rfl)) rfl), (zw (zin2 (List.mem_of_getElem? (i := 114) rfl)) rfl), (zw (zin2 (List.mem_of_getElem? (i := 115) rfl)) rfl)⟩⟩
set_option maxRecDepth 20000 in
theorem zVl0_31 : zVok (((0, 215, 0), 37, 0, 2)) := ⟨_, _, rfl, rfl, by decide, ⟨rfl, by decide +kernel, _, rfl, (zw (zin2 (List.mem_of_getElem? (i := 121) rfl)) rfl), (zw (zin2 (List.mem_of_getElem? (i := 122) rfl)) rfl), (zw (zin2 (List.mem_of_getElem? (i := 123) rfl)) rfl)⟩⟩
set_option maxRecDepth 20000 in
theorem zVl0_32 : zVok (((0, 218, 0), 38, 0, 1)) := ⟨_, _, rfl, rfl, by decide, ⟨rfl, by decide +kernel, _, rfl, (zw (zin2 (List.mem_of_getElem? (i := 125) rfl)) rfl), (zw (zin2 (List.mem_of_getElem? (i := 126) rfl)) rfl), (zw (zin2 (List.mem_of_getElem? (i := 127) rfl)) rfl)⟩⟩
set_option maxRecDepth 20000 in
theorem zVl0_33 : zVok (((1, 73, 0), 20, 1, 1)) := ⟨_, _, rfl, rfl, by decide, ⟨rfl, by decide +kernel, _, rfl, (zw (zin2 (List.mem_of_getElem? (i := 44) rfl)) rfl), (zw (zin2 (List.mem_of_getElem? (i := 45) rfl)) rfl), (zw (zin2 (List.mem_of_getElem? (i := 46) rfl)) rfl)⟩⟩
set_option maxRecDepth 20000 in
theorem zVl0_34 : zVok (((1, 51, 0), 21, 2, 1)) := ⟨_, _, rfl, rfl, by decide, ⟨rfl, by decide +kernel, _, rfl, (zw (zin2 (List.mem_of_getElem? (i := 50) rfl)) rfl), (zw (zin2 (List.mem_of_getElem? (i := 51) rfl)) rfl), (zw (zin2 (List.mem_of_getElem? (i := 52) rfl)) rfl)⟩⟩
set_option maxRecDepth 20000 in
theorem zVl0_35 : zVok (((2, 36, 0), 23, 2, 2)) := ⟨_, _, rfl, rfl, by decide, ⟨rfl, by decide +kernel, _, rfl, (zw (zin2 (List.mem_of_getElem? (i := 58) rfl)) rfl), (zw (zin2 (List.mem_of_getElem? (i := 60) rfl)) rfl), (zw (zinp (List.mem_of_getElem? (i := 3) rfl)) rfl)⟩⟩
set_option maxRecDepth 20000 in
theorem zVl0_36 : zVok (((2, 48, 0), 24, 1, 1)) := ⟨_, _, rfl, rfl, by decide, ⟨rfl, by decide +kernel, _, rfl, (zw (zin2 (List.mem_of_getElem? (i := 64) rfl)) rfl), (zw (zin2 (List.mem_of_getElem? (i := 65) rfl)) rfl), (zw (zin2 (List.mem_of_getElem? (i := 66) rfl)) rfl)⟩⟩
set_option maxRecDepth 20000 in
theorem zVl0_37 : zVok (((2, 52, 0), 25, 1, 1)) := ⟨_, _, rfl, rfl, by decide, ⟨rfl, by decide +kernel, _, rfl, (zw (zin2 (List.mem_of_getElem? (i := 71) rfl)) rfl), (zw (zin2 (List.mem_of_getElem? (i := 72) rfl)) rfl), (zw (zin2 (List.mem_of_getElem? (i := 73) rfl)) rfl)⟩⟩
set_option maxRecDepth 20000 in
theorem zVl0_38 : zVok (((2, 59, 0), 20, 1, 1)) := ⟨_, _, rfl, rfl, by decide, ⟨rfl, by decide +kernel, _, rfl, (zw (zin2 (List.mem_of_getElem? (i := 63) rfl)) rfl), (zw (zin2 (List.mem_of_getElem? (i := 45) rfl)) rfl), (zw (zin2 (List.mem_of_getElem? (i := 46) rfl)) rfl)⟩⟩
set_option maxRecDepth 20000 in
theorem zVl0_39 : zVok (((2, 65, 0), 30, 1, 2)) := ⟨_, _, rfl, rfl, by decide, ⟨rfl, by decide +kernel, _, rfl, (zw (zin2 (List.mem_of_getElem? (i := 92) rfl)) rfl), (zw (zin2 (List.mem_of_getElem? (i := 94) rfl)) rfl), (zw (zinp (List.mem_of_getElem? (i := 6) rfl)) rfl)⟩⟩
set_option maxRecDepth 20000 in
theorem zVl0_40 : zVok (((2, 69, 3), 32, 3, 0)) := ⟨_, _, rfl, rfl, by decide, ⟨rfl, by decide +kernel, (zw (zin2 (List.mem_of_getElem? (i := 101) rfl)) rfl), (zw (zin2 (List.mem_of_getElem? (i := 102) rfl)) rfl)⟩⟩
set_option maxRecDepth 20000 in
theorem zVl0_41 : zVok (((2, 78, 0), 4, 0, 1)) := ⟨_, _, rfl, rfl, by decide, ⟨rfl, by decide +kernel, _, rfl, (zw (zin2 (List.mem_of_getElem? (i := 62) rfl)) rfl), (zw (zin1 (List.mem_of_getElem? (i := 58) rfl)) rfl), (zw (zin1 (List.mem_of_getElem? (i := 59) rfl)) rfl)⟩⟩
set_option maxRecDepth 20000 in
theorem zVl0_42 : zVok (((1, 76, 0), 26, 3, 1)) := ⟨_, _, rfl, rfl, by decide, ⟨rfl, by decide +kernel, _, rfl, (zw (zin2 (List.mem_of_getElem? (i := 75) rfl)) rfl), (zw (zin2 (List.mem_of_getElem? (i := 77) rfl)) rfl), (zw (zinp (List.mem_of_getElem? (i := 4) rfl)) rfl)⟩⟩
set_option maxRecDepth 20000 in
theorem zVl0_43 : zVok (((1, 80, 0), 27, 5, 1)) := ⟨_, _, rfl, rfl, by decide, ⟨rfl, by decide +kernel, _, rfl, (zw (zin2 (List.mem_of_getElem? (i := 79) rfl)) rfl), (zw (zin2 (List.mem_of_getElem? (i := 81) rfl)) rfl), (zw (zinp (List.mem_of_getElem? (i := 5) rfl)) rfl)⟩⟩
set_option maxRecDepth 20000 in
theorem zVl0_44 : zVok (((1, 83, 3), 29, 1, 0)) := ⟨_, _, rfl, rfl, by decide, ⟨rfl, by decide +kernel, (zw (zin2 (List.mem_of_getElem? (i := 86) rfl)) rfl), (zw (zin2 (List.mem_of_getElem? (i := 87) rfl)) rfl)⟩⟩
set_option maxRecDepth 20000 in
theorem zVl0_45 : zVok (((1, 54, 4), 28, 2, 0)) := ⟨_, _, rfl, rfl, by decide, ⟨rfl, by decide +kernel, ⟨_, (zx (zin2 (List.mem_of_getElem? (i := 83) rfl)) rfl)⟩, (zw (zin2 (List.mem_of_getElem? (i := 84) rfl)) rfl)⟩⟩
set_option maxRecDepth 20000 in
theorem zVl0_46 : zVok (((2, 86, 0), 31, 2, 2)) := ⟨_, _, rfl, rfl, by decide, ⟨rfl, by decide +kernel, _, rfl, (zw (zin2 (List.mem_of_getElem? (i := 96) rfl)) rfl), (zw (zin2 (List.mem_of_getElem? (i := 98) rfl)) rfl), (zw (zinp (List.mem_of_getElem? (i := 7) rfl)) rfl)⟩⟩
set_option maxRecDepth 20000 in
theorem zVl0_47 : zVok (((2, 82, 0), 33, 1, 2)) := ⟨_, _, rfl, rfl, by decide, ⟨rfl, by decide +kernel, _, rfl, (zw (zin2 (List.mem_of_getElem? (i := 104) rfl)) rfl), (zw (zin2 (List.mem_of_getElem? (i := 106) rfl)) rfl), (zw (zinp (List.mem_of_getElem? (i := 8) rfl)) rfl)⟩⟩
set_option maxRecDepth 20000 in
theorem zVl0_48 : zVok (((2, 90, 4), 28, 2, 0)) := ⟨_, _, rfl, rfl, by decide, ⟨rfl, by decide +kernel, ⟨_, (zx (zin2 (List.mem_of_getElem? (i := 108) rfl)) rfl)⟩, (zw (zin2 (List.mem_of_getElem? (i := 84) rfl)) rfl)⟩⟩
set_option maxRecDepth 20000 in
theorem zVl0_49 : zVok (((2, 94, 0), 34, 2, 2)) := ⟨_, _, rfl, rfl, by decide, ⟨rfl, by decide +kernel, _, rfl, (zw (zin2 (List.mem_of_getElem? (i := 109) rfl)) rfl), (zw (zin2 (List.mem_of_getElem? (i := 111) rfl)) rfl), (zw (zinp (List.mem_of_getElem? (i := 9) rfl)) rfl)⟩⟩
set_option maxRecDepth 20000 in
theorem zVl0_50 : zVok (((1, 91, 0), 36, 1, 1)) := ⟨_, _, rfl, rfl, by decide, ⟨rfl, by decide +kernel, _, rfl, (zw (zin2 (List.mem_of_getElem? (i := 117) rfl)) rfl), (zw (zin2 (List.mem_of_getElem? (i := 118) rfl)) rfl), (zw (zin2 (List.mem_of_getElem? (i := 119) rfl)) rfl)⟩⟩
set_option maxRecDepth 20000 in
theorem zVl0_51 : zVok (((0, 86, 3), 40, 2, 0)) := ⟨_, _, rfl, rfl, by decide, ⟨rfl, by decide +kernel, (zw (zin2 (List.mem_of_getElem? (i := 134) rfl)) rfl), (zw (zin2 (List.mem_of_getElem? (i := 135) rfl)) rfl)⟩⟩
set_option maxRecDepth 20000 in
theorem zVl0_52 : zVok (((0, 187, 0), 41, 2, 1)) := ⟨_, _, rfl, rfl, by decide, ⟨rfl, by decide +kernel, _, rfl, (zw (zin2 (List.mem_of_getElem? (i := 138) rfl)) rfl), (zw (zin2 (List.mem_of_getElem? (i := 139) rfl)) rfl), (zw (zin2 (List.mem_of_getElem? (i := 140) rfl)) rfl)⟩⟩
set_option maxRecDepth 20000 in
theorem zVl0_53 : zVok (((0, 58, 3), 43, 2, 0)) := ⟨_, _, rfl, rfl, by decide, ⟨rfl, by decide +kernel, (zw (zin2 (List.mem_of_getElem? (i := 147) rfl)) rfl), (zw (zin2 (List.mem_of_getElem? (i := 148) rfl)) rfl)⟩⟩
set_option maxRecDepth 20000 in
theorem zVl0_54 : zVok (((0, 83, 0), 36, 1, 1)) := ⟨_, _, rfl, rfl, by decide, ⟨rfl, by decide +kernel, _, rfl, (zw (zin2 (List.mem_of_getElem? (i := 151) rfl)) rfl), (zw (zin2 (List.mem_of_getElem? (i := 118) rfl)) rfl), (zw (zin2 (List.mem_of_getElem? (i := 119) rfl)) rfl)⟩⟩
set_option maxRecDepth 20000 in
theorem zVl0_55 : zVok (((0, 191, 3), 44, 1, 0)) := ⟨_, _, rfl, rfl, by decide, ⟨rfl, by decide +kernel, (zw (zin2 (List.mem_of_getElem? (i := 152) rfl)) rfl), (zw (zin2 (List.mem_of_getElem? (i := 153) rfl)) rfl)⟩⟩
set_option maxRecDepth 20000 in
theorem zVl0_56 : zVok (((0, 75, 0), 20, 1, 1)) := ⟨_, _, rfl, rfl, by decide, ⟨rfl, by decide +kernel, _, rfl, (zw (zin2 (List.mem_of_getElem? (i := 155) rfl)) rfl), (zw (zin2 (List.mem_of_getElem? (i := 45) rfl)) rfl), (zw (zin2 (List.mem_of_getElem? (i := 46) rfl)) rfl)⟩⟩
set_option maxRecDepth 20000 in
theorem zVl0_57 : zVok (((0, 78, 3), 29, 1, 0)) := ⟨_, _, rfl, rfl, by decide, ⟨rfl, by decide +kernel, (zw (zin2 (List.mem_of_getElem? (i := 156) rfl)) rfl), (zw (zin2 (List.mem_of_getElem? (i := 87) rfl)) rfl)⟩⟩
set_option maxRecDepth 20000 in
theorem zVl0_58 : zVok (((0, 194, 0), 45, 2, 1)) := ⟨_, _, rfl, rfl, by decide, ⟨rfl, by decide +kernel, _, rfl, (zw (zin2 (List.mem_of_getElem? (i := 157) rfl)) rfl), (zw (zin2 (List.mem_of_getElem? (i := 158) rfl)) rfl), (zw (zin2 (List.mem_of_getElem? (i := 159) rfl)) rfl)⟩⟩
set_option maxRecDepth 20000 in
theorem zVl0_59 : zVok (((0, 62, 0), 6, 1, 1)) := ⟨_, _, rfl, rfl, by decide, ⟨rfl, by decide +kernel, _, rfl, (zw (zin2 (List.mem_of_getElem? (i := 161) rfl)) rfl), (zw (zin1 (List.mem_of_getElem? (i := 66) rfl)) rfl), (zw (zin1 (List.mem_of_getElem? (i := 67) rfl)) rfl)⟩⟩
theorem zVl0_ok : ∀ e ∈ zVl0, zVok e := List.forall_mem_cons.mpr ⟨zVl0_0, List.forall_mem_cons.mpr ⟨zVl0_1, List.forall_mem_cons.mpr ⟨zVl0_2, List.forall_mem_cons.mpr ⟨zVl0_3, List.forall_mem_cons.mpr ⟨zVl0_4, List.forall_mem_cons.mpr ⟨zVl0_5, List.forall_mem_cons.mpr ⟨zVl0_6, List.forall_mem_cons.mpr ⟨zVl0_7, List.forall_mem_cons.mpr ⟨zVl0_8, List.forall_mem_cons.mpr ⟨zVl0_9, List.forall_mem_cons.mpr ⟨zVl0_10, List.forall_mem_cons.mpr ⟨zVl0_11, List.forall_mem_cons.mpr ⟨zVl0_12, List.forall_mem_cons.mpr ⟨zVl0_13, List.forall_mem_cons.mpr ⟨zVl0_14, List.forall_mem_cons.mpr ⟨zVl0_15, List.forall_mem_cons.mpr ⟨zVl0_16, List.forall_mem_cons.mpr ⟨zVl0_17, List.forall_mem_cons.mpr ⟨zVl0_18, List.forall_mem_cons.mpr ⟨zVl0_19, List.forall_mem_cons.mpr ⟨zVl0_20, List.forall_mem_cons.mpr ⟨zVl0_21, List.forall_mem_cons.mpr ⟨zVl0_22, List.forall_mem_cons.mpr ⟨zVl0_23, List.forall_mem_cons.mpr ⟨zVl0_24, List.forall_mem_cons.mpr ⟨zVl0_25, List.forall_mem_cons.mpr ⟨zVl0_26, List.forall_mem_cons.mpr ⟨zVl0_27, List.forall_mem_cons.mpr ⟨zVl0_28, List.forall_mem_cons.mpr ⟨zVl0_29, List.forall_mem_cons.mpr ⟨zVl0_30, List.forall_mem_cons.mpr ⟨zVl0_31, List.forall_mem_cons.mpr ⟨zVl0_32, List.forall_mem_cons.mpr ⟨zVl0_33, List.forall_mem_cons.mpr ⟨zVl0_34, List.forall_mem_cons.mpr ⟨zVl0_35, List.forall_mem_cons.mpr ⟨zVl0_36, List.forall_mem_cons.mpr ⟨zVl0_37, List.forall_mem_cons.mpr ⟨zVl0_38, List.forall_mem_cons.mpr ⟨zVl0_39, List.forall_mem_cons.mpr ⟨zVl0_40, List.forall_mem_cons.mpr ⟨zVl0_41, List.forall_mem_cons.mpr ⟨zVl0_42, List.forall_mem_cons.mpr ⟨zVl0_43, List.forall_mem_cons.mpr ⟨zVl0_44, List.forall_mem_cons.mpr ⟨zVl0_45, List.forall_mem_cons.mpr ⟨zVl0_46, List.forall_mem_cons.mpr ⟨zVl0_47, List.forall_mem_cons.mpr ⟨zVl0_48, List.forall_mem_cons.mpr ⟨zVl0_49, List.forall_mem_cons.mpr ⟨zVl0_50, List.forall_mem_cons.mpr ⟨zVl0_51, List.forall_mem_cons.mpr ⟨zVl0_52, List.forall_mem_cons.mpr ⟨zVl0_53, List.forall_mem_cons.mpr ⟨zVl0_54, List.forall_mem_cons.mpr ⟨zVl0_55, List.forall_mem_cons.mpr ⟨zVl0_56, List.forall_mem_cons.mpr ⟨zVl0_57, List.forall_mem_cons.mpr ⟨zVl0_58, List.forall_mem_cons.mpr ⟨zVl0_59, fun _ h => absurd h List.not_mem_nil⟩⟩⟩⟩⟩⟩⟩⟩⟩⟩⟩⟩⟩⟩⟩⟩⟩⟩⟩⟩⟩⟩⟩⟩⟩⟩⟩⟩⟩⟩⟩⟩⟩⟩⟩⟩⟩⟩⟩⟩⟩⟩⟩⟩⟩⟩⟩⟩⟩⟩⟩⟩⟩⟩⟩⟩⟩⟩⟩⟩
def zVl1 : List (zVe) := [((0, 203, 3), 28, 2, 0),
  ((0, 241, 0), 48, 1, 2),
  ((0, 248, 0), 50, 0, 1),
  ((0, 252, 0), 52, 1, 2),
  ((1, 94, 0), 51, 1, 1),
  ((2, 106, 0), 15, 0, 1),
  ((2, 109, 0), 16, 1, 1),
  ((2, 103, 0), 53, 1, 2),
  ((2, 100, 0), 54, 0, 2),
  ((0, 135, 0), 16, 1, 1),
  ((0, 244, 0), 57, 1, 2),
  ((0, 261, 0), 59, 0, 2),
  ((2, 112, 0), 60, 1, 2),
  ((0, 264, 0), 62, 2, 1),
  ((1, 110, 0), 63, 2, 1),
  ((1, 107, 0), 64, 2, 1),
  ((1, 113, 4), 65, 1, 0),
  ((5, 7, 0), 68, 2, 0),
  ((0, 50, 5), 69, 2, 0),
  ((6, 11, 6), 8, 0, 0),
  ((6, 27, 5), 1, 2, 0),
  ((5, 23, 0), 71, 3, 0),
  ((0, 66, 3), 72, 2, 0),
  ((0, 72, 0), 5, 2, 1),
  ((5, 29, 0), 74, 2, 0),
  ((5, 32, 0), 76, 3, 0),
  ((0, 89, 3), 77, 2, 0),
  ((0, 92, 0), 78, 3, 0),
  ((0, 106, 3), 79, 1, 0),
  ((0, 113, 0), 3, 5, 1),
  ((0, 147, 0), 24, 1, 1),
  ((5, 36, 0), 81, 1, 0),
  ((0, 120, 0), 25, 1, 1),
  ((5, 40, 0), 83, 3, 0),
  ((0, 125, 0), 84, 1, 4),
  ((5, 44, 0), 86, 2, 0),
  ((0, 131, 0), 87, 0, 4),
  ((0, 138, 0), 88, 0, 4),
  ((5, 48, 0), 90, 2, 0),
  ((0, 143, 3), 91, 1, 0),
  ((0, 151, 0), 92, 2, 1),
  ((1, 103, 0), 93, 4, 1),
  ((1, 116, 0), 41, 2, 1),
  ((5, 51, 0), 95, 3, 0),
  ((0, 167, 0), 96, 2, 1),
  ((5, 54, 0), 98, 1, 0),
  ((0, 175, 0), 99, 0, 1),
  ((0, 178, 0), 2, 0, 1),
  ((1, 58, 0), 100, 1, 1),
  ((1, 61, 4), 101, 1, 0),
  ((1, 64, 4), 44, 1, 0),
  ((5, 57, 0), 103, 1, 0),
  ((5, 60, 0), 39, 3, 0),
  ((5, 63, 0), 42, 3, 0),
  ((5, 66, 0), 46, 3, 0),
  ((5, 69, 0), 18, 2, 0),
  ((5, 72, 0), 109, 1, 0),
  ((0, 223, 5), 110, 0, 0),
  ((0, 224, 0), 112, 1, 5),
  ((0, 228, 0), 21, 2, 1)]
set_option maxRecDepth 20000 in
theorem zVl1_0 : zVok (((0, 203, 3), 28, 2, 0)) := ⟨_, _, rfl, rfl, by decide, ⟨rfl, by decide +kernel, (zw (zin2 (List.mem_of_getElem? (i := 167) rfl)) rfl), (zw (zin2 (List.mem_of_getElem? (i := 84) rfl)) rfl)⟩⟩
set_option maxRecDepth 20000 in
theorem zVl1_1 : zVok (((0, 241, 0), 48, 1, 2)) := ⟨_, _, rfl, rfl, by decide, ⟨rfl, by decide +kernel, _, rfl, (zw (zin2 (List.mem_of_getElem? (i := 173) rfl)) rfl), (zw (zin2 (List.mem_of_getElem? (i := 174) rfl)) rfl), (zw (zin2 (List.mem_of_getElem? (i := 175) rfl)) rfl)⟩⟩
set_option maxRecDepth 20000 in
theorem zVl1_2 : zVok (((0, 248, 0), 50, 0, 1)) := ⟨_, _, rfl, rfl, by decide, ⟨rfl, by decide +kernel, _, rfl, (zw (zin2 (List.mem_of_getElem? (i := 182) rfl)) rfl), (zw (zin2 (List.mem_of_getElem? (i := 183) rfl)) rfl), (zw (zin2 (List.mem_of_getElem? (i := 184) rfl)) rfl)⟩⟩
set_option maxRecDepth 20000 in
theorem zVl1_3 : zVok (((0, 252, 0), 52, 1, 2)) := ⟨_, _, rfl, rfl, by decide, ⟨rfl, by decide +kernel, _, rfl, (zw (zin2 (List.mem_of_getElem? (i := 190) rfl)) rfl), (zw (zin2 (List.mem_of_getElem? (i := 191) rfl)) rfl), (zw (zin2 (List.mem_of_getElem? (i := 192) rfl)) rfl)⟩⟩
set_option maxRecDepth 20000 in
theorem zVl1_4 : zVok (((1, 94, 0), 51, 1, 1)) := ⟨_, _, rfl, rfl, by decide, ⟨rfl, by decide +kernel, _, rfl, (zw (zin2 (List.mem_of_getElem? (i := 186) rfl)) rfl), (zw (zin2 (List.mem_of_getElem? (i := 188) rfl)) rfl), (zw (zinp (List.mem_of_getElem? (i := 10) rfl)) rfl)⟩⟩
set_option maxRecDepth 20000 in
theorem zVl1_5 : zVok (((2, 106, 0), 15, 0, 1)) := ⟨_, _, rfl, rfl, by decide, ⟨rfl, by decide +kernel, _, rfl, (zw (zin2 (List.mem_of_getElem? (i := 194) rfl)) rfl), (zw (zin2 (List.mem_of_getElem? (i := 25) rfl)) rfl), (zw (zin2 (List.mem_of_getElem? (i := 26) rfl)) rfl)⟩⟩
set_option maxRecDepth 20000 in
theorem zVl1_6 : zVok (((2, 109, 0), 16, 1, 1)) := ⟨_, _, rfl, rfl, by decide, ⟨rfl, by decide +kernel, _, rfl, (zw (zin2 (List.mem_of_getElem? (i := 195) rfl)) rfl), (zw (zin2 (List.mem_of_getElem? (i := 29) rfl)) rfl), (zw (zin2 (List.mem_of_getElem? (i := 30) rfl)) rfl)⟩⟩
set_option maxRecDepth 20000 in
theorem zVl1_7 : zVok (((2, 103, 0), 53, 1, 2)) := ⟨_, _, rfl, rfl, by decide, ⟨rfl, by decide +kernel, _, rfl, (zw (zin2 (List.mem_of_getElem? (i := 196) rfl)) rfl), (zw (zin2 (List.mem_of_getElem? (i := 198) rfl)) rfl), (zw (zinp (List.mem_of_getElem? (i := 11) rfl)) rfl)⟩⟩
set_option maxRecDepth 20000 in
theorem zVl1_8 : zVok (((2, 100, 0), 54, 0, 2)) := ⟨_, _, rfl, rfl, by decide, ⟨rfl, by decide +kernel, _, rfl, (zw (zin2 (List.mem_of_getElem? (i := 200) rfl)) rfl), (zw (zin2 (List.mem_of_getElem? (i := 202) rfl)) rfl), (zw (zinp (List.mem_of_getElem? (i := 12) rfl)) rfl)⟩⟩
set_option maxRecDepth 20000 in
theorem zVl1_9 : zVok (((0, 135, 0), 16, 1, 1)) := ⟨_, _, rfl, rfl, by decide, ⟨rfl, by decide +kernel, _, rfl, (zw (zin2 (List.mem_of_getElem? (i := 212) rfl)) rfl), (zw (zin2 (List.mem_of_getElem? (i := 29) rfl)) rfl), (zw (zin2 (List.mem_of_getElem? (i := 30) rfl)) rfl)⟩⟩
set_option maxRecDepth 20000 in
theorem zVl1_10 : zVok (((0, 244, 0), 57, 1, 2)) := ⟨_, _, rfl, rfl, by decide, ⟨rfl, by decide +kernel, _, rfl, (zw (zin2 (List.mem_of_getElem? (i := 213) rfl)) rfl), (zw (zin2 (List.mem_of_getElem? (i := 214) rfl)) rfl), (zw (zin2 (List.mem_of_getElem? (i := 215) rfl)) rfl)⟩⟩
set_option maxRecDepth 20000 in
theorem zVl1_11 : zVok (((0, 261, 0), 59, 0, 2)) := ⟨_, _, rfl, rfl, by decide, ⟨rfl, by decide +kernel, _, rfl, (zw (zin2 (List.mem_of_getElem? (i := 222) rfl)) rfl), (zw (zin2 (List.mem_of_getElem? (i := 223) rfl)) rfl), (zw (zin2 (List.mem_of_getElem? (i := 224) rfl)) rfl)⟩⟩
set_option maxRecDepth 20000 in
theorem zVl1_12 : zVok (((2, 112, 0), 60, 1, 2)) := ⟨_, _, rfl, rfl, by decide, ⟨rfl, by decide +kernel, _, rfl, (zw (zin2 (List.mem_of_getElem? (i := 226) rfl)) rfl), (zw (zin2 (List.mem_of_getElem? (i := 228) rfl)) rfl), (zw (zinp (List.mem_of_getElem? (i := 13) rfl)) rfl)⟩⟩
set_option maxRecDepth 20000 in
theorem zVl1_13 : zVok (((0, 264, 0), 62, 2, 1)) := ⟨_, _, rfl, rfl, by decide, ⟨rfl, by decide +kernel, _, rfl, (zw (zin2 (List.mem_of_getElem? (i := 234) rfl)) rfl), (zw (zin2 (List.mem_of_getElem? (i := 235) rfl)) rfl), (zw (zin2 (List.mem_of_getElem? (i := 236) rfl)) rfl)⟩⟩
set_option maxRecDepth 20000 in
theorem zVl1_14 : zVok (((1, 110, 0), 63, 2, 1)) := ⟨_, _, rfl, rfl, by decide, ⟨rfl, by decide +kernel, _, rfl, (zw (zin2 (List.mem_of_getElem? (i := 238) rfl)) rfl), (zw (zin3 (List.mem_of_getElem? (i := 0) rfl)) rfl), (zw (zinp (List.mem_of_getElem? (i := 14) rfl)) rfl)⟩⟩
set_option maxRecDepth 20000 in
theorem zVl1_15 : zVok (((1, 107, 0), 64, 2, 1)) := ⟨_, _, rfl, rfl, by decide, ⟨rfl, by decide +kernel, _, rfl, (zw (zin3 (List.mem_of_getElem? (i := 2) rfl)) rfl), (zw (zin3 (List.mem_of_getElem? (i := 4) rfl)) rfl), (zw (zinp (List.mem_of_getElem? (i := 15) rfl)) rfl)⟩⟩
set_option maxRecDepth 20000 in
theorem zVl1_16 : zVok (((1, 113, 4), 65, 1, 0)) := ⟨_, _, rfl, rfl, by decide, ⟨rfl, by decide +kernel, ⟨_, (zx (zin3 (List.mem_of_getElem? (i := 6) rfl)) rfl)⟩, (zw (zin3 (List.mem_of_getElem? (i := 7) rfl)) rfl)⟩⟩
set_option maxRecDepth 20000 in
theorem zVl1_17 : zVok (((5, 7, 0), 68, 2, 0)) := ⟨_, _, rfl, rfl, by decide, ⟨rfl, by decide +kernel, _, rfl, (zw (zin3 (List.mem_of_getElem? (i := 30) rfl)) rfl), (zw (zin3 (List.mem_of_getElem? (i := 31) rfl)) rfl), (zw (zin3 (List.mem_of_getElem? (i := 32) rfl)) rfl)⟩⟩
set_option maxRecDepth 20000 in
theorem zVl1_18 : zVok (((0, 50, 5), 69, 2, 0)) := ⟨_, _, rfl, rfl, by decide, ⟨rfl, by decide +kernel, rfl, rfl, (zw (zin3 (List.mem_of_getElem? (i := 52) rfl)) rfl), (zw (zin3 (List.mem_of_getElem? (i := 53) rfl)) rfl)⟩⟩
set_option maxRecDepth 20000 in
theorem zVl1_19 : zVok (((6, 11, 6), 8, 0, 0)) := ⟨_, _, rfl, rfl, by decide, ⟨rfl, by decide +kernel, rfl, rfl, ⟨_, (zx (zin3 (List.mem_of_getElem? (i := 57) rfl)) rfl)⟩, (zw (zin1 (List.mem_of_getElem? (i := 99) rfl)) rfl)⟩⟩
set_option maxRecDepth 20000 in
theorem zVl1_20 : zVok (((6, 27, 5), 1, 2, 0)) := ⟨_, _, rfl, rfl, by decide, ⟨rfl, by decide +kernel, rfl, rfl, (zw (zin3 (List.mem_of_getElem? (i := 59) rfl)) rfl), (zw (zin1 (List.mem_of_getElem? (i := 46) rfl)) rfl)⟩⟩
set_option maxRecDepth 20000 in
theorem zVl1_21 : zVok (((5, 23, 0), 71, 3, 0)) := ⟨_, _, rfl, rfl, by decide, ⟨rfl, by decide +kernel, _, rfl, (zw (zin3 (List.mem_of_getElem? (i := 89) rfl)) rfl), (zw (zin3 (List.mem_of_getElem? (i := 90) rfl)) rfl), (zw (zin3 (List.mem_of_getElem? (i := 91) rfl)) rfl)⟩⟩
set_option maxRecDepth 20000 in
theorem zVl1_22 : zVok (((0, 66, 3), 72, 2, 0)) := ⟨_, _, rfl, rfl, by decide, ⟨rfl, by decide +kernel, (zw (zin3 (List.mem_of_getElem? (i := 93) rfl)) rfl), (zw (zin3 (List.mem_of_getElem? (i := 94) rfl)) rfl)⟩⟩
set_option maxRecDepth 20000 in
theorem zVl1_23 : zVok (((0, 72, 0), 5, 2, 1)) := ⟨_, _, rfl, rfl, by decide, ⟨rfl, by decide +kernel, _, rfl, (zw (zin3 (List.mem_of_getElem? (i := 97) rfl)) rfl), (zw (zin1 (List.mem_of_getElem? (i := 62) rfl)) rfl), (zw (zin1 (List.mem_of_getElem? (i := 63) rfl)) rfl)⟩⟩
set_option maxRecDepth 20000 in
theorem zVl1_24 : zVok (((5, 29, 0), 74, 2, 0)) := ⟨_, _, rfl, rfl, by decide, ⟨rfl, by decide +kernel, _, rfl, (zw (zin3 (List.mem_of_getElem? (i := 101) rfl)) rfl), (zw (zin3 (List.mem_of_getElem? (i := 102) rfl)) rfl), (zw (zin3 (List.mem_of_getElem? (i := 103) rfl)) rfl)⟩⟩
set_option maxRecDepth 20000 in
theorem zVl1_25 : zVok (((5, 32, 0), 76, 3, 0)) := ⟨_, _, rfl, rfl, by decide, ⟨rfl, by decide +kernel, _, rfl, (zw (zin3 (List.mem_of_getElem? (i := 108) rfl)) rfl), (zw (zin3 (List.mem_of_getElem? (i := 109) rfl)) rfl), (zw (zin3 (List.mem_of_getElem? (i := 110) rfl)) rfl)⟩⟩
set_option maxRecDepth 20000 in
theorem zVl1_26 : zVok (((0, 89, 3), 77, 2, 0)) := ⟨_, _, rfl, rfl, by decide, ⟨rfl, by decide +kernel, (zw (zin3 (List.mem_of_getElem? (i := 112) rfl)) rfl), (zw (zin3 (List.mem_of_getElem? (i := 113) rfl)) rfl)⟩⟩
set_option maxRecDepth 20000 in
theorem zVl1_27 : zVok (((0, 92, 0), 78, 3, 0)) := ⟨_, _, rfl, rfl, by decide, ⟨rfl, by decide +kernel, _, rfl, (zw (zin3 (List.mem_of_getElem? (i := 116) rfl)) rfl), (zw (zin3 (List.mem_of_getElem? (i := 118) rfl)) rfl), (zw (zinp (List.mem_of_getElem? (i := 16) rfl)) rfl)⟩⟩
set_option maxRecDepth 20000 in
theorem zVl1_28 : zVok (((0, 106, 3), 79, 1, 0)) := ⟨_, _, rfl, rfl, by decide, ⟨rfl, by decide +kernel, (zw (zin3 (List.mem_of_getElem? (i := 121) rfl)) rfl), (zw (zin3 (List.mem_of_getElem? (i := 122) rfl)) rfl)⟩⟩
set_option maxRecDepth 20000 in
theorem zVl1_29 : zVok (((0, 113, 0), 3, 5, 1)) := ⟨_, _, rfl, rfl, by decide, ⟨rfl, by decide +kernel, _, rfl, (zw (zin3 (List.mem_of_getElem? (i := 124) rfl)) rfl), (zw (zin1 (List.mem_of_getElem? (i := 54) rfl)) rfl), (zw (zin1 (List.mem_of_getElem? (i := 55) rfl)) rfl)⟩⟩
set_option maxRecDepth 20000 in
theorem zVl1_30 : zVok (((0, 147, 0), 24, 1, 1)) := ⟨_, _, rfl, rfl, by decide, ⟨rfl, by decide +kernel, _, rfl, (zw (zin3 (List.mem_of_getElem? (i := 120) rfl)) rfl), (zw (zin2 (List.mem_of_getElem? (i := 65) rfl)) rfl), (zw (zin2 (List.mem_of_getElem? (i := 66) rfl)) rfl)⟩⟩
set_option maxRecDepth 20000 in
theorem zVl1_31 : zVok (((5, 36, 0), 81, 1, 0)) := ⟨_, _, rfl, rfl, by decide, ⟨rfl, by decide +kernel, _, rfl, (zw (zin3 (List.mem_of_getElem? (i := 128) rfl)) rfl), (zw (zin3 (List.mem_of_getElem? (i := 129) rfl)) rfl), (zw (zin3 (List.mem_of_getElem? (i := 130) rfl)) rfl)⟩⟩
set_option maxRecDepth 20000 in
theorem zVl1_32 : zVok (((0, 120, 0), 25, 1, 1)) := ⟨_, _, rfl, rfl, by decide, ⟨rfl, by decide +kernel, _, rfl, (zw (zin3 (List.mem_of_getElem? (i := 132) rfl)) rfl), (zw (zin2 (List.mem_of_getElem? (i := 72) rfl)) rfl), (zw (zin2 (List.mem_of_getElem? (i := 73) rfl)) rfl)⟩⟩
set_option maxRecDepth 20000 in
theorem zVl1_33 : zVok (((5, 40, 0), 83, 3, 0)) := ⟨_, _, rfl, rfl, by decide, ⟨rfl, by decide +kernel, _, rfl, (zw (zin3 (List.mem_of_getElem? (i := 136) rfl)) rfl), (zw (zin3 (List.mem_of_getElem? (i := 137) rfl)) rfl), (zw (zin3 (List.mem_of_getElem? (i := 138) rfl)) rfl)⟩⟩
set_option maxRecDepth 20000 in
theorem zVl1_34 : zVok (((0, 125, 0), 84, 1, 4)) := ⟨_, _, rfl, rfl, by decide, ⟨rfl, by decide +kernel, _, rfl, (zw (zin3 (List.mem_of_getElem? (i := 141) rfl)) rfl), (zw (zin3 (List.mem_of_getElem? (i := 142) rfl)) rfl), (zw (zin3 (List.mem_of_getElem? (i := 143) rfl)) rfl)⟩⟩
set_option maxRecDepth 20000 in
theorem zVl1_35 : zVok (((5, 44, 0), 86, 2, 0)) := ⟨_, _, rfl, rfl, by decide, ⟨rfl, by decide +kernel, _, rfl, (zw (zin3 (List.mem_of_getElem? (i := 149) rfl)) rfl), (zw (zin3 (List.mem_of_getElem? (i := 150) rfl)) rfl), (zw (zin3 (List.mem_of_getElem? (i := 151) rfl)) rfl)⟩⟩
set_option maxRecDepth 20000 in
theorem zVl1_36 : zVok (((0, 131, 0), 87, 0, 4)) := ⟨_, _, rfl, rfl, by decide, ⟨rfl, by decide +kernel, _, rfl, (zw (zin3 (List.mem_of_getElem? (i := 154) rfl)) rfl), (zw (zin3 (List.mem_of_getElem? (i := 155) rfl)) rfl), (zw (zin3 (List.mem_of_getElem? (i := 156) rfl)) rfl)⟩⟩
set_option maxRecDepth 20000 in
theorem zVl1_37 : zVok (((0, 138, 0), 88, 0, 4)) := ⟨_, _, rfl, rfl, by decide, ⟨rfl, by decide +kernel, _, rfl, (zw (zin3 (List.mem_of_getElem? (i := 158) rfl)) rfl), (zw (zin3 (List.mem_of_getElem? (i := 159) rfl)) rfl), (zw (zin3 (List.mem_of_getElem? (i := 160) rfl)) rfl)⟩⟩
set_option maxRecDepth 20000 in
theorem zVl1_38 : zVok (((5, 48, 0), 90, 2, 0)) := ⟨_, _, rfl, rfl, by decide, ⟨rfl, by decide +kernel, _, rfl, (zw (zin3 (List.mem_of_getElem? (i := 165) rfl)) rfl), (zw (zin3 (List.mem_of_getElem? (i := 166) rfl)) rfl), (zw (zin3 (List.mem_of_getElem? (i := 167) rfl)) rfl)⟩⟩
set_option maxRecDepth 20000 in
theorem zVl1_39 : zVok (((0, 143, 3), 91, 1, 0)) := ⟨_, _, rfl, rfl, by decide, ⟨rfl, by decide +kernel, (zw (zin3 (List.mem_of_getElem? (i := 170) rfl)) rfl), (zw (zin3 (List.mem_of_getElem? (i := 171) rfl)) rfl)⟩⟩
set_option maxRecDepth 20000 in
theorem zVl1_40 : zVok (((0, 151, 0), 92, 2, 1)) := ⟨_, _, rfl, rfl, by decide, ⟨rfl, by decide +kernel, _, rfl, (zw (zin3 (List.mem_of_getElem? (i := 174) rfl)) rfl), (zw (zin3 (List.mem_of_getElem? (i := 175) rfl)) rfl), (zw (zin3 (List.mem_of_getElem? (i := 176) rfl)) rfl)⟩⟩
set_option maxRecDepth 20000 in
theorem zVl1_41 : zVok (((1, 103, 0), 93, 4, 1)) := ⟨_, _, rfl, rfl, by decide, ⟨rfl, by decide +kernel, _, rfl, (zw (zin3 (List.mem_of_getElem? (i := 178) rfl)) rfl), (zw (zin3 (List.mem_of_getElem? (i := 180) rfl)) rfl), (zw (zinp (List.mem_of_getElem? (i := 17) rfl)) rfl)⟩⟩
set_option maxRecDepth 20000 in
theorem zVl1_42 : zVok (((1, 116, 0), 41, 2, 1)) := ⟨_, _, rfl, rfl, by decide, ⟨rfl, by decide +kernel, _, rfl, (zw (zin3 (List.mem_of_getElem? (i := 182) rfl)) rfl), (zw (zin2 (List.mem_of_getElem? (i := 139) rfl)) rfl), (zw (zin2 (List.mem_of_getElem? (i := 140) rfl)) rfl)⟩⟩
set_option maxRecDepth 20000 in
theorem zVl1_43 : zVok (((5, 51, 0), 95, 3, 0)) := ⟨_, _, rfl, rfl, by decide, ⟨rfl, by decide +kernel, _, rfl, (zw (zin3 (List.mem_of_getElem? (i := 186) rfl)) rfl), (zw (zin3 (List.mem_of_getElem? (i := 187) rfl)) rfl), (zw (zin3 (List.mem_of_getElem? (i := 188) rfl)) rfl)⟩⟩
set_option maxRecDepth 20000 in
theorem zVl1_44 : zVok (((0, 167, 0), 96, 2, 1)) := ⟨_, _, rfl, rfl, by decide, ⟨rfl, by decide +kernel, _, rfl, (zw (zin3 (List.mem_of_getElem? (i := 192) rfl)) rfl), (zw (zin3 (List.mem_of_getElem? (i := 193) rfl)) rfl), (zw (zin3 (List.mem_of_getElem? (i := 194) rfl)) rfl)⟩⟩
set_option maxRecDepth 20000 in
theorem zVl1_45 : zVok (((5, 54, 0), 98, 1, 0)) := ⟨_, _, rfl, rfl, by decide, ⟨rfl, by decide +kernel, _, rfl, (zw (zin3 (List.mem_of_getElem? (i := 199) rfl)) rfl), (zw (zin3 (List.mem_of_getElem? (i := 200) rfl)) rfl), (zw (zin3 (List.mem_of_getElem? (i := 201) rfl)) rfl)⟩⟩
set_option maxRecDepth 20000 in
theorem zVl1_46 : zVok (((0, 175, 0), 99, 0, 1)) := ⟨_, _, rfl, rfl, by decide, ⟨rfl, by decide +kernel, _, rfl, (zw (zin3 (List.mem_of_getElem? (i := 204) rfl)) rfl), (zw (zin3 (List.mem_of_getElem? (i := 205) rfl)) rfl), (zw (zin3 (List.mem_of_getElem? (i := 206) rfl)) rfl)⟩⟩
set_option maxRecDepth 20000 in
theorem zVl1_47 : zVok (((0, 178, 0), 2, 0, 1)) := ⟨_, _, rfl, rfl, by decide, ⟨rfl, by decide +kernel, _, rfl, (zw (zin3 (List.mem_of_getElem? (i := 216) rfl)) rfl), (zw (zin1 (List.mem_of_getElem? (i := 50) rfl)) rfl), (zw (zin1 (List.mem_of_getElem? (i := 51) rfl)) rfl)⟩⟩
set_option maxRecDepth 20000 in
theorem zVl1_48 : zVok (((1, 58, 0), 100, 1, 1)) := ⟨_, _, rfl, rfl, by decide, ⟨rfl, by decide +kernel, _, rfl, (zw (zin3 (List.mem_of_getElem? (i := 208) rfl)) rfl), (zw (zin3 (List.mem_of_getElem? (i := 210) rfl)) rfl), (zw (zinp (List.mem_of_getElem? (i := 18) rfl)) rfl)⟩⟩
set_option maxRecDepth 20000 in
theorem zVl1_49 : zVok (((1, 61, 4), 101, 1, 0)) := ⟨_, _, rfl, rfl, by decide, ⟨rfl, by decide +kernel, ⟨_, (zx (zin3 (List.mem_of_getElem? (i := 212) rfl)) rfl)⟩, (zw (zin3 (List.mem_of_getElem? (i := 213) rfl)) rfl)⟩⟩
set_option maxRecDepth 20000 in
theorem zVl1_50 : zVok (((1, 64, 4), 44, 1, 0)) := ⟨_, _, rfl, rfl, by decide, ⟨rfl, by decide +kernel, ⟨_, (zx (zin3 (List.mem_of_getElem? (i := 215) rfl)) rfl)⟩, (zw (zin2 (List.mem_of_getElem? (i := 153) rfl)) rfl)⟩⟩
set_option maxRecDepth 20000 in
theorem zVl1_51 : zVok (((5, 57, 0), 103, 1, 0)) := ⟨_, _, rfl, rfl, by decide, ⟨rfl, by decide +kernel, _, rfl, (zw (zin3 (List.mem_of_getElem? (i := 220) rfl)) rfl), (zw (zin3 (List.mem_of_getElem? (i := 221) rfl)) rfl), (zw (zin3 (List.mem_of_getElem? (i := 222) rfl)) rfl)⟩⟩
set_option maxRecDepth 20000 in
theorem zVl1_52 : zVok (((5, 60, 0), 39, 3, 0)) := ⟨_, _, rfl, rfl, by decide, ⟨rfl, by decide +kernel, _, rfl, (zw (zin3 (List.mem_of_getElem? (i := 227) rfl)) rfl), (zw (zin2 (List.mem_of_getElem? (i := 131) rfl)) rfl), (zw (zin2 (List.mem_of_getElem? (i := 132) rfl)) rfl)⟩⟩
set_option maxRecDepth 20000 in
theorem zVl1_53 : zVok (((5, 63, 0), 42, 3, 0)) := ⟨_, _, rfl, rfl, by decide, ⟨rfl, by decide +kernel, _, rfl, (zw (zin3 (List.mem_of_getElem? (i := 231) rfl)) rfl), (zw (zin2 (List.mem_of_getElem? (i := 144) rfl)) rfl), (zw (zin2 (List.mem_of_getElem? (i := 145) rfl)) rfl)⟩⟩
set_option maxRecDepth 20000 in
theorem zVl1_54 : zVok (((5, 66, 0), 46, 3, 0)) := ⟨_, _, rfl, rfl, by decide, ⟨rfl, by decide +kernel, _, rfl, (zw (zin3 (List.mem_of_getElem? (i := 235) rfl)) rfl), (zw (zin2 (List.mem_of_getElem? (i := 163) rfl)) rfl), (zw (zin2 (List.mem_of_getElem? (i := 164) rfl)) rfl)⟩⟩
set_option maxRecDepth 20000 in
theorem zVl1_55 : zVok (((5, 69, 0), 18, 2, 0)) := ⟨_, _, rfl, rfl, by decide, ⟨rfl, by decide +kernel, _, rfl, (zw (zin3 (List.mem_of_getElem? (i := 239) rfl)) rfl), (zw (zin2 (List.mem_of_getElem? (i := 37) rfl)) rfl), (zw (zin2 (List.mem_of_getElem? (i := 38) rfl)) rfl)⟩⟩
set_option maxRecDepth 20000 in
theorem zVl1_56 : zVok (((5, 72, 0), 109, 1, 0)) := ⟨_, _, rfl, rfl, by decide, ⟨rfl, by decide +kernel, _, rfl, (zw (zin4 (List.mem_of_getElem? (i := 3) rfl)) rfl), (zw (zin4 (List.mem_of_getElem? (i := 4) rfl)) rfl), (zw (zin4 (List.mem_of_getElem? (i := 5) rfl)) rfl)⟩⟩
set_option maxRecDepth 20000 in
theorem zVl1_57 : zVok (((0, 223, 5), 110, 0, 0)) := ⟨_, _, rfl, rfl, by decide, ⟨rfl, by decide +kernel, rfl, rfl, (zw (zin4 (List.mem_of_getElem? (i := 9) rfl)) rfl), (zw (zin4 (List.mem_of_getElem? (i := 10) rfl)) rfl)⟩⟩
set_option maxRecDepth 20000 in
theorem zVl1_58 : zVok (((0, 224, 0), 112, 1, 5)) := ⟨_, _, rfl, rfl, by decide, ⟨rfl, by decide +kernel, _, rfl, (zw (zin4 (List.mem_of_getElem? (i := 38) rfl)) rfl), (zw (zin4 (List.mem_of_getElem? (i := 39) rfl)) rfl), (zw (zin4 (List.mem_of_getElem? (i := 40) rfl)) rfl)⟩⟩
set_option maxRecDepth 20000 in
theorem zVl1_59 : zVok (((0, 228, 0), 21, 2, 1)) := ⟨_, _, rfl, rfl, by decide, ⟨rfl, by decide +kernel, _, rfl, (zw (zin4 (List.mem_of_getElem? (i := 131) rfl)) rfl), (zw (zin2 (List.mem_of_getElem? (i := 51) rfl)) rfl), (zw (zin2 (List.mem_of_getElem? (i := 52) rfl)) rfl)⟩⟩
theorem zVl1_ok : ∀ e ∈ zVl1, zVok e := List.forall_mem_cons.mpr ⟨zVl1_0, List.forall_mem_cons.mpr ⟨zVl1_1, List.forall_mem_cons.mpr ⟨zVl1_2, List.forall_mem_cons.mpr ⟨zVl1_3, List.forall_mem_cons.mpr ⟨zVl1_4, List.forall_mem_cons.mpr ⟨zVl1_5, List.forall_mem_cons.mpr ⟨zVl1_6, List.forall_mem_cons.mpr ⟨zVl1_7, List.forall_mem_cons.mpr ⟨zVl1_8, List.forall_mem_cons.mpr ⟨zVl1_9, List.forall_mem_cons.mpr ⟨zVl1_10, List.forall_mem_cons.mpr ⟨zVl1_11, List.forall_mem_cons.mpr ⟨zVl1_12, List.forall_mem_cons.mpr ⟨zVl1_13, List.forall_mem_cons.mpr ⟨zVl1_14, List.forall_mem_cons.mpr ⟨zVl1_15, List.forall_mem_cons.mpr ⟨zVl1_16, List.forall_mem_cons.mpr ⟨zVl1_17, List.forall_mem_cons.mpr ⟨zVl1_18, List.forall_mem_cons.mpr ⟨zVl1_19, List.forall_mem_cons.mpr ⟨zVl1_20, List.forall_mem_cons.mpr ⟨zVl1_21, List.forall_mem_cons.mpr ⟨zVl1_22, List.forall_mem_cons.mpr ⟨zVl1_23, List.forall_mem_cons.mpr ⟨zVl1_24, List.forall_mem_cons.mpr ⟨zVl1_25, List.forall_mem_cons.mpr ⟨zVl1_26, List.forall_mem_cons.mpr ⟨zVl1_27, List.forall_mem_cons.mpr ⟨zVl1_28, List.forall_mem_cons.mpr ⟨zVl1_29, List.forall_mem_cons.mpr ⟨zVl1_30, List.forall_mem_cons.mpr ⟨zVl1_31, List.forall_mem_cons.mpr ⟨zVl1_32, List.forall_mem_cons.mpr ⟨zVl1_33, List.forall_mem_cons.mpr ⟨zVl1_34, List.forall_mem_cons.mpr ⟨zVl1_35, List.forall_mem_cons.mpr ⟨zVl1_36, List.forall_mem_cons.mpr ⟨zVl1_37, List.forall_mem_cons.mpr ⟨zVl1_38, List.forall_mem_cons.mpr ⟨zVl1_39, List.forall_mem_cons.mpr ⟨zVl1_40, List.forall_mem_cons.mpr ⟨zVl1_41, List.forall_mem_cons.mpr ⟨zVl1_42, List.forall_mem_cons.mpr ⟨zVl1_43, List.forall_mem_cons.mpr ⟨zVl1_44, List.forall_mem_cons.mpr ⟨zVl1_45, List.forall_mem_cons.mpr ⟨zVl1_46, List.forall_mem_cons.mpr ⟨zVl1_47, List.forall_mem_cons.mpr ⟨zVl1_48, List.forall_mem_cons.mpr ⟨zVl1_49, List.forall_mem_cons.mpr ⟨zVl1_50, List.forall_mem_cons.mpr ⟨zVl1_51, List.forall_mem_cons.mpr ⟨zVl1_52, List.forall_mem_cons.mpr ⟨zVl1_53, List.forall_mem_cons.mpr ⟨zVl1_54, List.forall_mem_cons.mpr ⟨zVl1_55, List.forall_mem_cons.mpr ⟨zVl1_56, List.forall_mem_cons.mpr ⟨zVl1_57, List.forall_mem_cons.mpr ⟨zVl1_58, List.forall_mem_cons.mpr ⟨zVl1_59, fun _ h => absurd h List.not_mem_nil⟩⟩⟩⟩⟩⟩⟩⟩⟩⟩⟩⟩⟩⟩⟩⟩⟩⟩⟩⟩⟩⟩⟩⟩⟩⟩⟩⟩⟩⟩⟩⟩⟩⟩⟩⟩⟩⟩⟩⟩⟩⟩⟩⟩⟩⟩⟩⟩⟩⟩⟩⟩⟩⟩⟩⟩⟩⟩⟩⟩
def zVl2 : List (zVe) := [((0, 231, 3), 123, 1, 0),
  ((0, 235, 0), 124, 0, 5),
  ((7, 1, 5), 111, 1, 0),
  ((7, 50, 7), 113, 1, 5),
  ((8, 100, 0), 114, 1, 5),
  ((8, 83, 0), 120, 0, 5),
  ((8, 191, 3), 121, 1, 0),
  ((8, 104, 0), 115, 1, 5),
  ((8, 108, 3), 118, 2, 0),
  ((8, 114, 3), 116, 3, 0),
  ((9, 194, 3), 117, 2, 0),
  ((11, 304, 3), 119, 2, 0),
  ((7, 137, 5), 125, 1, 0),
  ((14, 489, 5), 126, 2, 0),
  ((14, 552, 0), 127, 0, 5),
  ((14, 549, 2), 128, 0, 5),
  ((14, 1047, 0), 120, 0, 5),
  ((14, 54, 3), 130, 3, 0),
  ((7, 343, 7), 129, 0, 5),
  ((11, 339, 3), 131, 3, 0),
  ((11, 343, 3), 132, 2, 0),
  ((11, 47, 5), 110, 0, 0),
  ((11, 61, 0), 124, 0, 5),
  ((14, 335, 0), 134, 0, 6),
  ((5, 80, 0), 47, 2, 0),
  ((5, 83, 0), 137, 2, 0),
  ((5, 91, 0), 49, 2, 0),
  ((5, 94, 0), 11, 1, 0),
  ((5, 97, 0), 55, 1, 0),
  ((5, 100, 0), 56, 1, 0),
  ((5, 103, 0), 143, 4, 0),
  ((5, 107, 0), 58, 1, 0),
  ((5, 110, 0), 61, 2, 0),
  ((15, 9, 5), 147, 0, 0),
  ((16, 1, 5), 148, 0, 0),
  ((17, 1, 5), 149, 0, 0),
  ((15, 30, 3), 151, 3, 0),
  ((15, 50, 0), 152, 1, 7),
  ((15, 24, 8), 153, 0, 8),
  ((15, 54, 5), 154, 2, 0),
  ((15, 57, 8), 157, 1, 8),
  ((19, 11, 5), 147, 0, 0),
  ((19, 29, 0), 155, 0, 9),
  ((19, 32, 0), 156, 0, 9),
  ((16, 131, 0), 158, 3, 8),
  ((16, 129, 0), 159, 0, 8),
  ((16, 69, 0), 160, 1, 8),
  ((16, 73, 3), 116, 3, 0),
  ((16, 79, 3), 117, 2, 0),
  ((15, 64, 0), 162, 2, 7),
  ((15, 38, 8), 164, 1, 8),
  ((15, 67, 0), 168, 1, 9),
  ((15, 70, 3), 169, 2, 0),
  ((15, 77, 0), 171, 1, 9),
  ((15, 34, 0), 163, 1, 7),
  ((15, 47, 0), 167, 0, 9),
  ((16, 118, 3), 165, 2, 0),
  ((16, 123, 0), 166, 1, 8),
  ((20, 105, 3), 122, 3, 0),
  ((15, 61, 3), 170, 1, 0)]
set_option maxRecDepth 20000 in
theorem zVl2_0 : zVok (((0, 231, 3), 123, 1, 0)) := ⟨_, _, rfl, rfl, by decide, ⟨rfl, by decide +kernel, (zw (zin4 (List.mem_of_getElem? (i := 132) rfl)) rfl), (zw (zin4 (List.mem_of_getElem? (i := 133) rfl)) rfl)⟩⟩
set_option maxRecDepth 20000 in
theorem zVl2_1 : zVok (((0, 235, 0), 124, 0, 5)) := ⟨_, _, rfl, rfl, by decide, ⟨rfl, by decide +kernel, _, rfl, (zw (zin4 (List.mem_of_getElem? (i := 135) rfl)) rfl), (zw (zin4 (List.mem_of_getElem? (i := 136) rfl)) rfl), (zw (zin4 (List.mem_of_getElem? (i := 137) rfl)) rfl)⟩⟩
set_option maxRecDepth 20000 in
theorem zVl2_2 : zVok (((7, 1, 5), 111, 1, 0)) := ⟨_, _, rfl, rfl, by decide, ⟨rfl, by decide +kernel, rfl, rfl, (zw (zin4 (List.mem_of_getElem? (i := 12) rfl)) rfl), (zw (zin4 (List.mem_of_getElem? (i := 13) rfl)) rfl)⟩⟩
set_option maxRecDepth 20000 in
theorem zVl2_3 : zVok (((7, 50, 7), 113, 1, 5)) := ⟨_, _, rfl, rfl, by decide, ⟨rfl, by decide +kernel, by decide +kernel, _, rfl, rfl, (zw (zin4 (List.mem_of_getElem? (i := 42) rfl)) rfl), (zw (zin7 (List.mem_of_getElem? (i := 120) rfl)) rfl), (zw (zin4 (List.mem_of_getElem? (i := 37) rfl)) rfl), (zw (zin4 (List.mem_of_getElem? (i := 43) rfl)) rfl)⟩⟩
set_option maxRecDepth 20000 in
theorem zVl2_4 : zVok (((8, 100, 0), 114, 1, 5)) := ⟨_, _, rfl, rfl, by decide, ⟨rfl, by decide +kernel, _, rfl, (zw (zin4 (List.mem_of_getElem? (i := 45) rfl)) rfl), (zw (zin4 (List.mem_of_getElem? (i := 47) rfl)) rfl), (zw (zinx (List.mem_of_getElem? (i := 0) rfl)) rfl)⟩⟩
set_option maxRecDepth 20000 in
theorem zVl2_5 : zVok (((8, 83, 0), 120, 0, 5)) := ⟨_, _, rfl, rfl, by decide, ⟨rfl, by decide +kernel, _, rfl, (zw (zin4 (List.mem_of_getElem? (i := 78) rfl)) rfl), (zw (zin4 (List.mem_of_getElem? (i := 79) rfl)) rfl), (zw (zin4 (List.mem_of_getElem? (i := 81) rfl)) rfl)⟩⟩
set_option maxRecDepth 20000 in
theorem zVl2_6 : zVok (((8, 191, 3), 121, 1, 0)) := ⟨_, _, rfl, rfl, by decide, ⟨rfl, by decide +kernel, (zw (zin4 (List.mem_of_getElem? (i := 83) rfl)) rfl), (zw (zin4 (List.mem_of_getElem? (i := 84) rfl)) rfl)⟩⟩
set_option maxRecDepth 20000 in
theorem zVl2_7 : zVok (((8, 104, 0), 115, 1, 5)) := ⟨_, _, rfl, rfl, by decide, ⟨rfl, by decide +kernel, _, rfl, (zw (zin4 (List.mem_of_getElem? (i := 49) rfl)) rfl), (zw (zin4 (List.mem_of_getElem? (i := 51) rfl)) rfl), (zw (zinx (List.mem_of_getElem? (i := 1) rfl)) rfl)⟩⟩
set_option maxRecDepth 20000 in
theorem zVl2_8 : zVok (((8, 108, 3), 118, 2, 0)) := ⟨_, _, rfl, rfl, by decide, ⟨rfl, by decide +kernel, (zw (zin4 (List.mem_of_getElem? (i := 64) rfl)) rfl), (zw (zin4 (List.mem_of_getElem? (i := 65) rfl)) rfl)⟩⟩
set_option maxRecDepth 20000 in
theorem zVl2_9 : zVok (((8, 114, 3), 116, 3, 0)) := ⟨_, _, rfl, rfl, by decide, ⟨rfl, by decide +kernel, (zw (zin4 (List.mem_of_getElem? (i := 53) rfl)) rfl), (zw (zin4 (List.mem_of_getElem? (i := 54) rfl)) rfl)⟩⟩
set_option maxRecDepth 20000 in
theorem zVl2_10 : zVok (((9, 194, 3), 117, 2, 0)) := ⟨_, _, rfl, rfl, by decide, ⟨rfl, by decide +kernel, (zw (zin4 (List.mem_of_getElem? (i := 56) rfl)) rfl), (zw (zin4 (List.mem_of_getElem? (i := 57) rfl)) rfl)⟩⟩
set_option maxRecDepth 20000 in
theorem zVl2_11 : zVok (((11, 304, 3), 119, 2, 0)) := ⟨_, _, rfl, rfl, by decide, ⟨rfl, by decide +kernel, (zw (zin4 (List.mem_of_getElem? (i := 74) rfl)) rfl), (zw (zin4 (List.mem_of_getElem? (i := 75) rfl)) rfl)⟩⟩
set_option maxRecDepth 20000 in
theorem zVl2_12 : zVok (((7, 137, 5), 125, 1, 0)) := ⟨_, _, rfl, rfl, by decide, ⟨rfl, by decide +kernel, rfl, rfl, (zw (zin4 (List.mem_of_getElem? (i := 141) rfl)) rfl), (zw (zin4 (List.mem_of_getElem? (i := 142) rfl)) rfl)⟩⟩
set_option maxRecDepth 20000 in
theorem zVl2_13 : zVok (((14, 489, 5), 126, 2, 0)) := ⟨_, _, rfl, rfl, by decide, ⟨rfl, by decide +kernel, rfl, rfl, (zw (zin4 (List.mem_of_getElem? (i := 144) rfl)) rfl), (zw (zin4 (List.mem_of_getElem? (i := 145) rfl)) rfl)⟩⟩
set_option maxRecDepth 20000 in
theorem zVl2_14 : zVok (((14, 552, 0), 127, 0, 5)) := ⟨_, _, rfl, rfl, by decide, ⟨rfl, by decide +kernel, _, rfl, (zw (zin4 (List.mem_of_getElem? (i := 148) rfl)) rfl), (zw (zin4 (List.mem_of_getElem? (i := 149) rfl)) rfl), (zw (zin4 (List.mem_of_getElem? (i := 151) rfl)) rfl)⟩⟩
set_option maxRecDepth 20000 in
theorem zVl2_15 : zVok (((14, 549, 2), 128, 0, 5)) := ⟨_, _, rfl, rfl, by decide, ⟨rfl, _, ⟨"java/lang/AbstractStringBuilder", "length", "()I"⟩, _, _, _, rfl, by decide +kernel, by decide +kernel, by decide +kernel, (zw (zin4 (List.mem_of_getElem? (i := 153) rfl)) rfl), (zw (zin4 (List.mem_of_getElem? (i := 157) rfl)) rfl), (zw (zin4 (List.mem_of_getElem? (i := 156) rfl)) rfl), (zw (zin4 (List.mem_of_getElem? (i := 155) rfl)) rfl), (zw (zin4 (List.mem_of_getElem? (i := 154) rfl)) rfl), (zw (zin4 (List.mem_of_getElem? (i := 160) rfl)) rfl)⟩⟩
set_option maxRecDepth 20000 in
theorem zVl2_16 : zVok (((14, 1047, 0), 120, 0, 5)) := ⟨_, _, rfl, rfl, by decide, ⟨rfl, by decide +kernel, _, rfl, (zw (zin4 (List.mem_of_getElem? (i := 161) rfl)) rfl), (zw (zin4 (List.mem_of_getElem? (i := 79) rfl)) rfl), (zw (zin4 (List.mem_of_getElem? (i := 81) rfl)) rfl)⟩⟩
set_option maxRecDepth 20000 in
theorem zVl2_17 : zVok (((14, 54, 3), 130, 3, 0)) := ⟨_, _, rfl, rfl, by decide, ⟨rfl, by decide +kernel, (zw (zin4 (List.mem_of_getElem? (i := 162) rfl)) rfl), (zw (zin4 (List.mem_of_getElem? (i := 163) rfl)) rfl)⟩⟩
set_option maxRecDepth 20000 in
theorem zVl2_18 : zVok (((7, 343, 7), 129, 0, 5)) := ⟨_, _, rfl, rfl, by decide, ⟨rfl, by decide +kernel, by decide +kernel, _, rfl, rfl, (zw (zin4 (List.mem_of_getElem? (i := 159) rfl)) rfl), (zw (zin4 (List.mem_of_getElem? (i := 155) rfl)) rfl), (zw (zin4 (List.mem_of_getElem? (i := 37) rfl)) rfl), (zw (zin4 (List.mem_of_getElem? (i := 154) rfl)) rfl)⟩⟩
set_option maxRecDepth 20000 in
theorem zVl2_19 : zVok (((11, 339, 3), 131, 3, 0)) := ⟨_, _, rfl, rfl, by decide, ⟨rfl, by decide +kernel, (zw (zin4 (List.mem_of_getElem? (i := 165) rfl)) rfl), (zw (zin4 (List.mem_of_getElem? (i := 166) rfl)) rfl)⟩⟩
set_option maxRecDepth 20000 in
theorem zVl2_20 : zVok (((11, 343, 3), 132, 2, 0)) := ⟨_, _, rfl, rfl, by decide, ⟨rfl, by decide +kernel, (zw (zin4 (List.mem_of_getElem? (i := 168) rfl)) rfl), (zw (zin4 (List.mem_of_getElem? (i := 169) rfl)) rfl)⟩⟩
set_option maxRecDepth 20000 in
theorem zVl2_21 : zVok (((11, 47, 5), 110, 0, 0)) := ⟨_, _, rfl, rfl, by decide, ⟨rfl, by decide +kernel, rfl, rfl, (zw (zin4 (List.mem_of_getElem? (i := 173) rfl)) rfl), (zw (zin4 (List.mem_of_getElem? (i := 10) rfl)) rfl)⟩⟩
set_option maxRecDepth 20000 in
theorem zVl2_22 : zVok (((11, 61, 0), 124, 0, 5)) := ⟨_, _, rfl, rfl, by decide, ⟨rfl, by decide +kernel, _, rfl, (zw (zin5 (List.mem_of_getElem? (i := 7) rfl)) rfl), (zw (zin4 (List.mem_of_getElem? (i := 136) rfl)) rfl), (zw (zin4 (List.mem_of_getElem? (i := 137) rfl)) rfl)⟩⟩
set_option maxRecDepth 20000 in
theorem zVl2_23 : zVok (((14, 335, 0), 134, 0, 6)) := ⟨_, _, rfl, rfl, by decide, ⟨rfl, by decide +kernel, _, rfl, (zw (zin4 (List.mem_of_getElem? (i := 227) rfl)) rfl), (zw (zin4 (List.mem_of_getElem? (i := 228) rfl)) rfl), (zw (zin4 (List.mem_of_getElem? (i := 229) rfl)) rfl)⟩⟩
set_option maxRecDepth 20000 in
theorem zVl2_24 : zVok (((5, 80, 0), 47, 2, 0)) := ⟨_, _, rfl, rfl, by decide, ⟨rfl, by decide +kernel, _, rfl, (zw (zin5 (List.mem_of_getElem? (i := 36) rfl)) rfl), (zw (zin2 (List.mem_of_getElem? (i := 169) rfl)) rfl), (zw (zin2 (List.mem_of_getElem? (i := 170) rfl)) rfl)⟩⟩
set_option maxRecDepth 20000 in
theorem zVl2_25 : zVok (((5, 83, 0), 137, 2, 0)) := ⟨_, _, rfl, rfl, by decide, ⟨rfl, by decide +kernel, _, rfl, (zw (zin5 (List.mem_of_getElem? (i := 40) rfl)) rfl), (zw (zin5 (List.mem_of_getElem? (i := 41) rfl)) rfl), (zw (zin5 (List.mem_of_getElem? (i := 42) rfl)) rfl)⟩⟩
set_option maxRecDepth 20000 in
theorem zVl2_26 : zVok (((5, 91, 0), 49, 2, 0)) := ⟨_, _, rfl, rfl, by decide, ⟨rfl, by decide +kernel, _, rfl, (zw (zin5 (List.mem_of_getElem? (i := 47) rfl)) rfl), (zw (zin2 (List.mem_of_getElem? (i := 179) rfl)) rfl), (zw (zin2 (List.mem_of_getElem? (i := 180) rfl)) rfl)⟩⟩
set_option maxRecDepth 20000 in
theorem zVl2_27 : zVok (((5, 94, 0), 11, 1, 0)) := ⟨_, _, rfl, rfl, by decide, ⟨rfl, by decide +kernel, _, rfl, (zw (zin5 (List.mem_of_getElem? (i := 51) rfl)) rfl), (zw (zin1 (List.mem_of_getElem? (i := 166) rfl)) rfl), (zw (zin1 (List.mem_of_getElem? (i := 167) rfl)) rfl)⟩⟩
set_option maxRecDepth 20000 in
theorem zVl2_28 : zVok (((5, 97, 0), 55, 1, 0)) := ⟨_, _, rfl, rfl, by decide, ⟨rfl, by decide +kernel, _, rfl, (zw (zin5 (List.mem_of_getElem? (i := 55) rfl)) rfl), (zw (zin2 (List.mem_of_getElem? (i := 205) rfl)) rfl), (zw (zin2 (List.mem_of_getElem? (i := 206) rfl)) rfl)⟩⟩
set_option maxRecDepth 20000 in
theorem zVl2_29 : zVok (((5, 100, 0), 56, 1, 0)) := ⟨_, _, rfl, rfl, by decide, ⟨rfl, by decide +kernel, _, rfl, (zw (zin5 (List.mem_of_getElem? (i := 59) rfl)) rfl), (zw (zin2 (List.mem_of_getElem? (i := 209) rfl)) rfl), (zw (zin2 (List.mem_of_getElem? (i := 210) rfl)) rfl)⟩⟩
set_option maxRecDepth 20000 in
theorem zVl2_30 : zVok (((5, 103, 0), 143, 4, 0)) := ⟨_, _, rfl, rfl, by decide, ⟨rfl, by decide +kernel, _, rfl, (zw (zin5 (List.mem_of_getElem? (i := 63) rfl)) rfl), (zw (zin5 (List.mem_of_getElem? (i := 64) rfl)) rfl), (zw (zin5 (List.mem_of_getElem? (i := 65) rfl)) rfl)⟩⟩
set_option maxRecDepth 20000 in
theorem zVl2_31 : zVok (((5, 107, 0), 58, 1, 0)) := ⟨_, _, rfl, rfl, by decide, ⟨rfl, by decide +kernel, _, rfl, (zw (zin5 (List.mem_of_getElem? (i := 70) rfl)) rfl), (zw (zin2 (List.mem_of_getElem? (i := 219) rfl)) rfl), (zw (zin2 (List.mem_of_getElem? (i := 220) rfl)) rfl)⟩⟩
set_option maxRecDepth 20000 in
theorem zVl2_32 : zVok (((5, 110, 0), 61, 2, 0)) := ⟨_, _, rfl, rfl, by decide, ⟨rfl, by decide +kernel, _, rfl, (zw (zin5 (List.mem_of_getElem? (i := 74) rfl)) rfl), (zw (zin2 (List.mem_of_getElem? (i := 231) rfl)) rfl), (zw (zin2 (List.mem_of_getElem? (i := 232) rfl)) rfl)⟩⟩
set_option maxRecDepth 20000 in
theorem zVl2_33 : zVok (((15, 9, 5), 147, 0, 0)) := ⟨_, _, rfl, rfl, by decide, ⟨rfl, by decide +kernel, rfl, rfl, (zw (zin5 (List.mem_of_getElem? (i := 83) rfl)) rfl), (zw (zin5 (List.mem_of_getElem? (i := 84) rfl)) rfl)⟩⟩
set_option maxRecDepth 20000 in
theorem zVl2_34 : zVok (((16, 1, 5), 148, 0, 0)) := ⟨_, _, rfl, rfl, by decide, ⟨rfl, by decide +kernel, rfl, rfl, (zw (zin5 (List.mem_of_getElem? (i := 86) rfl)) rfl), (zw (zin5 (List.mem_of_getElem? (i := 87) rfl)) rfl)⟩⟩
set_option maxRecDepth 20000 in
theorem zVl2_35 : zVok (((17, 1, 5), 149, 0, 0)) := ⟨_, _, rfl, rfl, by decide, ⟨rfl, by decide +kernel, rfl, rfl, (zw (zin5 (List.mem_of_getElem? (i := 89) rfl)) rfl), (zw (zin5 (List.mem_of_getElem? (i := 90) rfl)) rfl)⟩⟩
set_option maxRecDepth 20000 in
theorem zVl2_36 : zVok (((15, 30, 3), 151, 3, 0)) := ⟨_, _, rfl, rfl, by decide, ⟨rfl, by decide +kernel, (zw (zin5 (List.mem_of_getElem? (i := 125) rfl)) rfl), (zw (zin5 (List.mem_of_getElem? (i := 126) rfl)) rfl)⟩⟩
set_option maxRecDepth 20000 in
theorem zVl2_37 : zVok (((15, 50, 0), 152, 1, 7)) := ⟨_, _, rfl, rfl, by decide, ⟨rfl, by decide +kernel, _, rfl, (zw (zin5 (List.mem_of_getElem? (i := 128) rfl)) rfl), (zw (zin5 (List.mem_of_getElem? (i := 130) rfl)) rfl), (zw (zinp (List.mem_of_getElem? (i := 19) rfl)) rfl)⟩⟩
set_option maxRecDepth 20000 in
theorem zVl2_38 : zVok (((15, 24, 8), 153, 0, 8)) := ⟨_, _, rfl, rfl, by decide, ⟨rfl, _, ⟨"java/util/List", "size", "()I"⟩, rfl, by decide +kernel, by decide +kernel, by decide +kernel, (zw (zin5 (List.mem_of_getElem? (i := 133) rfl)) rfl), (zx (zin5 (List.mem_of_getElem? (i := 135) rfl)) rfl), (zx (zin5 (List.mem_of_getElem? (i := 134) rfl)) (by decide +kernel)), (zw (zin5 (List.mem_of_getElem? (i := 137) rfl)) rfl), (zw (zin5 (List.mem_of_getElem? (i := 139) rfl)) rfl), (zx (zin5 (List.mem_of_getElem? (i := 140) rfl)) rfl), (zx (zin5 (List.mem_of_getElem? (i := 138) rfl)) rfl), (zx (zin5 (List.mem_of_getElem? (i := 136) rfl)) rfl)⟩⟩
set_option maxRecDepth 20000 in
theorem zVl2_39 : zVok (((15, 54, 5), 154, 2, 0)) := ⟨_, _, rfl, rfl, by decide, ⟨rfl, by decide +kernel, rfl, rfl, (zw (zin5 (List.mem_of_getElem? (i := 144) rfl)) rfl), (zw (zin5 (List.mem_of_getElem? (i := 145) rfl)) rfl)⟩⟩
set_option maxRecDepth 20000 in
theorem zVl2_40 : zVok (((15, 57, 8), 157, 1, 8)) := ⟨_, _, rfl, rfl, by decide, ⟨rfl, _, ⟨"java/util/List", "add", "(Ljava/lang/Object;)Z"⟩, rfl, by decide +kernel, by decide +kernel, by decide +kernel, (zw (zin5 (List.mem_of_getElem? (i := 188) rfl)) rfl), (zx (zin5 (List.mem_of_getElem? (i := 190) rfl)) rfl), (zx (zin5 (List.mem_of_getElem? (i := 189) rfl)) (by decide +kernel)), (zw (zin5 (List.mem_of_getElem? (i := 191) rfl)) rfl), (zw (zin5 (List.mem_of_getElem? (i := 193) rfl)) rfl), (zx (zin5 (List.mem_of_getElem? (i := 194) rfl)) rfl), (zx (zin5 (List.mem_of_getElem? (i := 192) rfl)) rfl), (zx (zin5 (List.mem_of_getElem? (i := 136) rfl)) rfl)⟩⟩
set_option maxRecDepth 20000 in
theorem zVl2_41 : zVok (((19, 11, 5), 147, 0, 0)) := ⟨_, _, rfl, rfl, by decide, ⟨rfl, by decide +kernel, rfl, rfl, (zw (zin5 (List.mem_of_getElem? (i := 149) rfl)) rfl), (zw (zin5 (List.mem_of_getElem? (i := 84) rfl)) rfl)⟩⟩
set_option maxRecDepth 20000 in
theorem zVl2_42 : zVok (((19, 29, 0), 155, 0, 9)) := ⟨_, _, rfl, rfl, by decide, ⟨rfl, by decide +kernel, _, rfl, (zw (zin5 (List.mem_of_getElem? (i := 150) rfl)) rfl), (zw (zin5 (List.mem_of_getElem? (i := 151) rfl)) rfl), (zw (zin5 (List.mem_of_getElem? (i := 152) rfl)) rfl)⟩⟩
set_option maxRecDepth 20000 in
theorem zVl2_43 : zVok (((19, 32, 0), 156, 0, 9)) := ⟨_, _, rfl, rfl, by decide, ⟨rfl, by decide +kernel, _, rfl, (zw (zin5 (List.mem_of_getElem? (i := 154) rfl)) rfl), (zw (zin5 (List.mem_of_getElem? (i := 155) rfl)) rfl), (zw (zin5 (List.mem_of_getElem? (i := 156) rfl)) rfl)⟩⟩
set_option maxRecDepth 20000 in
theorem zVl2_44 : zVok (((16, 131, 0), 158, 3, 8)) := ⟨_, _, rfl, rfl, by decide, ⟨rfl, by decide +kernel, _, rfl, (zw (zin5 (List.mem_of_getElem? (i := 196) rfl)) rfl), (zw (zin5 (List.mem_of_getElem? (i := 198) rfl)) rfl), (zw (zinp (List.mem_of_getElem? (i := 20) rfl)) rfl)⟩⟩
set_option maxRecDepth 20000 in
theorem zVl2_45 : zVok (((16, 129, 0), 159, 0, 8)) := ⟨_, _, rfl, rfl, by decide, ⟨rfl, by decide +kernel, _, rfl, (zw (zin5 (List.mem_of_getElem? (i := 200) rfl)) rfl), (zw (zin5 (List.mem_of_getElem? (i := 202) rfl)) rfl), (zw (zinp (List.mem_of_getElem? (i := 21) rfl)) rfl)⟩⟩
set_option maxRecDepth 20000 in
theorem zVl2_46 : zVok (((16, 69, 0), 160, 1, 8)) := ⟨_, _, rfl, rfl, by decide, ⟨rfl, by decide +kernel, _, rfl, (zw (zin5 (List.mem_of_getElem? (i := 204) rfl)) rfl), (zw (zin5 (List.mem_of_getElem? (i := 206) rfl)) rfl), (zw (zinp (List.mem_of_getElem? (i := 22) rfl)) rfl)⟩⟩
set_option maxRecDepth 20000 in
theorem zVl2_47 : zVok (((16, 73, 3), 116, 3, 0)) := ⟨_, _, rfl, rfl, by decide, ⟨rfl, by decide +kernel, (zw (zin5 (List.mem_of_getElem? (i := 208) rfl)) rfl), (zw (zin4 (List.mem_of_getElem? (i := 54) rfl)) rfl)⟩⟩
set_option maxRecDepth 20000 in
theorem zVl2_48 : zVok (((16, 79, 3), 117, 2, 0)) := ⟨_, _, rfl, rfl, by decide, ⟨rfl, by decide +kernel, (zw (zin5 (List.mem_of_getElem? (i := 236) rfl)) rfl), (zw (zin4 (List.mem_of_getElem? (i := 57) rfl)) rfl)⟩⟩
set_option maxRecDepth 20000 in
theorem zVl2_49 : zVok (((15, 64, 0), 162, 2, 7)) := ⟨_, _, rfl, rfl, by decide, ⟨rfl, by decide +kernel, _, rfl, (zw (zin6 (List.mem_of_getElem? (i := 2) rfl)) rfl), (zw (zin6 (List.mem_of_getElem? (i := 4) rfl)) rfl), (zw (zinp (List.mem_of_getElem? (i := 23) rfl)) rfl)⟩⟩
set_option maxRecDepth 20000 in
theorem zVl2_50 : zVok (((15, 38, 8), 164, 1, 8)) := ⟨_, _, rfl, rfl, by decide, ⟨rfl, _, ⟨"java/util/List", "get", "(I)Ljava/lang/Object;"⟩, rfl, by decide +kernel, by decide +kernel, by decide +kernel, (zw (zin6 (List.mem_of_getElem? (i := 11) rfl)) rfl), (zx (zin6 (List.mem_of_getElem? (i := 13) rfl)) rfl), (zx (zin6 (List.mem_of_getElem? (i := 12) rfl)) (by decide +kernel)), (zw (zin6 (List.mem_of_getElem? (i := 14) rfl)) rfl), (zw (zin6 (List.mem_of_getElem? (i := 16) rfl)) rfl), (zx (zin6 (List.mem_of_getElem? (i := 17) rfl)) rfl), (zx (zin6 (List.mem_of_getElem? (i := 15) rfl)) rfl), (zx (zin5 (List.mem_of_getElem? (i := 136) rfl)) rfl)⟩⟩
set_option maxRecDepth 20000 in
theorem zVl2_51 : zVok (((15, 67, 0), 168, 1, 9)) := ⟨_, _, rfl, rfl, by decide, ⟨rfl, by decide +kernel, _, rfl, (zw (zin6 (List.mem_of_getElem? (i := 31) rfl)) rfl), (zw (zin6 (List.mem_of_getElem? (i := 32) rfl)) rfl), (zw (zin6 (List.mem_of_getElem? (i := 33) rfl)) rfl)⟩⟩
set_option maxRecDepth 20000 in
theorem zVl2_52 : zVok (((15, 70, 3), 169, 2, 0)) := ⟨_, _, rfl, rfl, by decide, ⟨rfl, by decide +kernel, (zw (zin6 (List.mem_of_getElem? (i := 35) rfl)) rfl), (zw (zin6 (List.mem_of_getElem? (i := 36) rfl)) rfl)⟩⟩
set_option maxRecDepth 20000 in
theorem zVl2_53 : zVok (((15, 77, 0), 171, 1, 9)) := ⟨_, _, rfl, rfl, by decide, ⟨rfl, by decide +kernel, _, rfl, (zw (zin6 (List.mem_of_getElem? (i := 41) rfl)) rfl), (zw (zin6 (List.mem_of_getElem? (i := 42) rfl)) rfl), (zw (zin6 (List.mem_of_getElem? (i := 43) rfl)) rfl)⟩⟩
set_option maxRecDepth 20000 in
theorem zVl2_54 : zVok (((15, 34, 0), 163, 1, 7)) := ⟨_, _, rfl, rfl, by decide, ⟨rfl, by decide +kernel, _, rfl, (zw (zin6 (List.mem_of_getElem? (i := 6) rfl)) rfl), (zw (zin6 (List.mem_of_getElem? (i := 8) rfl)) rfl), (zw (zinp (List.mem_of_getElem? (i := 24) rfl)) rfl)⟩⟩
set_option maxRecDepth 20000 in
theorem zVl2_55 : zVok (((15, 47, 0), 167, 0, 9)) := ⟨_, _, rfl, rfl, by decide, ⟨rfl, by decide +kernel, _, rfl, (zw (zin6 (List.mem_of_getElem? (i := 27) rfl)) rfl), (zw (zin6 (List.mem_of_getElem? (i := 28) rfl)) rfl), (zw (zin6 (List.mem_of_getElem? (i := 29) rfl)) rfl)⟩⟩
set_option maxRecDepth 20000 in
theorem zVl2_56 : zVok (((16, 118, 3), 165, 2, 0)) := ⟨_, _, rfl, rfl, by decide, ⟨rfl, by decide +kernel, (zw (zin6 (List.mem_of_getElem? (i := 19) rfl)) rfl), (zw (zin6 (List.mem_of_getElem? (i := 20) rfl)) rfl)⟩⟩
set_option maxRecDepth 20000 in
theorem zVl2_57 : zVok (((16, 123, 0), 166, 1, 8)) := ⟨_, _, rfl, rfl, by decide, ⟨rfl, by decide +kernel, _, rfl, (zw (zin6 (List.mem_of_getElem? (i := 23) rfl)) rfl), (zw (zin6 (List.mem_of_getElem? (i := 24) rfl)) rfl), (zw (zin6 (List.mem_of_getElem? (i := 25) rfl)) rfl)⟩⟩
set_option maxRecDepth 20000 in
theorem zVl2_58 : zVok (((20, 105, 3), 122, 3, 0)) := ⟨_, _, rfl, rfl, by decide, ⟨rfl, by decide +kernel, (zw (zin6 (List.mem_of_getElem? (i := 22) rfl)) rfl), (zw (zin4 (List.mem_of_getElem? (i := 129) rfl)) rfl)⟩⟩
set_option maxRecDepth 20000 in
theorem zVl2_59 : zVok (((15, 61, 3), 170, 1, 0)) := ⟨_, _, rfl, rfl, by decide, ⟨rfl, by decide +kernel, (zw (zin6 (List.mem_of_getElem? (i := 38) rfl)) rfl), (zw (zin6 (List.mem_of_getElem? (i := 39) rfl)) rfl)⟩⟩
theorem zVl2_ok : ∀ e ∈ zVl2, zVok e := List.forall_mem_cons.mpr ⟨zVl2_0, List.forall_mem_cons.mpr ⟨zVl2_1, List.forall_mem_cons.mpr ⟨zVl2_2, List.forall_mem_cons.mpr ⟨zVl2_3, List.forall_mem_cons.mpr ⟨zVl2_4, List.forall_mem_cons.mpr ⟨zVl2_5, List.forall_mem_cons.mpr ⟨zVl2_6, List.forall_mem_cons.mpr ⟨zVl2_7, List.forall_mem_cons.mpr ⟨zVl2_8, List.forall_mem_cons.mpr ⟨zVl2_9, List.forall_mem_cons.mpr ⟨zVl2_10, List.forall_mem_cons.mpr ⟨zVl2_11, List.forall_mem_cons.mpr ⟨zVl2_12, List.forall_mem_cons.mpr ⟨zVl2_13, List.forall_mem_cons.mpr ⟨zVl2_14, List.forall_mem_cons.mpr ⟨zVl2_15, List.forall_mem_cons.mpr ⟨zVl2_16, List.forall_mem_cons.mpr ⟨zVl2_17, List.forall_mem_cons.mpr ⟨zVl2_18, List.forall_mem_cons.mpr ⟨zVl2_19, List.forall_mem_cons.mpr ⟨zVl2_20, List.forall_mem_cons.mpr ⟨zVl2_21, List.forall_mem_cons.mpr ⟨zVl2_22, List.forall_mem_cons.mpr ⟨zVl2_23, List.forall_mem_cons.mpr ⟨zVl2_24, List.forall_mem_cons.mpr ⟨zVl2_25, List.forall_mem_cons.mpr ⟨zVl2_26, List.forall_mem_cons.mpr ⟨zVl2_27, List.forall_mem_cons.mpr ⟨zVl2_28, List.forall_mem_cons.mpr ⟨zVl2_29, List.forall_mem_cons.mpr ⟨zVl2_30, List.forall_mem_cons.mpr ⟨zVl2_31, List.forall_mem_cons.mpr ⟨zVl2_32, List.forall_mem_cons.mpr ⟨zVl2_33, List.forall_mem_cons.mpr ⟨zVl2_34, List.forall_mem_cons.mpr ⟨zVl2_35, List.forall_mem_cons.mpr ⟨zVl2_36, List.forall_mem_cons.mpr ⟨zVl2_37, List.forall_mem_cons.mpr ⟨zVl2_38, List.forall_mem_cons.mpr ⟨zVl2_39, List.forall_mem_cons.mpr ⟨zVl2_40, List.forall_mem_cons.mpr ⟨zVl2_41, List.forall_mem_cons.mpr ⟨zVl2_42, List.forall_mem_cons.mpr ⟨zVl2_43, List.forall_mem_cons.mpr ⟨zVl2_44, List.forall_mem_cons.mpr ⟨zVl2_45, List.forall_mem_cons.mpr ⟨zVl2_46, List.forall_mem_cons.mpr ⟨zVl2_47, List.forall_mem_cons.mpr ⟨zVl2_48, List.forall_mem_cons.mpr ⟨zVl2_49, List.forall_mem_cons.mpr ⟨zVl2_50, List.forall_mem_cons.mpr ⟨zVl2_51, List.forall_mem_cons.mpr ⟨zVl2_52, List.forall_mem_cons.mpr ⟨zVl2_53, List.forall_mem_cons.mpr ⟨zVl2_54, List.forall_mem_cons.mpr ⟨zVl2_55, List.forall_mem_cons.mpr ⟨zVl2_56, List.forall_mem_cons.mpr ⟨zVl2_57, List.forall_mem_cons.mpr ⟨zVl2_58, List.forall_mem_cons.mpr ⟨zVl2_59, fun _ h => absurd h List.not_mem_nil⟩⟩⟩⟩⟩⟩⟩⟩⟩⟩⟩⟩⟩⟩⟩⟩⟩⟩⟩⟩⟩⟩⟩⟩⟩⟩⟩⟩⟩⟩⟩⟩⟩⟩⟩⟩⟩⟩⟩⟩⟩⟩⟩⟩⟩⟩⟩⟩⟩⟩⟩⟩⟩⟩⟩⟩⟩⟩⟩⟩
def zVl3 : List (zVe) := [((19, 54, 0), 168, 1, 9),
  ((19, 72, 0), 172, 2, 9),
  ((19, 58, 0), 173, 2, 9),
  ((19, 62, 0), 174, 1, 9),
  ((19, 65, 4), 175, 2, 0),
  ((19, 69, 4), 176, 2, 0),
  ((15, 20, 3), 175, 2, 0),
  ((15, 80, 0), 179, 2, 7),
  ((15, 83, 0), 174, 1, 9),
  ((15, 86, 0), 180, 4, 9),
  ((15, 90, 0), 181, 0, 9),
  ((15, 44, 0), 156, 0, 9),
  ((19, 75, 8), 153, 0, 8),
  ((19, 111, 0), 182, 0, 9),
  ((19, 97, 0), 183, 1, 9),
  ((19, 103, 0), 184, 3, 9),
  ((19, 107, 0), 185, 6, 9),
  ((19, 83, 0), 171, 1, 9),
  ((15, 99, 0), 187, 0, 9),
  ((19, 80, 0), 167, 0, 9),
  ((19, 86, 0), 188, 2, 9),
  ((19, 90, 0), 180, 4, 9),
  ((19, 94, 4), 189, 1, 0),
  ((15, 111, 3), 191, 1, 0),
  ((15, 115, 5), 192, 3, 0),
  ((15, 118, 8), 194, 1, 8),
  ((16, 144, 0), 195, 2, 8),
  ((15, 129, 0), 197, 1, 9),
  ((19, 115, 0), 198, 0, 9),
  ((19, 118, 3), 199, 3, 0),
  ((19, 122, 4), 200, 1, 0),
  ((19, 47, 5), 154, 2, 0),
  ((19, 50, 3), 191, 1, 0),
  ((15, 139, 0), 173, 2, 9),
  ((15, 143, 0), 202, 1, 9),
  ((15, 145, 3), 176, 2, 0),
  ((15, 148, 0), 155, 0, 9),
  ((15, 158, 3), 208, 3, 0),
  ((15, 154, 0), 188, 2, 9),
  ((15, 162, 0), 210, 2, 9),
  ((15, 172, 0), 182, 0, 9),
  ((15, 176, 3), 212, 3, 0),
  ((15, 165, 0), 213, 0, 9),
  ((15, 168, 3), 214, 2, 0),
  ((15, 182, 5), 110, 0, 0),
  ((15, 185, 0), 112, 1, 5),
  ((15, 189, 0), 124, 0, 5),
  ((15, 197, 3), 218, 2, 0),
  ((15, 193, 3), 219, 2, 0),
  ((15, 207, 3), 221, 1, 0),
  ((15, 211, 3), 222, 2, 0),
  ((15, 215, 0), 224, 1, 7),
  ((15, 220, 3), 226, 1, 0),
  ((15, 218, 3), 189, 1, 0),
  ((15, 230, 3), 228, 2, 0),
  ((15, 233, 0), 198, 0, 9),
  ((15, 242, 3), 231, 2, 0),
  ((15, 236, 3), 232, 3, 0),
  ((15, 240, 3), 119, 2, 0),
  ((15, 249, 0), 234, 2, 7)]
set_option maxRecDepth 20000 in
theorem zVl3_0 : zVok (((19, 54, 0), 168, 1, 9)) := ⟨_, _, rfl, rfl, by decide, ⟨rfl, by decide +kernel, _, rfl, (zw (zin6 (List.mem_of_getElem? (i := 45) rfl)) rfl), (zw (zin6 (List.mem_of_getElem? (i := 32) rfl)) rfl), (zw (zin6 (List.mem_of_getElem? (i := 33) rfl)) rfl)⟩⟩
set_option maxRecDepth 20000 in
theorem zVl3_1 : zVok (((19, 72, 0), 172, 2, 9)) := ⟨_, _, rfl, rfl, by decide, ⟨rfl, by decide +kernel, _, rfl, (zw (zin6 (List.mem_of_getElem? (i := 46) rfl)) rfl), (zw (zin6 (List.mem_of_getElem? (i := 47) rfl)) rfl), (zw (zin6 (List.mem_of_getElem? (i := 48) rfl)) rfl)⟩⟩
set_option maxRecDepth 20000 in
theorem zVl3_2 : zVok (((19, 58, 0), 173, 2, 9)) := ⟨_, _, rfl, rfl, by decide, ⟨rfl, by decide +kernel, _, rfl, (zw (zin6 (List.mem_of_getElem? (i := 50) rfl)) rfl), (zw (zin6 (List.mem_of_getElem? (i := 51) rfl)) rfl), (zw (zin6 (List.mem_of_getElem? (i := 52) rfl)) rfl)⟩⟩
set_option maxRecDepth 20000 in
theorem zVl3_3 : zVok (((19, 62, 0), 174, 1, 9)) := ⟨_, _, rfl, rfl, by decide, ⟨rfl, by decide +kernel, _, rfl, (zw (zin6 (List.mem_of_getElem? (i := 54) rfl)) rfl), (zw (zin6 (List.mem_of_getElem? (i := 55) rfl)) rfl), (zw (zin6 (List.mem_of_getElem? (i := 56) rfl)) rfl)⟩⟩
set_option maxRecDepth 20000 in
theorem zVl3_4 : zVok (((19, 65, 4), 175, 2, 0)) := ⟨_, _, rfl, rfl, by decide, ⟨rfl, by decide +kernel, ⟨_, (zx (zin6 (List.mem_of_getElem? (i := 58) rfl)) rfl)⟩, (zw (zin6 (List.mem_of_getElem? (i := 59) rfl)) rfl)⟩⟩
set_option maxRecDepth 20000 in
theorem zVl3_5 : zVok (((19, 69, 4), 176, 2, 0)) := ⟨_, _, rfl, rfl, by decide, ⟨rfl, by decide +kernel, ⟨_, (zx (zin6 (List.mem_of_getElem? (i := 61) rfl)) rfl)⟩, (zw (zin6 (List.mem_of_getElem? (i := 62) rfl)) rfl)⟩⟩
set_option maxRecDepth 20000 in
theorem zVl3_6 : zVok (((15, 20, 3), 175, 2, 0)) := ⟨_, _, rfl, rfl, by decide, ⟨rfl, by decide +kernel, (zw (zin6 (List.mem_of_getElem? (i := 64) rfl)) rfl), (zw (zin6 (List.mem_of_getElem? (i := 59) rfl)) rfl)⟩⟩
set_option maxRecDepth 20000 in
theorem zVl3_7 : zVok (((15, 80, 0), 179, 2, 7)) := ⟨_, _, rfl, rfl, by decide, ⟨rfl, by decide +kernel, _, rfl, (zw (zin6 (List.mem_of_getElem? (i := 73) rfl)) rfl), (zw (zin6 (List.mem_of_getElem? (i := 75) rfl)) rfl), (zw (zinp (List.mem_of_getElem? (i := 25) rfl)) rfl)⟩⟩
set_option maxRecDepth 20000 in
theorem zVl3_8 : zVok (((15, 83, 0), 174, 1, 9)) := ⟨_, _, rfl, rfl, by decide, ⟨rfl, by decide +kernel, _, rfl, (zw (zin6 (List.mem_of_getElem? (i := 78) rfl)) rfl), (zw (zin6 (List.mem_of_getElem? (i := 55) rfl)) rfl), (zw (zin6 (List.mem_of_getElem? (i := 56) rfl)) rfl)⟩⟩
set_option maxRecDepth 20000 in
theorem zVl3_9 : zVok (((15, 86, 0), 180, 4, 9)) := ⟨_, _, rfl, rfl, by decide, ⟨rfl, by decide +kernel, _, rfl, (zw (zin6 (List.mem_of_getElem? (i := 79) rfl)) rfl), (zw (zin6 (List.mem_of_getElem? (i := 80) rfl)) rfl), (zw (zin6 (List.mem_of_getElem? (i := 81) rfl)) rfl)⟩⟩
set_option maxRecDepth 20000 in
theorem zVl3_10 : zVok (((15, 90, 0), 181, 0, 9)) := ⟨_, _, rfl, rfl, by decide, ⟨rfl, by decide +kernel, _, rfl, (zw (zin6 (List.mem_of_getElem? (i := 85) rfl)) rfl), (zw (zin6 (List.mem_of_getElem? (i := 86) rfl)) rfl), (zw (zin6 (List.mem_of_getElem? (i := 87) rfl)) rfl)⟩⟩
set_option maxRecDepth 20000 in
theorem zVl3_11 : zVok (((15, 44, 0), 156, 0, 9)) := ⟨_, _, rfl, rfl, by decide, ⟨rfl, by decide +kernel, _, rfl, (zw (zin6 (List.mem_of_getElem? (i := 77) rfl)) rfl), (zw (zin5 (List.mem_of_getElem? (i := 155) rfl)) rfl), (zw (zin5 (List.mem_of_getElem? (i := 156) rfl)) rfl)⟩⟩
set_option maxRecDepth 20000 in
theorem zVl3_12 : zVok (((19, 75, 8), 153, 0, 8)) := ⟨_, _, rfl, rfl, by decide, ⟨rfl, _, ⟨"java/util/List", "size", "()I"⟩, rfl, by decide +kernel, by decide +kernel, by decide +kernel, (zw (zin6 (List.mem_of_getElem? (i := 84) rfl)) rfl), (zx (zin5 (List.mem_of_getElem? (i := 135) rfl)) rfl), (zx (zin5 (List.mem_of_getElem? (i := 134) rfl)) (by decide +kernel)), (zw (zin5 (List.mem_of_getElem? (i := 137) rfl)) rfl), (zw (zin5 (List.mem_of_getElem? (i := 139) rfl)) rfl), (zx (zin5 (List.mem_of_getElem? (i := 140) rfl)) rfl), (zx (zin5 (List.mem_of_getElem? (i := 138) rfl)) rfl), (zx (zin5 (List.mem_of_getElem? (i := 136) rfl)) rfl)⟩⟩
set_option maxRecDepth 20000 in
theorem zVl3_13 : zVok (((19, 111, 0), 182, 0, 9)) := ⟨_, _, rfl, rfl, by decide, ⟨rfl, by decide +kernel, _, rfl, (zw (zin6 (List.mem_of_getElem? (i := 89) rfl)) rfl), (zw (zin6 (List.mem_of_getElem? (i := 90) rfl)) rfl), (zw (zin6 (List.mem_of_getElem? (i := 91) rfl)) rfl)⟩⟩
set_option maxRecDepth 20000 in
theorem zVl3_14 : zVok (((19, 97, 0), 183, 1, 9)) := ⟨_, _, rfl, rfl, by decide, ⟨rfl, by decide +kernel, _, rfl, (zw (zin6 (List.mem_of_getElem? (i := 94) rfl)) rfl), (zw (zin6 (List.mem_of_getElem? (i := 95) rfl)) rfl), (zw (zin6 (List.mem_of_getElem? (i := 96) rfl)) rfl)⟩⟩
set_option maxRecDepth 20000 in
theorem zVl3_15 : zVok (((19, 103, 0), 184, 3, 9)) := ⟨_, _, rfl, rfl, by decide, ⟨rfl, by decide +kernel, _, rfl, (zw (zin6 (List.mem_of_getElem? (i := 101) rfl)) rfl), (zw (zin6 (List.mem_of_getElem? (i := 103) rfl)) rfl), (zw (zinp (List.mem_of_getElem? (i := 26) rfl)) rfl)⟩⟩
set_option maxRecDepth 20000 in
theorem zVl3_16 : zVok (((19, 107, 0), 185, 6, 9)) := ⟨_, _, rfl, rfl, by decide, ⟨rfl, by decide +kernel, _, rfl, (zw (zin6 (List.mem_of_getElem? (i := 105) rfl)) rfl), (zw (zin6 (List.mem_of_getElem? (i := 107) rfl)) rfl), (zw (zinp (List.mem_of_getElem? (i := 27) rfl)) rfl)⟩⟩
set_option maxRecDepth 20000 in
theorem zVl3_17 : zVok (((19, 83, 0), 171, 1, 9)) := ⟨_, _, rfl, rfl, by decide, ⟨rfl, by decide +kernel, _, rfl, (zw (zin6 (List.mem_of_getElem? (i := 98) rfl)) rfl), (zw (zin6 (List.mem_of_getElem? (i := 42) rfl)) rfl), (zw (zin6 (List.mem_of_getElem? (i := 43) rfl)) rfl)⟩⟩
set_option maxRecDepth 20000 in
theorem zVl3_18 : zVok (((15, 99, 0), 187, 0, 9)) := ⟨_, _, rfl, rfl, by decide, ⟨rfl, by decide +kernel, _, rfl, (zw (zin6 (List.mem_of_getElem? (i := 114) rfl)) rfl), (zw (zin6 (List.mem_of_getElem? (i := 115) rfl)) rfl), (zw (zin6 (List.mem_of_getElem? (i := 116) rfl)) rfl)⟩⟩
set_option maxRecDepth 20000 in
theorem zVl3_19 : zVok (((19, 80, 0), 167, 0, 9)) := ⟨_, _, rfl, rfl, by decide, ⟨rfl, by decide +kernel, _, rfl, (zw (zin6 (List.mem_of_getElem? (i := 118) rfl)) rfl), (zw (zin6 (List.mem_of_getElem? (i := 28) rfl)) rfl), (zw (zin6 (List.mem_of_getElem? (i := 29) rfl)) rfl)⟩⟩
set_option maxRecDepth 20000 in
theorem zVl3_20 : zVok (((19, 86, 0), 188, 2, 9)) := ⟨_, _, rfl, rfl, by decide, ⟨rfl, by decide +kernel, _, rfl, (zw (zin6 (List.mem_of_getElem? (i := 119) rfl)) rfl), (zw (zin6 (List.mem_of_getElem? (i := 120) rfl)) rfl), (zw (zin6 (List.mem_of_getElem? (i := 121) rfl)) rfl)⟩⟩
set_option maxRecDepth 20000 in
theorem zVl3_21 : zVok (((19, 90, 0), 180, 4, 9)) := ⟨_, _, rfl, rfl, by decide, ⟨rfl, by decide +kernel, _, rfl, (zw (zin6 (List.mem_of_getElem? (i := 123) rfl)) rfl), (zw (zin6 (List.mem_of_getElem? (i := 80) rfl)) rfl), (zw (zin6 (List.mem_of_getElem? (i := 81) rfl)) rfl)⟩⟩
set_option maxRecDepth 20000 in
theorem zVl3_22 : zVok (((19, 94, 4), 189, 1, 0)) := ⟨_, _, rfl, rfl, by decide, ⟨rfl, by decide +kernel, ⟨_, (zx (zin6 (List.mem_of_getElem? (i := 124) rfl)) rfl)⟩, (zw (zin6 (List.mem_of_getElem? (i := 125) rfl)) rfl)⟩⟩
set_option maxRecDepth 20000 in
theorem zVl3_23 : zVok (((15, 111, 3), 191, 1, 0)) := ⟨_, _, rfl, rfl, by decide, ⟨rfl, by decide +kernel, (zw (zin6 (List.mem_of_getElem? (i := 133) rfl)) rfl), (zw (zin6 (List.mem_of_getElem? (i := 134) rfl)) rfl)⟩⟩
set_option maxRecDepth 20000 in
theorem zVl3_24 : zVok (((15, 115, 5), 192, 3, 0)) := ⟨_, _, rfl, rfl, by decide, ⟨rfl, by decide +kernel, rfl, rfl, (zw (zin6 (List.mem_of_getElem? (i := 136) rfl)) rfl), (zw (zin6 (List.mem_of_getElem? (i := 137) rfl)) rfl)⟩⟩
set_option maxRecDepth 20000 in
theorem zVl3_25 : zVok (((15, 118, 8), 194, 1, 8)) := ⟨_, _, rfl, rfl, by decide, ⟨rfl, _, ⟨"java/util/List", "remove", "(I)Ljava/lang/Object;"⟩, rfl, by decide +kernel, by decide +kernel, by decide +kernel, (zw (zin6 (List.mem_of_getElem? (i := 158) rfl)) rfl), (zx (zin6 (List.mem_of_getElem? (i := 160) rfl)) rfl), (zx (zin6 (List.mem_of_getElem? (i := 159) rfl)) (by decide +kernel)), (zw (zin6 (List.mem_of_getElem? (i := 161) rfl)) rfl), (zw (zin6 (List.mem_of_getElem? (i := 163) rfl)) rfl), (zx (zin6 (List.mem_of_getElem? (i := 164) rfl)) rfl), (zx (zin6 (List.mem_of_getElem? (i := 162) rfl)) rfl), (zx (zin5 (List.mem_of_getElem? (i := 136) rfl)) rfl)⟩⟩
set_option maxRecDepth 20000 in
theorem zVl3_26 : zVok (((16, 144, 0), 195, 2, 8)) := ⟨_, _, rfl, rfl, by decide, ⟨rfl, by decide +kernel, _, rfl, (zw (zin6 (List.mem_of_getElem? (i := 166) rfl)) rfl), (zw (zin6 (List.mem_of_getElem? (i := 168) rfl)) rfl), (zw (zinp (List.mem_of_getElem? (i := 28) rfl)) rfl)⟩⟩
set_option maxRecDepth 20000 in
theorem zVl3_27 : zVok (((15, 129, 0), 197, 1, 9)) := ⟨_, _, rfl, rfl, by decide, ⟨rfl, by decide +kernel, _, rfl, (zw (zin6 (List.mem_of_getElem? (i := 175) rfl)) rfl), (zw (zin6 (List.mem_of_getElem? (i := 176) rfl)) rfl), (zw (zin6 (List.mem_of_getElem? (i := 177) rfl)) rfl)⟩⟩
set_option maxRecDepth 20000 in
theorem zVl3_28 : zVok (((19, 115, 0), 198, 0, 9)) := ⟨_, _, rfl, rfl, by decide, ⟨rfl, by decide +kernel, _, rfl, (zw (zin6 (List.mem_of_getElem? (i := 179) rfl)) rfl), (zw (zin6 (List.mem_of_getElem? (i := 180) rfl)) rfl), (zw (zin6 (List.mem_of_getElem? (i := 181) rfl)) rfl)⟩⟩
set_option maxRecDepth 20000 in
theorem zVl3_29 : zVok (((19, 118, 3), 199, 3, 0)) := ⟨_, _, rfl, rfl, by decide, ⟨rfl, by decide +kernel, (zw (zin6 (List.mem_of_getElem? (i := 186) rfl)) rfl), (zw (zin6 (List.mem_of_getElem? (i := 187) rfl)) rfl)⟩⟩
set_option maxRecDepth 20000 in
theorem zVl3_30 : zVok (((19, 122, 4), 200, 1, 0)) := ⟨_, _, rfl, rfl, by decide, ⟨rfl, by decide +kernel, ⟨_, (zx (zin6 (List.mem_of_getElem? (i := 189) rfl)) rfl)⟩, (zw (zin6 (List.mem_of_getElem? (i := 190) rfl)) rfl)⟩⟩
set_option maxRecDepth 20000 in
theorem zVl3_31 : zVok (((19, 47, 5), 154, 2, 0)) := ⟨_, _, rfl, rfl, by decide, ⟨rfl, by decide +kernel, rfl, rfl, (zw (zin6 (List.mem_of_getElem? (i := 184) rfl)) rfl), (zw (zin5 (List.mem_of_getElem? (i := 145) rfl)) rfl)⟩⟩
set_option maxRecDepth 20000 in
theorem zVl3_32 : zVok (((19, 50, 3), 191, 1, 0)) := ⟨_, _, rfl, rfl, by decide, ⟨rfl, by decide +kernel, (zw (zin6 (List.mem_of_getElem? (i := 185) rfl)) rfl), (zw (zin6 (List.mem_of_getElem? (i := 134) rfl)) rfl)⟩⟩
set_option maxRecDepth 20000 in
theorem zVl3_33 : zVok (((15, 139, 0), 173, 2, 9)) := ⟨_, _, rfl, rfl, by decide, ⟨rfl, by decide +kernel, _, rfl, (zw (zin6 (List.mem_of_getElem? (i := 196) rfl)) rfl), (zw (zin6 (List.mem_of_getElem? (i := 51) rfl)) rfl), (zw (zin6 (List.mem_of_getElem? (i := 52) rfl)) rfl)⟩⟩
set_option maxRecDepth 20000 in
theorem zVl3_34 : zVok (((15, 143, 0), 202, 1, 9)) := ⟨_, _, rfl, rfl, by decide, ⟨rfl, by decide +kernel, _, rfl, (zw (zin6 (List.mem_of_getElem? (i := 197) rfl)) rfl), (zw (zin6 (List.mem_of_getElem? (i := 198) rfl)) rfl), (zw (zin6 (List.mem_of_getElem? (i := 199) rfl)) rfl)⟩⟩
set_option maxRecDepth 20000 in
theorem zVl3_35 : zVok (((15, 145, 3), 176, 2, 0)) := ⟨_, _, rfl, rfl, by decide, ⟨rfl, by decide +kernel, (zw (zin6 (List.mem_of_getElem? (i := 205) rfl)) rfl), (zw (zin6 (List.mem_of_getElem? (i := 62) rfl)) rfl)⟩⟩
set_option maxRecDepth 20000 in
theorem zVl3_36 : zVok (((15, 148, 0), 155, 0, 9)) := ⟨_, _, rfl, rfl, by decide, ⟨rfl, by decide +kernel, _, rfl, (zw (zin6 (List.mem_of_getElem? (i := 206) rfl)) rfl), (zw (zin5 (List.mem_of_getElem? (i := 151) rfl)) rfl), (zw (zin5 (List.mem_of_getElem? (i := 152) rfl)) rfl)⟩⟩
set_option maxRecDepth 20000 in
theorem zVl3_37 : zVok (((15, 158, 3), 208, 3, 0)) := ⟨_, _, rfl, rfl, by decide, ⟨rfl, by decide +kernel, (zw (zin6 (List.mem_of_getElem? (i := 223) rfl)) rfl), (zw (zin6 (List.mem_of_getElem? (i := 224) rfl)) rfl)⟩⟩
set_option maxRecDepth 20000 in
theorem zVl3_38 : zVok (((15, 154, 0), 188, 2, 9)) := ⟨_, _, rfl, rfl, by decide, ⟨rfl, by decide +kernel, _, rfl, (zw (zin6 (List.mem_of_getElem? (i := 226) rfl)) rfl), (zw (zin6 (List.mem_of_getElem? (i := 120) rfl)) rfl), (zw (zin6 (List.mem_of_getElem? (i := 121) rfl)) rfl)⟩⟩
set_option maxRecDepth 20000 in
theorem zVl3_39 : zVok (((15, 162, 0), 210, 2, 9)) := ⟨_, _, rfl, rfl, by decide, ⟨rfl, by decide +kernel, _, rfl, (zw (zin6 (List.mem_of_getElem? (i := 231) rfl)) rfl), (zw (zin6 (List.mem_of_getElem? (i := 232) rfl)) rfl), (zw (zin6 (List.mem_of_getElem? (i := 233) rfl)) rfl)⟩⟩
set_option maxRecDepth 20000 in
theorem zVl3_40 : zVok (((15, 172, 0), 182, 0, 9)) := ⟨_, _, rfl, rfl, by decide, ⟨rfl, by decide +kernel, _, rfl, (zw (zin6 (List.mem_of_getElem? (i := 239) rfl)) rfl), (zw (zin6 (List.mem_of_getElem? (i := 90) rfl)) rfl), (zw (zin6 (List.mem_of_getElem? (i := 91) rfl)) rfl)⟩⟩
set_option maxRecDepth 20000 in
theorem zVl3_41 : zVok (((15, 176, 3), 212, 3, 0)) := ⟨_, _, rfl, rfl, by decide, ⟨rfl, by decide +kernel, (zw (zin7 (List.mem_of_getElem? (i := 0) rfl)) rfl), (zw (zin7 (List.mem_of_getElem? (i := 1) rfl)) rfl)⟩⟩
set_option maxRecDepth 20000 in
theorem zVl3_42 : zVok (((15, 165, 0), 213, 0, 9)) := ⟨_, _, rfl, rfl, by decide, ⟨rfl, by decide +kernel, _, rfl, (zw (zin7 (List.mem_of_getElem? (i := 3) rfl)) rfl), (zw (zin7 (List.mem_of_getElem? (i := 4) rfl)) rfl), (zw (zin7 (List.mem_of_getElem? (i := 5) rfl)) rfl)⟩⟩
set_option maxRecDepth 20000 in
theorem zVl3_43 : zVok (((15, 168, 3), 214, 2, 0)) := ⟨_, _, rfl, rfl, by decide, ⟨rfl, by decide +kernel, (zw (zin7 (List.mem_of_getElem? (i := 7) rfl)) rfl), (zw (zin7 (List.mem_of_getElem? (i := 8) rfl)) rfl)⟩⟩
set_option maxRecDepth 20000 in
theorem zVl3_44 : zVok (((15, 182, 5), 110, 0, 0)) := ⟨_, _, rfl, rfl, by decide, ⟨rfl, by decide +kernel, rfl, rfl, (zw (zin7 (List.mem_of_getElem? (i := 15) rfl)) rfl), (zw (zin4 (List.mem_of_getElem? (i := 10) rfl)) rfl)⟩⟩
set_option maxRecDepth 20000 in
theorem zVl3_45 : zVok (((15, 185, 0), 112, 1, 5)) := ⟨_, _, rfl, rfl, by decide, ⟨rfl, by decide +kernel, _, rfl, (zw (zin7 (List.mem_of_getElem? (i := 17) rfl)) rfl), (zw (zin4 (List.mem_of_getElem? (i := 39) rfl)) rfl), (zw (zin4 (List.mem_of_getElem? (i := 40) rfl)) rfl)⟩⟩
set_option maxRecDepth 20000 in
theorem zVl3_46 : zVok (((15, 189, 0), 124, 0, 5)) := ⟨_, _, rfl, rfl, by decide, ⟨rfl, by decide +kernel, _, rfl, (zw (zin7 (List.mem_of_getElem? (i := 18) rfl)) rfl), (zw (zin4 (List.mem_of_getElem? (i := 136) rfl)) rfl), (zw (zin4 (List.mem_of_getElem? (i := 137) rfl)) rfl)⟩⟩
set_option maxRecDepth 20000 in
theorem zVl3_47 : zVok (((15, 197, 3), 218, 2, 0)) := ⟨_, _, rfl, rfl, by decide, ⟨rfl, by decide +kernel, (zw (zin7 (List.mem_of_getElem? (i := 27) rfl)) rfl), (zw (zin7 (List.mem_of_getElem? (i := 28) rfl)) rfl)⟩⟩
set_option maxRecDepth 20000 in
theorem zVl3_48 : zVok (((15, 193, 3), 219, 2, 0)) := ⟨_, _, rfl, rfl, by decide, ⟨rfl, by decide +kernel, (zw (zin7 (List.mem_of_getElem? (i := 30) rfl)) rfl), (zw (zin7 (List.mem_of_getElem? (i := 31) rfl)) rfl)⟩⟩
set_option maxRecDepth 20000 in
theorem zVl3_49 : zVok (((15, 207, 3), 221, 1, 0)) := ⟨_, _, rfl, rfl, by decide, ⟨rfl, by decide +kernel, (zw (zin7 (List.mem_of_getElem? (i := 37) rfl)) rfl), (zw (zin7 (List.mem_of_getElem? (i := 38) rfl)) rfl)⟩⟩
set_option maxRecDepth 20000 in
theorem zVl3_50 : zVok (((15, 211, 3), 222, 2, 0)) := ⟨_, _, rfl, rfl, by decide, ⟨rfl, by decide +kernel, (zw (zin7 (List.mem_of_getElem? (i := 40) rfl)) rfl), (zw (zin7 (List.mem_of_getElem? (i := 41) rfl)) rfl)⟩⟩
set_option maxRecDepth 20000 in
theorem zVl3_51 : zVok (((15, 215, 0), 224, 1, 7)) := ⟨_, _, rfl, rfl, by decide, ⟨rfl, by decide +kernel, _, rfl, (zw (zin7 (List.mem_of_getElem? (i := 55) rfl)) rfl), (zw (zin7 (List.mem_of_getElem? (i := 57) rfl)) rfl), (zw (zinp (List.mem_of_getElem? (i := 29) rfl)) rfl)⟩⟩
set_option maxRecDepth 20000 in
theorem zVl3_52 : zVok (((15, 220, 3), 226, 1, 0)) := ⟨_, _, rfl, rfl, by decide, ⟨rfl, by decide +kernel, (zw (zin7 (List.mem_of_getElem? (i := 63) rfl)) rfl), (zw (zin7 (List.mem_of_getElem? (i := 64) rfl)) rfl)⟩⟩
set_option maxRecDepth 20000 in
theorem zVl3_53 : zVok (((15, 218, 3), 189, 1, 0)) := ⟨_, _, rfl, rfl, by decide, ⟨rfl, by decide +kernel, (zw (zin7 (List.mem_of_getElem? (i := 66) rfl)) rfl), (zw (zin6 (List.mem_of_getElem? (i := 125) rfl)) rfl)⟩⟩
set_option maxRecDepth 20000 in
theorem zVl3_54 : zVok (((15, 230, 3), 228, 2, 0)) := ⟨_, _, rfl, rfl, by decide, ⟨rfl, by decide +kernel, (zw (zin7 (List.mem_of_getElem? (i := 71) rfl)) rfl), (zw (zin7 (List.mem_of_getElem? (i := 72) rfl)) rfl)⟩⟩
set_option maxRecDepth 20000 in
theorem zVl3_55 : zVok (((15, 233, 0), 198, 0, 9)) := ⟨_, _, rfl, rfl, by decide, ⟨rfl, by decide +kernel, _, rfl, (zw (zin7 (List.mem_of_getElem? (i := 89) rfl)) rfl), (zw (zin6 (List.mem_of_getElem? (i := 180) rfl)) rfl), (zw (zin6 (List.mem_of_getElem? (i := 181) rfl)) rfl)⟩⟩
set_option maxRecDepth 20000 in
theorem zVl3_56 : zVok (((15, 242, 3), 231, 2, 0)) := ⟨_, _, rfl, rfl, by decide, ⟨rfl, by decide +kernel, (zw (zin7 (List.mem_of_getElem? (i := 94) rfl)) rfl), (zw (zin7 (List.mem_of_getElem? (i := 95) rfl)) rfl)⟩⟩
set_option maxRecDepth 20000 in
theorem zVl3_57 : zVok (((15, 236, 3), 232, 3, 0)) := ⟨_, _, rfl, rfl, by decide, ⟨rfl, by decide +kernel, (zw (zin7 (List.mem_of_getElem? (i := 97) rfl)) rfl), (zw (zin7 (List.mem_of_getElem? (i := 98) rfl)) rfl)⟩⟩
set_option maxRecDepth 20000 in
theorem zVl3_58 : zVok (((15, 240, 3), 119, 2, 0)) := ⟨_, _, rfl, rfl, by decide, ⟨rfl, by decide +kernel, (zw (zin7 (List.mem_of_getElem? (i := 100) rfl)) rfl), (zw (zin4 (List.mem_of_getElem? (i := 75) rfl)) rfl)⟩⟩
set_option maxRecDepth 20000 in
theorem zVl3_59 : zVok (((15, 249, 0), 234, 2, 7)) := ⟨_, _, rfl, rfl, by decide, ⟨rfl, by decide +kernel, _, rfl, (zw (zin7 (List.mem_of_getElem? (i := 105) rfl)) rfl), (zw (zin7 (List.mem_of_getElem? (i := 107) rfl)) rfl), (zw (zinp (List.mem_of_getElem? (i := 30) rfl)) rfl)⟩⟩
theorem zVl3_ok : ∀ e ∈ zVl3, zVok e := List.forall_mem_cons.mpr ⟨zVl3_0, List.forall_mem_cons.mpr ⟨zVl3_1, List.forall_mem_cons.mpr ⟨zVl3_2, List.forall_mem_cons.mpr ⟨zVl3_3, List.forall_mem_cons.mpr ⟨zVl3_4, List.forall_mem_cons.mpr ⟨zVl3_5, List.forall_mem_cons.mpr ⟨zVl3_6, List.forall_mem_cons.mpr ⟨zVl3_7, List.forall_mem_cons.mpr ⟨zVl3_8, List.forall_mem_cons.mpr ⟨zVl3_9, List.forall_mem_cons.mpr ⟨zVl3_10, List.forall_mem_cons.mpr ⟨zVl3_11, List.forall_mem_cons.mpr ⟨zVl3_12, List.forall_mem_cons.mpr ⟨zVl3_13, List.forall_mem_cons.mpr ⟨zVl3_14, List.forall_mem_cons.mpr ⟨zVl3_15, List.forall_mem_cons.mpr ⟨zVl3_16, List.forall_mem_cons.mpr ⟨zVl3_17, List.forall_mem_cons.mpr ⟨zVl3_18, List.forall_mem_cons.mpr ⟨zVl3_19, List.forall_mem_cons.mpr ⟨zVl3_20, List.forall_mem_cons.mpr ⟨zVl3_21, List.forall_mem_cons.mpr ⟨zVl3_22, List.forall_mem_cons.mpr ⟨zVl3_23, List.forall_mem_cons.mpr ⟨zVl3_24, List.forall_mem_cons.mpr ⟨zVl3_25, List.forall_mem_cons.mpr ⟨zVl3_26, List.forall_mem_cons.mpr ⟨zVl3_27, List.forall_mem_cons.mpr ⟨zVl3_28, List.forall_mem_cons.mpr ⟨zVl3_29, List.forall_mem_cons.mpr ⟨zVl3_30, List.forall_mem_cons.mpr ⟨zVl3_31, List.forall_mem_cons.mpr ⟨zVl3_32, List.forall_mem_cons.mpr ⟨zVl3_33, List.forall_mem_cons.mpr ⟨zVl3_34, List.forall_mem_cons.mpr ⟨zVl3_35, List.forall_mem_cons.mpr ⟨zVl3_36, List.forall_mem_cons.mpr ⟨zVl3_37, List.forall_mem_cons.mpr ⟨zVl3_38, List.forall_mem_cons.mpr ⟨zVl3_39, List.forall_mem_cons.mpr ⟨zVl3_40, List.forall_mem_cons.mpr ⟨zVl3_41, List.forall_mem_cons.mpr ⟨zVl3_42, List.forall_mem_cons.mpr ⟨zVl3_43, List.forall_mem_cons.mpr ⟨zVl3_44, List.forall_mem_cons.mpr ⟨zVl3_45, List.forall_mem_cons.mpr ⟨zVl3_46, List.forall_mem_cons.mpr ⟨zVl3_47, List.forall_mem_cons.mpr ⟨zVl3_48, List.forall_mem_cons.mpr ⟨zVl3_49, List.forall_mem_cons.mpr ⟨zVl3_50, List.forall_mem_cons.mpr ⟨zVl3_51, List.forall_mem_cons.mpr ⟨zVl3_52, List.forall_mem_cons.mpr ⟨zVl3_53, List.forall_mem_cons.mpr ⟨zVl3_54, List.forall_mem_cons.mpr ⟨zVl3_55, List.forall_mem_cons.mpr ⟨zVl3_56, List.forall_mem_cons.mpr ⟨zVl3_57, List.forall_mem_cons.mpr ⟨zVl3_58, List.forall_mem_cons.mpr ⟨zVl3_59, fun _ h => absurd h List.not_mem_nil⟩⟩⟩⟩⟩⟩⟩⟩⟩⟩⟩⟩⟩⟩⟩⟩⟩⟩⟩⟩⟩⟩⟩⟩⟩⟩⟩⟩⟩⟩⟩⟩⟩⟩⟩⟩⟩⟩⟩⟩⟩⟩⟩⟩⟩⟩⟩⟩⟩⟩⟩⟩⟩⟩⟩⟩⟩⟩⟩⟩
def zVl4 : List (zVe) := [((15, 245, 3), 235, 2, 0),
  ((5, 113, 5), 0, 0, 0),
  ((5, 116, 5), 146, 0, 0),
  ((5, 117, 6), 66, 0, 0),
  ((5, 118, 9), 67, 4, 0),
  ((5, 123, 0), 150, 2, 7),
  ((5, 124, 9), 70, 5, 0),
  ((5, 127, 0), 161, 3, 7),
  ((5, 128, 9), 73, 4, 0),
  ((5, 130, 0), 177, 2, 7),
  ((5, 131, 9), 75, 5, 0),
  ((5, 134, 0), 178, 3, 7),
  ((5, 135, 9), 80, 3, 0),
  ((5, 138, 0), 186, 1, 7),
  ((5, 139, 9), 82, 5, 0),
  ((5, 141, 0), 190, 3, 7),
  ((5, 142, 9), 85, 4, 0),
  ((5, 145, 0), 193, 2, 7),
  ((5, 146, 9), 89, 4, 0),
  ((5, 148, 0), 196, 2, 7),
  ((5, 149, 9), 94, 5, 0),
  ((5, 151, 0), 201, 3, 7),
  ((5, 152, 9), 97, 3, 0),
  ((5, 154, 0), 203, 1, 7),
  ((5, 155, 9), 102, 3, 0),
  ((5, 157, 0), 204, 1, 7),
  ((5, 158, 0), 9, 0, 0),
  ((5, 162, 0), 205, 0, 7),
  ((5, 163, 9), 104, 5, 0),
  ((5, 165, 0), 206, 3, 7),
  ((5, 166, 9), 105, 5, 0),
  ((5, 168, 0), 207, 3, 7),
  ((5, 169, 9), 106, 5, 0),
  ((5, 171, 0), 209, 3, 7),
  ((5, 172, 9), 107, 4, 0),
  ((5, 174, 0), 211, 2, 7),
  ((5, 175, 9), 108, 3, 0),
  ((5, 177, 0), 215, 1, 7),
  ((5, 178, 9), 135, 4, 0),
  ((5, 180, 0), 216, 2, 7),
  ((5, 181, 9), 136, 4, 0),
  ((5, 183, 0), 217, 2, 7),
  ((5, 184, 9), 138, 4, 0),
  ((5, 186, 0), 220, 2, 7),
  ((5, 187, 9), 139, 3, 0),
  ((5, 189, 0), 223, 1, 7),
  ((5, 190, 9), 140, 3, 0),
  ((5, 192, 0), 225, 1, 7),
  ((5, 193, 0), 237, 0, 7),
  ((5, 196, 9), 141, 3, 0),
  ((5, 198, 0), 227, 1, 7),
  ((5, 199, 9), 142, 6, 0),
  ((5, 202, 0), 229, 4, 7),
  ((5, 203, 9), 144, 3, 0),
  ((5, 205, 0), 230, 1, 7),
  ((5, 206, 9), 145, 4, 0),
  ((5, 208, 0), 233, 2, 7),
  ((5, 209, 0), 10, 0, 0),
  ((5, 213, 0), 236, 0, 7)]
set_option maxRecDepth 20000 in
theorem zVl4_0 : zVok (((15, 245, 3), 235, 2, 0)) := ⟨_, _, rfl, rfl, by decide, ⟨rfl, by decide +kernel, (zw (zin7 (List.mem_of_getElem? (i := 109) rfl)) rfl), (zw (zin7 (List.mem_of_getElem? (i := 110) rfl)) rfl)⟩⟩
set_option maxRecDepth 20000 in
theorem zVl4_1 : zVok (((5, 113, 5), 0, 0, 0)) := ⟨_, _, rfl, rfl, by decide, ⟨rfl, by decide +kernel, rfl, rfl, (zw (zin1 (List.mem_of_getElem? (i := 35) rfl)) rfl), (zw (zin1 (List.mem_of_getElem? (i := 36) rfl)) rfl)⟩⟩
set_option maxRecDepth 20000 in
theorem zVl4_2 : zVok (((5, 116, 5), 146, 0, 0)) := ⟨_, _, rfl, rfl, by decide, ⟨rfl, by decide +kernel, rfl, rfl, (zw (zin5 (List.mem_of_getElem? (i := 77) rfl)) rfl), (zw (zin5 (List.mem_of_getElem? (i := 78) rfl)) rfl)⟩⟩
set_option maxRecDepth 20000 in
theorem zVl4_3 : zVok (((5, 117, 6), 66, 0, 0)) := ⟨_, _, rfl, rfl, by decide, ⟨rfl, by decide +kernel, rfl, rfl, ⟨_, (zx (zin3 (List.mem_of_getElem? (i := 11) rfl)) rfl)⟩, (zw (zin3 (List.mem_of_getElem? (i := 12) rfl)) rfl)⟩⟩
set_option maxRecDepth 20000 in
theorem zVl4_4 : zVok (((5, 118, 9), 67, 4, 0)) := ⟨_, _, rfl, rfl, by decide, ⟨by decide, by decide +kernel, (zw (zin3 (List.mem_of_getElem? (i := 25) rfl)) rfl), (zw (zin3 (List.mem_of_getElem? (i := 26) rfl)) rfl)⟩⟩
set_option maxRecDepth 20000 in
theorem zVl4_5 : zVok (((5, 123, 0), 150, 2, 7)) := ⟨_, _, rfl, rfl, by decide, ⟨rfl, by decide +kernel, _, rfl, (zw (zin5 (List.mem_of_getElem? (i := 121) rfl)) rfl), (zw (zin5 (List.mem_of_getElem? (i := 122) rfl)) rfl), (zw (zin5 (List.mem_of_getElem? (i := 123) rfl)) rfl)⟩⟩
set_option maxRecDepth 20000 in
theorem zVl4_6 : zVok (((5, 124, 9), 70, 5, 0)) := ⟨_, _, rfl, rfl, by decide, ⟨by decide, by decide +kernel, (zw (zin3 (List.mem_of_getElem? (i := 85) rfl)) rfl), (zw (zin3 (List.mem_of_getElem? (i := 86) rfl)) rfl)⟩⟩
set_option maxRecDepth 20000 in
theorem zVl4_7 : zVok (((5, 127, 0), 161, 3, 7)) := ⟨_, _, rfl, rfl, by decide, ⟨rfl, by decide +kernel, _, rfl, (zw (zin5 (List.mem_of_getElem? (i := 238) rfl)) rfl), (zw (zin5 (List.mem_of_getElem? (i := 239) rfl)) rfl), (zw (zin6 (List.mem_of_getElem? (i := 0) rfl)) rfl)⟩⟩
set_option maxRecDepth 20000 in
theorem zVl4_8 : zVok (((5, 128, 9), 73, 4, 0)) := ⟨_, _, rfl, rfl, by decide, ⟨by decide, by decide +kernel, (zw (zin3 (List.mem_of_getElem? (i := 98) rfl)) rfl), (zw (zin3 (List.mem_of_getElem? (i := 99) rfl)) rfl)⟩⟩
set_option maxRecDepth 20000 in
theorem zVl4_9 : zVok (((5, 130, 0), 177, 2, 7)) := ⟨_, _, rfl, rfl, by decide, ⟨rfl, by decide +kernel, _, rfl, (zw (zin6 (List.mem_of_getElem? (i := 65) rfl)) rfl), (zw (zin6 (List.mem_of_getElem? (i := 66) rfl)) rfl), (zw (zin6 (List.mem_of_getElem? (i := 67) rfl)) rfl)⟩⟩
set_option maxRecDepth 20000 in
theorem zVl4_10 : zVok (((5, 131, 9), 75, 5, 0)) := ⟨_, _, rfl, rfl, by decide, ⟨by decide, by decide +kernel, (zw (zin3 (List.mem_of_getElem? (i := 105) rfl)) rfl), (zw (zin3 (List.mem_of_getElem? (i := 106) rfl)) rfl)⟩⟩
set_option maxRecDepth 20000 in
theorem zVl4_11 : zVok (((5, 134, 0), 178, 3, 7)) := ⟨_, _, rfl, rfl, by decide, ⟨rfl, by decide +kernel, _, rfl, (zw (zin6 (List.mem_of_getElem? (i := 69) rfl)) rfl), (zw (zin6 (List.mem_of_getElem? (i := 70) rfl)) rfl), (zw (zin6 (List.mem_of_getElem? (i := 71) rfl)) rfl)⟩⟩
set_option maxRecDepth 20000 in
theorem zVl4_12 : zVok (((5, 135, 9), 80, 3, 0)) := ⟨_, _, rfl, rfl, by decide, ⟨by decide, by decide +kernel, (zw (zin3 (List.mem_of_getElem? (i := 125) rfl)) rfl), (zw (zin3 (List.mem_of_getElem? (i := 126) rfl)) rfl)⟩⟩
set_option maxRecDepth 20000 in
theorem zVl4_13 : zVok (((5, 138, 0), 186, 1, 7)) := ⟨_, _, rfl, rfl, by decide, ⟨rfl, by decide +kernel, _, rfl, (zw (zin6 (List.mem_of_getElem? (i := 110) rfl)) rfl), (zw (zin6 (List.mem_of_getElem? (i := 111) rfl)) rfl), (zw (zin6 (List.mem_of_getElem? (i := 112) rfl)) rfl)⟩⟩
set_option maxRecDepth 20000 in
theorem zVl4_14 : zVok (((5, 139, 9), 82, 5, 0)) := ⟨_, _, rfl, rfl, by decide, ⟨by decide, by decide +kernel, (zw (zin3 (List.mem_of_getElem? (i := 133) rfl)) rfl), (zw (zin3 (List.mem_of_getElem? (i := 134) rfl)) rfl)⟩⟩
set_option maxRecDepth 20000 in
theorem zVl4_15 : zVok (((5, 141, 0), 190, 3, 7)) := ⟨_, _, rfl, rfl, by decide, ⟨rfl, by decide +kernel, _, rfl, (zw (zin6 (List.mem_of_getElem? (i := 127) rfl)) rfl), (zw (zin6 (List.mem_of_getElem? (i := 128) rfl)) rfl), (zw (zin6 (List.mem_of_getElem? (i := 129) rfl)) rfl)⟩⟩
set_option maxRecDepth 20000 in
theorem zVl4_16 : zVok (((5, 142, 9), 85, 4, 0)) := ⟨_, _, rfl, rfl, by decide, ⟨by decide, by decide +kernel, (zw (zin3 (List.mem_of_getElem? (i := 146) rfl)) rfl), (zw (zin3 (List.mem_of_getElem? (i := 147) rfl)) rfl)⟩⟩
set_option maxRecDepth 20000 in
theorem zVl4_17 : zVok (((5, 145, 0), 193, 2, 7)) := ⟨_, _, rfl, rfl, by decide, ⟨rfl, by decide +kernel, _, rfl, (zw (zin6 (List.mem_of_getElem? (i := 153) rfl)) rfl), (zw (zin6 (List.mem_of_getElem? (i := 154) rfl)) rfl), (zw (zin6 (List.mem_of_getElem? (i := 155) rfl)) rfl)⟩⟩
set_option maxRecDepth 20000 in
theorem zVl4_18 : zVok (((5, 146, 9), 89, 4, 0)) := ⟨_, _, rfl, rfl, by decide, ⟨by decide, by decide +kernel, (zw (zin3 (List.mem_of_getElem? (i := 162) rfl)) rfl), (zw (zin3 (List.mem_of_getElem? (i := 163) rfl)) rfl)⟩⟩
set_option maxRecDepth 20000 in
theorem zVl4_19 : zVok (((5, 148, 0), 196, 2, 7)) := ⟨_, _, rfl, rfl, by decide, ⟨rfl, by decide +kernel, _, rfl, (zw (zin6 (List.mem_of_getElem? (i := 171) rfl)) rfl), (zw (zin6 (List.mem_of_getElem? (i := 172) rfl)) rfl), (zw (zin6 (List.mem_of_getElem? (i := 173) rfl)) rfl)⟩⟩
set_option maxRecDepth 20000 in
theorem zVl4_20 : zVok (((5, 149, 9), 94, 5, 0)) := ⟨_, _, rfl, rfl, by decide, ⟨by decide, by decide +kernel, (zw (zin3 (List.mem_of_getElem? (i := 183) rfl)) rfl), (zw (zin3 (List.mem_of_getElem? (i := 184) rfl)) rfl)⟩⟩
set_option maxRecDepth 20000 in
theorem zVl4_21 : zVok (((5, 151, 0), 201, 3, 7)) := ⟨_, _, rfl, rfl, by decide, ⟨rfl, by decide +kernel, _, rfl, (zw (zin6 (List.mem_of_getElem? (i := 192) rfl)) rfl), (zw (zin6 (List.mem_of_getElem? (i := 193) rfl)) rfl), (zw (zin6 (List.mem_of_getElem? (i := 194) rfl)) rfl)⟩⟩
set_option maxRecDepth 20000 in
theorem zVl4_22 : zVok (((5, 152, 9), 97, 3, 0)) := ⟨_, _, rfl, rfl, by decide, ⟨by decide, by decide +kernel, (zw (zin3 (List.mem_of_getElem? (i := 196) rfl)) rfl), (zw (zin3 (List.mem_of_getElem? (i := 197) rfl)) rfl)⟩⟩
set_option maxRecDepth 20000 in
theorem zVl4_23 : zVok (((5, 154, 0), 203, 1, 7)) := ⟨_, _, rfl, rfl, by decide, ⟨rfl, by decide +kernel, _, rfl, (zw (zin6 (List.mem_of_getElem? (i := 201) rfl)) rfl), (zw (zin6 (List.mem_of_getElem? (i := 202) rfl)) rfl), (zw (zin6 (List.mem_of_getElem? (i := 203) rfl)) rfl)⟩⟩
set_option maxRecDepth 20000 in
theorem zVl4_24 : zVok (((5, 155, 9), 102, 3, 0)) := ⟨_, _, rfl, rfl, by decide, ⟨by decide, by decide +kernel, (zw (zin3 (List.mem_of_getElem? (i := 217) rfl)) rfl), (zw (zin3 (List.mem_of_getElem? (i := 218) rfl)) rfl)⟩⟩
set_option maxRecDepth 20000 in
theorem zVl4_25 : zVok (((5, 157, 0), 204, 1, 7)) := ⟨_, _, rfl, rfl, by decide, ⟨rfl, by decide +kernel, _, rfl, (zw (zin6 (List.mem_of_getElem? (i := 207) rfl)) rfl), (zw (zin6 (List.mem_of_getElem? (i := 208) rfl)) rfl), (zw (zin6 (List.mem_of_getElem? (i := 209) rfl)) rfl)⟩⟩
set_option maxRecDepth 20000 in
theorem zVl4_26 : zVok (((5, 158, 0), 9, 0, 0)) := ⟨_, _, rfl, rfl, by decide, ⟨rfl, by decide +kernel, _, rfl, (zw (zin1 (List.mem_of_getElem? (i := 155) rfl)) rfl), (zw (zin1 (List.mem_of_getElem? (i := 156) rfl)) rfl), (zw (zin1 (List.mem_of_getElem? (i := 157) rfl)) rfl)⟩⟩
set_option maxRecDepth 20000 in
theorem zVl4_27 : zVok (((5, 162, 0), 205, 0, 7)) := ⟨_, _, rfl, rfl, by decide, ⟨rfl, by decide +kernel, _, rfl, (zw (zin6 (List.mem_of_getElem? (i := 211) rfl)) rfl), (zw (zin6 (List.mem_of_getElem? (i := 212) rfl)) rfl), (zw (zin6 (List.mem_of_getElem? (i := 213) rfl)) rfl)⟩⟩
set_option maxRecDepth 20000 in
theorem zVl4_28 : zVok (((5, 163, 9), 104, 5, 0)) := ⟨_, _, rfl, rfl, by decide, ⟨by decide, by decide +kernel, (zw (zin3 (List.mem_of_getElem? (i := 224) rfl)) rfl), (zw (zin3 (List.mem_of_getElem? (i := 225) rfl)) rfl)⟩⟩
set_option maxRecDepth 20000 in
theorem zVl4_29 : zVok (((5, 165, 0), 206, 3, 7)) := ⟨_, _, rfl, rfl, by decide, ⟨rfl, by decide +kernel, _, rfl, (zw (zin6 (List.mem_of_getElem? (i := 215) rfl)) rfl), (zw (zin6 (List.mem_of_getElem? (i := 216) rfl)) rfl), (zw (zin6 (List.mem_of_getElem? (i := 217) rfl)) rfl)⟩⟩
set_option maxRecDepth 20000 in
theorem zVl4_30 : zVok (((5, 166, 9), 105, 5, 0)) := ⟨_, _, rfl, rfl, by decide, ⟨by decide, by decide +kernel, (zw (zin3 (List.mem_of_getElem? (i := 228) rfl)) rfl), (zw (zin3 (List.mem_of_getElem? (i := 229) rfl)) rfl)⟩⟩
set_option maxRecDepth 20000 in
theorem zVl4_31 : zVok (((5, 168, 0), 207, 3, 7)) := ⟨_, _, rfl, rfl, by decide, ⟨rfl, by decide +kernel, _, rfl, (zw (zin6 (List.mem_of_getElem? (i := 219) rfl)) rfl), (zw (zin6 (List.mem_of_getElem? (i := 220) rfl)) rfl), (zw (zin6 (List.mem_of_getElem? (i := 221) rfl)) rfl)⟩⟩
set_option maxRecDepth 20000 in
theorem zVl4_32 : zVok (((5, 169, 9), 106, 5, 0)) := ⟨_, _, rfl, rfl, by decide, ⟨by decide, by decide +kernel, (zw (zin3 (List.mem_of_getElem? (i := 232) rfl)) rfl), (zw (zin3 (List.mem_of_getElem? (i := 233) rfl)) rfl)⟩⟩
set_option maxRecDepth 20000 in
theorem zVl4_33 : zVok (((5, 171, 0), 209, 3, 7)) := ⟨_, _, rfl, rfl, by decide, ⟨rfl, by decide +kernel, _, rfl, (zw (zin6 (List.mem_of_getElem? (i := 227) rfl)) rfl), (zw (zin6 (List.mem_of_getElem? (i := 228) rfl)) rfl), (zw (zin6 (List.mem_of_getElem? (i := 229) rfl)) rfl)⟩⟩
set_option maxRecDepth 20000 in
theorem zVl4_34 : zVok (((5, 172, 9), 107, 4, 0)) := ⟨_, _, rfl, rfl, by decide, ⟨by decide, by decide +kernel, (zw (zin3 (List.mem_of_getElem? (i := 236) rfl)) rfl), (zw (zin3 (List.mem_of_getElem? (i := 237) rfl)) rfl)⟩⟩
set_option maxRecDepth 20000 in
theorem zVl4_35 : zVok (((5, 174, 0), 211, 2, 7)) := ⟨_, _, rfl, rfl, by decide, ⟨rfl, by decide +kernel, _, rfl, (zw (zin6 (List.mem_of_getElem? (i := 235) rfl)) rfl), (zw (zin6 (List.mem_of_getElem? (i := 236) rfl)) rfl), (zw (zin6 (List.mem_of_getElem? (i := 237) rfl)) rfl)⟩⟩
set_option maxRecDepth 20000 in
theorem zVl4_36 : zVok (((5, 175, 9), 108, 3, 0)) := ⟨_, _, rfl, rfl, by decide, ⟨by decide, by decide +kernel, (zw (zin4 (List.mem_of_getElem? (i := 0) rfl)) rfl), (zw (zin4 (List.mem_of_getElem? (i := 1) rfl)) rfl)⟩⟩
set_option maxRecDepth 20000 in
theorem zVl4_37 : zVok (((5, 177, 0), 215, 1, 7)) := ⟨_, _, rfl, rfl, by decide, ⟨rfl, by decide +kernel, _, rfl, (zw (zin7 (List.mem_of_getElem? (i := 10) rfl)) rfl), (zw (zin7 (List.mem_of_getElem? (i := 11) rfl)) rfl), (zw (zin7 (List.mem_of_getElem? (i := 12) rfl)) rfl)⟩⟩
set_option maxRecDepth 20000 in
theorem zVl4_38 : zVok (((5, 178, 9), 135, 4, 0)) := ⟨_, _, rfl, rfl, by decide, ⟨by decide, by decide +kernel, (zw (zin5 (List.mem_of_getElem? (i := 33) rfl)) rfl), (zw (zin5 (List.mem_of_getElem? (i := 34) rfl)) rfl)⟩⟩
set_option maxRecDepth 20000 in
theorem zVl4_39 : zVok (((5, 180, 0), 216, 2, 7)) := ⟨_, _, rfl, rfl, by decide, ⟨rfl, by decide +kernel, _, rfl, (zw (zin7 (List.mem_of_getElem? (i := 19) rfl)) rfl), (zw (zin7 (List.mem_of_getElem? (i := 20) rfl)) rfl), (zw (zin7 (List.mem_of_getElem? (i := 21) rfl)) rfl)⟩⟩
set_option maxRecDepth 20000 in
theorem zVl4_40 : zVok (((5, 181, 9), 136, 4, 0)) := ⟨_, _, rfl, rfl, by decide, ⟨by decide, by decide +kernel, (zw (zin5 (List.mem_of_getElem? (i := 37) rfl)) rfl), (zw (zin5 (List.mem_of_getElem? (i := 38) rfl)) rfl)⟩⟩
set_option maxRecDepth 20000 in
theorem zVl4_41 : zVok (((5, 183, 0), 217, 2, 7)) := ⟨_, _, rfl, rfl, by decide, ⟨rfl, by decide +kernel, _, rfl, (zw (zin7 (List.mem_of_getElem? (i := 23) rfl)) rfl), (zw (zin7 (List.mem_of_getElem? (i := 24) rfl)) rfl), (zw (zin7 (List.mem_of_getElem? (i := 25) rfl)) rfl)⟩⟩
set_option maxRecDepth 20000 in
theorem zVl4_42 : zVok (((5, 184, 9), 138, 4, 0)) := ⟨_, _, rfl, rfl, by decide, ⟨by decide, by decide +kernel, (zw (zin5 (List.mem_of_getElem? (i := 44) rfl)) rfl), (zw (zin5 (List.mem_of_getElem? (i := 45) rfl)) rfl)⟩⟩
set_option maxRecDepth 20000 in
theorem zVl4_43 : zVok (((5, 186, 0), 220, 2, 7)) := ⟨_, _, rfl, rfl, by decide, ⟨rfl, by decide +kernel, _, rfl, (zw (zin7 (List.mem_of_getElem? (i := 33) rfl)) rfl), (zw (zin7 (List.mem_of_getElem? (i := 34) rfl)) rfl), (zw (zin7 (List.mem_of_getElem? (i := 35) rfl)) rfl)⟩⟩
set_option maxRecDepth 20000 in
theorem zVl4_44 : zVok (((5, 187, 9), 139, 3, 0)) := ⟨_, _, rfl, rfl, by decide, ⟨by decide, by decide +kernel, (zw (zin5 (List.mem_of_getElem? (i := 48) rfl)) rfl), (zw (zin5 (List.mem_of_getElem? (i := 49) rfl)) rfl)⟩⟩
set_option maxRecDepth 20000 in
theorem zVl4_45 : zVok (((5, 189, 0), 223, 1, 7)) := ⟨_, _, rfl, rfl, by decide, ⟨rfl, by decide +kernel, _, rfl, (zw (zin7 (List.mem_of_getElem? (i := 51) rfl)) rfl), (zw (zin7 (List.mem_of_getElem? (i := 52) rfl)) rfl), (zw (zin7 (List.mem_of_getElem? (i := 53) rfl)) rfl)⟩⟩
set_option maxRecDepth 20000 in
theorem zVl4_46 : zVok (((5, 190, 9), 140, 3, 0)) := ⟨_, _, rfl, rfl, by decide, ⟨by decide, by decide +kernel, (zw (zin5 (List.mem_of_getElem? (i := 52) rfl)) rfl), (zw (zin5 (List.mem_of_getElem? (i := 53) rfl)) rfl)⟩⟩
set_option maxRecDepth 20000 in
theorem zVl4_47 : zVok (((5, 192, 0), 225, 1, 7)) := ⟨_, _, rfl, rfl, by decide, ⟨rfl, by decide +kernel, _, rfl, (zw (zin7 (List.mem_of_getElem? (i := 59) rfl)) rfl), (zw (zin7 (List.mem_of_getElem? (i := 60) rfl)) rfl), (zw (zin7 (List.mem_of_getElem? (i := 61) rfl)) rfl)⟩⟩
set_option maxRecDepth 20000 in
theorem zVl4_48 : zVok (((5, 193, 0), 237, 0, 7)) := ⟨_, _, rfl, rfl, by decide, ⟨rfl, by decide +kernel, _, rfl, (zw (zin5 (List.mem_of_getElem? (i := 117) rfl)) rfl), (zw (zin5 (List.mem_of_getElem? (i := 118) rfl)) rfl), (zw (zin5 (List.mem_of_getElem? (i := 119) rfl)) rfl)⟩⟩
set_option maxRecDepth 20000 in
theorem zVl4_49 : zVok (((5, 196, 9), 141, 3, 0)) := ⟨_, _, rfl, rfl, by decide, ⟨by decide, by decide +kernel, (zw (zin5 (List.mem_of_getElem? (i := 56) rfl)) rfl), (zw (zin5 (List.mem_of_getElem? (i := 57) rfl)) rfl)⟩⟩
set_option maxRecDepth 20000 in
theorem zVl4_50 : zVok (((5, 198, 0), 227, 1, 7)) := ⟨_, _, rfl, rfl, by decide, ⟨rfl, by decide +kernel, _, rfl, (zw (zin7 (List.mem_of_getElem? (i := 67) rfl)) rfl), (zw (zin7 (List.mem_of_getElem? (i := 68) rfl)) rfl), (zw (zin7 (List.mem_of_getElem? (i := 69) rfl)) rfl)⟩⟩
set_option maxRecDepth 20000 in
theorem zVl4_51 : zVok (((5, 199, 9), 142, 6, 0)) := ⟨_, _, rfl, rfl, by decide, ⟨by decide, by decide +kernel, (zw (zin5 (List.mem_of_getElem? (i := 60) rfl)) rfl), (zw (zin5 (List.mem_of_getElem? (i := 61) rfl)) rfl)⟩⟩
set_option maxRecDepth 20000 in
theorem zVl4_52 : zVok (((5, 202, 0), 229, 4, 7)) := ⟨_, _, rfl, rfl, by decide, ⟨rfl, by decide +kernel, _, rfl, (zw (zin7 (List.mem_of_getElem? (i := 85) rfl)) rfl), (zw (zin7 (List.mem_of_getElem? (i := 86) rfl)) rfl), (zw (zin7 (List.mem_of_getElem? (i := 87) rfl)) rfl)⟩⟩
set_option maxRecDepth 20000 in
theorem zVl4_53 : zVok (((5, 203, 9), 144, 3, 0)) := ⟨_, _, rfl, rfl, by decide, ⟨by decide, by decide +kernel, (zw (zin5 (List.mem_of_getElem? (i := 67) rfl)) rfl), (zw (zin5 (List.mem_of_getElem? (i := 68) rfl)) rfl)⟩⟩
set_option maxRecDepth 20000 in
theorem zVl4_54 : zVok (((5, 205, 0), 230, 1, 7)) := ⟨_, _, rfl, rfl, by decide, ⟨rfl, by decide +kernel, _, rfl, (zw (zin7 (List.mem_of_getElem? (i := 90) rfl)) rfl), (zw (zin7 (List.mem_of_getElem? (i := 91) rfl)) rfl), (zw (zin7 (List.mem_of_getElem? (i := 92) rfl)) rfl)⟩⟩
set_option maxRecDepth 20000 in
theorem zVl4_55 : zVok (((5, 206, 9), 145, 4, 0)) := ⟨_, _, rfl, rfl, by decide, ⟨by decide, by decide +kernel, (zw (zin5 (List.mem_of_getElem? (i := 71) rfl)) rfl), (zw (zin5 (List.mem_of_getElem? (i := 72) rfl)) rfl)⟩⟩
set_option maxRecDepth 20000 in
theorem zVl4_56 : zVok (((5, 208, 0), 233, 2, 7)) := ⟨_, _, rfl, rfl, by decide, ⟨rfl, by decide +kernel, _, rfl, (zw (zin7 (List.mem_of_getElem? (i := 101) rfl)) rfl), (zw (zin7 (List.mem_of_getElem? (i := 102) rfl)) rfl), (zw (zin7 (List.mem_of_getElem? (i := 103) rfl)) rfl)⟩⟩
set_option maxRecDepth 20000 in
theorem zVl4_57 : zVok (((5, 209, 0), 10, 0, 0)) := ⟨_, _, rfl, rfl, by decide, ⟨rfl, by decide +kernel, _, rfl, (zw (zin1 (List.mem_of_getElem? (i := 159) rfl)) rfl), (zw (zin1 (List.mem_of_getElem? (i := 160) rfl)) rfl), (zw (zin1 (List.mem_of_getElem? (i := 161) rfl)) rfl)⟩⟩
set_option maxRecDepth 20000 in
theorem zVl4_58 : zVok (((5, 213, 0), 236, 0, 7)) := ⟨_, _, rfl, rfl, by decide, ⟨rfl, by decide +kernel, _, rfl, (zw (zin7 (List.mem_of_getElem? (i := 112) rfl)) rfl), (zw (zin7 (List.mem_of_getElem? (i := 113) rfl)) rfl), (zw (zin7 (List.mem_of_getElem? (i := 114) rfl)) rfl)⟩⟩
theorem zVl4_ok : ∀ e ∈ zVl4, zVok e := List.forall_mem_cons.mpr ⟨zVl4_0, List.forall_mem_cons.mpr ⟨zVl4_1, List.forall_mem_cons.mpr ⟨zVl4_2, List.forall_mem_cons.mpr ⟨zVl4_3, List.forall_mem_cons.mpr ⟨zVl4_4, List.forall_mem_cons.mpr ⟨zVl4_5, List.forall_mem_cons.mpr ⟨zVl4_6, List.forall_mem_cons.mpr ⟨zVl4_7, List.forall_mem_cons.mpr ⟨zVl4_8, List.forall_mem_cons.mpr ⟨zVl4_9, List.forall_mem_cons.mpr ⟨zVl4_10, List.forall_mem_cons.mpr ⟨zVl4_11, List.forall_mem_cons.mpr ⟨zVl4_12, List.forall_mem_cons.mpr ⟨zVl4_13, List.forall_mem_cons.mpr ⟨zVl4_14, List.forall_mem_cons.mpr ⟨zVl4_15, List.forall_mem_cons.mpr ⟨zVl4_16, List.forall_mem_cons.mpr ⟨zVl4_17, List.forall_mem_cons.mpr ⟨zVl4_18, List.forall_mem_cons.mpr ⟨zVl4_19, List.forall_mem_cons.mpr ⟨zVl4_20, List.forall_mem_cons.mpr ⟨zVl4_21, List.forall_mem_cons.mpr ⟨zVl4_22, List.forall_mem_cons.mpr ⟨zVl4_23, List.forall_mem_cons.mpr ⟨zVl4_24, List.forall_mem_cons.mpr ⟨zVl4_25, List.forall_mem_cons.mpr ⟨zVl4_26, List.forall_mem_cons.mpr ⟨zVl4_27, List.forall_mem_cons.mpr ⟨zVl4_28, List.forall_mem_cons.mpr ⟨zVl4_29, List.forall_mem_cons.mpr ⟨zVl4_30, List.forall_mem_cons.mpr ⟨zVl4_31, List.forall_mem_cons.mpr ⟨zVl4_32, List.forall_mem_cons.mpr ⟨zVl4_33, List.forall_mem_cons.mpr ⟨zVl4_34, List.forall_mem_cons.mpr ⟨zVl4_35, List.forall_mem_cons.mpr ⟨zVl4_36, List.forall_mem_cons.mpr ⟨zVl4_37, List.forall_mem_cons.mpr ⟨zVl4_38, List.forall_mem_cons.mpr ⟨zVl4_39, List.forall_mem_cons.mpr ⟨zVl4_40, List.forall_mem_cons.mpr ⟨zVl4_41, List.forall_mem_cons.mpr ⟨zVl4_42, List.forall_mem_cons.mpr ⟨zVl4_43, List.forall_mem_cons.mpr ⟨zVl4_44, List.forall_mem_cons.mpr ⟨zVl4_45, List.forall_mem_cons.mpr ⟨zVl4_46, List.forall_mem_cons.mpr ⟨zVl4_47, List.forall_mem_cons.mpr ⟨zVl4_48, List.forall_mem_cons.mpr ⟨zVl4_49, List.forall_mem_cons.mpr ⟨zVl4_50, List.forall_mem_cons.mpr ⟨zVl4_51, List.forall_mem_cons.mpr ⟨zVl4_52, List.forall_mem_cons.mpr ⟨zVl4_53, List.forall_mem_cons.mpr ⟨zVl4_54, List.forall_mem_cons.mpr ⟨zVl4_55, List.forall_mem_cons.mpr ⟨zVl4_56, List.forall_mem_cons.mpr ⟨zVl4_57, List.forall_mem_cons.mpr ⟨zVl4_58, fun _ h => absurd h List.not_mem_nil⟩⟩⟩⟩⟩⟩⟩⟩⟩⟩⟩⟩⟩⟩⟩⟩⟩⟩⟩⟩⟩⟩⟩⟩⟩⟩⟩⟩⟩⟩⟩⟩⟩⟩⟩⟩⟩⟩⟩⟩⟩⟩⟩⟩⟩⟩⟩⟩⟩⟩⟩⟩⟩⟩⟩⟩⟩⟩⟩
def zVl : List (List zVe) := [zVl0, zVl1, zVl2, zVl3, zVl4]
theorem zVl_ok : ∀ l ∈ zVl, ∀ e ∈ l, zVok e := List.forall_mem_cons.mpr ⟨zVl0_ok, List.forall_mem_cons.mpr ⟨zVl1_ok, List.forall_mem_cons.mpr ⟨zVl2_ok, List.forall_mem_cons.mpr ⟨zVl3_ok, List.forall_mem_cons.mpr ⟨zVl4_ok, fun _ h => absurd h List.not_mem_nil⟩⟩⟩⟩⟩
/-! ===== natives ===== -/
def zWok (e : (Nat × Nat) × Nat) : Prop := ∃ own, zon[e.1.1]? = some own ∧ ∃ y : MethodName, Jvm.Cond.methodLink own e.1.2 y ∈ zWS ∧ (e.2 = 20 ∧ y = Lib.objectInit ∨ e.2 = 21 ∧ y = arraycopyName ∨ e.2 = 25 ∧ y = ⟨"java/lang/Math", "min", "(FF)F"⟩ ∨ e.2 = 26 ∧ y = ⟨"java/lang/Math", "abs", "(D)D"⟩)
def zWl : List ((Nat × Nat) × Nat) := [((0, 1), 20),
  ((1, 3), 20),
  ((2, 3), 20),
  ((1, 97), 21),
  ((4, 1), 20),
  ((6, 3), 20),
  ((6, 41), 21),
  ((8, 3), 20),
  ((11, 150), 21),
  ((14, 1), 20),
  ((15, 1), 20),
  ((18, 1), 20),
  ((19, 3), 20),
  ((19, 41), 21),
  ((21, 1), 20),
  ((16, 112), 21),
  ((15, 201), 25),
  ((15, 226), 26)]
set_option maxRecDepth 20000 in
theorem zWl_0 : zWok (((0, 1), 20)) := ⟨_, rfl, _, (zw (zin1 (List.mem_of_getElem? (i := 38) rfl)) rfl), .inl ⟨rfl, rfl⟩⟩
set_option maxRecDepth 20000 in
theorem zWl_1 : zWok (((1, 3), 20)) := ⟨_, rfl, _, (zw (zin1 (List.mem_of_getElem? (i := 48) rfl)) rfl), .inl ⟨rfl, rfl⟩⟩
set_option maxRecDepth 20000 in
theorem zWl_2 : zWok (((2, 3), 20)) := ⟨_, rfl, _, (zw (zin1 (List.mem_of_getElem? (i := 101) rfl)) rfl), .inl ⟨rfl, rfl⟩⟩
set_option maxRecDepth 20000 in
theorem zWl_3 : zWok (((1, 97), 21)) := ⟨_, rfl, _, (zw (zin2 (List.mem_of_getElem? (i := 68) rfl)) rfl), .inr (.inl ⟨rfl, rfl⟩)⟩
set_option maxRecDepth 20000 in
theorem zWl_4 : zWok (((4, 1), 20)) := ⟨_, rfl, _, (zw (zin3 (List.mem_of_getElem? (i := 14) rfl)) rfl), .inl ⟨rfl, rfl⟩⟩
set_option maxRecDepth 20000 in
theorem zWl_5 : zWok (((6, 3), 20)) := ⟨_, rfl, _, (zw (zin3 (List.mem_of_getElem? (i := 55) rfl)) rfl), .inl ⟨rfl, rfl⟩⟩
set_option maxRecDepth 20000 in
theorem zWl_6 : zWok (((6, 41), 21)) := ⟨_, rfl, _, (zw (zin3 (List.mem_of_getElem? (i := 145) rfl)) rfl), .inr (.inl ⟨rfl, rfl⟩)⟩
set_option maxRecDepth 20000 in
theorem zWl_7 : zWok (((8, 3), 20)) := ⟨_, rfl, _, (zw (zin4 (List.mem_of_getElem? (i := 15) rfl)) rfl), .inl ⟨rfl, rfl⟩⟩
set_option maxRecDepth 20000 in
theorem zWl_8 : zWok (((11, 150), 21)) := ⟨_, rfl, _, (zw (zin4 (List.mem_of_getElem? (i := 77) rfl)) rfl), .inr (.inl ⟨rfl, rfl⟩)⟩
set_option maxRecDepth 20000 in
theorem zWl_9 : zWok (((14, 1), 20)) := ⟨_, rfl, _, (zw (zin4 (List.mem_of_getElem? (i := 147) rfl)) rfl), .inl ⟨rfl, rfl⟩⟩
set_option maxRecDepth 20000 in
theorem zWl_10 : zWok (((15, 1), 20)) := ⟨_, rfl, _, (zw (zin5 (List.mem_of_getElem? (i := 80) rfl)) rfl), .inl ⟨rfl, rfl⟩⟩
set_option maxRecDepth 20000 in
theorem zWl_11 : zWok (((18, 1), 20)) := ⟨_, rfl, _, (zw (zin5 (List.mem_of_getElem? (i := 92) rfl)) rfl), .inl ⟨rfl, rfl⟩⟩
set_option maxRecDepth 20000 in
theorem zWl_12 : zWok (((19, 3), 20)) := ⟨_, rfl, _, (zw (zin5 (List.mem_of_getElem? (i := 147) rfl)) rfl), .inl ⟨rfl, rfl⟩⟩
set_option maxRecDepth 20000 in
theorem zWl_13 : zWok (((19, 41), 21)) := ⟨_, rfl, _, (zw (zin6 (List.mem_of_getElem? (i := 109) rfl)) rfl), .inr (.inl ⟨rfl, rfl⟩)⟩
set_option maxRecDepth 20000 in
theorem zWl_14 : zWok (((21, 1), 20)) := ⟨_, rfl, _, (zw (zin6 (List.mem_of_getElem? (i := 139) rfl)) rfl), .inl ⟨rfl, rfl⟩⟩
set_option maxRecDepth 20000 in
theorem zWl_15 : zWok (((16, 112), 21)) := ⟨_, rfl, _, (zw (zin6 (List.mem_of_getElem? (i := 170) rfl)) rfl), .inr (.inl ⟨rfl, rfl⟩)⟩
set_option maxRecDepth 20000 in
theorem zWl_16 : zWok (((15, 201), 25)) := ⟨_, rfl, _, (zw (zin7 (List.mem_of_getElem? (i := 43) rfl)) rfl), .inr (.inr (.inl ⟨rfl, rfl⟩))⟩
set_option maxRecDepth 20000 in
theorem zWl_17 : zWok (((15, 226), 26)) := ⟨_, rfl, _, (zw (zin7 (List.mem_of_getElem? (i := 75) rfl)) rfl), .inr (.inr (.inr ⟨rfl, rfl⟩))⟩
theorem zWl_ok : ∀ e ∈ zWl, zWok e := List.forall_mem_cons.mpr ⟨zWl_0, List.forall_mem_cons.mpr ⟨zWl_1, List.forall_mem_cons.mpr ⟨zWl_2, List.forall_mem_cons.mpr ⟨zWl_3, List.forall_mem_cons.mpr ⟨zWl_4, List.forall_mem_cons.mpr ⟨zWl_5, List.forall_mem_cons.mpr ⟨zWl_6, List.forall_mem_cons.mpr ⟨zWl_7, List.forall_mem_cons.mpr ⟨zWl_8, List.forall_mem_cons.mpr ⟨zWl_9, List.forall_mem_cons.mpr ⟨zWl_10, List.forall_mem_cons.mpr ⟨zWl_11, List.forall_mem_cons.mpr ⟨zWl_12, List.forall_mem_cons.mpr ⟨zWl_13, List.forall_mem_cons.mpr ⟨zWl_14, List.forall_mem_cons.mpr ⟨zWl_15, List.forall_mem_cons.mpr ⟨zWl_16, List.forall_mem_cons.mpr ⟨zWl_17, fun _ h => absurd h List.not_mem_nil⟩⟩⟩⟩⟩⟩⟩⟩⟩⟩⟩⟩⟩⟩⟩⟩⟩⟩
theorem zoi1 : Jvm.Cond.instanceMethod Lib.objectInit ∈ zWS := (zw (zin1 (List.mem_of_getElem? (i := 39) rfl)) rfl)
theorem zoi2 : Jvm.Cond.code Lib.objectInit ⟨#[0xb1]⟩ 1 none ∈ zWS := (zw (zin1 (List.mem_of_getElem? (i := 40) rfl)) rfl)
theorem zacn : Jvm.Cond.native arraycopyName ∈ zWS := (zw (zin2 (List.mem_of_getElem? (i := 70) rfl)) rfl)
theorem zacs : Jvm.Cond.static arraycopyName ∈ zWS := (zw (zin2 (List.mem_of_getElem? (i := 69) rfl)) rfl)
theorem zacl : Jvm.Cond.initialized "java/lang/System" ∈ zWS := (zw (zin1 (List.mem_of_getElem? (i := 19) rfl)) rfl)
theorem zmfs : Jvm.Cond.static ⟨"java/lang/Math", "min", "(FF)F"⟩ ∈ zWS := (zw (zin7 (List.mem_of_getElem? (i := 44) rfl)) rfl)
theorem zmfc : (Jvm.Cond.code ⟨"java/lang/Math", "min", "(FF)F"⟩ prog_24_method_71_code 2 (some .float)) ∈ zWS := (zw (zin7 (List.mem_of_getElem? (i := 45) rfl)) rfl)
def zmfb : ByteArray := prog_24_method_71_code
theorem zmas : Jvm.Cond.static ⟨"java/lang/Math", "abs", "(D)D"⟩ ∈ zWS := (zw (zin7 (List.mem_of_getElem? (i := 76) rfl)) rfl)
theorem zmac : (Jvm.Cond.code ⟨"java/lang/Math", "abs", "(D)D"⟩ prog_24_method_64_code 2 (some .double)) ∈ zWS := (zw (zin7 (List.mem_of_getElem? (i := 77) rfl)) rfl)
def zmab : ByteArray := prog_24_method_64_code
theorem zmal : Jvm.Cond.initialized "java/lang/Math" ∈ zWS := (zw (zin1 (List.mem_of_getElem? (i := 17) rfl)) rfl)
