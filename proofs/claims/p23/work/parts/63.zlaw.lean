/-! ===== the pure law holds ===== -/
theorem zlaw_holds : zLaw := by
  intro E h0 b a0 a1 a3 l e0 e1 e2 e3 g0 g1 g3 gb hl hro hs
  have S : ySs E h0 := ⟨⟨a0, e0, (hro _ _ g0).1, g0⟩, ⟨a1, e1, (hro _ _ g1).1, g1⟩, e2, ⟨a3, e3, (hro _ _ g3).1, g3⟩⟩
  refine zcall_dep (d := 19) (by decide) (claw S gb (hro _ _ gb).1 hl (fun h1 r1 r2 => ⟨rfl, r1, by rw [hs, Nat.zero_add] at r2; exact r2⟩))
