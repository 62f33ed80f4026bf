/-! ===== the magnitude of sums: a law of the library ===== -/
theorem zfp0 : True := by
  have := @FP.Core.dadd_mag
  trivial
