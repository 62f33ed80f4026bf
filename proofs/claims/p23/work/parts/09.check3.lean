/-! ===== the bytes, further methods ===== -/
set_option maxRecDepth 100000 in
set_option maxHeartbeats 4000000 in
theorem zck_6 : zckl zmd_6 zcs_6 = true := by decide +kernel
set_option maxRecDepth 100000 in
set_option maxHeartbeats 4000000 in
theorem zck_7a : zckl (zmd_7.take 28) (zcs_7.take 28) = true := by decide +kernel
