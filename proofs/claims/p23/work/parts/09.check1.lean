/-! ===== the bytes, further methods ===== -/
set_option maxRecDepth 100000 in
set_option maxHeartbeats 4000000 in
theorem zck_2 : zckl zmd_2 zcs_2 = true := by decide +kernel
set_option maxRecDepth 100000 in
set_option maxHeartbeats 4000000 in
theorem zck_3 : zckl zmd_3 zcs_3 = true := by decide +kernel
