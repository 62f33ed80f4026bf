/-! ===== the bytes, further methods ===== -/
set_option maxRecDepth 100000 in
set_option maxHeartbeats 4000000 in
theorem zck_4 : zckl zmd_4 zcs_4 = true := by decide +kernel
set_option maxRecDepth 100000 in
set_option maxHeartbeats 4000000 in
theorem zck_5 : zckl zmd_5 zcs_5 = true := by decide +kernel
