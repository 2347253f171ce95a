theorem kL_law_0 : bc_decR code pL_law 0 60 = true := by decide +kernel
theorem kL_law_60 : bc_decR code pL_law 60 60 = true := by decide +kernel
theorem kL_law_120 : bc_decR code pL_law 120 60 = true := by decide +kernel
theorem kL_law_180 : bc_decR code pL_law 180 60 = true := by decide +kernel
theorem kL_law_240 : bc_decR code pL_law 240 60 = true := by decide +kernel
theorem kL_law_300 : bc_decR code pL_law 300 60 = true := by decide +kernel
theorem kL_law_360 : bc_decR code pL_law 360 60 = true := by decide +kernel
theorem kL_law_420 : bc_decR code pL_law 420 60 = true := by decide +kernel
