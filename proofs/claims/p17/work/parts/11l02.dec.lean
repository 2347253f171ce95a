theorem kL_law_960 : bc_decR code pL_law 960 60 = true := by decide +kernel
theorem kL_law_1020 : bc_decR code pL_law 1020 60 = true := by decide +kernel
theorem kL_law_1080 : bc_decR code pL_law 1080 60 = true := by decide +kernel
theorem kL_law_1140 : bc_decR code pL_law 1140 60 = true := by decide +kernel
theorem kL_law_1200 : bc_decR code pL_law 1200 60 = true := by decide +kernel
theorem kL_law_1260 : bc_decR code pL_law 1260 60 = true := by decide +kernel
theorem kL_law_1320 : bc_decR code pL_law 1320 60 = true := by decide +kernel
theorem kL_law_1380 : bc_decR code pL_law 1380 60 = true := by decide +kernel
