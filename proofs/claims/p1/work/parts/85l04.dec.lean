theorem kL_law_1920 : bc_decR code pL_law 1920 60 = true := by decide +kernel
theorem kL_law_1980 : bc_decR code pL_law 1980 60 = true := by decide +kernel
theorem kL_law_2040 : bc_decR code pL_law 2040 60 = true := by decide +kernel
theorem kL_law_2100 : bc_decR code pL_law 2100 60 = true := by decide +kernel
theorem kL_law_2160 : bc_decR code pL_law 2160 60 = true := by decide +kernel
theorem kL_law_2220 : bc_decR code pL_law 2220 60 = true := by decide +kernel
theorem kL_law_2280 : bc_decR code pL_law 2280 60 = true := by decide +kernel
theorem kL_law_2340 : bc_decR code pL_law 2340 60 = true := by decide +kernel
