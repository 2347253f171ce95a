theorem kL_law_1440 : bc_decR code pL_law 1440 60 = true := by decide +kernel
theorem kL_law_1500 : bc_decR code pL_law 1500 60 = true := by decide +kernel
theorem kL_law_1560 : bc_decR code pL_law 1560 60 = true := by decide +kernel
theorem kL_law_1620 : bc_decR code pL_law 1620 60 = true := by decide +kernel
theorem kL_law_1680 : bc_decR code pL_law 1680 60 = true := by decide +kernel
theorem kL_law_1740 : bc_decR code pL_law 1740 60 = true := by decide +kernel
theorem kL_law_1800 : bc_decR code pL_law 1800 46 = true := by decide +kernel
