theorem kL_law_2400 : bc_decR code pL_law 2400 60 = true := by decide +kernel
theorem kL_law_2460 : bc_decR code pL_law 2460 60 = true := by decide +kernel
theorem kL_law_2520 : bc_decR code pL_law 2520 60 = true := by decide +kernel
theorem kL_law_2580 : bc_decR code pL_law 2580 60 = true := by decide +kernel
theorem kL_law_2640 : bc_decR code pL_law 2640 60 = true := by decide +kernel
theorem kL_law_2700 : bc_decR code pL_law 2700 60 = true := by decide +kernel
theorem kL_law_2760 : bc_decR code pL_law 2760 60 = true := by decide +kernel
theorem kL_law_2820 : bc_decR code pL_law 2820 60 = true := by decide +kernel
