theorem kL_law_2880 : bc_decR code pL_law 2880 60 = true := by decide +kernel
theorem kL_law_2940 : bc_decR code pL_law 2940 60 = true := by decide +kernel
theorem kL_law_3000 : bc_decR code pL_law 3000 60 = true := by decide +kernel
theorem kL_law_3060 : bc_decR code pL_law 3060 39 = true := by decide +kernel
