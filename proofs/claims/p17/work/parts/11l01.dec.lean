theorem kL_law_480 : bc_decR code pL_law 480 60 = true := by decide +kernel
theorem kL_law_540 : bc_decR code pL_law 540 60 = true := by decide +kernel
theorem kL_law_600 : bc_decR code pL_law 600 60 = true := by decide +kernel
theorem kL_law_660 : bc_decR code pL_law 660 60 = true := by decide +kernel
theorem kL_law_720 : bc_decR code pL_law 720 60 = true := by decide +kernel
theorem kL_law_780 : bc_decR code pL_law 780 60 = true := by decide +kernel
theorem kL_law_840 : bc_decR code pL_law 840 60 = true := by decide +kernel
theorem kL_law_900 : bc_decR code pL_law 900 60 = true := by decide +kernel
