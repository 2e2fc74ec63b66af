theorem okL_4 : fw_okr mL_law 146 48 = true := by decide +kernel
theorem okL_5 : fw_okr mL_law 194 48 = true := by decide +kernel
theorem okL_6 : fw_okr mL_law 242 48 = true := by decide +kernel
theorem okL_7 : fw_okr mL_law 290 48 = true := by decide +kernel
theorem okL_8 : fw_okr mL_law 338 48 = true := by decide +kernel
