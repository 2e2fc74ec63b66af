theorem okL_9 : fw_okr mL_law 386 48 = true := by decide +kernel
theorem okL_10 : fw_okr mL_law 434 48 = true := by decide +kernel
theorem okL_11 : fw_okr mL_law 482 48 = true := by decide +kernel
theorem okL_12 : fw_okr mL_law 530 48 = true := by decide +kernel
theorem okL_13 : fw_okr mL_law 578 48 = true := by decide +kernel
