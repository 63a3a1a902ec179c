theorem plOk_7 : plOk 7 = true := by decide +kernel
theorem plOk_9 : plOk 9 = true := by decide +kernel
