theorem plOk_11 : plOk 11 = true := by decide +kernel
