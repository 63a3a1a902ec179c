theorem tabs_150 : ((List.range 10).map (fun i => 150 + i)).all tabOk = true := by decide +kernel
theorem tabs_160 : ((List.range 10).map (fun i => 160 + i)).all tabOk = true := by decide +kernel
theorem tabs_170 : ((List.range 10).map (fun i => 170 + i)).all tabOk = true := by decide +kernel
theorem tabs_180 : ((List.range 10).map (fun i => 180 + i)).all tabOk = true := by decide +kernel
theorem tabs_190 : ((List.range 10).map (fun i => 190 + i)).all tabOk = true := by decide +kernel
