theorem tabs_50 : ((List.range 10).map (fun i => 50 + i)).all tabOk = true := by decide +kernel
theorem tabs_60 : ((List.range 10).map (fun i => 60 + i)).all tabOk = true := by decide +kernel
theorem tabs_70 : ((List.range 10).map (fun i => 70 + i)).all tabOk = true := by decide +kernel
theorem tabs_80 : ((List.range 10).map (fun i => 80 + i)).all tabOk = true := by decide +kernel
theorem tabs_90 : ((List.range 10).map (fun i => 90 + i)).all tabOk = true := by decide +kernel
