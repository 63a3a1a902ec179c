theorem tabs_0 : ((List.range 10).map (fun i => 0 + i)).all tabOk = true := by decide +kernel
theorem tabs_10 : ((List.range 10).map (fun i => 10 + i)).all tabOk = true := by decide +kernel
theorem tabs_20 : ((List.range 10).map (fun i => 20 + i)).all tabOk = true := by decide +kernel
theorem tabs_30 : ((List.range 10).map (fun i => 30 + i)).all tabOk = true := by decide +kernel
theorem tabs_40 : ((List.range 10).map (fun i => 40 + i)).all tabOk = true := by decide +kernel
