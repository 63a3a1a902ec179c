theorem tabs_100 : ((List.range 10).map (fun i => 100 + i)).all tabOk = true := by decide +kernel
theorem tabs_110 : ((List.range 10).map (fun i => 110 + i)).all tabOk = true := by decide +kernel
theorem tabs_120 : ((List.range 10).map (fun i => 120 + i)).all tabOk = true := by decide +kernel
theorem tabs_130 : ((List.range 10).map (fun i => 130 + i)).all tabOk = true := by decide +kernel
theorem tabs_140 : ((List.range 10).map (fun i => 140 + i)).all tabOk = true := by decide +kernel
