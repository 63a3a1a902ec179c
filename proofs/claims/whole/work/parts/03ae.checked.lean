theorem tabs_200 : ((List.range 10).map (fun i => 200 + i)).all tabOk = true := by decide +kernel
theorem tabs_210 : ((List.range 4).map (fun i => 210 + i)).all tabOk = true := by decide +kernel
