theorem tabL_0 : ((List.range 256).map (fun i => 0 + i)).all (tabP 214) = true := by decide +kernel
