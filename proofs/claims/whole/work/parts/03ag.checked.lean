theorem tabL_256 : ((List.range 256).map (fun i => 256 + i)).all (tabP 214) = true := by decide +kernel
