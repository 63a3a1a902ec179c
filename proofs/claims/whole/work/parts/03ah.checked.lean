theorem tabL_512 : ((List.range 256).map (fun i => 512 + i)).all (tabP 214) = true := by decide +kernel
