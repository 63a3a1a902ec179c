theorem tabL_768 : ((List.range 256).map (fun i => 768 + i)).all (tabP 214) = true := by decide +kernel
