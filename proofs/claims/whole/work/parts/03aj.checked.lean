theorem tabL_1024 : ((List.range 208).map (fun i => 1024 + i)).all (tabP 214) = true := by decide +kernel
