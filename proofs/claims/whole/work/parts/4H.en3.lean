/-! seven cards, 3 of 3 -/
set_option maxRecDepth 100000 in
theorem en711 : en 7 11 5 2 6144 0 0 0 = true := by decide +kernel
set_option maxRecDepth 100000 in
theorem en712 : en 7 11 4 2 6144 2048 0 0 = true := by decide +kernel
set_option maxRecDepth 100000 in
theorem en713 : en 7 11 3 2 6144 2048 2048 0 = true := by decide +kernel
set_option maxRecDepth 100000 in
theorem en714 : en 7 11 2 2 6144 2048 2048 2048 = true := by decide +kernel
set_option maxRecDepth 100000 in
theorem en72 : en 7 12 5 1 4096 4096 0 0 = true := by decide +kernel
set_option maxRecDepth 100000 in
theorem en73 : en 7 12 4 1 4096 4096 4096 0 = true := by decide +kernel
set_option maxRecDepth 100000 in
theorem en74 : en 7 12 3 1 4096 4096 4096 4096 = true := by decide +kernel
theorem en7000 : en 7 10 7 0 0 0 0 0 = true := (en_S 7 9 7 0 0 0 0 0 (by decide)).mpr (fun _ => ⟨en70000, en70001, fun _ => ⟨en70002, fun _ => ⟨en70003, fun _ => en70004⟩⟩⟩)
theorem en700 : en 7 11 7 0 0 0 0 0 = true := (en_S 7 10 7 0 0 0 0 0 (by decide)).mpr (fun _ => ⟨en7000, en7001, fun _ => ⟨en7002, fun _ => ⟨en7003, fun _ => en7004⟩⟩⟩)
theorem en70 : en 7 12 7 0 0 0 0 0 = true := (en_S 7 11 7 0 0 0 0 0 (by decide)).mpr (fun _ => ⟨en700, en701, fun _ => ⟨en702, fun _ => ⟨en703, fun _ => en704⟩⟩⟩)
theorem en71 : en 7 12 6 1 4096 0 0 0 = true := (en_S 7 11 6 1 4096 0 0 0 (by decide)).mpr (fun _ => ⟨en710, en711, fun _ => ⟨en712, fun _ => ⟨en713, fun _ => en714⟩⟩⟩)
theorem en7 : en 7 13 7 0 0 0 0 0 = true := (en_S 7 12 7 0 0 0 0 0 (by decide)).mpr (fun _ => ⟨en70, en71, fun _ => ⟨en72, fun _ => ⟨en73, fun _ => en74⟩⟩⟩)
