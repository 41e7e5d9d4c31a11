/-! seven cards, 1 of 3 -/
set_option maxRecDepth 100000 in
theorem en70000 : en 7 9 7 0 0 0 0 0 = true := by decide +kernel
set_option maxRecDepth 100000 in
theorem en70001 : en 7 9 6 1 512 0 0 0 = true := by decide +kernel
set_option maxRecDepth 100000 in
theorem en70002 : en 7 9 5 1 512 512 0 0 = true := by decide +kernel
set_option maxRecDepth 100000 in
theorem en70003 : en 7 9 4 1 512 512 512 0 = true := by decide +kernel
set_option maxRecDepth 100000 in
theorem en70004 : en 7 9 3 1 512 512 512 512 = true := by decide +kernel
set_option maxRecDepth 100000 in
theorem en7001 : en 7 10 6 1 1024 0 0 0 = true := by decide +kernel
set_option maxRecDepth 100000 in
theorem en7002 : en 7 10 5 1 1024 1024 0 0 = true := by decide +kernel
