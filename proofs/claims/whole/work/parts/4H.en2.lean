/-! seven cards, 2 of 3 -/
set_option maxRecDepth 100000 in
theorem en7003 : en 7 10 4 1 1024 1024 1024 0 = true := by decide +kernel
set_option maxRecDepth 100000 in
theorem en7004 : en 7 10 3 1 1024 1024 1024 1024 = true := by decide +kernel
set_option maxRecDepth 100000 in
theorem en701 : en 7 11 6 1 2048 0 0 0 = true := by decide +kernel
set_option maxRecDepth 100000 in
theorem en702 : en 7 11 5 1 2048 2048 0 0 = true := by decide +kernel
set_option maxRecDepth 100000 in
theorem en703 : en 7 11 4 1 2048 2048 2048 0 = true := by decide +kernel
set_option maxRecDepth 100000 in
theorem en704 : en 7 11 3 1 2048 2048 2048 2048 = true := by decide +kernel
set_option maxRecDepth 100000 in
theorem en710 : en 7 11 6 1 4096 0 0 0 = true := by decide +kernel
