/-! worth, at all values: the rest -/
set_option maxRecDepth 100000 in
theorem wo_8_4096 : ck_B wo_p 8 4096 = true := by decide +kernel
set_option maxRecDepth 100000 in
theorem wo_8_4352 : ck_B wo_p 8 4352 = true := by decide +kernel
set_option maxRecDepth 100000 in
theorem wo_8_4608 : ck_B wo_p 8 4608 = true := by decide +kernel
set_option maxRecDepth 100000 in
theorem wo_8_4864 : ck_B wo_p 8 4864 = true := by decide +kernel
set_option maxRecDepth 100000 in
theorem wo_8_5120 : ck_B wo_p 8 5120 = true := by decide +kernel
set_option maxRecDepth 100000 in
theorem wo_8_5376 : ck_B wo_p 8 5376 = true := by decide +kernel
set_option maxRecDepth 100000 in
theorem wo_8_5632 : ck_B wo_p 8 5632 = true := by decide +kernel
set_option maxRecDepth 100000 in
theorem wo_8_5888 : ck_B wo_p 8 5888 = true := by decide +kernel
set_option maxRecDepth 100000 in
theorem wo_8_6144 : ck_B wo_p 8 6144 = true := by decide +kernel
set_option maxRecDepth 100000 in
theorem wo_8_6400 : ck_B wo_p 8 6400 = true := by decide +kernel
set_option maxRecDepth 100000 in
theorem wo_8_6656 : ck_B wo_p 8 6656 = true := by decide +kernel
set_option maxRecDepth 100000 in
theorem wo_8_6912 : ck_B wo_p 8 6912 = true := by decide +kernel
set_option maxRecDepth 100000 in
theorem wo_8_7168 : ck_B wo_p 8 7168 = true := by decide +kernel
set_option maxRecDepth 100000 in
theorem wo_8_7424 : ck_B wo_p 8 7424 = true := by decide +kernel
set_option maxRecDepth 100000 in
theorem wo_8_7680 : ck_B wo_p 8 7680 = true := by decide +kernel
set_option maxRecDepth 100000 in
theorem wo_8_7936 : ck_B wo_p 8 7936 = true := by decide +kernel
theorem wo_9_0 : ck_B wo_p 9 0 = true := ck_join wo_8_0 rfl wo_8_256
theorem wo_9_512 : ck_B wo_p 9 512 = true := ck_join wo_8_512 rfl wo_8_768
theorem wo_9_1024 : ck_B wo_p 9 1024 = true := ck_join wo_8_1024 rfl wo_8_1280
theorem wo_9_1536 : ck_B wo_p 9 1536 = true := ck_join wo_8_1536 rfl wo_8_1792
theorem wo_9_2048 : ck_B wo_p 9 2048 = true := ck_join wo_8_2048 rfl wo_8_2304
theorem wo_9_2560 : ck_B wo_p 9 2560 = true := ck_join wo_8_2560 rfl wo_8_2816
theorem wo_9_3072 : ck_B wo_p 9 3072 = true := ck_join wo_8_3072 rfl wo_8_3328
theorem wo_9_3584 : ck_B wo_p 9 3584 = true := ck_join wo_8_3584 rfl wo_8_3840
theorem wo_9_4096 : ck_B wo_p 9 4096 = true := ck_join wo_8_4096 rfl wo_8_4352
theorem wo_9_4608 : ck_B wo_p 9 4608 = true := ck_join wo_8_4608 rfl wo_8_4864
theorem wo_9_5120 : ck_B wo_p 9 5120 = true := ck_join wo_8_5120 rfl wo_8_5376
theorem wo_9_5632 : ck_B wo_p 9 5632 = true := ck_join wo_8_5632 rfl wo_8_5888
theorem wo_9_6144 : ck_B wo_p 9 6144 = true := ck_join wo_8_6144 rfl wo_8_6400
theorem wo_9_6656 : ck_B wo_p 9 6656 = true := ck_join wo_8_6656 rfl wo_8_6912
theorem wo_9_7168 : ck_B wo_p 9 7168 = true := ck_join wo_8_7168 rfl wo_8_7424
theorem wo_9_7680 : ck_B wo_p 9 7680 = true := ck_join wo_8_7680 rfl wo_8_7936
theorem wo_10_0 : ck_B wo_p 10 0 = true := ck_join wo_9_0 rfl wo_9_512
theorem wo_10_1024 : ck_B wo_p 10 1024 = true := ck_join wo_9_1024 rfl wo_9_1536
theorem wo_10_2048 : ck_B wo_p 10 2048 = true := ck_join wo_9_2048 rfl wo_9_2560
theorem wo_10_3072 : ck_B wo_p 10 3072 = true := ck_join wo_9_3072 rfl wo_9_3584
theorem wo_10_4096 : ck_B wo_p 10 4096 = true := ck_join wo_9_4096 rfl wo_9_4608
theorem wo_10_5120 : ck_B wo_p 10 5120 = true := ck_join wo_9_5120 rfl wo_9_5632
theorem wo_10_6144 : ck_B wo_p 10 6144 = true := ck_join wo_9_6144 rfl wo_9_6656
theorem wo_10_7168 : ck_B wo_p 10 7168 = true := ck_join wo_9_7168 rfl wo_9_7680
theorem wo_11_0 : ck_B wo_p 11 0 = true := ck_join wo_10_0 rfl wo_10_1024
theorem wo_11_2048 : ck_B wo_p 11 2048 = true := ck_join wo_10_2048 rfl wo_10_3072
theorem wo_11_4096 : ck_B wo_p 11 4096 = true := ck_join wo_10_4096 rfl wo_10_5120
theorem wo_11_6144 : ck_B wo_p 11 6144 = true := ck_join wo_10_6144 rfl wo_10_7168
theorem wo_12_0 : ck_B wo_p 12 0 = true := ck_join wo_11_0 rfl wo_11_2048
theorem wo_12_4096 : ck_B wo_p 12 4096 = true := ck_join wo_11_4096 rfl wo_11_6144
theorem wo_13_0 : ck_B wo_p 13 0 = true := ck_join wo_12_0 rfl wo_12_4096
theorem worth_n {v : Nat} (hv : v < 7462) : f_cat (nI v) + f_rowAt (f_cat (nI v)) (nI v - fi (f_cat (nI v))) = k_worth (nI (kv v)) := by
  have h := ck_of 13 0 wo_13_0 v (Nat.zero_le _) (by omega)
  simp only [wo_p, Bool.or_eq_true, Nat.ble_eq, decide_eq_true_eq] at h
  rcases h with h | h
  · omega
  · exact h
