/-! the keys that are made are those of the table, part 5 -/
set_option maxRecDepth 100000 in
theorem mc_12_12 : mk_ck (kLc (nI (13 - 1)) (nI (13 - 1)) 1) ((od.drop 7462).take 0) = true := by decide +kernel
theorem mb_12_0 : mk_ck (kLb (nI (13 - 1)) 0) ((od.drop 7462).take 0) = true := mk_0 _
theorem mb_12_1 : mk_ck (kLb (nI (13 - 1)) 1) ((od.drop 7462).take (0 + 0)) = true := mk_seq mc_12_12 rfl mb_12_0
theorem ma_0 : mk_ck (kLa 0) ((od.drop 7462).take 0) = true := mk_0 _
theorem ma_1 : mk_ck (kLa 1) ((od.drop 7462).take (0 + 0)) = true := mk_seq mb_12_1 rfl ma_0
theorem ma_2 : mk_ck (kLa 2) ((od.drop 7458).take (4 + 0)) = true := mk_seq mb_11_2 rfl ma_1
theorem ma_3 : mk_ck (kLa 3) ((od.drop 7444).take (14 + 4)) = true := mk_seq mb_10_3 rfl ma_2
theorem ma_4 : mk_ck (kLa 4) ((od.drop 7410).take (34 + 18)) = true := mk_seq mb_9_4 rfl ma_3
theorem ma_5 : mk_ck (kLa 5) ((od.drop 7340).take (70 + 52)) = true := mk_seq mb_8_5 rfl ma_4
theorem ma_6 : mk_ck (kLa 6) ((od.drop 7210).take (130 + 122)) = true := mk_seq mb_7_6 rfl ma_5
theorem ma_7 : mk_ck (kLa 7) ((od.drop 6986).take (224 + 252)) = true := mk_seq mb_6_7 rfl ma_6
theorem ma_8 : mk_ck (kLa 8) ((od.drop 6622).take (364 + 476)) = true := mk_seq mb_5_8 rfl ma_7
theorem ma_9 : mk_ck (kLa 9) ((od.drop 6058).take (564 + 840)) = true := mk_seq mb_4_9 rfl ma_8
theorem ma_10 : mk_ck (kLa 10) ((od.drop 5218).take (840 + 1404)) = true := mk_seq mb_3_10 rfl ma_9
theorem ma_11 : mk_ck (kLa 11) ((od.drop 4008).take (1210 + 2244)) = true := mk_seq mb_2_11 rfl ma_10
theorem ma_12 : mk_ck (kLa 12) ((od.drop 2314).take (1694 + 3454)) = true := mk_seq mb_1_12 rfl ma_11
theorem ma_13 : mk_ck (kLa 13) ((od.drop 0).take (2314 + 5148)) = true := mk_seq mb_0_13 rfl ma_12
