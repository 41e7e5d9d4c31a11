/-! the keys that are made are those of the table, part 4 -/
set_option maxRecDepth 100000 in
theorem mc_4_4 : mk_ck (kLc (nI (13 - 9)) (nI (13 - 9)) 9) ((od.drop 6058).take 164) = true := by decide +kernel
set_option maxRecDepth 100000 in
theorem mc_4_5 : mk_ck (kLc (nI (13 - 9)) (nI (13 - 8)) 8) ((od.drop 6222).take 155) = true := by decide +kernel
set_option maxRecDepth 100000 in
theorem mc_4_6 : mk_ck (kLc (nI (13 - 9)) (nI (13 - 7)) 7) ((od.drop 6377).take 104) = true := by decide +kernel
set_option maxRecDepth 100000 in
theorem mc_4_7 : mk_ck (kLc (nI (13 - 9)) (nI (13 - 6)) 6) ((od.drop 6481).take 66) = true := by decide +kernel
set_option maxRecDepth 100000 in
theorem mc_4_8 : mk_ck (kLc (nI (13 - 9)) (nI (13 - 5)) 5) ((od.drop 6547).take 39) = true := by decide +kernel
set_option maxRecDepth 100000 in
theorem mc_4_9 : mk_ck (kLc (nI (13 - 9)) (nI (13 - 4)) 4) ((od.drop 6586).take 21) = true := by decide +kernel
set_option maxRecDepth 100000 in
theorem mc_4_10 : mk_ck (kLc (nI (13 - 9)) (nI (13 - 3)) 3) ((od.drop 6607).take 10) = true := by decide +kernel
set_option maxRecDepth 100000 in
theorem mc_4_11 : mk_ck (kLc (nI (13 - 9)) (nI (13 - 2)) 2) ((od.drop 6617).take 4) = true := by decide +kernel
set_option maxRecDepth 100000 in
theorem mc_4_12 : mk_ck (kLc (nI (13 - 9)) (nI (13 - 1)) 1) ((od.drop 6621).take 1) = true := by decide +kernel
theorem mb_4_0 : mk_ck (kLb (nI (13 - 9)) 0) ((od.drop 6622).take 0) = true := mk_0 _
theorem mb_4_1 : mk_ck (kLb (nI (13 - 9)) 1) ((od.drop 6621).take (1 + 0)) = true := mk_seq mc_4_12 rfl mb_4_0
theorem mb_4_2 : mk_ck (kLb (nI (13 - 9)) 2) ((od.drop 6617).take (4 + 1)) = true := mk_seq mc_4_11 rfl mb_4_1
theorem mb_4_3 : mk_ck (kLb (nI (13 - 9)) 3) ((od.drop 6607).take (10 + 5)) = true := mk_seq mc_4_10 rfl mb_4_2
theorem mb_4_4 : mk_ck (kLb (nI (13 - 9)) 4) ((od.drop 6586).take (21 + 15)) = true := mk_seq mc_4_9 rfl mb_4_3
theorem mb_4_5 : mk_ck (kLb (nI (13 - 9)) 5) ((od.drop 6547).take (39 + 36)) = true := mk_seq mc_4_8 rfl mb_4_4
theorem mb_4_6 : mk_ck (kLb (nI (13 - 9)) 6) ((od.drop 6481).take (66 + 75)) = true := mk_seq mc_4_7 rfl mb_4_5
theorem mb_4_7 : mk_ck (kLb (nI (13 - 9)) 7) ((od.drop 6377).take (104 + 141)) = true := mk_seq mc_4_6 rfl mb_4_6
theorem mb_4_8 : mk_ck (kLb (nI (13 - 9)) 8) ((od.drop 6222).take (155 + 245)) = true := mk_seq mc_4_5 rfl mb_4_7
theorem mb_4_9 : mk_ck (kLb (nI (13 - 9)) 9) ((od.drop 6058).take (164 + 400)) = true := mk_seq mc_4_4 rfl mb_4_8
set_option maxRecDepth 100000 in
theorem mc_5_5 : mk_ck (kLc (nI (13 - 8)) (nI (13 - 8)) 8) ((od.drop 6622).take 119) = true := by decide +kernel
set_option maxRecDepth 100000 in
theorem mc_5_6 : mk_ck (kLc (nI (13 - 8)) (nI (13 - 7)) 7) ((od.drop 6741).take 104) = true := by decide +kernel
set_option maxRecDepth 100000 in
theorem mc_5_7 : mk_ck (kLc (nI (13 - 8)) (nI (13 - 6)) 6) ((od.drop 6845).take 66) = true := by decide +kernel
set_option maxRecDepth 100000 in
theorem mc_5_8 : mk_ck (kLc (nI (13 - 8)) (nI (13 - 5)) 5) ((od.drop 6911).take 39) = true := by decide +kernel
set_option maxRecDepth 100000 in
theorem mc_5_9 : mk_ck (kLc (nI (13 - 8)) (nI (13 - 4)) 4) ((od.drop 6950).take 21) = true := by decide +kernel
set_option maxRecDepth 100000 in
theorem mc_5_10 : mk_ck (kLc (nI (13 - 8)) (nI (13 - 3)) 3) ((od.drop 6971).take 10) = true := by decide +kernel
set_option maxRecDepth 100000 in
theorem mc_5_11 : mk_ck (kLc (nI (13 - 8)) (nI (13 - 2)) 2) ((od.drop 6981).take 4) = true := by decide +kernel
set_option maxRecDepth 100000 in
theorem mc_5_12 : mk_ck (kLc (nI (13 - 8)) (nI (13 - 1)) 1) ((od.drop 6985).take 1) = true := by decide +kernel
theorem mb_5_0 : mk_ck (kLb (nI (13 - 8)) 0) ((od.drop 6986).take 0) = true := mk_0 _
theorem mb_5_1 : mk_ck (kLb (nI (13 - 8)) 1) ((od.drop 6985).take (1 + 0)) = true := mk_seq mc_5_12 rfl mb_5_0
theorem mb_5_2 : mk_ck (kLb (nI (13 - 8)) 2) ((od.drop 6981).take (4 + 1)) = true := mk_seq mc_5_11 rfl mb_5_1
theorem mb_5_3 : mk_ck (kLb (nI (13 - 8)) 3) ((od.drop 6971).take (10 + 5)) = true := mk_seq mc_5_10 rfl mb_5_2
theorem mb_5_4 : mk_ck (kLb (nI (13 - 8)) 4) ((od.drop 6950).take (21 + 15)) = true := mk_seq mc_5_9 rfl mb_5_3
theorem mb_5_5 : mk_ck (kLb (nI (13 - 8)) 5) ((od.drop 6911).take (39 + 36)) = true := mk_seq mc_5_8 rfl mb_5_4
theorem mb_5_6 : mk_ck (kLb (nI (13 - 8)) 6) ((od.drop 6845).take (66 + 75)) = true := mk_seq mc_5_7 rfl mb_5_5
theorem mb_5_7 : mk_ck (kLb (nI (13 - 8)) 7) ((od.drop 6741).take (104 + 141)) = true := mk_seq mc_5_6 rfl mb_5_6
theorem mb_5_8 : mk_ck (kLb (nI (13 - 8)) 8) ((od.drop 6622).take (119 + 245)) = true := mk_seq mc_5_5 rfl mb_5_7
set_option maxRecDepth 100000 in
theorem mc_6_6 : mk_ck (kLc (nI (13 - 7)) (nI (13 - 7)) 7) ((od.drop 6986).take 83) = true := by decide +kernel
set_option maxRecDepth 100000 in
theorem mc_6_7 : mk_ck (kLc (nI (13 - 7)) (nI (13 - 6)) 6) ((od.drop 7069).take 66) = true := by decide +kernel
set_option maxRecDepth 100000 in
theorem mc_6_8 : mk_ck (kLc (nI (13 - 7)) (nI (13 - 5)) 5) ((od.drop 7135).take 39) = true := by decide +kernel
set_option maxRecDepth 100000 in
theorem mc_6_9 : mk_ck (kLc (nI (13 - 7)) (nI (13 - 4)) 4) ((od.drop 7174).take 21) = true := by decide +kernel
set_option maxRecDepth 100000 in
theorem mc_6_10 : mk_ck (kLc (nI (13 - 7)) (nI (13 - 3)) 3) ((od.drop 7195).take 10) = true := by decide +kernel
set_option maxRecDepth 100000 in
theorem mc_6_11 : mk_ck (kLc (nI (13 - 7)) (nI (13 - 2)) 2) ((od.drop 7205).take 4) = true := by decide +kernel
set_option maxRecDepth 100000 in
theorem mc_6_12 : mk_ck (kLc (nI (13 - 7)) (nI (13 - 1)) 1) ((od.drop 7209).take 1) = true := by decide +kernel
theorem mb_6_0 : mk_ck (kLb (nI (13 - 7)) 0) ((od.drop 7210).take 0) = true := mk_0 _
theorem mb_6_1 : mk_ck (kLb (nI (13 - 7)) 1) ((od.drop 7209).take (1 + 0)) = true := mk_seq mc_6_12 rfl mb_6_0
theorem mb_6_2 : mk_ck (kLb (nI (13 - 7)) 2) ((od.drop 7205).take (4 + 1)) = true := mk_seq mc_6_11 rfl mb_6_1
theorem mb_6_3 : mk_ck (kLb (nI (13 - 7)) 3) ((od.drop 7195).take (10 + 5)) = true := mk_seq mc_6_10 rfl mb_6_2
theorem mb_6_4 : mk_ck (kLb (nI (13 - 7)) 4) ((od.drop 7174).take (21 + 15)) = true := mk_seq mc_6_9 rfl mb_6_3
theorem mb_6_5 : mk_ck (kLb (nI (13 - 7)) 5) ((od.drop 7135).take (39 + 36)) = true := mk_seq mc_6_8 rfl mb_6_4
theorem mb_6_6 : mk_ck (kLb (nI (13 - 7)) 6) ((od.drop 7069).take (66 + 75)) = true := mk_seq mc_6_7 rfl mb_6_5
theorem mb_6_7 : mk_ck (kLb (nI (13 - 7)) 7) ((od.drop 6986).take (83 + 141)) = true := mk_seq mc_6_6 rfl mb_6_6
set_option maxRecDepth 100000 in
theorem mc_7_7 : mk_ck (kLc (nI (13 - 6)) (nI (13 - 6)) 6) ((od.drop 7210).take 55) = true := by decide +kernel
set_option maxRecDepth 100000 in
theorem mc_7_8 : mk_ck (kLc (nI (13 - 6)) (nI (13 - 5)) 5) ((od.drop 7265).take 39) = true := by decide +kernel
set_option maxRecDepth 100000 in
theorem mc_7_9 : mk_ck (kLc (nI (13 - 6)) (nI (13 - 4)) 4) ((od.drop 7304).take 21) = true := by decide +kernel
set_option maxRecDepth 100000 in
theorem mc_7_10 : mk_ck (kLc (nI (13 - 6)) (nI (13 - 3)) 3) ((od.drop 7325).take 10) = true := by decide +kernel
set_option maxRecDepth 100000 in
theorem mc_7_11 : mk_ck (kLc (nI (13 - 6)) (nI (13 - 2)) 2) ((od.drop 7335).take 4) = true := by decide +kernel
set_option maxRecDepth 100000 in
theorem mc_7_12 : mk_ck (kLc (nI (13 - 6)) (nI (13 - 1)) 1) ((od.drop 7339).take 1) = true := by decide +kernel
theorem mb_7_0 : mk_ck (kLb (nI (13 - 6)) 0) ((od.drop 7340).take 0) = true := mk_0 _
theorem mb_7_1 : mk_ck (kLb (nI (13 - 6)) 1) ((od.drop 7339).take (1 + 0)) = true := mk_seq mc_7_12 rfl mb_7_0
theorem mb_7_2 : mk_ck (kLb (nI (13 - 6)) 2) ((od.drop 7335).take (4 + 1)) = true := mk_seq mc_7_11 rfl mb_7_1
theorem mb_7_3 : mk_ck (kLb (nI (13 - 6)) 3) ((od.drop 7325).take (10 + 5)) = true := mk_seq mc_7_10 rfl mb_7_2
theorem mb_7_4 : mk_ck (kLb (nI (13 - 6)) 4) ((od.drop 7304).take (21 + 15)) = true := mk_seq mc_7_9 rfl mb_7_3
theorem mb_7_5 : mk_ck (kLb (nI (13 - 6)) 5) ((od.drop 7265).take (39 + 36)) = true := mk_seq mc_7_8 rfl mb_7_4
theorem mb_7_6 : mk_ck (kLb (nI (13 - 6)) 6) ((od.drop 7210).take (55 + 75)) = true := mk_seq mc_7_7 rfl mb_7_5
set_option maxRecDepth 100000 in
theorem mc_8_8 : mk_ck (kLc (nI (13 - 5)) (nI (13 - 5)) 5) ((od.drop 7340).take 34) = true := by decide +kernel
set_option maxRecDepth 100000 in
theorem mc_8_9 : mk_ck (kLc (nI (13 - 5)) (nI (13 - 4)) 4) ((od.drop 7374).take 21) = true := by decide +kernel
set_option maxRecDepth 100000 in
theorem mc_8_10 : mk_ck (kLc (nI (13 - 5)) (nI (13 - 3)) 3) ((od.drop 7395).take 10) = true := by decide +kernel
set_option maxRecDepth 100000 in
theorem mc_8_11 : mk_ck (kLc (nI (13 - 5)) (nI (13 - 2)) 2) ((od.drop 7405).take 4) = true := by decide +kernel
set_option maxRecDepth 100000 in
theorem mc_8_12 : mk_ck (kLc (nI (13 - 5)) (nI (13 - 1)) 1) ((od.drop 7409).take 1) = true := by decide +kernel
theorem mb_8_0 : mk_ck (kLb (nI (13 - 5)) 0) ((od.drop 7410).take 0) = true := mk_0 _
theorem mb_8_1 : mk_ck (kLb (nI (13 - 5)) 1) ((od.drop 7409).take (1 + 0)) = true := mk_seq mc_8_12 rfl mb_8_0
theorem mb_8_2 : mk_ck (kLb (nI (13 - 5)) 2) ((od.drop 7405).take (4 + 1)) = true := mk_seq mc_8_11 rfl mb_8_1
theorem mb_8_3 : mk_ck (kLb (nI (13 - 5)) 3) ((od.drop 7395).take (10 + 5)) = true := mk_seq mc_8_10 rfl mb_8_2
theorem mb_8_4 : mk_ck (kLb (nI (13 - 5)) 4) ((od.drop 7374).take (21 + 15)) = true := mk_seq mc_8_9 rfl mb_8_3
theorem mb_8_5 : mk_ck (kLb (nI (13 - 5)) 5) ((od.drop 7340).take (34 + 36)) = true := mk_seq mc_8_8 rfl mb_8_4
set_option maxRecDepth 100000 in
theorem mc_9_9 : mk_ck (kLc (nI (13 - 4)) (nI (13 - 4)) 4) ((od.drop 7410).take 19) = true := by decide +kernel
set_option maxRecDepth 100000 in
theorem mc_9_10 : mk_ck (kLc (nI (13 - 4)) (nI (13 - 3)) 3) ((od.drop 7429).take 10) = true := by decide +kernel
set_option maxRecDepth 100000 in
theorem mc_9_11 : mk_ck (kLc (nI (13 - 4)) (nI (13 - 2)) 2) ((od.drop 7439).take 4) = true := by decide +kernel
set_option maxRecDepth 100000 in
theorem mc_9_12 : mk_ck (kLc (nI (13 - 4)) (nI (13 - 1)) 1) ((od.drop 7443).take 1) = true := by decide +kernel
theorem mb_9_0 : mk_ck (kLb (nI (13 - 4)) 0) ((od.drop 7444).take 0) = true := mk_0 _
theorem mb_9_1 : mk_ck (kLb (nI (13 - 4)) 1) ((od.drop 7443).take (1 + 0)) = true := mk_seq mc_9_12 rfl mb_9_0
theorem mb_9_2 : mk_ck (kLb (nI (13 - 4)) 2) ((od.drop 7439).take (4 + 1)) = true := mk_seq mc_9_11 rfl mb_9_1
theorem mb_9_3 : mk_ck (kLb (nI (13 - 4)) 3) ((od.drop 7429).take (10 + 5)) = true := mk_seq mc_9_10 rfl mb_9_2
theorem mb_9_4 : mk_ck (kLb (nI (13 - 4)) 4) ((od.drop 7410).take (19 + 15)) = true := mk_seq mc_9_9 rfl mb_9_3
set_option maxRecDepth 100000 in
theorem mc_10_10 : mk_ck (kLc (nI (13 - 3)) (nI (13 - 3)) 3) ((od.drop 7444).take 9) = true := by decide +kernel
set_option maxRecDepth 100000 in
theorem mc_10_11 : mk_ck (kLc (nI (13 - 3)) (nI (13 - 2)) 2) ((od.drop 7453).take 4) = true := by decide +kernel
set_option maxRecDepth 100000 in
theorem mc_10_12 : mk_ck (kLc (nI (13 - 3)) (nI (13 - 1)) 1) ((od.drop 7457).take 1) = true := by decide +kernel
theorem mb_10_0 : mk_ck (kLb (nI (13 - 3)) 0) ((od.drop 7458).take 0) = true := mk_0 _
theorem mb_10_1 : mk_ck (kLb (nI (13 - 3)) 1) ((od.drop 7457).take (1 + 0)) = true := mk_seq mc_10_12 rfl mb_10_0
theorem mb_10_2 : mk_ck (kLb (nI (13 - 3)) 2) ((od.drop 7453).take (4 + 1)) = true := mk_seq mc_10_11 rfl mb_10_1
theorem mb_10_3 : mk_ck (kLb (nI (13 - 3)) 3) ((od.drop 7444).take (9 + 5)) = true := mk_seq mc_10_10 rfl mb_10_2
set_option maxRecDepth 100000 in
theorem mc_11_11 : mk_ck (kLc (nI (13 - 2)) (nI (13 - 2)) 2) ((od.drop 7458).take 3) = true := by decide +kernel
set_option maxRecDepth 100000 in
theorem mc_11_12 : mk_ck (kLc (nI (13 - 2)) (nI (13 - 1)) 1) ((od.drop 7461).take 1) = true := by decide +kernel
theorem mb_11_0 : mk_ck (kLb (nI (13 - 2)) 0) ((od.drop 7462).take 0) = true := mk_0 _
theorem mb_11_1 : mk_ck (kLb (nI (13 - 2)) 1) ((od.drop 7461).take (1 + 0)) = true := mk_seq mc_11_12 rfl mb_11_0
theorem mb_11_2 : mk_ck (kLb (nI (13 - 2)) 2) ((od.drop 7458).take (3 + 1)) = true := mk_seq mc_11_11 rfl mb_11_1
