/-! the keys that are made are those of the table, part 3 -/
set_option maxRecDepth 100000 in
theorem mc_2_2 : mk_ck (kLc (nI (13 - 11)) (nI (13 - 11)) 11) ((od.drop 4008).take 285) = true := by decide +kernel
set_option maxRecDepth 100000 in
theorem mc_2_3 : mk_ck (kLc (nI (13 - 11)) (nI (13 - 10)) 10) ((od.drop 4293).take 304) = true := by decide +kernel
set_option maxRecDepth 100000 in
theorem mc_2_4 : mk_ck (kLc (nI (13 - 11)) (nI (13 - 9)) 9) ((od.drop 4597).take 221) = true := by decide +kernel
set_option maxRecDepth 100000 in
theorem mc_2_5 : mk_ck (kLc (nI (13 - 11)) (nI (13 - 8)) 8) ((od.drop 4818).take 155) = true := by decide +kernel
set_option maxRecDepth 100000 in
theorem mc_2_6 : mk_ck (kLc (nI (13 - 11)) (nI (13 - 7)) 7) ((od.drop 4973).take 104) = true := by decide +kernel
set_option maxRecDepth 100000 in
theorem mc_2_7 : mk_ck (kLc (nI (13 - 11)) (nI (13 - 6)) 6) ((od.drop 5077).take 66) = true := by decide +kernel
set_option maxRecDepth 100000 in
theorem mc_2_8 : mk_ck (kLc (nI (13 - 11)) (nI (13 - 5)) 5) ((od.drop 5143).take 39) = true := by decide +kernel
set_option maxRecDepth 100000 in
theorem mc_2_9 : mk_ck (kLc (nI (13 - 11)) (nI (13 - 4)) 4) ((od.drop 5182).take 21) = true := by decide +kernel
set_option maxRecDepth 100000 in
theorem mc_2_10 : mk_ck (kLc (nI (13 - 11)) (nI (13 - 3)) 3) ((od.drop 5203).take 10) = true := by decide +kernel
set_option maxRecDepth 100000 in
theorem mc_2_11 : mk_ck (kLc (nI (13 - 11)) (nI (13 - 2)) 2) ((od.drop 5213).take 4) = true := by decide +kernel
set_option maxRecDepth 100000 in
theorem mc_2_12 : mk_ck (kLc (nI (13 - 11)) (nI (13 - 1)) 1) ((od.drop 5217).take 1) = true := by decide +kernel
theorem mb_2_0 : mk_ck (kLb (nI (13 - 11)) 0) ((od.drop 5218).take 0) = true := mk_0 _
theorem mb_2_1 : mk_ck (kLb (nI (13 - 11)) 1) ((od.drop 5217).take (1 + 0)) = true := mk_seq mc_2_12 rfl mb_2_0
theorem mb_2_2 : mk_ck (kLb (nI (13 - 11)) 2) ((od.drop 5213).take (4 + 1)) = true := mk_seq mc_2_11 rfl mb_2_1
theorem mb_2_3 : mk_ck (kLb (nI (13 - 11)) 3) ((od.drop 5203).take (10 + 5)) = true := mk_seq mc_2_10 rfl mb_2_2
theorem mb_2_4 : mk_ck (kLb (nI (13 - 11)) 4) ((od.drop 5182).take (21 + 15)) = true := mk_seq mc_2_9 rfl mb_2_3
theorem mb_2_5 : mk_ck (kLb (nI (13 - 11)) 5) ((od.drop 5143).take (39 + 36)) = true := mk_seq mc_2_8 rfl mb_2_4
theorem mb_2_6 : mk_ck (kLb (nI (13 - 11)) 6) ((od.drop 5077).take (66 + 75)) = true := mk_seq mc_2_7 rfl mb_2_5
theorem mb_2_7 : mk_ck (kLb (nI (13 - 11)) 7) ((od.drop 4973).take (104 + 141)) = true := mk_seq mc_2_6 rfl mb_2_6
theorem mb_2_8 : mk_ck (kLb (nI (13 - 11)) 8) ((od.drop 4818).take (155 + 245)) = true := mk_seq mc_2_5 rfl mb_2_7
theorem mb_2_9 : mk_ck (kLb (nI (13 - 11)) 9) ((od.drop 4597).take (221 + 400)) = true := mk_seq mc_2_4 rfl mb_2_8
theorem mb_2_10 : mk_ck (kLb (nI (13 - 11)) 10) ((od.drop 4293).take (304 + 621)) = true := mk_seq mc_2_3 rfl mb_2_9
theorem mb_2_11 : mk_ck (kLb (nI (13 - 11)) 11) ((od.drop 4008).take (285 + 925)) = true := mk_seq mc_2_2 rfl mb_2_10
set_option maxRecDepth 100000 in
theorem mc_3_3 : mk_ck (kLc (nI (13 - 10)) (nI (13 - 10)) 10) ((od.drop 5218).take 219) = true := by decide +kernel
set_option maxRecDepth 100000 in
theorem mc_3_4 : mk_ck (kLc (nI (13 - 10)) (nI (13 - 9)) 9) ((od.drop 5437).take 221) = true := by decide +kernel
set_option maxRecDepth 100000 in
theorem mc_3_5 : mk_ck (kLc (nI (13 - 10)) (nI (13 - 8)) 8) ((od.drop 5658).take 155) = true := by decide +kernel
set_option maxRecDepth 100000 in
theorem mc_3_6 : mk_ck (kLc (nI (13 - 10)) (nI (13 - 7)) 7) ((od.drop 5813).take 104) = true := by decide +kernel
set_option maxRecDepth 100000 in
theorem mc_3_7 : mk_ck (kLc (nI (13 - 10)) (nI (13 - 6)) 6) ((od.drop 5917).take 66) = true := by decide +kernel
set_option maxRecDepth 100000 in
theorem mc_3_8 : mk_ck (kLc (nI (13 - 10)) (nI (13 - 5)) 5) ((od.drop 5983).take 39) = true := by decide +kernel
set_option maxRecDepth 100000 in
theorem mc_3_9 : mk_ck (kLc (nI (13 - 10)) (nI (13 - 4)) 4) ((od.drop 6022).take 21) = true := by decide +kernel
set_option maxRecDepth 100000 in
theorem mc_3_10 : mk_ck (kLc (nI (13 - 10)) (nI (13 - 3)) 3) ((od.drop 6043).take 10) = true := by decide +kernel
set_option maxRecDepth 100000 in
theorem mc_3_11 : mk_ck (kLc (nI (13 - 10)) (nI (13 - 2)) 2) ((od.drop 6053).take 4) = true := by decide +kernel
set_option maxRecDepth 100000 in
theorem mc_3_12 : mk_ck (kLc (nI (13 - 10)) (nI (13 - 1)) 1) ((od.drop 6057).take 1) = true := by decide +kernel
theorem mb_3_0 : mk_ck (kLb (nI (13 - 10)) 0) ((od.drop 6058).take 0) = true := mk_0 _
theorem mb_3_1 : mk_ck (kLb (nI (13 - 10)) 1) ((od.drop 6057).take (1 + 0)) = true := mk_seq mc_3_12 rfl mb_3_0
theorem mb_3_2 : mk_ck (kLb (nI (13 - 10)) 2) ((od.drop 6053).take (4 + 1)) = true := mk_seq mc_3_11 rfl mb_3_1
theorem mb_3_3 : mk_ck (kLb (nI (13 - 10)) 3) ((od.drop 6043).take (10 + 5)) = true := mk_seq mc_3_10 rfl mb_3_2
theorem mb_3_4 : mk_ck (kLb (nI (13 - 10)) 4) ((od.drop 6022).take (21 + 15)) = true := mk_seq mc_3_9 rfl mb_3_3
theorem mb_3_5 : mk_ck (kLb (nI (13 - 10)) 5) ((od.drop 5983).take (39 + 36)) = true := mk_seq mc_3_8 rfl mb_3_4
theorem mb_3_6 : mk_ck (kLb (nI (13 - 10)) 6) ((od.drop 5917).take (66 + 75)) = true := mk_seq mc_3_7 rfl mb_3_5
theorem mb_3_7 : mk_ck (kLb (nI (13 - 10)) 7) ((od.drop 5813).take (104 + 141)) = true := mk_seq mc_3_6 rfl mb_3_6
theorem mb_3_8 : mk_ck (kLb (nI (13 - 10)) 8) ((od.drop 5658).take (155 + 245)) = true := mk_seq mc_3_5 rfl mb_3_7
theorem mb_3_9 : mk_ck (kLb (nI (13 - 10)) 9) ((od.drop 5437).take (221 + 400)) = true := mk_seq mc_3_4 rfl mb_3_8
theorem mb_3_10 : mk_ck (kLb (nI (13 - 10)) 10) ((od.drop 5218).take (219 + 621)) = true := mk_seq mc_3_3 rfl mb_3_9
