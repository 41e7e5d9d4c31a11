/-! the keys that are made are those of the table, part 1 -/
set_option maxRecDepth 100000 in
theorem mc_0_0 : mk_ck (kLc (nI (13 - 13)) (nI (13 - 13)) 13) ((od.drop 0).take 454) = true := by decide +kernel
set_option maxRecDepth 100000 in
theorem mc_0_1 : mk_ck (kLc (nI (13 - 13)) (nI (13 - 12)) 12) ((od.drop 454).take 529) = true := by decide +kernel
set_option maxRecDepth 100000 in
theorem mc_0_2 : mk_ck (kLc (nI (13 - 13)) (nI (13 - 11)) 11) ((od.drop 983).take 406) = true := by decide +kernel
set_option maxRecDepth 100000 in
theorem mc_0_3 : mk_ck (kLc (nI (13 - 13)) (nI (13 - 10)) 10) ((od.drop 1389).take 304) = true := by decide +kernel
set_option maxRecDepth 100000 in
theorem mc_0_4 : mk_ck (kLc (nI (13 - 13)) (nI (13 - 9)) 9) ((od.drop 1693).take 221) = true := by decide +kernel
set_option maxRecDepth 100000 in
theorem mc_0_5 : mk_ck (kLc (nI (13 - 13)) (nI (13 - 8)) 8) ((od.drop 1914).take 155) = true := by decide +kernel
set_option maxRecDepth 100000 in
theorem mc_0_6 : mk_ck (kLc (nI (13 - 13)) (nI (13 - 7)) 7) ((od.drop 2069).take 104) = true := by decide +kernel
set_option maxRecDepth 100000 in
theorem mc_0_7 : mk_ck (kLc (nI (13 - 13)) (nI (13 - 6)) 6) ((od.drop 2173).take 66) = true := by decide +kernel
set_option maxRecDepth 100000 in
theorem mc_0_8 : mk_ck (kLc (nI (13 - 13)) (nI (13 - 5)) 5) ((od.drop 2239).take 39) = true := by decide +kernel
set_option maxRecDepth 100000 in
theorem mc_0_9 : mk_ck (kLc (nI (13 - 13)) (nI (13 - 4)) 4) ((od.drop 2278).take 21) = true := by decide +kernel
set_option maxRecDepth 100000 in
theorem mc_0_10 : mk_ck (kLc (nI (13 - 13)) (nI (13 - 3)) 3) ((od.drop 2299).take 10) = true := by decide +kernel
set_option maxRecDepth 100000 in
theorem mc_0_11 : mk_ck (kLc (nI (13 - 13)) (nI (13 - 2)) 2) ((od.drop 2309).take 4) = true := by decide +kernel
set_option maxRecDepth 100000 in
theorem mc_0_12 : mk_ck (kLc (nI (13 - 13)) (nI (13 - 1)) 1) ((od.drop 2313).take 1) = true := by decide +kernel
theorem mb_0_0 : mk_ck (kLb (nI (13 - 13)) 0) ((od.drop 2314).take 0) = true := mk_0 _
theorem mb_0_1 : mk_ck (kLb (nI (13 - 13)) 1) ((od.drop 2313).take (1 + 0)) = true := mk_seq mc_0_12 rfl mb_0_0
theorem mb_0_2 : mk_ck (kLb (nI (13 - 13)) 2) ((od.drop 2309).take (4 + 1)) = true := mk_seq mc_0_11 rfl mb_0_1
theorem mb_0_3 : mk_ck (kLb (nI (13 - 13)) 3) ((od.drop 2299).take (10 + 5)) = true := mk_seq mc_0_10 rfl mb_0_2
theorem mb_0_4 : mk_ck (kLb (nI (13 - 13)) 4) ((od.drop 2278).take (21 + 15)) = true := mk_seq mc_0_9 rfl mb_0_3
theorem mb_0_5 : mk_ck (kLb (nI (13 - 13)) 5) ((od.drop 2239).take (39 + 36)) = true := mk_seq mc_0_8 rfl mb_0_4
theorem mb_0_6 : mk_ck (kLb (nI (13 - 13)) 6) ((od.drop 2173).take (66 + 75)) = true := mk_seq mc_0_7 rfl mb_0_5
theorem mb_0_7 : mk_ck (kLb (nI (13 - 13)) 7) ((od.drop 2069).take (104 + 141)) = true := mk_seq mc_0_6 rfl mb_0_6
theorem mb_0_8 : mk_ck (kLb (nI (13 - 13)) 8) ((od.drop 1914).take (155 + 245)) = true := mk_seq mc_0_5 rfl mb_0_7
theorem mb_0_9 : mk_ck (kLb (nI (13 - 13)) 9) ((od.drop 1693).take (221 + 400)) = true := mk_seq mc_0_4 rfl mb_0_8
theorem mb_0_10 : mk_ck (kLb (nI (13 - 13)) 10) ((od.drop 1389).take (304 + 621)) = true := mk_seq mc_0_3 rfl mb_0_9
theorem mb_0_11 : mk_ck (kLb (nI (13 - 13)) 11) ((od.drop 983).take (406 + 925)) = true := mk_seq mc_0_2 rfl mb_0_10
theorem mb_0_12 : mk_ck (kLb (nI (13 - 13)) 12) ((od.drop 454).take (529 + 1331)) = true := mk_seq mc_0_1 rfl mb_0_11
theorem mb_0_13 : mk_ck (kLb (nI (13 - 13)) 13) ((od.drop 0).take (454 + 1860)) = true := mk_seq mc_0_0 rfl mb_0_12
