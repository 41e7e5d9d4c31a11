/-! the keys that are made are those of the table, part 2 -/
set_option maxRecDepth 100000 in
theorem mc_1_1 : mk_ck (kLc (nI (13 - 12)) (nI (13 - 12)) 12) ((od.drop 2314).take 363) = true := by decide +kernel
set_option maxRecDepth 100000 in
theorem mc_1_2 : mk_ck (kLc (nI (13 - 12)) (nI (13 - 11)) 11) ((od.drop 2677).take 406) = true := by decide +kernel
set_option maxRecDepth 100000 in
theorem mc_1_3 : mk_ck (kLc (nI (13 - 12)) (nI (13 - 10)) 10) ((od.drop 3083).take 304) = true := by decide +kernel
set_option maxRecDepth 100000 in
theorem mc_1_4 : mk_ck (kLc (nI (13 - 12)) (nI (13 - 9)) 9) ((od.drop 3387).take 221) = true := by decide +kernel
set_option maxRecDepth 100000 in
theorem mc_1_5 : mk_ck (kLc (nI (13 - 12)) (nI (13 - 8)) 8) ((od.drop 3608).take 155) = true := by decide +kernel
set_option maxRecDepth 100000 in
theorem mc_1_6 : mk_ck (kLc (nI (13 - 12)) (nI (13 - 7)) 7) ((od.drop 3763).take 104) = true := by decide +kernel
set_option maxRecDepth 100000 in
theorem mc_1_7 : mk_ck (kLc (nI (13 - 12)) (nI (13 - 6)) 6) ((od.drop 3867).take 66) = true := by decide +kernel
set_option maxRecDepth 100000 in
theorem mc_1_8 : mk_ck (kLc (nI (13 - 12)) (nI (13 - 5)) 5) ((od.drop 3933).take 39) = true := by decide +kernel
set_option maxRecDepth 100000 in
theorem mc_1_9 : mk_ck (kLc (nI (13 - 12)) (nI (13 - 4)) 4) ((od.drop 3972).take 21) = true := by decide +kernel
set_option maxRecDepth 100000 in
theorem mc_1_10 : mk_ck (kLc (nI (13 - 12)) (nI (13 - 3)) 3) ((od.drop 3993).take 10) = true := by decide +kernel
set_option maxRecDepth 100000 in
theorem mc_1_11 : mk_ck (kLc (nI (13 - 12)) (nI (13 - 2)) 2) ((od.drop 4003).take 4) = true := by decide +kernel
set_option maxRecDepth 100000 in
theorem mc_1_12 : mk_ck (kLc (nI (13 - 12)) (nI (13 - 1)) 1) ((od.drop 4007).take 1) = true := by decide +kernel
theorem mb_1_0 : mk_ck (kLb (nI (13 - 12)) 0) ((od.drop 4008).take 0) = true := mk_0 _
theorem mb_1_1 : mk_ck (kLb (nI (13 - 12)) 1) ((od.drop 4007).take (1 + 0)) = true := mk_seq mc_1_12 rfl mb_1_0
theorem mb_1_2 : mk_ck (kLb (nI (13 - 12)) 2) ((od.drop 4003).take (4 + 1)) = true := mk_seq mc_1_11 rfl mb_1_1
theorem mb_1_3 : mk_ck (kLb (nI (13 - 12)) 3) ((od.drop 3993).take (10 + 5)) = true := mk_seq mc_1_10 rfl mb_1_2
theorem mb_1_4 : mk_ck (kLb (nI (13 - 12)) 4) ((od.drop 3972).take (21 + 15)) = true := mk_seq mc_1_9 rfl mb_1_3
theorem mb_1_5 : mk_ck (kLb (nI (13 - 12)) 5) ((od.drop 3933).take (39 + 36)) = true := mk_seq mc_1_8 rfl mb_1_4
theorem mb_1_6 : mk_ck (kLb (nI (13 - 12)) 6) ((od.drop 3867).take (66 + 75)) = true := mk_seq mc_1_7 rfl mb_1_5
theorem mb_1_7 : mk_ck (kLb (nI (13 - 12)) 7) ((od.drop 3763).take (104 + 141)) = true := mk_seq mc_1_6 rfl mb_1_6
theorem mb_1_8 : mk_ck (kLb (nI (13 - 12)) 8) ((od.drop 3608).take (155 + 245)) = true := mk_seq mc_1_5 rfl mb_1_7
theorem mb_1_9 : mk_ck (kLb (nI (13 - 12)) 9) ((od.drop 3387).take (221 + 400)) = true := mk_seq mc_1_4 rfl mb_1_8
theorem mb_1_10 : mk_ck (kLb (nI (13 - 12)) 10) ((od.drop 3083).take (304 + 621)) = true := mk_seq mc_1_3 rfl mb_1_9
theorem mb_1_11 : mk_ck (kLb (nI (13 - 12)) 11) ((od.drop 2677).take (406 + 925)) = true := mk_seq mc_1_2 rfl mb_1_10
theorem mb_1_12 : mk_ck (kLb (nI (13 - 12)) 12) ((od.drop 2314).take (363 + 1331)) = true := mk_seq mc_1_1 rfl mb_1_11
