/-! names of methods, their code, and a row that decodes each instruction (by program out of javap's listing) -/
abbrev bL_value : ByteArray := method_3_code
def yL_value : MethodName := ⟨"HandTablesLaw", "value", "(LHandTables;J[J)I"⟩
theorem dL_value_0 : decode bL_value 0 = .ok (.aload_n 3, 1) := by decide +kernel
theorem dL_value_1 : decode bL_value 1 = .ok (.iconst 0, 1) := by decide +kernel
theorem dL_value_2 : decode bL_value 2 = .ok (.aload_n 0, 1) := by decide +kernel
theorem dL_value_3 : decode bL_value 3 = .ok (.lload_n 1, 1) := by decide +kernel
theorem dL_value_4 : decode bL_value 4 = .ok (.invokevirtual 7, 3) := by decide +kernel
theorem dL_value_7 : decode bL_value 7 = .ok (.i2l, 1) := by decide +kernel
theorem dL_value_8 : decode bL_value 8 = .ok (.lastore, 1) := by decide +kernel
theorem dL_value_9 : decode bL_value 9 = .ok (.goto 7, 3) := by decide +kernel
theorem dL_value_12 : decode bL_value 12 = .ok (.astore 4, 2) := by decide +kernel
theorem dL_value_14 : decode bL_value 14 = .ok (.iconst 1, 1) := by decide +kernel
theorem dL_value_15 : decode bL_value 15 = .ok (.ireturn, 1) := by decide +kernel
theorem dL_value_16 : decode bL_value 16 = .ok (.iconst 0, 1) := by decide +kernel
theorem dL_value_17 : decode bL_value 17 = .ok (.ireturn, 1) := by decide +kernel
abbrev bL_category : ByteArray := method_4_code
def yL_category : MethodName := ⟨"HandTablesLaw", "category", "(LHandTables;J[J)I"⟩
theorem dL_category_0 : decode bL_category 0 = .ok (.aload_n 3, 1) := by decide +kernel
theorem dL_category_1 : decode bL_category 1 = .ok (.iconst 0, 1) := by decide +kernel
theorem dL_category_2 : decode bL_category 2 = .ok (.aload_n 0, 1) := by decide +kernel
theorem dL_category_3 : decode bL_category 3 = .ok (.lload_n 1, 1) := by decide +kernel
theorem dL_category_4 : decode bL_category 4 = .ok (.invokevirtual 15, 3) := by decide +kernel
theorem dL_category_7 : decode bL_category 7 = .ok (.i2l, 1) := by decide +kernel
theorem dL_category_8 : decode bL_category 8 = .ok (.lastore, 1) := by decide +kernel
theorem dL_category_9 : decode bL_category 9 = .ok (.goto 7, 3) := by decide +kernel
theorem dL_category_12 : decode bL_category 12 = .ok (.astore 4, 2) := by decide +kernel
theorem dL_category_14 : decode bL_category 14 = .ok (.iconst 1, 1) := by decide +kernel
theorem dL_category_15 : decode bL_category 15 = .ok (.ireturn, 1) := by decide +kernel
theorem dL_category_16 : decode bL_category 16 = .ok (.iconst 0, 1) := by decide +kernel
theorem dL_category_17 : decode bL_category 17 = .ok (.ireturn, 1) := by decide +kernel
abbrev bL_best : ByteArray := method_5_code
def yL_best : MethodName := ⟨"HandTablesLaw", "best", "(LHandTables;J[J)I"⟩
theorem dL_best_0 : decode bL_best 0 = .ok (.aload_n 3, 1) := by decide +kernel
theorem dL_best_1 : decode bL_best 1 = .ok (.iconst 0, 1) := by decide +kernel
theorem dL_best_2 : decode bL_best 2 = .ok (.aload_n 0, 1) := by decide +kernel
theorem dL_best_3 : decode bL_best 3 = .ok (.lload_n 1, 1) := by decide +kernel
theorem dL_best_4 : decode bL_best 4 = .ok (.invokevirtual 18, 3) := by decide +kernel
theorem dL_best_7 : decode bL_best 7 = .ok (.lastore, 1) := by decide +kernel
theorem dL_best_8 : decode bL_best 8 = .ok (.goto 7, 3) := by decide +kernel
theorem dL_best_11 : decode bL_best 11 = .ok (.astore 4, 2) := by decide +kernel
theorem dL_best_13 : decode bL_best 13 = .ok (.iconst 1, 1) := by decide +kernel
theorem dL_best_14 : decode bL_best 14 = .ok (.ireturn, 1) := by decide +kernel
theorem dL_best_15 : decode bL_best 15 = .ok (.iconst 0, 1) := by decide +kernel
theorem dL_best_16 : decode bL_best 16 = .ok (.ireturn, 1) := by decide +kernel
abbrev bL_worth : ByteArray := method_6_code
def yL_worth : MethodName := ⟨"HandTablesLaw", "worth", "(LHandTables;I[J)I"⟩
theorem dL_worth_0 : decode bL_worth 0 = .ok (.aload_n 2, 1) := by decide +kernel
theorem dL_worth_1 : decode bL_worth 1 = .ok (.iconst 0, 1) := by decide +kernel
theorem dL_worth_2 : decode bL_worth 2 = .ok (.aload_n 0, 1) := by decide +kernel
theorem dL_worth_3 : decode bL_worth 3 = .ok (.iload_n 1, 1) := by decide +kernel
theorem dL_worth_4 : decode bL_worth 4 = .ok (.invokevirtual 22, 3) := by decide +kernel
theorem dL_worth_7 : decode bL_worth 7 = .ok (.i2l, 1) := by decide +kernel
theorem dL_worth_8 : decode bL_worth 8 = .ok (.lastore, 1) := by decide +kernel
theorem dL_worth_9 : decode bL_worth 9 = .ok (.goto 6, 3) := by decide +kernel
theorem dL_worth_12 : decode bL_worth 12 = .ok (.astore_n 3, 1) := by decide +kernel
theorem dL_worth_13 : decode bL_worth 13 = .ok (.iconst 1, 1) := by decide +kernel
theorem dL_worth_14 : decode bL_worth 14 = .ok (.ireturn, 1) := by decide +kernel
theorem dL_worth_15 : decode bL_worth 15 = .ok (.iconst 0, 1) := by decide +kernel
theorem dL_worth_16 : decode bL_worth 16 = .ok (.ireturn, 1) := by decide +kernel
abbrev bL_sets : ByteArray := method_7_code
def yL_sets : MethodName := ⟨"HandTablesLaw", "sets", "(LHandTables;I[J)I"⟩
theorem dL_sets_0 : decode bL_sets 0 = .ok (.aload_n 2, 1) := by decide +kernel
theorem dL_sets_1 : decode bL_sets 1 = .ok (.iconst 0, 1) := by decide +kernel
theorem dL_sets_2 : decode bL_sets 2 = .ok (.aload_n 0, 1) := by decide +kernel
theorem dL_sets_3 : decode bL_sets 3 = .ok (.iload_n 1, 1) := by decide +kernel
theorem dL_sets_4 : decode bL_sets 4 = .ok (.invokevirtual 26, 3) := by decide +kernel
theorem dL_sets_7 : decode bL_sets 7 = .ok (.i2l, 1) := by decide +kernel
theorem dL_sets_8 : decode bL_sets 8 = .ok (.lastore, 1) := by decide +kernel
theorem dL_sets_9 : decode bL_sets 9 = .ok (.goto 6, 3) := by decide +kernel
theorem dL_sets_12 : decode bL_sets 12 = .ok (.astore_n 3, 1) := by decide +kernel
theorem dL_sets_13 : decode bL_sets 13 = .ok (.iconst 1, 1) := by decide +kernel
theorem dL_sets_14 : decode bL_sets 14 = .ok (.ireturn, 1) := by decide +kernel
theorem dL_sets_15 : decode bL_sets 15 = .ok (.iconst 0, 1) := by decide +kernel
theorem dL_sets_16 : decode bL_sets 16 = .ok (.ireturn, 1) := by decide +kernel
abbrev bL_first : ByteArray := method_8_code
def yL_first : MethodName := ⟨"HandTablesLaw", "first", "(LHandTables;I[J)I"⟩
theorem dL_first_0 : decode bL_first 0 = .ok (.aload_n 2, 1) := by decide +kernel
theorem dL_first_1 : decode bL_first 1 = .ok (.iconst 0, 1) := by decide +kernel
theorem dL_first_2 : decode bL_first 2 = .ok (.aload_n 0, 1) := by decide +kernel
theorem dL_first_3 : decode bL_first 3 = .ok (.iload_n 1, 1) := by decide +kernel
theorem dL_first_4 : decode bL_first 4 = .ok (.invokevirtual 29, 3) := by decide +kernel
theorem dL_first_7 : decode bL_first 7 = .ok (.i2l, 1) := by decide +kernel
theorem dL_first_8 : decode bL_first 8 = .ok (.lastore, 1) := by decide +kernel
theorem dL_first_9 : decode bL_first 9 = .ok (.goto 6, 3) := by decide +kernel
theorem dL_first_12 : decode bL_first 12 = .ok (.astore_n 3, 1) := by decide +kernel
theorem dL_first_13 : decode bL_first 13 = .ok (.iconst 1, 1) := by decide +kernel
theorem dL_first_14 : decode bL_first 14 = .ok (.ireturn, 1) := by decide +kernel
theorem dL_first_15 : decode bL_first 15 = .ok (.iconst 0, 1) := by decide +kernel
theorem dL_first_16 : decode bL_first 16 = .ok (.ireturn, 1) := by decide +kernel
abbrev bL_seat : ByteArray := method_9_code
def yL_seat : MethodName := ⟨"HandTablesLaw", "seat", "(LHandTables;III[J)I"⟩
theorem dL_seat_0 : decode bL_seat 0 = .ok (.aload 4, 2) := by decide +kernel
theorem dL_seat_2 : decode bL_seat 2 = .ok (.iconst 0, 1) := by decide +kernel
theorem dL_seat_3 : decode bL_seat 3 = .ok (.aload_n 0, 1) := by decide +kernel
theorem dL_seat_4 : decode bL_seat 4 = .ok (.iload_n 1, 1) := by decide +kernel
theorem dL_seat_5 : decode bL_seat 5 = .ok (.iload_n 2, 1) := by decide +kernel
theorem dL_seat_6 : decode bL_seat 6 = .ok (.iload_n 3, 1) := by decide +kernel
theorem dL_seat_7 : decode bL_seat 7 = .ok (.invokevirtual 32, 3) := by decide +kernel
theorem dL_seat_10 : decode bL_seat 10 = .ok (.ifCond .eq 7, 3) := by decide +kernel
theorem dL_seat_13 : decode bL_seat 13 = .ok (.lconst 1, 1) := by decide +kernel
theorem dL_seat_14 : decode bL_seat 14 = .ok (.goto 4, 3) := by decide +kernel
theorem dL_seat_17 : decode bL_seat 17 = .ok (.lconst 0, 1) := by decide +kernel
theorem dL_seat_18 : decode bL_seat 18 = .ok (.lastore, 1) := by decide +kernel
theorem dL_seat_19 : decode bL_seat 19 = .ok (.goto 11, 3) := by decide +kernel
theorem dL_seat_22 : decode bL_seat 22 = .ok (.astore 5, 2) := by decide +kernel
theorem dL_seat_24 : decode bL_seat 24 = .ok (.iconst 1, 1) := by decide +kernel
theorem dL_seat_25 : decode bL_seat 25 = .ok (.ireturn, 1) := by decide +kernel
theorem dL_seat_26 : decode bL_seat 26 = .ok (.astore 5, 2) := by decide +kernel
theorem dL_seat_28 : decode bL_seat 28 = .ok (.iconst 2, 1) := by decide +kernel
theorem dL_seat_29 : decode bL_seat 29 = .ok (.ireturn, 1) := by decide +kernel
theorem dL_seat_30 : decode bL_seat 30 = .ok (.iconst 0, 1) := by decide +kernel
theorem dL_seat_31 : decode bL_seat 31 = .ok (.ireturn, 1) := by decide +kernel
abbrev bL_leave : ByteArray := method_10_code
def yL_leave : MethodName := ⟨"HandTablesLaw", "leave", "(LHandTables;I[J)I"⟩
theorem dL_leave_0 : decode bL_leave 0 = .ok (.aload_n 2, 1) := by decide +kernel
theorem dL_leave_1 : decode bL_leave 1 = .ok (.iconst 0, 1) := by decide +kernel
theorem dL_leave_2 : decode bL_leave 2 = .ok (.aload_n 0, 1) := by decide +kernel
theorem dL_leave_3 : decode bL_leave 3 = .ok (.iload_n 1, 1) := by decide +kernel
theorem dL_leave_4 : decode bL_leave 4 = .ok (.invokevirtual 38, 3) := by decide +kernel
theorem dL_leave_7 : decode bL_leave 7 = .ok (.ifCond .eq 7, 3) := by decide +kernel
theorem dL_leave_10 : decode bL_leave 10 = .ok (.lconst 1, 1) := by decide +kernel
theorem dL_leave_11 : decode bL_leave 11 = .ok (.goto 4, 3) := by decide +kernel
theorem dL_leave_14 : decode bL_leave 14 = .ok (.lconst 0, 1) := by decide +kernel
theorem dL_leave_15 : decode bL_leave 15 = .ok (.lastore, 1) := by decide +kernel
theorem dL_leave_16 : decode bL_leave 16 = .ok (.goto 6, 3) := by decide +kernel
theorem dL_leave_19 : decode bL_leave 19 = .ok (.astore_n 3, 1) := by decide +kernel
theorem dL_leave_20 : decode bL_leave 20 = .ok (.iconst 1, 1) := by decide +kernel
theorem dL_leave_21 : decode bL_leave 21 = .ok (.ireturn, 1) := by decide +kernel
theorem dL_leave_22 : decode bL_leave 22 = .ok (.iconst 0, 1) := by decide +kernel
theorem dL_leave_23 : decode bL_leave 23 = .ok (.ireturn, 1) := by decide +kernel
abbrev bL_board : ByteArray := method_11_code
def yL_board : MethodName := ⟨"HandTablesLaw", "board", "(LHandTables;I[J)I"⟩
theorem dL_board_0 : decode bL_board 0 = .ok (.aload_n 2, 1) := by decide +kernel
theorem dL_board_1 : decode bL_board 1 = .ok (.iconst 0, 1) := by decide +kernel
theorem dL_board_2 : decode bL_board 2 = .ok (.aload_n 0, 1) := by decide +kernel
theorem dL_board_3 : decode bL_board 3 = .ok (.iload_n 1, 1) := by decide +kernel
theorem dL_board_4 : decode bL_board 4 = .ok (.invokevirtual 42, 3) := by decide +kernel
theorem dL_board_7 : decode bL_board 7 = .ok (.i2l, 1) := by decide +kernel
theorem dL_board_8 : decode bL_board 8 = .ok (.lastore, 1) := by decide +kernel
theorem dL_board_9 : decode bL_board 9 = .ok (.goto 6, 3) := by decide +kernel
theorem dL_board_12 : decode bL_board 12 = .ok (.astore_n 3, 1) := by decide +kernel
theorem dL_board_13 : decode bL_board 13 = .ok (.iconst 1, 1) := by decide +kernel
theorem dL_board_14 : decode bL_board 14 = .ok (.ireturn, 1) := by decide +kernel
theorem dL_board_15 : decode bL_board 15 = .ok (.iconst 0, 1) := by decide +kernel
theorem dL_board_16 : decode bL_board 16 = .ok (.ireturn, 1) := by decide +kernel
abbrev bL_cards : ByteArray := method_12_code
def yL_cards : MethodName := ⟨"HandTablesLaw", "cards", "(LHandTables;I[J)I"⟩
theorem dL_cards_0 : decode bL_cards 0 = .ok (.aload_n 2, 1) := by decide +kernel
theorem dL_cards_1 : decode bL_cards 1 = .ok (.iconst 0, 1) := by decide +kernel
theorem dL_cards_2 : decode bL_cards 2 = .ok (.aload_n 0, 1) := by decide +kernel
theorem dL_cards_3 : decode bL_cards 3 = .ok (.iload_n 1, 1) := by decide +kernel
theorem dL_cards_4 : decode bL_cards 4 = .ok (.invokevirtual 45, 3) := by decide +kernel
theorem dL_cards_7 : decode bL_cards 7 = .ok (.lastore, 1) := by decide +kernel
theorem dL_cards_8 : decode bL_cards 8 = .ok (.goto 6, 3) := by decide +kernel
theorem dL_cards_11 : decode bL_cards 11 = .ok (.astore_n 3, 1) := by decide +kernel
theorem dL_cards_12 : decode bL_cards 12 = .ok (.iconst 1, 1) := by decide +kernel
theorem dL_cards_13 : decode bL_cards 13 = .ok (.ireturn, 1) := by decide +kernel
theorem dL_cards_14 : decode bL_cards 14 = .ok (.iconst 0, 1) := by decide +kernel
theorem dL_cards_15 : decode bL_cards 15 = .ok (.ireturn, 1) := by decide +kernel
abbrev bL_hand : ByteArray := method_13_code
def yL_hand : MethodName := ⟨"HandTablesLaw", "hand", "(LHandTables;I[J)I"⟩
theorem dL_hand_0 : decode bL_hand 0 = .ok (.aload_n 2, 1) := by decide +kernel
theorem dL_hand_1 : decode bL_hand 1 = .ok (.iconst 0, 1) := by decide +kernel
theorem dL_hand_2 : decode bL_hand 2 = .ok (.aload_n 0, 1) := by decide +kernel
theorem dL_hand_3 : decode bL_hand 3 = .ok (.iload_n 1, 1) := by decide +kernel
theorem dL_hand_4 : decode bL_hand 4 = .ok (.invokevirtual 49, 3) := by decide +kernel
theorem dL_hand_7 : decode bL_hand 7 = .ok (.i2l, 1) := by decide +kernel
theorem dL_hand_8 : decode bL_hand 8 = .ok (.lastore, 1) := by decide +kernel
theorem dL_hand_9 : decode bL_hand 9 = .ok (.goto 9, 3) := by decide +kernel
theorem dL_hand_12 : decode bL_hand 12 = .ok (.astore_n 3, 1) := by decide +kernel
theorem dL_hand_13 : decode bL_hand 13 = .ok (.iconst 1, 1) := by decide +kernel
theorem dL_hand_14 : decode bL_hand 14 = .ok (.ireturn, 1) := by decide +kernel
theorem dL_hand_15 : decode bL_hand 15 = .ok (.astore_n 3, 1) := by decide +kernel
theorem dL_hand_16 : decode bL_hand 16 = .ok (.iconst 2, 1) := by decide +kernel
theorem dL_hand_17 : decode bL_hand 17 = .ok (.ireturn, 1) := by decide +kernel
theorem dL_hand_18 : decode bL_hand 18 = .ok (.iconst 0, 1) := by decide +kernel
theorem dL_hand_19 : decode bL_hand 19 = .ok (.ireturn, 1) := by decide +kernel
abbrev bL_ahead : ByteArray := method_14_code
def yL_ahead : MethodName := ⟨"HandTablesLaw", "ahead", "(LHandTables;[J)I"⟩
theorem dL_ahead_0 : decode bL_ahead 0 = .ok (.aload_n 1, 1) := by decide +kernel
theorem dL_ahead_1 : decode bL_ahead 1 = .ok (.iconst 0, 1) := by decide +kernel
theorem dL_ahead_2 : decode bL_ahead 2 = .ok (.aload_n 0, 1) := by decide +kernel
theorem dL_ahead_3 : decode bL_ahead 3 = .ok (.invokevirtual 54, 3) := by decide +kernel
theorem dL_ahead_6 : decode bL_ahead 6 = .ok (.i2l, 1) := by decide +kernel
theorem dL_ahead_7 : decode bL_ahead 7 = .ok (.lastore, 1) := by decide +kernel
theorem dL_ahead_8 : decode bL_ahead 8 = .ok (.goto 6, 3) := by decide +kernel
theorem dL_ahead_11 : decode bL_ahead 11 = .ok (.astore_n 2, 1) := by decide +kernel
theorem dL_ahead_12 : decode bL_ahead 12 = .ok (.iconst 1, 1) := by decide +kernel
theorem dL_ahead_13 : decode bL_ahead 13 = .ok (.ireturn, 1) := by decide +kernel
theorem dL_ahead_14 : decode bL_ahead 14 = .ok (.iconst 0, 1) := by decide +kernel
theorem dL_ahead_15 : decode bL_ahead 15 = .ok (.ireturn, 1) := by decide +kernel
abbrev bL_boards : ByteArray := method_15_code
def yL_boards : MethodName := ⟨"HandTablesLaw", "boards", "(LHandTables;[J)I"⟩
theorem dL_boards_0 : decode bL_boards 0 = .ok (.aload_n 1, 1) := by decide +kernel
theorem dL_boards_1 : decode bL_boards 1 = .ok (.iconst 0, 1) := by decide +kernel
theorem dL_boards_2 : decode bL_boards 2 = .ok (.aload_n 0, 1) := by decide +kernel
theorem dL_boards_3 : decode bL_boards 3 = .ok (.invokevirtual 58, 3) := by decide +kernel
theorem dL_boards_6 : decode bL_boards 6 = .ok (.i2l, 1) := by decide +kernel
theorem dL_boards_7 : decode bL_boards 7 = .ok (.lastore, 1) := by decide +kernel
theorem dL_boards_8 : decode bL_boards 8 = .ok (.goto 6, 3) := by decide +kernel
theorem dL_boards_11 : decode bL_boards 11 = .ok (.astore_n 2, 1) := by decide +kernel
theorem dL_boards_12 : decode bL_boards 12 = .ok (.iconst 1, 1) := by decide +kernel
theorem dL_boards_13 : decode bL_boards 13 = .ok (.ireturn, 1) := by decide +kernel
theorem dL_boards_14 : decode bL_boards 14 = .ok (.iconst 0, 1) := by decide +kernel
theorem dL_boards_15 : decode bL_boards 15 = .ok (.ireturn, 1) := by decide +kernel
abbrev bL_wins : ByteArray := method_16_code
def yL_wins : MethodName := ⟨"HandTablesLaw", "wins", "(LHandTables;II[J)I"⟩
theorem dL_wins_0 : decode bL_wins 0 = .ok (.aload_n 3, 1) := by decide +kernel
theorem dL_wins_1 : decode bL_wins 1 = .ok (.iconst 0, 1) := by decide +kernel
theorem dL_wins_2 : decode bL_wins 2 = .ok (.aload_n 0, 1) := by decide +kernel
theorem dL_wins_3 : decode bL_wins 3 = .ok (.iload_n 1, 1) := by decide +kernel
theorem dL_wins_4 : decode bL_wins 4 = .ok (.iload_n 2, 1) := by decide +kernel
theorem dL_wins_5 : decode bL_wins 5 = .ok (.invokevirtual 61, 3) := by decide +kernel
theorem dL_wins_8 : decode bL_wins 8 = .ok (.i2l, 1) := by decide +kernel
theorem dL_wins_9 : decode bL_wins 9 = .ok (.lastore, 1) := by decide +kernel
theorem dL_wins_10 : decode bL_wins 10 = .ok (.goto 15, 3) := by decide +kernel
theorem dL_wins_13 : decode bL_wins 13 = .ok (.astore 4, 2) := by decide +kernel
theorem dL_wins_15 : decode bL_wins 15 = .ok (.iconst 1, 1) := by decide +kernel
theorem dL_wins_16 : decode bL_wins 16 = .ok (.ireturn, 1) := by decide +kernel
theorem dL_wins_17 : decode bL_wins 17 = .ok (.astore 4, 2) := by decide +kernel
theorem dL_wins_19 : decode bL_wins 19 = .ok (.iconst 2, 1) := by decide +kernel
theorem dL_wins_20 : decode bL_wins 20 = .ok (.ireturn, 1) := by decide +kernel
theorem dL_wins_21 : decode bL_wins 21 = .ok (.astore 4, 2) := by decide +kernel
theorem dL_wins_23 : decode bL_wins 23 = .ok (.iconst 3, 1) := by decide +kernel
theorem dL_wins_24 : decode bL_wins 24 = .ok (.ireturn, 1) := by decide +kernel
theorem dL_wins_25 : decode bL_wins 25 = .ok (.iconst 0, 1) := by decide +kernel
theorem dL_wins_26 : decode bL_wins 26 = .ok (.ireturn, 1) := by decide +kernel
abbrev bL_outs : ByteArray := method_17_code
def yL_outs : MethodName := ⟨"HandTablesLaw", "outs", "(LHandTables;I[J)I"⟩
theorem dL_outs_0 : decode bL_outs 0 = .ok (.aload_n 2, 1) := by decide +kernel
theorem dL_outs_1 : decode bL_outs 1 = .ok (.iconst 0, 1) := by decide +kernel
theorem dL_outs_2 : decode bL_outs 2 = .ok (.aload_n 0, 1) := by decide +kernel
theorem dL_outs_3 : decode bL_outs 3 = .ok (.iload_n 1, 1) := by decide +kernel
theorem dL_outs_4 : decode bL_outs 4 = .ok (.invokevirtual 65, 3) := by decide +kernel
theorem dL_outs_7 : decode bL_outs 7 = .ok (.lastore, 1) := by decide +kernel
theorem dL_outs_8 : decode bL_outs 8 = .ok (.goto 9, 3) := by decide +kernel
theorem dL_outs_11 : decode bL_outs 11 = .ok (.astore_n 3, 1) := by decide +kernel
theorem dL_outs_12 : decode bL_outs 12 = .ok (.iconst 1, 1) := by decide +kernel
theorem dL_outs_13 : decode bL_outs 13 = .ok (.ireturn, 1) := by decide +kernel
theorem dL_outs_14 : decode bL_outs 14 = .ok (.astore_n 3, 1) := by decide +kernel
theorem dL_outs_15 : decode bL_outs 15 = .ok (.iconst 2, 1) := by decide +kernel
theorem dL_outs_16 : decode bL_outs 16 = .ok (.ireturn, 1) := by decide +kernel
theorem dL_outs_17 : decode bL_outs 17 = .ok (.iconst 0, 1) := by decide +kernel
theorem dL_outs_18 : decode bL_outs 18 = .ok (.ireturn, 1) := by decide +kernel
abbrev bL_share : ByteArray := method_18_code
def yL_share : MethodName := ⟨"HandTablesLaw", "share", "(LHandTables;II[J)I"⟩
theorem dL_share_0 : decode bL_share 0 = .ok (.aload_n 3, 1) := by decide +kernel
theorem dL_share_1 : decode bL_share 1 = .ok (.iconst 0, 1) := by decide +kernel
theorem dL_share_2 : decode bL_share 2 = .ok (.aload_n 0, 1) := by decide +kernel
theorem dL_share_3 : decode bL_share 3 = .ok (.iload_n 1, 1) := by decide +kernel
theorem dL_share_4 : decode bL_share 4 = .ok (.iload_n 2, 1) := by decide +kernel
theorem dL_share_5 : decode bL_share 5 = .ok (.invokevirtual 68, 3) := by decide +kernel
theorem dL_share_8 : decode bL_share 8 = .ok (.i2l, 1) := by decide +kernel
theorem dL_share_9 : decode bL_share 9 = .ok (.lastore, 1) := by decide +kernel
theorem dL_share_10 : decode bL_share 10 = .ok (.goto 15, 3) := by decide +kernel
theorem dL_share_13 : decode bL_share 13 = .ok (.astore 4, 2) := by decide +kernel
theorem dL_share_15 : decode bL_share 15 = .ok (.iconst 1, 1) := by decide +kernel
theorem dL_share_16 : decode bL_share 16 = .ok (.ireturn, 1) := by decide +kernel
theorem dL_share_17 : decode bL_share 17 = .ok (.astore 4, 2) := by decide +kernel
theorem dL_share_19 : decode bL_share 19 = .ok (.iconst 2, 1) := by decide +kernel
theorem dL_share_20 : decode bL_share 20 = .ok (.ireturn, 1) := by decide +kernel
theorem dL_share_21 : decode bL_share 21 = .ok (.astore 4, 2) := by decide +kernel
theorem dL_share_23 : decode bL_share 23 = .ok (.iconst 3, 1) := by decide +kernel
theorem dL_share_24 : decode bL_share 24 = .ok (.ireturn, 1) := by decide +kernel
theorem dL_share_25 : decode bL_share 25 = .ok (.iconst 0, 1) := by decide +kernel
theorem dL_share_26 : decode bL_share 26 = .ok (.ireturn, 1) := by decide +kernel
abbrev bM_init : ByteArray := prog_3_method_1_code
def yM_init : MethodName := ⟨"HandTablesModel", "<init>", "()V"⟩
theorem dM_init_0 : decode bM_init 0 = .ok (.aload_n 0, 1) := by decide +kernel
theorem dM_init_1 : decode bM_init 1 = .ok (.invokespecial 1, 3) := by decide +kernel
theorem dM_init_4 : decode bM_init 4 = .ok (.aload_n 0, 1) := by decide +kernel
theorem dM_init_5 : decode bM_init 5 = .ok (.sipush 7462, 3) := by decide +kernel
theorem dM_init_8 : decode bM_init 8 = .ok (.newarray .int, 2) := by decide +kernel
theorem dM_init_10 : decode bM_init 10 = .ok (.putfield 7, 3) := by decide +kernel
theorem dM_init_13 : decode bM_init 13 = .ok (.aload_n 0, 1) := by decide +kernel
theorem dM_init_14 : decode bM_init 14 = .ok (.iconst 5, 1) := by decide +kernel
theorem dM_init_15 : decode bM_init 15 = .ok (.newarray .int, 2) := by decide +kernel
theorem dM_init_17 : decode bM_init 17 = .ok (.putfield 13, 3) := by decide +kernel
theorem dM_init_20 : decode bM_init 20 = .ok (.aload_n 0, 1) := by decide +kernel
theorem dM_init_21 : decode bM_init 21 = .ok (.bipush 13, 2) := by decide +kernel
theorem dM_init_23 : decode bM_init 23 = .ok (.newarray .int, 2) := by decide +kernel
theorem dM_init_25 : decode bM_init 25 = .ok (.putfield 16, 3) := by decide +kernel
theorem dM_init_28 : decode bM_init 28 = .ok (.aload_n 0, 1) := by decide +kernel
theorem dM_init_29 : decode bM_init 29 = .ok (.bipush 7, 2) := by decide +kernel
theorem dM_init_31 : decode bM_init 31 = .ok (.newarray .int, 2) := by decide +kernel
theorem dM_init_33 : decode bM_init 33 = .ok (.putfield 19, 3) := by decide +kernel
theorem dM_init_36 : decode bM_init 36 = .ok (.aload_n 0, 1) := by decide +kernel
theorem dM_init_37 : decode bM_init 37 = .ok (.bipush 12, 2) := by decide +kernel
theorem dM_init_39 : decode bM_init 39 = .ok (.newarray .int, 2) := by decide +kernel
theorem dM_init_41 : decode bM_init 41 = .ok (.putfield 22, 3) := by decide +kernel
theorem dM_init_44 : decode bM_init 44 = .ok (.aload_n 0, 1) := by decide +kernel
theorem dM_init_45 : decode bM_init 45 = .ok (.iconst 5, 1) := by decide +kernel
theorem dM_init_46 : decode bM_init 46 = .ok (.newarray .int, 2) := by decide +kernel
theorem dM_init_48 : decode bM_init 48 = .ok (.putfield 25, 3) := by decide +kernel
theorem dM_init_51 : decode bM_init 51 = .ok (.aload_n 0, 1) := by decide +kernel
theorem dM_init_52 : decode bM_init 52 = .ok (.bipush 52, 2) := by decide +kernel
theorem dM_init_54 : decode bM_init 54 = .ok (.newarray .int, 2) := by decide +kernel
theorem dM_init_56 : decode bM_init 56 = .ok (.putfield 28, 3) := by decide +kernel
theorem dM_init_59 : decode bM_init 59 = .ok (.aload_n 0, 1) := by decide +kernel
theorem dM_init_60 : decode bM_init 60 = .ok (.bipush 6, 2) := by decide +kernel
theorem dM_init_62 : decode bM_init 62 = .ok (.newarray .int, 2) := by decide +kernel
theorem dM_init_64 : decode bM_init 64 = .ok (.putfield 31, 3) := by decide +kernel
theorem dM_init_67 : decode bM_init 67 = .ok (.aload_n 0, 1) := by decide +kernel
theorem dM_init_68 : decode bM_init 68 = .ok (.bipush 6, 2) := by decide +kernel
theorem dM_init_70 : decode bM_init 70 = .ok (.newarray .int, 2) := by decide +kernel
theorem dM_init_72 : decode bM_init 72 = .ok (.putfield 34, 3) := by decide +kernel
theorem dM_init_75 : decode bM_init 75 = .ok (.aload_n 0, 1) := by decide +kernel
theorem dM_init_76 : decode bM_init 76 = .ok (.bipush 52, 2) := by decide +kernel
theorem dM_init_78 : decode bM_init 78 = .ok (.newarray .int, 2) := by decide +kernel
theorem dM_init_80 : decode bM_init 80 = .ok (.putfield 37, 3) := by decide +kernel
theorem dM_init_83 : decode bM_init 83 = .ok (.iconst 0, 1) := by decide +kernel
theorem dM_init_84 : decode bM_init 84 = .ok (.istore_n 1, 1) := by decide +kernel
theorem dM_init_85 : decode bM_init 85 = .ok (.iload_n 1, 1) := by decide +kernel
theorem dM_init_86 : decode bM_init 86 = .ok (.bipush 13, 2) := by decide +kernel
theorem dM_init_88 : decode bM_init 88 = .ok (.if_icmp .ge 128, 3) := by decide +kernel
theorem dM_init_91 : decode bM_init 91 = .ok (.iload_n 1, 1) := by decide +kernel
theorem dM_init_92 : decode bM_init 92 = .ok (.istore_n 2, 1) := by decide +kernel
theorem dM_init_93 : decode bM_init 93 = .ok (.iload_n 2, 1) := by decide +kernel
theorem dM_init_94 : decode bM_init 94 = .ok (.bipush 13, 2) := by decide +kernel
theorem dM_init_96 : decode bM_init 96 = .ok (.if_icmp .ge 114, 3) := by decide +kernel
theorem dM_init_99 : decode bM_init 99 = .ok (.iload_n 2, 1) := by decide +kernel
theorem dM_init_100 : decode bM_init 100 = .ok (.istore_n 3, 1) := by decide +kernel
theorem dM_init_101 : decode bM_init 101 = .ok (.iload_n 3, 1) := by decide +kernel
theorem dM_init_102 : decode bM_init 102 = .ok (.bipush 13, 2) := by decide +kernel
theorem dM_init_104 : decode bM_init 104 = .ok (.if_icmp .ge 100, 3) := by decide +kernel
theorem dM_init_107 : decode bM_init 107 = .ok (.iload_n 3, 1) := by decide +kernel
theorem dM_init_108 : decode bM_init 108 = .ok (.istore 4, 2) := by decide +kernel
theorem dM_init_110 : decode bM_init 110 = .ok (.iload 4, 2) := by decide +kernel
theorem dM_init_112 : decode bM_init 112 = .ok (.bipush 13, 2) := by decide +kernel
theorem dM_init_114 : decode bM_init 114 = .ok (.if_icmp .ge 84, 3) := by decide +kernel
theorem dM_init_117 : decode bM_init 117 = .ok (.iload 4, 2) := by decide +kernel
theorem dM_init_119 : decode bM_init 119 = .ok (.istore 5, 2) := by decide +kernel
theorem dM_init_121 : decode bM_init 121 = .ok (.iload 5, 2) := by decide +kernel
theorem dM_init_123 : decode bM_init 123 = .ok (.bipush 13, 2) := by decide +kernel
theorem dM_init_125 : decode bM_init 125 = .ok (.if_icmp .ge 67, 3) := by decide +kernel
theorem dM_init_128 : decode bM_init 128 = .ok (.aload_n 0, 1) := by decide +kernel
theorem dM_init_129 : decode bM_init 129 = .ok (.iload_n 1, 1) := by decide +kernel
theorem dM_init_130 : decode bM_init 130 = .ok (.iload_n 2, 1) := by decide +kernel
theorem dM_init_131 : decode bM_init 131 = .ok (.iload_n 3, 1) := by decide +kernel
theorem dM_init_132 : decode bM_init 132 = .ok (.iload 4, 2) := by decide +kernel
theorem dM_init_134 : decode bM_init 134 = .ok (.iload 5, 2) := by decide +kernel
theorem dM_init_136 : decode bM_init 136 = .ok (.invokevirtual 40, 3) := by decide +kernel
theorem dM_init_139 : decode bM_init 139 = .ok (.iload_n 1, 1) := by decide +kernel
theorem dM_init_140 : decode bM_init 140 = .ok (.iload 5, 2) := by decide +kernel
theorem dM_init_142 : decode bM_init 142 = .ok (.if_icmp .ge 12, 3) := by decide +kernel
theorem dM_init_145 : decode bM_init 145 = .ok (.aload_n 0, 1) := by decide +kernel
theorem dM_init_146 : decode bM_init 146 = .ok (.aload_n 0, 1) := by decide +kernel
theorem dM_init_147 : decode bM_init 147 = .ok (.iconst 0, 1) := by decide +kernel
theorem dM_init_148 : decode bM_init 148 = .ok (.invokevirtual 44, 3) := by decide +kernel
theorem dM_init_151 : decode bM_init 151 = .ok (.invokevirtual 48, 3) := by decide +kernel
theorem dM_init_154 : decode bM_init 154 = .ok (.iload_n 1, 1) := by decide +kernel
theorem dM_init_155 : decode bM_init 155 = .ok (.iload_n 2, 1) := by decide +kernel
theorem dM_init_156 : decode bM_init 156 = .ok (.if_icmp .ge 30, 3) := by decide +kernel
theorem dM_init_159 : decode bM_init 159 = .ok (.iload_n 2, 1) := by decide +kernel
theorem dM_init_160 : decode bM_init 160 = .ok (.iload_n 3, 1) := by decide +kernel
theorem dM_init_161 : decode bM_init 161 = .ok (.if_icmp .ge 25, 3) := by decide +kernel
theorem dM_init_164 : decode bM_init 164 = .ok (.iload_n 3, 1) := by decide +kernel
theorem dM_init_165 : decode bM_init 165 = .ok (.iload 4, 2) := by decide +kernel
theorem dM_init_167 : decode bM_init 167 = .ok (.if_icmp .ge 19, 3) := by decide +kernel
theorem dM_init_170 : decode bM_init 170 = .ok (.iload 4, 2) := by decide +kernel
theorem dM_init_172 : decode bM_init 172 = .ok (.iload 5, 2) := by decide +kernel
theorem dM_init_174 : decode bM_init 174 = .ok (.if_icmp .ge 12, 3) := by decide +kernel
theorem dM_init_177 : decode bM_init 177 = .ok (.aload_n 0, 1) := by decide +kernel
theorem dM_init_178 : decode bM_init 178 = .ok (.aload_n 0, 1) := by decide +kernel
theorem dM_init_179 : decode bM_init 179 = .ok (.iconst 1, 1) := by decide +kernel
theorem dM_init_180 : decode bM_init 180 = .ok (.invokevirtual 44, 3) := by decide +kernel
theorem dM_init_183 : decode bM_init 183 = .ok (.invokevirtual 48, 3) := by decide +kernel
theorem dM_init_186 : decode bM_init 186 = .ok (.iinc 5 1, 3) := by decide +kernel
theorem dM_init_189 : decode bM_init 189 = .ok (.goto (-68), 3) := by decide +kernel
theorem dM_init_192 : decode bM_init 192 = .ok (.iinc 4 1, 3) := by decide +kernel
theorem dM_init_195 : decode bM_init 195 = .ok (.goto (-85), 3) := by decide +kernel
theorem dM_init_198 : decode bM_init 198 = .ok (.iinc 3 1, 3) := by decide +kernel
theorem dM_init_201 : decode bM_init 201 = .ok (.goto (-100), 3) := by decide +kernel
theorem dM_init_204 : decode bM_init 204 = .ok (.iinc 2 1, 3) := by decide +kernel
theorem dM_init_207 : decode bM_init 207 = .ok (.goto (-114), 3) := by decide +kernel
theorem dM_init_210 : decode bM_init 210 = .ok (.iinc 1 1, 3) := by decide +kernel
theorem dM_init_213 : decode bM_init 213 = .ok (.goto (-128), 3) := by decide +kernel
theorem dM_init_216 : decode bM_init 216 = .ok (.aload_n 0, 1) := by decide +kernel
theorem dM_init_217 : decode bM_init 217 = .ok (.invokevirtual 52, 3) := by decide +kernel
theorem dM_init_220 : decode bM_init 220 = .ok (.iconst 0, 1) := by decide +kernel
theorem dM_init_221 : decode bM_init 221 = .ok (.istore_n 1, 1) := by decide +kernel
theorem dM_init_222 : decode bM_init 222 = .ok (.iload_n 1, 1) := by decide +kernel
theorem dM_init_223 : decode bM_init 223 = .ok (.bipush 12, 2) := by decide +kernel
theorem dM_init_225 : decode bM_init 225 = .ok (.if_icmp .ge 16, 3) := by decide +kernel
theorem dM_init_228 : decode bM_init 228 = .ok (.aload_n 0, 1) := by decide +kernel
theorem dM_init_229 : decode bM_init 229 = .ok (.getfield 22, 3) := by decide +kernel
theorem dM_init_232 : decode bM_init 232 = .ok (.iload_n 1, 1) := by decide +kernel
theorem dM_init_233 : decode bM_init 233 = .ok (.iconst (-1), 1) := by decide +kernel
theorem dM_init_234 : decode bM_init 234 = .ok (.iastore, 1) := by decide +kernel
theorem dM_init_235 : decode bM_init 235 = .ok (.iinc 1 1, 3) := by decide +kernel
theorem dM_init_238 : decode bM_init 238 = .ok (.goto (-16), 3) := by decide +kernel
theorem dM_init_241 : decode bM_init 241 = .ok (.aload_n 0, 1) := by decide +kernel
theorem dM_init_242 : decode bM_init 242 = .ok (.invokevirtual 55, 3) := by decide +kernel
theorem dM_init_245 : decode bM_init 245 = .ok (.return_, 1) := by decide +kernel
abbrev bM_setRanks : ByteArray := prog_3_method_3_code
def yM_setRanks : MethodName := ⟨"HandTablesModel", "setRanks", "(IIIII)V"⟩
theorem dM_setRanks_0 : decode bM_setRanks 0 = .ok (.aload_n 0, 1) := by decide +kernel
theorem dM_setRanks_1 : decode bM_setRanks 1 = .ok (.getfield 13, 3) := by decide +kernel
theorem dM_setRanks_4 : decode bM_setRanks 4 = .ok (.iconst 0, 1) := by decide +kernel
theorem dM_setRanks_5 : decode bM_setRanks 5 = .ok (.iload_n 1, 1) := by decide +kernel
theorem dM_setRanks_6 : decode bM_setRanks 6 = .ok (.iastore, 1) := by decide +kernel
theorem dM_setRanks_7 : decode bM_setRanks 7 = .ok (.aload_n 0, 1) := by decide +kernel
theorem dM_setRanks_8 : decode bM_setRanks 8 = .ok (.getfield 13, 3) := by decide +kernel
theorem dM_setRanks_11 : decode bM_setRanks 11 = .ok (.iconst 1, 1) := by decide +kernel
theorem dM_setRanks_12 : decode bM_setRanks 12 = .ok (.iload_n 2, 1) := by decide +kernel
theorem dM_setRanks_13 : decode bM_setRanks 13 = .ok (.iastore, 1) := by decide +kernel
theorem dM_setRanks_14 : decode bM_setRanks 14 = .ok (.aload_n 0, 1) := by decide +kernel
theorem dM_setRanks_15 : decode bM_setRanks 15 = .ok (.getfield 13, 3) := by decide +kernel
theorem dM_setRanks_18 : decode bM_setRanks 18 = .ok (.iconst 2, 1) := by decide +kernel
theorem dM_setRanks_19 : decode bM_setRanks 19 = .ok (.iload_n 3, 1) := by decide +kernel
theorem dM_setRanks_20 : decode bM_setRanks 20 = .ok (.iastore, 1) := by decide +kernel
theorem dM_setRanks_21 : decode bM_setRanks 21 = .ok (.aload_n 0, 1) := by decide +kernel
theorem dM_setRanks_22 : decode bM_setRanks 22 = .ok (.getfield 13, 3) := by decide +kernel
theorem dM_setRanks_25 : decode bM_setRanks 25 = .ok (.iconst 3, 1) := by decide +kernel
theorem dM_setRanks_26 : decode bM_setRanks 26 = .ok (.iload 4, 2) := by decide +kernel
theorem dM_setRanks_28 : decode bM_setRanks 28 = .ok (.iastore, 1) := by decide +kernel
theorem dM_setRanks_29 : decode bM_setRanks 29 = .ok (.aload_n 0, 1) := by decide +kernel
theorem dM_setRanks_30 : decode bM_setRanks 30 = .ok (.getfield 13, 3) := by decide +kernel
theorem dM_setRanks_33 : decode bM_setRanks 33 = .ok (.iconst 4, 1) := by decide +kernel
theorem dM_setRanks_34 : decode bM_setRanks 34 = .ok (.iload 5, 2) := by decide +kernel
theorem dM_setRanks_36 : decode bM_setRanks 36 = .ok (.iastore, 1) := by decide +kernel
theorem dM_setRanks_37 : decode bM_setRanks 37 = .ok (.return_, 1) := by decide +kernel
abbrev bM_keyOf : ByteArray := prog_3_method_8_code
def yM_keyOf : MethodName := ⟨"HandTablesModel", "keyOf", "(Z)I"⟩
theorem dM_keyOf_0 : decode bM_keyOf 0 = .ok (.iconst 0, 1) := by decide +kernel
theorem dM_keyOf_1 : decode bM_keyOf 1 = .ok (.istore_n 2, 1) := by decide +kernel
theorem dM_keyOf_2 : decode bM_keyOf 2 = .ok (.iload_n 2, 1) := by decide +kernel
theorem dM_keyOf_3 : decode bM_keyOf 3 = .ok (.bipush 13, 2) := by decide +kernel
theorem dM_keyOf_5 : decode bM_keyOf 5 = .ok (.if_icmp .ge 16, 3) := by decide +kernel
theorem dM_keyOf_8 : decode bM_keyOf 8 = .ok (.aload_n 0, 1) := by decide +kernel
theorem dM_keyOf_9 : decode bM_keyOf 9 = .ok (.getfield 16, 3) := by decide +kernel
theorem dM_keyOf_12 : decode bM_keyOf 12 = .ok (.iload_n 2, 1) := by decide +kernel
theorem dM_keyOf_13 : decode bM_keyOf 13 = .ok (.iconst 0, 1) := by decide +kernel
theorem dM_keyOf_14 : decode bM_keyOf 14 = .ok (.iastore, 1) := by decide +kernel
theorem dM_keyOf_15 : decode bM_keyOf 15 = .ok (.iinc 2 1, 3) := by decide +kernel
theorem dM_keyOf_18 : decode bM_keyOf 18 = .ok (.goto (-16), 3) := by decide +kernel
theorem dM_keyOf_21 : decode bM_keyOf 21 = .ok (.iconst 0, 1) := by decide +kernel
theorem dM_keyOf_22 : decode bM_keyOf 22 = .ok (.istore_n 2, 1) := by decide +kernel
theorem dM_keyOf_23 : decode bM_keyOf 23 = .ok (.iload_n 2, 1) := by decide +kernel
theorem dM_keyOf_24 : decode bM_keyOf 24 = .ok (.iconst 5, 1) := by decide +kernel
theorem dM_keyOf_25 : decode bM_keyOf 25 = .ok (.if_icmp .ge 24, 3) := by decide +kernel
theorem dM_keyOf_28 : decode bM_keyOf 28 = .ok (.aload_n 0, 1) := by decide +kernel
theorem dM_keyOf_29 : decode bM_keyOf 29 = .ok (.getfield 16, 3) := by decide +kernel
theorem dM_keyOf_32 : decode bM_keyOf 32 = .ok (.aload_n 0, 1) := by decide +kernel
theorem dM_keyOf_33 : decode bM_keyOf 33 = .ok (.getfield 13, 3) := by decide +kernel
theorem dM_keyOf_36 : decode bM_keyOf 36 = .ok (.iload_n 2, 1) := by decide +kernel
theorem dM_keyOf_37 : decode bM_keyOf 37 = .ok (.iaload, 1) := by decide +kernel
theorem dM_keyOf_38 : decode bM_keyOf 38 = .ok (.dup2, 1) := by decide +kernel
theorem dM_keyOf_39 : decode bM_keyOf 39 = .ok (.iaload, 1) := by decide +kernel
theorem dM_keyOf_40 : decode bM_keyOf 40 = .ok (.iconst 1, 1) := by decide +kernel
theorem dM_keyOf_41 : decode bM_keyOf 41 = .ok (.iadd, 1) := by decide +kernel
theorem dM_keyOf_42 : decode bM_keyOf 42 = .ok (.iastore, 1) := by decide +kernel
theorem dM_keyOf_43 : decode bM_keyOf 43 = .ok (.iinc 2 1, 3) := by decide +kernel
theorem dM_keyOf_46 : decode bM_keyOf 46 = .ok (.goto (-23), 3) := by decide +kernel
theorem dM_keyOf_49 : decode bM_keyOf 49 = .ok (.aload_n 0, 1) := by decide +kernel
theorem dM_keyOf_50 : decode bM_keyOf 50 = .ok (.invokevirtual 65, 3) := by decide +kernel
theorem dM_keyOf_53 : decode bM_keyOf 53 = .ok (.istore_n 2, 1) := by decide +kernel
theorem dM_keyOf_54 : decode bM_keyOf 54 = .ok (.iconst 0, 1) := by decide +kernel
theorem dM_keyOf_55 : decode bM_keyOf 55 = .ok (.istore_n 3, 1) := by decide +kernel
theorem dM_keyOf_56 : decode bM_keyOf 56 = .ok (.iload_n 2, 1) := by decide +kernel
theorem dM_keyOf_57 : decode bM_keyOf 57 = .ok (.ifCond .lt 17, 3) := by decide +kernel
theorem dM_keyOf_60 : decode bM_keyOf 60 = .ok (.iload_n 1, 1) := by decide +kernel
theorem dM_keyOf_61 : decode bM_keyOf 61 = .ok (.ifCond .eq 8, 3) := by decide +kernel
theorem dM_keyOf_64 : decode bM_keyOf 64 = .ok (.bipush 8, 2) := by decide +kernel
theorem dM_keyOf_66 : decode bM_keyOf 66 = .ok (.goto 4, 3) := by decide +kernel
theorem dM_keyOf_69 : decode bM_keyOf 69 = .ok (.iconst 4, 1) := by decide +kernel
theorem dM_keyOf_70 : decode bM_keyOf 70 = .ok (.istore_n 3, 1) := by decide +kernel
theorem dM_keyOf_71 : decode bM_keyOf 71 = .ok (.goto 61, 3) := by decide +kernel
theorem dM_keyOf_74 : decode bM_keyOf 74 = .ok (.aload_n 0, 1) := by decide +kernel
theorem dM_keyOf_75 : decode bM_keyOf 75 = .ok (.iconst 4, 1) := by decide +kernel
theorem dM_keyOf_76 : decode bM_keyOf 76 = .ok (.invokevirtual 69, 3) := by decide +kernel
theorem dM_keyOf_79 : decode bM_keyOf 79 = .ok (.iconst 1, 1) := by decide +kernel
theorem dM_keyOf_80 : decode bM_keyOf 80 = .ok (.if_icmp .ne 9, 3) := by decide +kernel
theorem dM_keyOf_83 : decode bM_keyOf 83 = .ok (.bipush 7, 2) := by decide +kernel
theorem dM_keyOf_85 : decode bM_keyOf 85 = .ok (.istore_n 3, 1) := by decide +kernel
theorem dM_keyOf_86 : decode bM_keyOf 86 = .ok (.goto 46, 3) := by decide +kernel
theorem dM_keyOf_89 : decode bM_keyOf 89 = .ok (.aload_n 0, 1) := by decide +kernel
theorem dM_keyOf_90 : decode bM_keyOf 90 = .ok (.iconst 3, 1) := by decide +kernel
theorem dM_keyOf_91 : decode bM_keyOf 91 = .ok (.invokevirtual 69, 3) := by decide +kernel
theorem dM_keyOf_94 : decode bM_keyOf 94 = .ok (.iconst 1, 1) := by decide +kernel
theorem dM_keyOf_95 : decode bM_keyOf 95 = .ok (.if_icmp .ne 22, 3) := by decide +kernel
theorem dM_keyOf_98 : decode bM_keyOf 98 = .ok (.aload_n 0, 1) := by decide +kernel
theorem dM_keyOf_99 : decode bM_keyOf 99 = .ok (.iconst 2, 1) := by decide +kernel
theorem dM_keyOf_100 : decode bM_keyOf 100 = .ok (.invokevirtual 69, 3) := by decide +kernel
theorem dM_keyOf_103 : decode bM_keyOf 103 = .ok (.iconst 1, 1) := by decide +kernel
theorem dM_keyOf_104 : decode bM_keyOf 104 = .ok (.if_icmp .ne 8, 3) := by decide +kernel
theorem dM_keyOf_107 : decode bM_keyOf 107 = .ok (.bipush 6, 2) := by decide +kernel
theorem dM_keyOf_109 : decode bM_keyOf 109 = .ok (.goto 4, 3) := by decide +kernel
theorem dM_keyOf_112 : decode bM_keyOf 112 = .ok (.iconst 3, 1) := by decide +kernel
theorem dM_keyOf_113 : decode bM_keyOf 113 = .ok (.istore_n 3, 1) := by decide +kernel
theorem dM_keyOf_114 : decode bM_keyOf 114 = .ok (.goto 18, 3) := by decide +kernel
theorem dM_keyOf_117 : decode bM_keyOf 117 = .ok (.iload_n 1, 1) := by decide +kernel
theorem dM_keyOf_118 : decode bM_keyOf 118 = .ok (.ifCond .eq 8, 3) := by decide +kernel
theorem dM_keyOf_121 : decode bM_keyOf 121 = .ok (.iconst 5, 1) := by decide +kernel
theorem dM_keyOf_122 : decode bM_keyOf 122 = .ok (.istore_n 3, 1) := by decide +kernel
theorem dM_keyOf_123 : decode bM_keyOf 123 = .ok (.goto 9, 3) := by decide +kernel
theorem dM_keyOf_126 : decode bM_keyOf 126 = .ok (.aload_n 0, 1) := by decide +kernel
theorem dM_keyOf_127 : decode bM_keyOf 127 = .ok (.iconst 2, 1) := by decide +kernel
theorem dM_keyOf_128 : decode bM_keyOf 128 = .ok (.invokevirtual 69, 3) := by decide +kernel
theorem dM_keyOf_131 : decode bM_keyOf 131 = .ok (.istore_n 3, 1) := by decide +kernel
theorem dM_keyOf_132 : decode bM_keyOf 132 = .ok (.iconst 0, 1) := by decide +kernel
theorem dM_keyOf_133 : decode bM_keyOf 133 = .ok (.istore 4, 2) := by decide +kernel
theorem dM_keyOf_135 : decode bM_keyOf 135 = .ok (.sipush 28561, 3) := by decide +kernel
theorem dM_keyOf_138 : decode bM_keyOf 138 = .ok (.istore 5, 2) := by decide +kernel
theorem dM_keyOf_140 : decode bM_keyOf 140 = .ok (.iload_n 2, 1) := by decide +kernel
theorem dM_keyOf_141 : decode bM_keyOf 141 = .ok (.ifCond .lt 13, 3) := by decide +kernel
theorem dM_keyOf_144 : decode bM_keyOf 144 = .ok (.iload_n 3, 1) := by decide +kernel
theorem dM_keyOf_145 : decode bM_keyOf 145 = .ok (.ldc 73, 2) := by decide +kernel
theorem dM_keyOf_147 : decode bM_keyOf 147 = .ok (.imul, 1) := by decide +kernel
theorem dM_keyOf_148 : decode bM_keyOf 148 = .ok (.iload_n 2, 1) := by decide +kernel
theorem dM_keyOf_149 : decode bM_keyOf 149 = .ok (.iload 5, 2) := by decide +kernel
theorem dM_keyOf_151 : decode bM_keyOf 151 = .ok (.imul, 1) := by decide +kernel
theorem dM_keyOf_152 : decode bM_keyOf 152 = .ok (.iadd, 1) := by decide +kernel
theorem dM_keyOf_153 : decode bM_keyOf 153 = .ok (.ireturn, 1) := by decide +kernel
theorem dM_keyOf_154 : decode bM_keyOf 154 = .ok (.iconst 4, 1) := by decide +kernel
theorem dM_keyOf_155 : decode bM_keyOf 155 = .ok (.istore 6, 2) := by decide +kernel
theorem dM_keyOf_157 : decode bM_keyOf 157 = .ok (.iload 6, 2) := by decide +kernel
theorem dM_keyOf_159 : decode bM_keyOf 159 = .ok (.ifCond .le 53, 3) := by decide +kernel
theorem dM_keyOf_162 : decode bM_keyOf 162 = .ok (.bipush 12, 2) := by decide +kernel
theorem dM_keyOf_164 : decode bM_keyOf 164 = .ok (.istore 7, 2) := by decide +kernel
theorem dM_keyOf_166 : decode bM_keyOf 166 = .ok (.iload 7, 2) := by decide +kernel
theorem dM_keyOf_168 : decode bM_keyOf 168 = .ok (.ifCond .lt 38, 3) := by decide +kernel
theorem dM_keyOf_171 : decode bM_keyOf 171 = .ok (.aload_n 0, 1) := by decide +kernel
theorem dM_keyOf_172 : decode bM_keyOf 172 = .ok (.getfield 16, 3) := by decide +kernel
theorem dM_keyOf_175 : decode bM_keyOf 175 = .ok (.iload 7, 2) := by decide +kernel
theorem dM_keyOf_177 : decode bM_keyOf 177 = .ok (.iaload, 1) := by decide +kernel
theorem dM_keyOf_178 : decode bM_keyOf 178 = .ok (.iload 6, 2) := by decide +kernel
theorem dM_keyOf_180 : decode bM_keyOf 180 = .ok (.if_icmp .ne 20, 3) := by decide +kernel
theorem dM_keyOf_183 : decode bM_keyOf 183 = .ok (.iload 4, 2) := by decide +kernel
theorem dM_keyOf_185 : decode bM_keyOf 185 = .ok (.iload 7, 2) := by decide +kernel
theorem dM_keyOf_187 : decode bM_keyOf 187 = .ok (.iload 5, 2) := by decide +kernel
theorem dM_keyOf_189 : decode bM_keyOf 189 = .ok (.imul, 1) := by decide +kernel
theorem dM_keyOf_190 : decode bM_keyOf 190 = .ok (.iadd, 1) := by decide +kernel
theorem dM_keyOf_191 : decode bM_keyOf 191 = .ok (.istore 4, 2) := by decide +kernel
theorem dM_keyOf_193 : decode bM_keyOf 193 = .ok (.iload 5, 2) := by decide +kernel
theorem dM_keyOf_195 : decode bM_keyOf 195 = .ok (.bipush 13, 2) := by decide +kernel
theorem dM_keyOf_197 : decode bM_keyOf 197 = .ok (.idiv, 1) := by decide +kernel
theorem dM_keyOf_198 : decode bM_keyOf 198 = .ok (.istore 5, 2) := by decide +kernel
theorem dM_keyOf_200 : decode bM_keyOf 200 = .ok (.iinc 7 (-1), 3) := by decide +kernel
theorem dM_keyOf_203 : decode bM_keyOf 203 = .ok (.goto (-37), 3) := by decide +kernel
theorem dM_keyOf_206 : decode bM_keyOf 206 = .ok (.iinc 6 (-1), 3) := by decide +kernel
theorem dM_keyOf_209 : decode bM_keyOf 209 = .ok (.goto (-52), 3) := by decide +kernel
theorem dM_keyOf_212 : decode bM_keyOf 212 = .ok (.iload_n 3, 1) := by decide +kernel
theorem dM_keyOf_213 : decode bM_keyOf 213 = .ok (.ldc 73, 2) := by decide +kernel
theorem dM_keyOf_215 : decode bM_keyOf 215 = .ok (.imul, 1) := by decide +kernel
theorem dM_keyOf_216 : decode bM_keyOf 216 = .ok (.iload 4, 2) := by decide +kernel
theorem dM_keyOf_218 : decode bM_keyOf 218 = .ok (.iadd, 1) := by decide +kernel
theorem dM_keyOf_219 : decode bM_keyOf 219 = .ok (.ireturn, 1) := by decide +kernel
abbrev bM_straight : ByteArray := prog_3_method_6_code
def yM_straight : MethodName := ⟨"HandTablesModel", "straight", "()I"⟩
theorem dM_straight_0 : decode bM_straight 0 = .ok (.bipush 12, 2) := by decide +kernel
theorem dM_straight_2 : decode bM_straight 2 = .ok (.istore_n 1, 1) := by decide +kernel
theorem dM_straight_3 : decode bM_straight 3 = .ok (.iload_n 1, 1) := by decide +kernel
theorem dM_straight_4 : decode bM_straight 4 = .ok (.iconst 3, 1) := by decide +kernel
theorem dM_straight_5 : decode bM_straight 5 = .ok (.if_icmp .lt 67, 3) := by decide +kernel
theorem dM_straight_8 : decode bM_straight 8 = .ok (.iconst 1, 1) := by decide +kernel
theorem dM_straight_9 : decode bM_straight 9 = .ok (.istore_n 2, 1) := by decide +kernel
theorem dM_straight_10 : decode bM_straight 10 = .ok (.iconst 0, 1) := by decide +kernel
theorem dM_straight_11 : decode bM_straight 11 = .ok (.istore_n 3, 1) := by decide +kernel
theorem dM_straight_12 : decode bM_straight 12 = .ok (.iload_n 3, 1) := by decide +kernel
theorem dM_straight_13 : decode bM_straight 13 = .ok (.iconst 5, 1) := by decide +kernel
theorem dM_straight_14 : decode bM_straight 14 = .ok (.if_icmp .ge 46, 3) := by decide +kernel
theorem dM_straight_17 : decode bM_straight 17 = .ok (.iload_n 1, 1) := by decide +kernel
theorem dM_straight_18 : decode bM_straight 18 = .ok (.iload_n 3, 1) := by decide +kernel
theorem dM_straight_19 : decode bM_straight 19 = .ok (.isub, 1) := by decide +kernel
theorem dM_straight_20 : decode bM_straight 20 = .ok (.ifCond .ge 8, 3) := by decide +kernel
theorem dM_straight_23 : decode bM_straight 23 = .ok (.bipush 12, 2) := by decide +kernel
theorem dM_straight_25 : decode bM_straight 25 = .ok (.goto 6, 3) := by decide +kernel
theorem dM_straight_28 : decode bM_straight 28 = .ok (.iload_n 1, 1) := by decide +kernel
theorem dM_straight_29 : decode bM_straight 29 = .ok (.iload_n 3, 1) := by decide +kernel
theorem dM_straight_30 : decode bM_straight 30 = .ok (.isub, 1) := by decide +kernel
theorem dM_straight_31 : decode bM_straight 31 = .ok (.istore 4, 2) := by decide +kernel
theorem dM_straight_33 : decode bM_straight 33 = .ok (.iload_n 2, 1) := by decide +kernel
theorem dM_straight_34 : decode bM_straight 34 = .ok (.ifCond .eq 18, 3) := by decide +kernel
theorem dM_straight_37 : decode bM_straight 37 = .ok (.aload_n 0, 1) := by decide +kernel
theorem dM_straight_38 : decode bM_straight 38 = .ok (.getfield 16, 3) := by decide +kernel
theorem dM_straight_41 : decode bM_straight 41 = .ok (.iload 4, 2) := by decide +kernel
theorem dM_straight_43 : decode bM_straight 43 = .ok (.iaload, 1) := by decide +kernel
theorem dM_straight_44 : decode bM_straight 44 = .ok (.iconst 1, 1) := by decide +kernel
theorem dM_straight_45 : decode bM_straight 45 = .ok (.if_icmp .ne 7, 3) := by decide +kernel
theorem dM_straight_48 : decode bM_straight 48 = .ok (.iconst 1, 1) := by decide +kernel
theorem dM_straight_49 : decode bM_straight 49 = .ok (.goto 4, 3) := by decide +kernel
theorem dM_straight_52 : decode bM_straight 52 = .ok (.iconst 0, 1) := by decide +kernel
theorem dM_straight_53 : decode bM_straight 53 = .ok (.istore_n 2, 1) := by decide +kernel
theorem dM_straight_54 : decode bM_straight 54 = .ok (.iinc 3 1, 3) := by decide +kernel
theorem dM_straight_57 : decode bM_straight 57 = .ok (.goto (-45), 3) := by decide +kernel
theorem dM_straight_60 : decode bM_straight 60 = .ok (.iload_n 2, 1) := by decide +kernel
theorem dM_straight_61 : decode bM_straight 61 = .ok (.ifCond .eq 5, 3) := by decide +kernel
theorem dM_straight_64 : decode bM_straight 64 = .ok (.iload_n 1, 1) := by decide +kernel
theorem dM_straight_65 : decode bM_straight 65 = .ok (.ireturn, 1) := by decide +kernel
theorem dM_straight_66 : decode bM_straight 66 = .ok (.iinc 1 (-1), 3) := by decide +kernel
theorem dM_straight_69 : decode bM_straight 69 = .ok (.goto (-66), 3) := by decide +kernel
theorem dM_straight_72 : decode bM_straight 72 = .ok (.iconst (-1), 1) := by decide +kernel
theorem dM_straight_73 : decode bM_straight 73 = .ok (.ireturn, 1) := by decide +kernel
abbrev bM_with : ByteArray := prog_3_method_7_code
def yM_with : MethodName := ⟨"HandTablesModel", "with", "(I)I"⟩
theorem dM_with_0 : decode bM_with 0 = .ok (.iconst 0, 1) := by decide +kernel
theorem dM_with_1 : decode bM_with 1 = .ok (.istore_n 2, 1) := by decide +kernel
theorem dM_with_2 : decode bM_with 2 = .ok (.iconst 0, 1) := by decide +kernel
theorem dM_with_3 : decode bM_with 3 = .ok (.istore_n 3, 1) := by decide +kernel
theorem dM_with_4 : decode bM_with 4 = .ok (.iload_n 3, 1) := by decide +kernel
theorem dM_with_5 : decode bM_with 5 = .ok (.bipush 13, 2) := by decide +kernel
theorem dM_with_7 : decode bM_with 7 = .ok (.if_icmp .ge 27, 3) := by decide +kernel
theorem dM_with_10 : decode bM_with 10 = .ok (.aload_n 0, 1) := by decide +kernel
theorem dM_with_11 : decode bM_with 11 = .ok (.getfield 16, 3) := by decide +kernel
theorem dM_with_14 : decode bM_with 14 = .ok (.iload_n 3, 1) := by decide +kernel
theorem dM_with_15 : decode bM_with 15 = .ok (.iaload, 1) := by decide +kernel
theorem dM_with_16 : decode bM_with 16 = .ok (.iload_n 1, 1) := by decide +kernel
theorem dM_with_17 : decode bM_with 17 = .ok (.if_icmp .ne 9, 3) := by decide +kernel
theorem dM_with_20 : decode bM_with 20 = .ok (.iload_n 2, 1) := by decide +kernel
theorem dM_with_21 : decode bM_with 21 = .ok (.iconst 1, 1) := by decide +kernel
theorem dM_with_22 : decode bM_with 22 = .ok (.iadd, 1) := by decide +kernel
theorem dM_with_23 : decode bM_with 23 = .ok (.goto 4, 3) := by decide +kernel
theorem dM_with_26 : decode bM_with 26 = .ok (.iload_n 2, 1) := by decide +kernel
theorem dM_with_27 : decode bM_with 27 = .ok (.istore_n 2, 1) := by decide +kernel
theorem dM_with_28 : decode bM_with 28 = .ok (.iinc 3 1, 3) := by decide +kernel
theorem dM_with_31 : decode bM_with 31 = .ok (.goto (-27), 3) := by decide +kernel
theorem dM_with_34 : decode bM_with 34 = .ok (.iload_n 2, 1) := by decide +kernel
theorem dM_with_35 : decode bM_with 35 = .ok (.ireturn, 1) := by decide +kernel
abbrev bM_addKey : ByteArray := prog_3_method_4_code
def yM_addKey : MethodName := ⟨"HandTablesModel", "addKey", "(I)V"⟩
theorem dM_addKey_0 : decode bM_addKey 0 = .ok (.aload_n 0, 1) := by decide +kernel
theorem dM_addKey_1 : decode bM_addKey 1 = .ok (.getfield 7, 3) := by decide +kernel
theorem dM_addKey_4 : decode bM_addKey 4 = .ok (.aload_n 0, 1) := by decide +kernel
theorem dM_addKey_5 : decode bM_addKey 5 = .ok (.getfield 62, 3) := by decide +kernel
theorem dM_addKey_8 : decode bM_addKey 8 = .ok (.iload_n 1, 1) := by decide +kernel
theorem dM_addKey_9 : decode bM_addKey 9 = .ok (.iastore, 1) := by decide +kernel
theorem dM_addKey_10 : decode bM_addKey 10 = .ok (.aload_n 0, 1) := by decide +kernel
theorem dM_addKey_11 : decode bM_addKey 11 = .ok (.dup, 1) := by decide +kernel
theorem dM_addKey_12 : decode bM_addKey 12 = .ok (.getfield 62, 3) := by decide +kernel
theorem dM_addKey_15 : decode bM_addKey 15 = .ok (.iconst 1, 1) := by decide +kernel
theorem dM_addKey_16 : decode bM_addKey 16 = .ok (.iadd, 1) := by decide +kernel
theorem dM_addKey_17 : decode bM_addKey 17 = .ok (.putfield 62, 3) := by decide +kernel
theorem dM_addKey_20 : decode bM_addKey 20 = .ok (.return_, 1) := by decide +kernel
abbrev bM_sort : ByteArray := prog_3_method_5_code
def yM_sort : MethodName := ⟨"HandTablesModel", "sort", "()V"⟩
theorem dM_sort_0 : decode bM_sort 0 = .ok (.sipush 3000, 3) := by decide +kernel
theorem dM_sort_3 : decode bM_sort 3 = .ok (.istore_n 1, 1) := by decide +kernel
theorem dM_sort_4 : decode bM_sort 4 = .ok (.iload_n 1, 1) := by decide +kernel
theorem dM_sort_5 : decode bM_sort 5 = .ok (.ifCond .le 99, 3) := by decide +kernel
theorem dM_sort_8 : decode bM_sort 8 = .ok (.iload_n 1, 1) := by decide +kernel
theorem dM_sort_9 : decode bM_sort 9 = .ok (.istore_n 2, 1) := by decide +kernel
theorem dM_sort_10 : decode bM_sort 10 = .ok (.iload_n 2, 1) := by decide +kernel
theorem dM_sort_11 : decode bM_sort 11 = .ok (.aload_n 0, 1) := by decide +kernel
theorem dM_sort_12 : decode bM_sort 12 = .ok (.getfield 62, 3) := by decide +kernel
theorem dM_sort_15 : decode bM_sort 15 = .ok (.if_icmp .ge 71, 3) := by decide +kernel
theorem dM_sort_18 : decode bM_sort 18 = .ok (.aload_n 0, 1) := by decide +kernel
theorem dM_sort_19 : decode bM_sort 19 = .ok (.getfield 7, 3) := by decide +kernel
theorem dM_sort_22 : decode bM_sort 22 = .ok (.iload_n 2, 1) := by decide +kernel
theorem dM_sort_23 : decode bM_sort 23 = .ok (.iaload, 1) := by decide +kernel
theorem dM_sort_24 : decode bM_sort 24 = .ok (.istore_n 3, 1) := by decide +kernel
theorem dM_sort_25 : decode bM_sort 25 = .ok (.iload_n 2, 1) := by decide +kernel
theorem dM_sort_26 : decode bM_sort 26 = .ok (.istore 4, 2) := by decide +kernel
theorem dM_sort_28 : decode bM_sort 28 = .ok (.iload 4, 2) := by decide +kernel
theorem dM_sort_30 : decode bM_sort 30 = .ok (.iload_n 1, 1) := by decide +kernel
theorem dM_sort_31 : decode bM_sort 31 = .ok (.if_icmp .lt 41, 3) := by decide +kernel
theorem dM_sort_34 : decode bM_sort 34 = .ok (.aload_n 0, 1) := by decide +kernel
theorem dM_sort_35 : decode bM_sort 35 = .ok (.getfield 7, 3) := by decide +kernel
theorem dM_sort_38 : decode bM_sort 38 = .ok (.iload 4, 2) := by decide +kernel
theorem dM_sort_40 : decode bM_sort 40 = .ok (.iload_n 1, 1) := by decide +kernel
theorem dM_sort_41 : decode bM_sort 41 = .ok (.isub, 1) := by decide +kernel
theorem dM_sort_42 : decode bM_sort 42 = .ok (.iaload, 1) := by decide +kernel
theorem dM_sort_43 : decode bM_sort 43 = .ok (.iload_n 3, 1) := by decide +kernel
theorem dM_sort_44 : decode bM_sort 44 = .ok (.if_icmp .le 28, 3) := by decide +kernel
theorem dM_sort_47 : decode bM_sort 47 = .ok (.aload_n 0, 1) := by decide +kernel
theorem dM_sort_48 : decode bM_sort 48 = .ok (.getfield 7, 3) := by decide +kernel
theorem dM_sort_51 : decode bM_sort 51 = .ok (.iload 4, 2) := by decide +kernel
theorem dM_sort_53 : decode bM_sort 53 = .ok (.aload_n 0, 1) := by decide +kernel
theorem dM_sort_54 : decode bM_sort 54 = .ok (.getfield 7, 3) := by decide +kernel
theorem dM_sort_57 : decode bM_sort 57 = .ok (.iload 4, 2) := by decide +kernel
theorem dM_sort_59 : decode bM_sort 59 = .ok (.iload_n 1, 1) := by decide +kernel
theorem dM_sort_60 : decode bM_sort 60 = .ok (.isub, 1) := by decide +kernel
theorem dM_sort_61 : decode bM_sort 61 = .ok (.iaload, 1) := by decide +kernel
theorem dM_sort_62 : decode bM_sort 62 = .ok (.iastore, 1) := by decide +kernel
theorem dM_sort_63 : decode bM_sort 63 = .ok (.iload 4, 2) := by decide +kernel
theorem dM_sort_65 : decode bM_sort 65 = .ok (.iload_n 1, 1) := by decide +kernel
theorem dM_sort_66 : decode bM_sort 66 = .ok (.isub, 1) := by decide +kernel
theorem dM_sort_67 : decode bM_sort 67 = .ok (.istore 4, 2) := by decide +kernel
theorem dM_sort_69 : decode bM_sort 69 = .ok (.goto (-41), 3) := by decide +kernel
theorem dM_sort_72 : decode bM_sort 72 = .ok (.aload_n 0, 1) := by decide +kernel
theorem dM_sort_73 : decode bM_sort 73 = .ok (.getfield 7, 3) := by decide +kernel
theorem dM_sort_76 : decode bM_sort 76 = .ok (.iload 4, 2) := by decide +kernel
theorem dM_sort_78 : decode bM_sort 78 = .ok (.iload_n 3, 1) := by decide +kernel
theorem dM_sort_79 : decode bM_sort 79 = .ok (.iastore, 1) := by decide +kernel
theorem dM_sort_80 : decode bM_sort 80 = .ok (.iinc 2 1, 3) := by decide +kernel
theorem dM_sort_83 : decode bM_sort 83 = .ok (.goto (-73), 3) := by decide +kernel
theorem dM_sort_86 : decode bM_sort 86 = .ok (.iload_n 1, 1) := by decide +kernel
theorem dM_sort_87 : decode bM_sort 87 = .ok (.iconst 2, 1) := by decide +kernel
theorem dM_sort_88 : decode bM_sort 88 = .ok (.if_icmp .le 9, 3) := by decide +kernel
theorem dM_sort_91 : decode bM_sort 91 = .ok (.iload_n 1, 1) := by decide +kernel
theorem dM_sort_92 : decode bM_sort 92 = .ok (.iconst 3, 1) := by decide +kernel
theorem dM_sort_93 : decode bM_sort 93 = .ok (.idiv, 1) := by decide +kernel
theorem dM_sort_94 : decode bM_sort 94 = .ok (.goto 6, 3) := by decide +kernel
theorem dM_sort_97 : decode bM_sort 97 = .ok (.iload_n 1, 1) := by decide +kernel
theorem dM_sort_98 : decode bM_sort 98 = .ok (.iconst 1, 1) := by decide +kernel
theorem dM_sort_99 : decode bM_sort 99 = .ok (.isub, 1) := by decide +kernel
theorem dM_sort_100 : decode bM_sort 100 = .ok (.istore_n 1, 1) := by decide +kernel
theorem dM_sort_101 : decode bM_sort 101 = .ok (.goto (-97), 3) := by decide +kernel
theorem dM_sort_104 : decode bM_sort 104 = .ok (.return_, 1) := by decide +kernel
abbrev bM_freshDeck : ByteArray := prog_3_method_41_code
def yM_freshDeck : MethodName := ⟨"HandTablesModel", "freshDeck", "()V"⟩
theorem dM_freshDeck_0 : decode bM_freshDeck 0 = .ok (.iconst 0, 1) := by decide +kernel
theorem dM_freshDeck_1 : decode bM_freshDeck 1 = .ok (.istore_n 1, 1) := by decide +kernel
theorem dM_freshDeck_2 : decode bM_freshDeck 2 = .ok (.iload_n 1, 1) := by decide +kernel
theorem dM_freshDeck_3 : decode bM_freshDeck 3 = .ok (.bipush 52, 2) := by decide +kernel
theorem dM_freshDeck_5 : decode bM_freshDeck 5 = .ok (.if_icmp .ge 16, 3) := by decide +kernel
theorem dM_freshDeck_8 : decode bM_freshDeck 8 = .ok (.aload_n 0, 1) := by decide +kernel
theorem dM_freshDeck_9 : decode bM_freshDeck 9 = .ok (.getfield 28, 3) := by decide +kernel
theorem dM_freshDeck_12 : decode bM_freshDeck 12 = .ok (.iload_n 1, 1) := by decide +kernel
theorem dM_freshDeck_13 : decode bM_freshDeck 13 = .ok (.iload_n 1, 1) := by decide +kernel
theorem dM_freshDeck_14 : decode bM_freshDeck 14 = .ok (.iastore, 1) := by decide +kernel
theorem dM_freshDeck_15 : decode bM_freshDeck 15 = .ok (.iinc 1 1, 3) := by decide +kernel
theorem dM_freshDeck_18 : decode bM_freshDeck 18 = .ok (.goto (-16), 3) := by decide +kernel
theorem dM_freshDeck_21 : decode bM_freshDeck 21 = .ok (.aload_n 0, 1) := by decide +kernel
theorem dM_freshDeck_22 : decode bM_freshDeck 22 = .ok (.iconst 0, 1) := by decide +kernel
theorem dM_freshDeck_23 : decode bM_freshDeck 23 = .ok (.putfield 149, 3) := by decide +kernel
theorem dM_freshDeck_26 : decode bM_freshDeck 26 = .ok (.return_, 1) := by decide +kernel
abbrev bM_thrown : ByteArray := prog_3_method_2_code
def yM_thrown : MethodName := ⟨"HandTablesModel", "thrown", "()I"⟩
theorem dM_thrown_0 : decode bM_thrown 0 = .ok (.aload_n 0, 1) := by decide +kernel
theorem dM_thrown_1 : decode bM_thrown 1 = .ok (.getfield 58, 3) := by decide +kernel
theorem dM_thrown_4 : decode bM_thrown 4 = .ok (.ireturn, 1) := by decide +kernel
abbrev bM_value : ByteArray := prog_3_method_14_code
def yM_value : MethodName := ⟨"HandTablesModel", "value", "(J)I"⟩
theorem dM_value_0 : decode bM_value 0 = .ok (.aload_n 0, 1) := by decide +kernel
theorem dM_value_1 : decode bM_value 1 = .ok (.lload_n 1, 1) := by decide +kernel
theorem dM_value_2 : decode bM_value 2 = .ok (.invokestatic 80, 3) := by decide +kernel
theorem dM_value_5 : decode bM_value 5 = .ok (.ifCond .eq 7, 3) := by decide +kernel
theorem dM_value_8 : decode bM_value 8 = .ok (.iconst 0, 1) := by decide +kernel
theorem dM_value_9 : decode bM_value 9 = .ok (.goto 4, 3) := by decide +kernel
theorem dM_value_12 : decode bM_value 12 = .ok (.iconst 1, 1) := by decide +kernel
theorem dM_value_13 : decode bM_value 13 = .ok (.putfield 58, 3) := by decide +kernel
theorem dM_value_16 : decode bM_value 16 = .ok (.aload_n 0, 1) := by decide +kernel
theorem dM_value_17 : decode bM_value 17 = .ok (.getfield 58, 3) := by decide +kernel
theorem dM_value_20 : decode bM_value 20 = .ok (.ifCond .le 5, 3) := by decide +kernel
theorem dM_value_23 : decode bM_value 23 = .ok (.iconst 0, 1) := by decide +kernel
theorem dM_value_24 : decode bM_value 24 = .ok (.ireturn, 1) := by decide +kernel
theorem dM_value_25 : decode bM_value 25 = .ok (.aload_n 0, 1) := by decide +kernel
theorem dM_value_26 : decode bM_value 26 = .ok (.lload_n 1, 1) := by decide +kernel
theorem dM_value_27 : decode bM_value 27 = .ok (.invokevirtual 84, 3) := by decide +kernel
theorem dM_value_30 : decode bM_value 30 = .ok (.aload_n 0, 1) := by decide +kernel
theorem dM_value_31 : decode bM_value 31 = .ok (.aload_n 0, 1) := by decide +kernel
theorem dM_value_32 : decode bM_value 32 = .ok (.invokevirtual 88, 3) := by decide +kernel
theorem dM_value_35 : decode bM_value 35 = .ok (.invokevirtual 91, 3) := by decide +kernel
theorem dM_value_38 : decode bM_value 38 = .ok (.ireturn, 1) := by decide +kernel
abbrev bM_isHand : ByteArray := prog_3_method_10_code
def yM_isHand : MethodName := ⟨"HandTablesModel", "isHand", "(J)Z"⟩
theorem dM_isHand_0 : decode bM_isHand 0 = .ok (.iconst 0, 1) := by decide +kernel
theorem dM_isHand_1 : decode bM_isHand 1 = .ok (.istore_n 2, 1) := by decide +kernel
theorem dM_isHand_2 : decode bM_isHand 2 = .ok (.iconst 0, 1) := by decide +kernel
theorem dM_isHand_3 : decode bM_isHand 3 = .ok (.istore_n 3, 1) := by decide +kernel
theorem dM_isHand_4 : decode bM_isHand 4 = .ok (.iload_n 3, 1) := by decide +kernel
theorem dM_isHand_5 : decode bM_isHand 5 = .ok (.bipush 64, 2) := by decide +kernel
theorem dM_isHand_7 : decode bM_isHand 7 = .ok (.if_icmp .ge 18, 3) := by decide +kernel
theorem dM_isHand_10 : decode bM_isHand 10 = .ok (.iload_n 2, 1) := by decide +kernel
theorem dM_isHand_11 : decode bM_isHand 11 = .ok (.lload_n 0, 1) := by decide +kernel
theorem dM_isHand_12 : decode bM_isHand 12 = .ok (.iload_n 3, 1) := by decide +kernel
theorem dM_isHand_13 : decode bM_isHand 13 = .ok (.lshr, 1) := by decide +kernel
theorem dM_isHand_14 : decode bM_isHand 14 = .ok (.lconst 1, 1) := by decide +kernel
theorem dM_isHand_15 : decode bM_isHand 15 = .ok (.land, 1) := by decide +kernel
theorem dM_isHand_16 : decode bM_isHand 16 = .ok (.l2i, 1) := by decide +kernel
theorem dM_isHand_17 : decode bM_isHand 17 = .ok (.iadd, 1) := by decide +kernel
theorem dM_isHand_18 : decode bM_isHand 18 = .ok (.istore_n 2, 1) := by decide +kernel
theorem dM_isHand_19 : decode bM_isHand 19 = .ok (.iinc 3 1, 3) := by decide +kernel
theorem dM_isHand_22 : decode bM_isHand 22 = .ok (.goto (-18), 3) := by decide +kernel
theorem dM_isHand_25 : decode bM_isHand 25 = .ok (.lload_n 0, 1) := by decide +kernel
theorem dM_isHand_26 : decode bM_isHand 26 = .ok (.bipush 52, 2) := by decide +kernel
theorem dM_isHand_28 : decode bM_isHand 28 = .ok (.lshr, 1) := by decide +kernel
theorem dM_isHand_29 : decode bM_isHand 29 = .ok (.lconst 0, 1) := by decide +kernel
theorem dM_isHand_30 : decode bM_isHand 30 = .ok (.lcmp, 1) := by decide +kernel
theorem dM_isHand_31 : decode bM_isHand 31 = .ok (.ifCond .ne 18, 3) := by decide +kernel
theorem dM_isHand_34 : decode bM_isHand 34 = .ok (.iload_n 2, 1) := by decide +kernel
theorem dM_isHand_35 : decode bM_isHand 35 = .ok (.iconst 5, 1) := by decide +kernel
theorem dM_isHand_36 : decode bM_isHand 36 = .ok (.if_icmp .lt 13, 3) := by decide +kernel
theorem dM_isHand_39 : decode bM_isHand 39 = .ok (.iload_n 2, 1) := by decide +kernel
theorem dM_isHand_40 : decode bM_isHand 40 = .ok (.bipush 7, 2) := by decide +kernel
theorem dM_isHand_42 : decode bM_isHand 42 = .ok (.if_icmp .gt 7, 3) := by decide +kernel
theorem dM_isHand_45 : decode bM_isHand 45 = .ok (.iconst 1, 1) := by decide +kernel
theorem dM_isHand_46 : decode bM_isHand 46 = .ok (.goto 4, 3) := by decide +kernel
theorem dM_isHand_49 : decode bM_isHand 49 = .ok (.iconst 0, 1) := by decide +kernel
theorem dM_isHand_50 : decode bM_isHand 50 = .ok (.ireturn, 1) := by decide +kernel
abbrev bM_takeCards : ByteArray := prog_3_method_11_code
def yM_takeCards : MethodName := ⟨"HandTablesModel", "takeCards", "(J)V"⟩
theorem dM_takeCards_0 : decode bM_takeCards 0 = .ok (.aload_n 0, 1) := by decide +kernel
theorem dM_takeCards_1 : decode bM_takeCards 1 = .ok (.iconst 0, 1) := by decide +kernel
theorem dM_takeCards_2 : decode bM_takeCards 2 = .ok (.putfield 74, 3) := by decide +kernel
theorem dM_takeCards_5 : decode bM_takeCards 5 = .ok (.iconst 0, 1) := by decide +kernel
theorem dM_takeCards_6 : decode bM_takeCards 6 = .ok (.istore_n 3, 1) := by decide +kernel
theorem dM_takeCards_7 : decode bM_takeCards 7 = .ok (.iload_n 3, 1) := by decide +kernel
theorem dM_takeCards_8 : decode bM_takeCards 8 = .ok (.bipush 52, 2) := by decide +kernel
theorem dM_takeCards_10 : decode bM_takeCards 10 = .ok (.if_icmp .ge 39, 3) := by decide +kernel
theorem dM_takeCards_13 : decode bM_takeCards 13 = .ok (.lload_n 1, 1) := by decide +kernel
theorem dM_takeCards_14 : decode bM_takeCards 14 = .ok (.iload_n 3, 1) := by decide +kernel
theorem dM_takeCards_15 : decode bM_takeCards 15 = .ok (.lshr, 1) := by decide +kernel
theorem dM_takeCards_16 : decode bM_takeCards 16 = .ok (.lconst 1, 1) := by decide +kernel
theorem dM_takeCards_17 : decode bM_takeCards 17 = .ok (.land, 1) := by decide +kernel
theorem dM_takeCards_18 : decode bM_takeCards 18 = .ok (.lconst 1, 1) := by decide +kernel
theorem dM_takeCards_19 : decode bM_takeCards 19 = .ok (.lcmp, 1) := by decide +kernel
theorem dM_takeCards_20 : decode bM_takeCards 20 = .ok (.ifCond .ne 23, 3) := by decide +kernel
theorem dM_takeCards_23 : decode bM_takeCards 23 = .ok (.aload_n 0, 1) := by decide +kernel
theorem dM_takeCards_24 : decode bM_takeCards 24 = .ok (.getfield 19, 3) := by decide +kernel
theorem dM_takeCards_27 : decode bM_takeCards 27 = .ok (.aload_n 0, 1) := by decide +kernel
theorem dM_takeCards_28 : decode bM_takeCards 28 = .ok (.getfield 74, 3) := by decide +kernel
theorem dM_takeCards_31 : decode bM_takeCards 31 = .ok (.iload_n 3, 1) := by decide +kernel
theorem dM_takeCards_32 : decode bM_takeCards 32 = .ok (.iastore, 1) := by decide +kernel
theorem dM_takeCards_33 : decode bM_takeCards 33 = .ok (.aload_n 0, 1) := by decide +kernel
theorem dM_takeCards_34 : decode bM_takeCards 34 = .ok (.dup, 1) := by decide +kernel
theorem dM_takeCards_35 : decode bM_takeCards 35 = .ok (.getfield 74, 3) := by decide +kernel
theorem dM_takeCards_38 : decode bM_takeCards 38 = .ok (.iconst 1, 1) := by decide +kernel
theorem dM_takeCards_39 : decode bM_takeCards 39 = .ok (.iadd, 1) := by decide +kernel
theorem dM_takeCards_40 : decode bM_takeCards 40 = .ok (.putfield 74, 3) := by decide +kernel
theorem dM_takeCards_43 : decode bM_takeCards 43 = .ok (.iinc 3 1, 3) := by decide +kernel
theorem dM_takeCards_46 : decode bM_takeCards 46 = .ok (.goto (-39), 3) := by decide +kernel
theorem dM_takeCards_49 : decode bM_takeCards 49 = .ok (.return_, 1) := by decide +kernel
abbrev bM_bestKey : ByteArray := prog_3_method_13_code
def yM_bestKey : MethodName := ⟨"HandTablesModel", "bestKey", "()I"⟩
theorem dM_bestKey_0 : decode bM_bestKey 0 = .ok (.iconst (-1), 1) := by decide +kernel
theorem dM_bestKey_1 : decode bM_bestKey 1 = .ok (.istore_n 1, 1) := by decide +kernel
theorem dM_bestKey_2 : decode bM_bestKey 2 = .ok (.iconst 0, 1) := by decide +kernel
theorem dM_bestKey_3 : decode bM_bestKey 3 = .ok (.istore_n 2, 1) := by decide +kernel
theorem dM_bestKey_4 : decode bM_bestKey 4 = .ok (.iload_n 2, 1) := by decide +kernel
theorem dM_bestKey_5 : decode bM_bestKey 5 = .ok (.iconst 1, 1) := by decide +kernel
theorem dM_bestKey_6 : decode bM_bestKey 6 = .ok (.aload_n 0, 1) := by decide +kernel
theorem dM_bestKey_7 : decode bM_bestKey 7 = .ok (.getfield 74, 3) := by decide +kernel
theorem dM_bestKey_10 : decode bM_bestKey 10 = .ok (.ishl, 1) := by decide +kernel
theorem dM_bestKey_11 : decode bM_bestKey 11 = .ok (.if_icmp .ge 26, 3) := by decide +kernel
theorem dM_bestKey_14 : decode bM_bestKey 14 = .ok (.aload_n 0, 1) := by decide +kernel
theorem dM_bestKey_15 : decode bM_bestKey 15 = .ok (.iload_n 2, 1) := by decide +kernel
theorem dM_bestKey_16 : decode bM_bestKey 16 = .ok (.invokevirtual 77, 3) := by decide +kernel
theorem dM_bestKey_19 : decode bM_bestKey 19 = .ok (.istore_n 3, 1) := by decide +kernel
theorem dM_bestKey_20 : decode bM_bestKey 20 = .ok (.iload_n 3, 1) := by decide +kernel
theorem dM_bestKey_21 : decode bM_bestKey 21 = .ok (.iload_n 1, 1) := by decide +kernel
theorem dM_bestKey_22 : decode bM_bestKey 22 = .ok (.if_icmp .le 7, 3) := by decide +kernel
theorem dM_bestKey_25 : decode bM_bestKey 25 = .ok (.iload_n 3, 1) := by decide +kernel
theorem dM_bestKey_26 : decode bM_bestKey 26 = .ok (.goto 4, 3) := by decide +kernel
theorem dM_bestKey_29 : decode bM_bestKey 29 = .ok (.iload_n 1, 1) := by decide +kernel
theorem dM_bestKey_30 : decode bM_bestKey 30 = .ok (.istore_n 1, 1) := by decide +kernel
theorem dM_bestKey_31 : decode bM_bestKey 31 = .ok (.iinc 2 1, 3) := by decide +kernel
theorem dM_bestKey_34 : decode bM_bestKey 34 = .ok (.goto (-30), 3) := by decide +kernel
theorem dM_bestKey_37 : decode bM_bestKey 37 = .ok (.iload_n 1, 1) := by decide +kernel
theorem dM_bestKey_38 : decode bM_bestKey 38 = .ok (.ireturn, 1) := by decide +kernel
abbrev bM_keyOfSome : ByteArray := prog_3_method_12_code
def yM_keyOfSome : MethodName := ⟨"HandTablesModel", "keyOfSome", "(I)I"⟩
theorem dM_keyOfSome_0 : decode bM_keyOfSome 0 = .ok (.iconst 0, 1) := by decide +kernel
theorem dM_keyOfSome_1 : decode bM_keyOfSome 1 = .ok (.istore_n 2, 1) := by decide +kernel
theorem dM_keyOfSome_2 : decode bM_keyOfSome 2 = .ok (.iconst 1, 1) := by decide +kernel
theorem dM_keyOfSome_3 : decode bM_keyOfSome 3 = .ok (.istore_n 3, 1) := by decide +kernel
theorem dM_keyOfSome_4 : decode bM_keyOfSome 4 = .ok (.iconst (-1), 1) := by decide +kernel
theorem dM_keyOfSome_5 : decode bM_keyOfSome 5 = .ok (.istore 4, 2) := by decide +kernel
theorem dM_keyOfSome_7 : decode bM_keyOfSome 7 = .ok (.iconst 0, 1) := by decide +kernel
theorem dM_keyOfSome_8 : decode bM_keyOfSome 8 = .ok (.istore 5, 2) := by decide +kernel
theorem dM_keyOfSome_10 : decode bM_keyOfSome 10 = .ok (.iload 5, 2) := by decide +kernel
theorem dM_keyOfSome_12 : decode bM_keyOfSome 12 = .ok (.aload_n 0, 1) := by decide +kernel
theorem dM_keyOfSome_13 : decode bM_keyOfSome 13 = .ok (.getfield 74, 3) := by decide +kernel
theorem dM_keyOfSome_16 : decode bM_keyOfSome 16 = .ok (.if_icmp .ge 84, 3) := by decide +kernel
theorem dM_keyOfSome_19 : decode bM_keyOfSome 19 = .ok (.iload_n 1, 1) := by decide +kernel
theorem dM_keyOfSome_20 : decode bM_keyOfSome 20 = .ok (.iload 5, 2) := by decide +kernel
theorem dM_keyOfSome_22 : decode bM_keyOfSome 22 = .ok (.ishr, 1) := by decide +kernel
theorem dM_keyOfSome_23 : decode bM_keyOfSome 23 = .ok (.iconst 1, 1) := by decide +kernel
theorem dM_keyOfSome_24 : decode bM_keyOfSome 24 = .ok (.iand, 1) := by decide +kernel
theorem dM_keyOfSome_25 : decode bM_keyOfSome 25 = .ok (.iconst 1, 1) := by decide +kernel
theorem dM_keyOfSome_26 : decode bM_keyOfSome 26 = .ok (.if_icmp .ne 68, 3) := by decide +kernel
theorem dM_keyOfSome_29 : decode bM_keyOfSome 29 = .ok (.iload_n 2, 1) := by decide +kernel
theorem dM_keyOfSome_30 : decode bM_keyOfSome 30 = .ok (.iconst 5, 1) := by decide +kernel
theorem dM_keyOfSome_31 : decode bM_keyOfSome 31 = .ok (.if_icmp .ne 5, 3) := by decide +kernel
theorem dM_keyOfSome_34 : decode bM_keyOfSome 34 = .ok (.iconst (-1), 1) := by decide +kernel
theorem dM_keyOfSome_35 : decode bM_keyOfSome 35 = .ok (.ireturn, 1) := by decide +kernel
theorem dM_keyOfSome_36 : decode bM_keyOfSome 36 = .ok (.aload_n 0, 1) := by decide +kernel
theorem dM_keyOfSome_37 : decode bM_keyOfSome 37 = .ok (.getfield 13, 3) := by decide +kernel
theorem dM_keyOfSome_40 : decode bM_keyOfSome 40 = .ok (.iload_n 2, 1) := by decide +kernel
theorem dM_keyOfSome_41 : decode bM_keyOfSome 41 = .ok (.aload_n 0, 1) := by decide +kernel
theorem dM_keyOfSome_42 : decode bM_keyOfSome 42 = .ok (.getfield 19, 3) := by decide +kernel
theorem dM_keyOfSome_45 : decode bM_keyOfSome 45 = .ok (.iload 5, 2) := by decide +kernel
theorem dM_keyOfSome_47 : decode bM_keyOfSome 47 = .ok (.iaload, 1) := by decide +kernel
theorem dM_keyOfSome_48 : decode bM_keyOfSome 48 = .ok (.iconst 4, 1) := by decide +kernel
theorem dM_keyOfSome_49 : decode bM_keyOfSome 49 = .ok (.idiv, 1) := by decide +kernel
theorem dM_keyOfSome_50 : decode bM_keyOfSome 50 = .ok (.iastore, 1) := by decide +kernel
theorem dM_keyOfSome_51 : decode bM_keyOfSome 51 = .ok (.iload_n 3, 1) := by decide +kernel
theorem dM_keyOfSome_52 : decode bM_keyOfSome 52 = .ok (.ifCond .eq 26, 3) := by decide +kernel
theorem dM_keyOfSome_55 : decode bM_keyOfSome 55 = .ok (.iload 4, 2) := by decide +kernel
theorem dM_keyOfSome_57 : decode bM_keyOfSome 57 = .ok (.ifCond .lt 17, 3) := by decide +kernel
theorem dM_keyOfSome_60 : decode bM_keyOfSome 60 = .ok (.aload_n 0, 1) := by decide +kernel
theorem dM_keyOfSome_61 : decode bM_keyOfSome 61 = .ok (.getfield 19, 3) := by decide +kernel
theorem dM_keyOfSome_64 : decode bM_keyOfSome 64 = .ok (.iload 5, 2) := by decide +kernel
theorem dM_keyOfSome_66 : decode bM_keyOfSome 66 = .ok (.iaload, 1) := by decide +kernel
theorem dM_keyOfSome_67 : decode bM_keyOfSome 67 = .ok (.iconst 4, 1) := by decide +kernel
theorem dM_keyOfSome_68 : decode bM_keyOfSome 68 = .ok (.irem, 1) := by decide +kernel
theorem dM_keyOfSome_69 : decode bM_keyOfSome 69 = .ok (.iload 4, 2) := by decide +kernel
theorem dM_keyOfSome_71 : decode bM_keyOfSome 71 = .ok (.if_icmp .ne 7, 3) := by decide +kernel
theorem dM_keyOfSome_74 : decode bM_keyOfSome 74 = .ok (.iconst 1, 1) := by decide +kernel
theorem dM_keyOfSome_75 : decode bM_keyOfSome 75 = .ok (.goto 4, 3) := by decide +kernel
theorem dM_keyOfSome_78 : decode bM_keyOfSome 78 = .ok (.iconst 0, 1) := by decide +kernel
theorem dM_keyOfSome_79 : decode bM_keyOfSome 79 = .ok (.istore_n 3, 1) := by decide +kernel
theorem dM_keyOfSome_80 : decode bM_keyOfSome 80 = .ok (.aload_n 0, 1) := by decide +kernel
theorem dM_keyOfSome_81 : decode bM_keyOfSome 81 = .ok (.getfield 19, 3) := by decide +kernel
theorem dM_keyOfSome_84 : decode bM_keyOfSome 84 = .ok (.iload 5, 2) := by decide +kernel
theorem dM_keyOfSome_86 : decode bM_keyOfSome 86 = .ok (.iaload, 1) := by decide +kernel
theorem dM_keyOfSome_87 : decode bM_keyOfSome 87 = .ok (.iconst 4, 1) := by decide +kernel
theorem dM_keyOfSome_88 : decode bM_keyOfSome 88 = .ok (.irem, 1) := by decide +kernel
theorem dM_keyOfSome_89 : decode bM_keyOfSome 89 = .ok (.istore 4, 2) := by decide +kernel
theorem dM_keyOfSome_91 : decode bM_keyOfSome 91 = .ok (.iinc 2 1, 3) := by decide +kernel
theorem dM_keyOfSome_94 : decode bM_keyOfSome 94 = .ok (.iinc 5 1, 3) := by decide +kernel
theorem dM_keyOfSome_97 : decode bM_keyOfSome 97 = .ok (.goto (-87), 3) := by decide +kernel
theorem dM_keyOfSome_100 : decode bM_keyOfSome 100 = .ok (.iload_n 2, 1) := by decide +kernel
theorem dM_keyOfSome_101 : decode bM_keyOfSome 101 = .ok (.iconst 5, 1) := by decide +kernel
theorem dM_keyOfSome_102 : decode bM_keyOfSome 102 = .ok (.if_icmp .ne 11, 3) := by decide +kernel
theorem dM_keyOfSome_105 : decode bM_keyOfSome 105 = .ok (.aload_n 0, 1) := by decide +kernel
theorem dM_keyOfSome_106 : decode bM_keyOfSome 106 = .ok (.iload_n 3, 1) := by decide +kernel
theorem dM_keyOfSome_107 : decode bM_keyOfSome 107 = .ok (.invokevirtual 44, 3) := by decide +kernel
theorem dM_keyOfSome_110 : decode bM_keyOfSome 110 = .ok (.goto 4, 3) := by decide +kernel
theorem dM_keyOfSome_113 : decode bM_keyOfSome 113 = .ok (.iconst (-1), 1) := by decide +kernel
theorem dM_keyOfSome_114 : decode bM_keyOfSome 114 = .ok (.ireturn, 1) := by decide +kernel
abbrev bM_below : ByteArray := prog_3_method_9_code
def yM_below : MethodName := ⟨"HandTablesModel", "below", "(I)I"⟩
theorem dM_below_0 : decode bM_below 0 = .ok (.iconst 0, 1) := by decide +kernel
theorem dM_below_1 : decode bM_below 1 = .ok (.istore_n 2, 1) := by decide +kernel
theorem dM_below_2 : decode bM_below 2 = .ok (.sipush 7462, 3) := by decide +kernel
theorem dM_below_5 : decode bM_below 5 = .ok (.istore_n 3, 1) := by decide +kernel
theorem dM_below_6 : decode bM_below 6 = .ok (.iload_n 2, 1) := by decide +kernel
theorem dM_below_7 : decode bM_below 7 = .ok (.iload_n 3, 1) := by decide +kernel
theorem dM_below_8 : decode bM_below 8 = .ok (.if_icmp .ge 35, 3) := by decide +kernel
theorem dM_below_11 : decode bM_below 11 = .ok (.iload_n 2, 1) := by decide +kernel
theorem dM_below_12 : decode bM_below 12 = .ok (.iload_n 3, 1) := by decide +kernel
theorem dM_below_13 : decode bM_below 13 = .ok (.iadd, 1) := by decide +kernel
theorem dM_below_14 : decode bM_below 14 = .ok (.iconst 2, 1) := by decide +kernel
theorem dM_below_15 : decode bM_below 15 = .ok (.idiv, 1) := by decide +kernel
theorem dM_below_16 : decode bM_below 16 = .ok (.istore 4, 2) := by decide +kernel
theorem dM_below_18 : decode bM_below 18 = .ok (.aload_n 0, 1) := by decide +kernel
theorem dM_below_19 : decode bM_below 19 = .ok (.getfield 7, 3) := by decide +kernel
theorem dM_below_22 : decode bM_below 22 = .ok (.iload 4, 2) := by decide +kernel
theorem dM_below_24 : decode bM_below 24 = .ok (.iaload, 1) := by decide +kernel
theorem dM_below_25 : decode bM_below 25 = .ok (.iload_n 1, 1) := by decide +kernel
theorem dM_below_26 : decode bM_below 26 = .ok (.if_icmp .ge 11, 3) := by decide +kernel
theorem dM_below_29 : decode bM_below 29 = .ok (.iload 4, 2) := by decide +kernel
theorem dM_below_31 : decode bM_below 31 = .ok (.iconst 1, 1) := by decide +kernel
theorem dM_below_32 : decode bM_below 32 = .ok (.iadd, 1) := by decide +kernel
theorem dM_below_33 : decode bM_below 33 = .ok (.istore_n 2, 1) := by decide +kernel
theorem dM_below_34 : decode bM_below 34 = .ok (.goto 6, 3) := by decide +kernel
theorem dM_below_37 : decode bM_below 37 = .ok (.iload 4, 2) := by decide +kernel
theorem dM_below_39 : decode bM_below 39 = .ok (.istore_n 3, 1) := by decide +kernel
theorem dM_below_40 : decode bM_below 40 = .ok (.goto (-34), 3) := by decide +kernel
theorem dM_below_43 : decode bM_below 43 = .ok (.iload_n 2, 1) := by decide +kernel
theorem dM_below_44 : decode bM_below 44 = .ok (.ireturn, 1) := by decide +kernel
abbrev bM_category : ByteArray := prog_3_method_15_code
def yM_category : MethodName := ⟨"HandTablesModel", "category", "(J)I"⟩
theorem dM_category_0 : decode bM_category 0 = .ok (.aload_n 0, 1) := by decide +kernel
theorem dM_category_1 : decode bM_category 1 = .ok (.lload_n 1, 1) := by decide +kernel
theorem dM_category_2 : decode bM_category 2 = .ok (.invokestatic 80, 3) := by decide +kernel
theorem dM_category_5 : decode bM_category 5 = .ok (.ifCond .eq 7, 3) := by decide +kernel
theorem dM_category_8 : decode bM_category 8 = .ok (.iconst 0, 1) := by decide +kernel
theorem dM_category_9 : decode bM_category 9 = .ok (.goto 4, 3) := by decide +kernel
theorem dM_category_12 : decode bM_category 12 = .ok (.iconst 1, 1) := by decide +kernel
theorem dM_category_13 : decode bM_category 13 = .ok (.putfield 58, 3) := by decide +kernel
theorem dM_category_16 : decode bM_category 16 = .ok (.aload_n 0, 1) := by decide +kernel
theorem dM_category_17 : decode bM_category 17 = .ok (.getfield 58, 3) := by decide +kernel
theorem dM_category_20 : decode bM_category 20 = .ok (.ifCond .le 5, 3) := by decide +kernel
theorem dM_category_23 : decode bM_category 23 = .ok (.iconst 0, 1) := by decide +kernel
theorem dM_category_24 : decode bM_category 24 = .ok (.ireturn, 1) := by decide +kernel
theorem dM_category_25 : decode bM_category 25 = .ok (.aload_n 0, 1) := by decide +kernel
theorem dM_category_26 : decode bM_category 26 = .ok (.lload_n 1, 1) := by decide +kernel
theorem dM_category_27 : decode bM_category 27 = .ok (.invokevirtual 84, 3) := by decide +kernel
theorem dM_category_30 : decode bM_category 30 = .ok (.aload_n 0, 1) := by decide +kernel
theorem dM_category_31 : decode bM_category 31 = .ok (.invokevirtual 88, 3) := by decide +kernel
theorem dM_category_34 : decode bM_category 34 = .ok (.ldc 73, 2) := by decide +kernel
theorem dM_category_36 : decode bM_category 36 = .ok (.idiv, 1) := by decide +kernel
theorem dM_category_37 : decode bM_category 37 = .ok (.ireturn, 1) := by decide +kernel
abbrev bM_best : ByteArray := prog_3_method_16_code
def yM_best : MethodName := ⟨"HandTablesModel", "best", "(J)J"⟩
theorem dM_best_0 : decode bM_best 0 = .ok (.aload_n 0, 1) := by decide +kernel
theorem dM_best_1 : decode bM_best 1 = .ok (.lload_n 1, 1) := by decide +kernel
theorem dM_best_2 : decode bM_best 2 = .ok (.invokestatic 80, 3) := by decide +kernel
theorem dM_best_5 : decode bM_best 5 = .ok (.ifCond .eq 7, 3) := by decide +kernel
theorem dM_best_8 : decode bM_best 8 = .ok (.iconst 0, 1) := by decide +kernel
theorem dM_best_9 : decode bM_best 9 = .ok (.goto 4, 3) := by decide +kernel
theorem dM_best_12 : decode bM_best 12 = .ok (.iconst 1, 1) := by decide +kernel
theorem dM_best_13 : decode bM_best 13 = .ok (.putfield 58, 3) := by decide +kernel
theorem dM_best_16 : decode bM_best 16 = .ok (.aload_n 0, 1) := by decide +kernel
theorem dM_best_17 : decode bM_best 17 = .ok (.getfield 58, 3) := by decide +kernel
theorem dM_best_20 : decode bM_best 20 = .ok (.ifCond .le 5, 3) := by decide +kernel
theorem dM_best_23 : decode bM_best 23 = .ok (.lconst 0, 1) := by decide +kernel
theorem dM_best_24 : decode bM_best 24 = .ok (.lreturn, 1) := by decide +kernel
theorem dM_best_25 : decode bM_best 25 = .ok (.aload_n 0, 1) := by decide +kernel
theorem dM_best_26 : decode bM_best 26 = .ok (.lload_n 1, 1) := by decide +kernel
theorem dM_best_27 : decode bM_best 27 = .ok (.invokevirtual 84, 3) := by decide +kernel
theorem dM_best_30 : decode bM_best 30 = .ok (.aload_n 0, 1) := by decide +kernel
theorem dM_best_31 : decode bM_best 31 = .ok (.invokevirtual 88, 3) := by decide +kernel
theorem dM_best_34 : decode bM_best 34 = .ok (.istore_n 3, 1) := by decide +kernel
theorem dM_best_35 : decode bM_best 35 = .ok (.lconst 0, 1) := by decide +kernel
theorem dM_best_36 : decode bM_best 36 = .ok (.lstore 4, 2) := by decide +kernel
theorem dM_best_38 : decode bM_best 38 = .ok (.iconst 0, 1) := by decide +kernel
theorem dM_best_39 : decode bM_best 39 = .ok (.istore 6, 2) := by decide +kernel
theorem dM_best_41 : decode bM_best 41 = .ok (.iload 6, 2) := by decide +kernel
theorem dM_best_43 : decode bM_best 43 = .ok (.iconst 1, 1) := by decide +kernel
theorem dM_best_44 : decode bM_best 44 = .ok (.aload_n 0, 1) := by decide +kernel
theorem dM_best_45 : decode bM_best 45 = .ok (.getfield 74, 3) := by decide +kernel
theorem dM_best_48 : decode bM_best 48 = .ok (.ishl, 1) := by decide +kernel
theorem dM_best_49 : decode bM_best 49 = .ok (.if_icmp .ge 87, 3) := by decide +kernel
theorem dM_best_52 : decode bM_best 52 = .ok (.aload_n 0, 1) := by decide +kernel
theorem dM_best_53 : decode bM_best 53 = .ok (.iload 6, 2) := by decide +kernel
theorem dM_best_55 : decode bM_best 55 = .ok (.invokevirtual 77, 3) := by decide +kernel
theorem dM_best_58 : decode bM_best 58 = .ok (.iload_n 3, 1) := by decide +kernel
theorem dM_best_59 : decode bM_best 59 = .ok (.if_icmp .ne 71, 3) := by decide +kernel
theorem dM_best_62 : decode bM_best 62 = .ok (.lconst 0, 1) := by decide +kernel
theorem dM_best_63 : decode bM_best 63 = .ok (.lstore 7, 2) := by decide +kernel
theorem dM_best_65 : decode bM_best 65 = .ok (.iconst 0, 1) := by decide +kernel
theorem dM_best_66 : decode bM_best 66 = .ok (.istore 9, 2) := by decide +kernel
theorem dM_best_68 : decode bM_best 68 = .ok (.iload 9, 2) := by decide +kernel
theorem dM_best_70 : decode bM_best 70 = .ok (.aload_n 0, 1) := by decide +kernel
theorem dM_best_71 : decode bM_best 71 = .ok (.getfield 74, 3) := by decide +kernel
theorem dM_best_74 : decode bM_best 74 = .ok (.if_icmp .ge 39, 3) := by decide +kernel
theorem dM_best_77 : decode bM_best 77 = .ok (.iload 6, 2) := by decide +kernel
theorem dM_best_79 : decode bM_best 79 = .ok (.iload 9, 2) := by decide +kernel
theorem dM_best_81 : decode bM_best 81 = .ok (.ishr, 1) := by decide +kernel
theorem dM_best_82 : decode bM_best 82 = .ok (.iconst 1, 1) := by decide +kernel
theorem dM_best_83 : decode bM_best 83 = .ok (.iand, 1) := by decide +kernel
theorem dM_best_84 : decode bM_best 84 = .ok (.iconst 1, 1) := by decide +kernel
theorem dM_best_85 : decode bM_best 85 = .ok (.if_icmp .ne 18, 3) := by decide +kernel
theorem dM_best_88 : decode bM_best 88 = .ok (.lload 7, 2) := by decide +kernel
theorem dM_best_90 : decode bM_best 90 = .ok (.lconst 1, 1) := by decide +kernel
theorem dM_best_91 : decode bM_best 91 = .ok (.aload_n 0, 1) := by decide +kernel
theorem dM_best_92 : decode bM_best 92 = .ok (.getfield 19, 3) := by decide +kernel
theorem dM_best_95 : decode bM_best 95 = .ok (.iload 9, 2) := by decide +kernel
theorem dM_best_97 : decode bM_best 97 = .ok (.iaload, 1) := by decide +kernel
theorem dM_best_98 : decode bM_best 98 = .ok (.lshl, 1) := by decide +kernel
theorem dM_best_99 : decode bM_best 99 = .ok (.lor, 1) := by decide +kernel
theorem dM_best_100 : decode bM_best 100 = .ok (.goto 5, 3) := by decide +kernel
theorem dM_best_103 : decode bM_best 103 = .ok (.lload 7, 2) := by decide +kernel
theorem dM_best_105 : decode bM_best 105 = .ok (.lstore 7, 2) := by decide +kernel
theorem dM_best_107 : decode bM_best 107 = .ok (.iinc 9 1, 3) := by decide +kernel
theorem dM_best_110 : decode bM_best 110 = .ok (.goto (-42), 3) := by decide +kernel
theorem dM_best_113 : decode bM_best 113 = .ok (.lload 7, 2) := by decide +kernel
theorem dM_best_115 : decode bM_best 115 = .ok (.lload 4, 2) := by decide +kernel
theorem dM_best_117 : decode bM_best 117 = .ok (.lcmp, 1) := by decide +kernel
theorem dM_best_118 : decode bM_best 118 = .ok (.ifCond .le 8, 3) := by decide +kernel
theorem dM_best_121 : decode bM_best 121 = .ok (.lload 7, 2) := by decide +kernel
theorem dM_best_123 : decode bM_best 123 = .ok (.goto 5, 3) := by decide +kernel
theorem dM_best_126 : decode bM_best 126 = .ok (.lload 4, 2) := by decide +kernel
theorem dM_best_128 : decode bM_best 128 = .ok (.lstore 4, 2) := by decide +kernel
theorem dM_best_130 : decode bM_best 130 = .ok (.iinc 6 1, 3) := by decide +kernel
theorem dM_best_133 : decode bM_best 133 = .ok (.goto (-92), 3) := by decide +kernel
theorem dM_best_136 : decode bM_best 136 = .ok (.lload 4, 2) := by decide +kernel
theorem dM_best_138 : decode bM_best 138 = .ok (.lreturn, 1) := by decide +kernel
abbrev bM_worth : ByteArray := prog_3_method_18_code
def yM_worth : MethodName := ⟨"HandTablesModel", "worth", "(I)I"⟩
theorem dM_worth_0 : decode bM_worth 0 = .ok (.aload_n 0, 1) := by decide +kernel
theorem dM_worth_1 : decode bM_worth 1 = .ok (.iload_n 1, 1) := by decide +kernel
theorem dM_worth_2 : decode bM_worth 2 = .ok (.ifCond .lt 10, 3) := by decide +kernel
theorem dM_worth_5 : decode bM_worth 5 = .ok (.iload_n 1, 1) := by decide +kernel
theorem dM_worth_6 : decode bM_worth 6 = .ok (.sipush 7462, 3) := by decide +kernel
theorem dM_worth_9 : decode bM_worth 9 = .ok (.if_icmp .lt 7, 3) := by decide +kernel
theorem dM_worth_12 : decode bM_worth 12 = .ok (.iconst 1, 1) := by decide +kernel
theorem dM_worth_13 : decode bM_worth 13 = .ok (.goto 4, 3) := by decide +kernel
theorem dM_worth_16 : decode bM_worth 16 = .ok (.iconst 0, 1) := by decide +kernel
theorem dM_worth_17 : decode bM_worth 17 = .ok (.putfield 58, 3) := by decide +kernel
theorem dM_worth_20 : decode bM_worth 20 = .ok (.aload_n 0, 1) := by decide +kernel
theorem dM_worth_21 : decode bM_worth 21 = .ok (.getfield 58, 3) := by decide +kernel
theorem dM_worth_24 : decode bM_worth 24 = .ok (.ifCond .le 5, 3) := by decide +kernel
theorem dM_worth_27 : decode bM_worth 27 = .ok (.iconst 0, 1) := by decide +kernel
theorem dM_worth_28 : decode bM_worth 28 = .ok (.ireturn, 1) := by decide +kernel
theorem dM_worth_29 : decode bM_worth 29 = .ok (.aload_n 0, 1) := by decide +kernel
theorem dM_worth_30 : decode bM_worth 30 = .ok (.getfield 7, 3) := by decide +kernel
theorem dM_worth_33 : decode bM_worth 33 = .ok (.iload_n 1, 1) := by decide +kernel
theorem dM_worth_34 : decode bM_worth 34 = .ok (.iaload, 1) := by decide +kernel
theorem dM_worth_35 : decode bM_worth 35 = .ok (.ldc 73, 2) := by decide +kernel
theorem dM_worth_37 : decode bM_worth 37 = .ok (.idiv, 1) := by decide +kernel
theorem dM_worth_38 : decode bM_worth 38 = .ok (.istore_n 2, 1) := by decide +kernel
theorem dM_worth_39 : decode bM_worth 39 = .ok (.aload_n 0, 1) := by decide +kernel
theorem dM_worth_40 : decode bM_worth 40 = .ok (.getfield 7, 3) := by decide +kernel
theorem dM_worth_43 : decode bM_worth 43 = .ok (.iload_n 1, 1) := by decide +kernel
theorem dM_worth_44 : decode bM_worth 44 = .ok (.iaload, 1) := by decide +kernel
theorem dM_worth_45 : decode bM_worth 45 = .ok (.ldc 73, 2) := by decide +kernel
theorem dM_worth_47 : decode bM_worth 47 = .ok (.irem, 1) := by decide +kernel
theorem dM_worth_48 : decode bM_worth 48 = .ok (.istore_n 3, 1) := by decide +kernel
theorem dM_worth_49 : decode bM_worth 49 = .ok (.sipush 28561, 3) := by decide +kernel
theorem dM_worth_52 : decode bM_worth 52 = .ok (.istore 4, 2) := by decide +kernel
theorem dM_worth_54 : decode bM_worth 54 = .ok (.iload_n 2, 1) := by decide +kernel
theorem dM_worth_55 : decode bM_worth 55 = .ok (.istore 5, 2) := by decide +kernel
theorem dM_worth_57 : decode bM_worth 57 = .ok (.bipush 16, 2) := by decide +kernel
theorem dM_worth_59 : decode bM_worth 59 = .ok (.istore 6, 2) := by decide +kernel
theorem dM_worth_61 : decode bM_worth 61 = .ok (.iconst 0, 1) := by decide +kernel
theorem dM_worth_62 : decode bM_worth 62 = .ok (.istore 7, 2) := by decide +kernel
theorem dM_worth_64 : decode bM_worth 64 = .ok (.iload 7, 2) := by decide +kernel
theorem dM_worth_66 : decode bM_worth 66 = .ok (.iload_n 2, 1) := by decide +kernel
theorem dM_worth_67 : decode bM_worth 67 = .ok (.invokestatic 94, 3) := by decide +kernel
theorem dM_worth_70 : decode bM_worth 70 = .ok (.if_icmp .ge 40, 3) := by decide +kernel
theorem dM_worth_73 : decode bM_worth 73 = .ok (.iload 5, 2) := by decide +kernel
theorem dM_worth_75 : decode bM_worth 75 = .ok (.iload 6, 2) := by decide +kernel
theorem dM_worth_77 : decode bM_worth 77 = .ok (.iload_n 3, 1) := by decide +kernel
theorem dM_worth_78 : decode bM_worth 78 = .ok (.iload 4, 2) := by decide +kernel
theorem dM_worth_80 : decode bM_worth 80 = .ok (.idiv, 1) := by decide +kernel
theorem dM_worth_81 : decode bM_worth 81 = .ok (.bipush 13, 2) := by decide +kernel
theorem dM_worth_83 : decode bM_worth 83 = .ok (.irem, 1) := by decide +kernel
theorem dM_worth_84 : decode bM_worth 84 = .ok (.iconst 1, 1) := by decide +kernel
theorem dM_worth_85 : decode bM_worth 85 = .ok (.iadd, 1) := by decide +kernel
theorem dM_worth_86 : decode bM_worth 86 = .ok (.imul, 1) := by decide +kernel
theorem dM_worth_87 : decode bM_worth 87 = .ok (.iadd, 1) := by decide +kernel
theorem dM_worth_88 : decode bM_worth 88 = .ok (.istore 5, 2) := by decide +kernel
theorem dM_worth_90 : decode bM_worth 90 = .ok (.iload 4, 2) := by decide +kernel
theorem dM_worth_92 : decode bM_worth 92 = .ok (.bipush 13, 2) := by decide +kernel
theorem dM_worth_94 : decode bM_worth 94 = .ok (.idiv, 1) := by decide +kernel
theorem dM_worth_95 : decode bM_worth 95 = .ok (.istore 4, 2) := by decide +kernel
theorem dM_worth_97 : decode bM_worth 97 = .ok (.iload 6, 2) := by decide +kernel
theorem dM_worth_99 : decode bM_worth 99 = .ok (.bipush 16, 2) := by decide +kernel
theorem dM_worth_101 : decode bM_worth 101 = .ok (.imul, 1) := by decide +kernel
theorem dM_worth_102 : decode bM_worth 102 = .ok (.istore 6, 2) := by decide +kernel
theorem dM_worth_104 : decode bM_worth 104 = .ok (.iinc 7 1, 3) := by decide +kernel
theorem dM_worth_107 : decode bM_worth 107 = .ok (.goto (-43), 3) := by decide +kernel
theorem dM_worth_110 : decode bM_worth 110 = .ok (.iload 5, 2) := by decide +kernel
theorem dM_worth_112 : decode bM_worth 112 = .ok (.ireturn, 1) := by decide +kernel
abbrev bM_rowSize : ByteArray := prog_3_method_17_code
def yM_rowSize : MethodName := ⟨"HandTablesModel", "rowSize", "(I)I"⟩
theorem dM_rowSize_0 : decode bM_rowSize 0 = .ok (.iload_n 0, 1) := by decide +kernel
theorem dM_rowSize_1 : decode bM_rowSize 1 = .ok (.bipush 8, 2) := by decide +kernel
theorem dM_rowSize_3 : decode bM_rowSize 3 = .ok (.if_icmp .eq 8, 3) := by decide +kernel
theorem dM_rowSize_6 : decode bM_rowSize 6 = .ok (.iload_n 0, 1) := by decide +kernel
theorem dM_rowSize_7 : decode bM_rowSize 7 = .ok (.iconst 4, 1) := by decide +kernel
theorem dM_rowSize_8 : decode bM_rowSize 8 = .ok (.if_icmp .ne 7, 3) := by decide +kernel
theorem dM_rowSize_11 : decode bM_rowSize 11 = .ok (.iconst 1, 1) := by decide +kernel
theorem dM_rowSize_12 : decode bM_rowSize 12 = .ok (.goto 43, 3) := by decide +kernel
theorem dM_rowSize_15 : decode bM_rowSize 15 = .ok (.iload_n 0, 1) := by decide +kernel
theorem dM_rowSize_16 : decode bM_rowSize 16 = .ok (.bipush 7, 2) := by decide +kernel
theorem dM_rowSize_18 : decode bM_rowSize 18 = .ok (.if_icmp .eq 9, 3) := by decide +kernel
theorem dM_rowSize_21 : decode bM_rowSize 21 = .ok (.iload_n 0, 1) := by decide +kernel
theorem dM_rowSize_22 : decode bM_rowSize 22 = .ok (.bipush 6, 2) := by decide +kernel
theorem dM_rowSize_24 : decode bM_rowSize 24 = .ok (.if_icmp .ne 7, 3) := by decide +kernel
theorem dM_rowSize_27 : decode bM_rowSize 27 = .ok (.iconst 2, 1) := by decide +kernel
theorem dM_rowSize_28 : decode bM_rowSize 28 = .ok (.goto 27, 3) := by decide +kernel
theorem dM_rowSize_31 : decode bM_rowSize 31 = .ok (.iload_n 0, 1) := by decide +kernel
theorem dM_rowSize_32 : decode bM_rowSize 32 = .ok (.iconst 3, 1) := by decide +kernel
theorem dM_rowSize_33 : decode bM_rowSize 33 = .ok (.if_icmp .eq 8, 3) := by decide +kernel
theorem dM_rowSize_36 : decode bM_rowSize 36 = .ok (.iload_n 0, 1) := by decide +kernel
theorem dM_rowSize_37 : decode bM_rowSize 37 = .ok (.iconst 2, 1) := by decide +kernel
theorem dM_rowSize_38 : decode bM_rowSize 38 = .ok (.if_icmp .ne 7, 3) := by decide +kernel
theorem dM_rowSize_41 : decode bM_rowSize 41 = .ok (.iconst 3, 1) := by decide +kernel
theorem dM_rowSize_42 : decode bM_rowSize 42 = .ok (.goto 13, 3) := by decide +kernel
theorem dM_rowSize_45 : decode bM_rowSize 45 = .ok (.iload_n 0, 1) := by decide +kernel
theorem dM_rowSize_46 : decode bM_rowSize 46 = .ok (.iconst 1, 1) := by decide +kernel
theorem dM_rowSize_47 : decode bM_rowSize 47 = .ok (.if_icmp .ne 7, 3) := by decide +kernel
theorem dM_rowSize_50 : decode bM_rowSize 50 = .ok (.iconst 4, 1) := by decide +kernel
theorem dM_rowSize_51 : decode bM_rowSize 51 = .ok (.goto 4, 3) := by decide +kernel
theorem dM_rowSize_54 : decode bM_rowSize 54 = .ok (.iconst 5, 1) := by decide +kernel
theorem dM_rowSize_55 : decode bM_rowSize 55 = .ok (.ireturn, 1) := by decide +kernel
abbrev bM_sets : ByteArray := prog_3_method_19_code
def yM_sets : MethodName := ⟨"HandTablesModel", "sets", "(I)I"⟩
theorem dM_sets_0 : decode bM_sets 0 = .ok (.aload_n 0, 1) := by decide +kernel
theorem dM_sets_1 : decode bM_sets 1 = .ok (.iload_n 1, 1) := by decide +kernel
theorem dM_sets_2 : decode bM_sets 2 = .ok (.ifCond .lt 10, 3) := by decide +kernel
theorem dM_sets_5 : decode bM_sets 5 = .ok (.iload_n 1, 1) := by decide +kernel
theorem dM_sets_6 : decode bM_sets 6 = .ok (.sipush 7462, 3) := by decide +kernel
theorem dM_sets_9 : decode bM_sets 9 = .ok (.if_icmp .lt 7, 3) := by decide +kernel
theorem dM_sets_12 : decode bM_sets 12 = .ok (.iconst 1, 1) := by decide +kernel
theorem dM_sets_13 : decode bM_sets 13 = .ok (.goto 4, 3) := by decide +kernel
theorem dM_sets_16 : decode bM_sets 16 = .ok (.iconst 0, 1) := by decide +kernel
theorem dM_sets_17 : decode bM_sets 17 = .ok (.putfield 58, 3) := by decide +kernel
theorem dM_sets_20 : decode bM_sets 20 = .ok (.aload_n 0, 1) := by decide +kernel
theorem dM_sets_21 : decode bM_sets 21 = .ok (.getfield 58, 3) := by decide +kernel
theorem dM_sets_24 : decode bM_sets 24 = .ok (.ifCond .le 5, 3) := by decide +kernel
theorem dM_sets_27 : decode bM_sets 27 = .ok (.iconst 0, 1) := by decide +kernel
theorem dM_sets_28 : decode bM_sets 28 = .ok (.ireturn, 1) := by decide +kernel
theorem dM_sets_29 : decode bM_sets 29 = .ok (.aload_n 0, 1) := by decide +kernel
theorem dM_sets_30 : decode bM_sets 30 = .ok (.getfield 7, 3) := by decide +kernel
theorem dM_sets_33 : decode bM_sets 33 = .ok (.iload_n 1, 1) := by decide +kernel
theorem dM_sets_34 : decode bM_sets 34 = .ok (.iaload, 1) := by decide +kernel
theorem dM_sets_35 : decode bM_sets 35 = .ok (.ldc 73, 2) := by decide +kernel
theorem dM_sets_37 : decode bM_sets 37 = .ok (.idiv, 1) := by decide +kernel
theorem dM_sets_38 : decode bM_sets 38 = .ok (.istore_n 2, 1) := by decide +kernel
theorem dM_sets_39 : decode bM_sets 39 = .ok (.iload_n 2, 1) := by decide +kernel
theorem dM_sets_40 : decode bM_sets 40 = .ok (.tableswitch 70 0 8 #[59, 70, 66, 63, 59, 52, 56, 54, 52], 52) := by decide +kernel
theorem dM_sets_92 : decode bM_sets 92 = .ok (.iconst 4, 1) := by decide +kernel
theorem dM_sets_93 : decode bM_sets 93 = .ok (.ireturn, 1) := by decide +kernel
theorem dM_sets_94 : decode bM_sets 94 = .ok (.iconst 4, 1) := by decide +kernel
theorem dM_sets_95 : decode bM_sets 95 = .ok (.ireturn, 1) := by decide +kernel
theorem dM_sets_96 : decode bM_sets 96 = .ok (.bipush 24, 2) := by decide +kernel
theorem dM_sets_98 : decode bM_sets 98 = .ok (.ireturn, 1) := by decide +kernel
theorem dM_sets_99 : decode bM_sets 99 = .ok (.sipush 1020, 3) := by decide +kernel
theorem dM_sets_102 : decode bM_sets 102 = .ok (.ireturn, 1) := by decide +kernel
theorem dM_sets_103 : decode bM_sets 103 = .ok (.bipush 64, 2) := by decide +kernel
theorem dM_sets_105 : decode bM_sets 105 = .ok (.ireturn, 1) := by decide +kernel
theorem dM_sets_106 : decode bM_sets 106 = .ok (.sipush 144, 3) := by decide +kernel
theorem dM_sets_109 : decode bM_sets 109 = .ok (.ireturn, 1) := by decide +kernel
theorem dM_sets_110 : decode bM_sets 110 = .ok (.sipush 384, 3) := by decide +kernel
theorem dM_sets_113 : decode bM_sets 113 = .ok (.ireturn, 1) := by decide +kernel
abbrev bM_first : ByteArray := prog_3_method_20_code
def yM_first : MethodName := ⟨"HandTablesModel", "first", "(I)I"⟩
theorem dM_first_0 : decode bM_first 0 = .ok (.aload_n 0, 1) := by decide +kernel
theorem dM_first_1 : decode bM_first 1 = .ok (.iload_n 1, 1) := by decide +kernel
theorem dM_first_2 : decode bM_first 2 = .ok (.ifCond .lt 9, 3) := by decide +kernel
theorem dM_first_5 : decode bM_first 5 = .ok (.iload_n 1, 1) := by decide +kernel
theorem dM_first_6 : decode bM_first 6 = .ok (.bipush 9, 2) := by decide +kernel
theorem dM_first_8 : decode bM_first 8 = .ok (.if_icmp .le 7, 3) := by decide +kernel
theorem dM_first_11 : decode bM_first 11 = .ok (.iconst 1, 1) := by decide +kernel
theorem dM_first_12 : decode bM_first 12 = .ok (.goto 4, 3) := by decide +kernel
theorem dM_first_15 : decode bM_first 15 = .ok (.iconst 0, 1) := by decide +kernel
theorem dM_first_16 : decode bM_first 16 = .ok (.putfield 58, 3) := by decide +kernel
theorem dM_first_19 : decode bM_first 19 = .ok (.aload_n 0, 1) := by decide +kernel
theorem dM_first_20 : decode bM_first 20 = .ok (.getfield 58, 3) := by decide +kernel
theorem dM_first_23 : decode bM_first 23 = .ok (.ifCond .le 7, 3) := by decide +kernel
theorem dM_first_26 : decode bM_first 26 = .ok (.iconst 0, 1) := by decide +kernel
theorem dM_first_27 : decode bM_first 27 = .ok (.goto 11, 3) := by decide +kernel
theorem dM_first_30 : decode bM_first 30 = .ok (.aload_n 0, 1) := by decide +kernel
theorem dM_first_31 : decode bM_first 31 = .ok (.iload_n 1, 1) := by decide +kernel
theorem dM_first_32 : decode bM_first 32 = .ok (.ldc 73, 2) := by decide +kernel
theorem dM_first_34 : decode bM_first 34 = .ok (.imul, 1) := by decide +kernel
theorem dM_first_35 : decode bM_first 35 = .ok (.invokevirtual 91, 3) := by decide +kernel
theorem dM_first_38 : decode bM_first 38 = .ok (.ireturn, 1) := by decide +kernel
abbrev bM_seat : ByteArray := prog_3_method_24_code
def yM_seat : MethodName := ⟨"HandTablesModel", "seat", "(III)Z"⟩
theorem dM_seat_0 : decode bM_seat 0 = .ok (.aload_n 0, 1) := by decide +kernel
theorem dM_seat_1 : decode bM_seat 1 = .ok (.iload_n 1, 1) := by decide +kernel
theorem dM_seat_2 : decode bM_seat 2 = .ok (.invokestatic 100, 3) := by decide +kernel
theorem dM_seat_5 : decode bM_seat 5 = .ok (.ifCond .eq 7, 3) := by decide +kernel
theorem dM_seat_8 : decode bM_seat 8 = .ok (.iconst 1, 1) := by decide +kernel
theorem dM_seat_9 : decode bM_seat 9 = .ok (.goto 22, 3) := by decide +kernel
theorem dM_seat_12 : decode bM_seat 12 = .ok (.iload_n 2, 1) := by decide +kernel
theorem dM_seat_13 : decode bM_seat 13 = .ok (.invokestatic 104, 3) := by decide +kernel
theorem dM_seat_16 : decode bM_seat 16 = .ok (.ifCond .ne 10, 3) := by decide +kernel
theorem dM_seat_19 : decode bM_seat 19 = .ok (.iload_n 3, 1) := by decide +kernel
theorem dM_seat_20 : decode bM_seat 20 = .ok (.invokestatic 104, 3) := by decide +kernel
theorem dM_seat_23 : decode bM_seat 23 = .ok (.ifCond .eq 7, 3) := by decide +kernel
theorem dM_seat_26 : decode bM_seat 26 = .ok (.iconst 2, 1) := by decide +kernel
theorem dM_seat_27 : decode bM_seat 27 = .ok (.goto 4, 3) := by decide +kernel
theorem dM_seat_30 : decode bM_seat 30 = .ok (.iconst 0, 1) := by decide +kernel
theorem dM_seat_31 : decode bM_seat 31 = .ok (.putfield 58, 3) := by decide +kernel
theorem dM_seat_34 : decode bM_seat 34 = .ok (.aload_n 0, 1) := by decide +kernel
theorem dM_seat_35 : decode bM_seat 35 = .ok (.getfield 58, 3) := by decide +kernel
theorem dM_seat_38 : decode bM_seat 38 = .ok (.ifCond .gt 26, 3) := by decide +kernel
theorem dM_seat_41 : decode bM_seat 41 = .ok (.iload_n 2, 1) := by decide +kernel
theorem dM_seat_42 : decode bM_seat 42 = .ok (.iload_n 3, 1) := by decide +kernel
theorem dM_seat_43 : decode bM_seat 43 = .ok (.if_icmp .eq 21, 3) := by decide +kernel
theorem dM_seat_46 : decode bM_seat 46 = .ok (.aload_n 0, 1) := by decide +kernel
theorem dM_seat_47 : decode bM_seat 47 = .ok (.iload_n 2, 1) := by decide +kernel
theorem dM_seat_48 : decode bM_seat 48 = .ok (.iload_n 1, 1) := by decide +kernel
theorem dM_seat_49 : decode bM_seat 49 = .ok (.invokevirtual 107, 3) := by decide +kernel
theorem dM_seat_52 : decode bM_seat 52 = .ok (.ifCond .ne 12, 3) := by decide +kernel
theorem dM_seat_55 : decode bM_seat 55 = .ok (.aload_n 0, 1) := by decide +kernel
theorem dM_seat_56 : decode bM_seat 56 = .ok (.iload_n 3, 1) := by decide +kernel
theorem dM_seat_57 : decode bM_seat 57 = .ok (.iload_n 1, 1) := by decide +kernel
theorem dM_seat_58 : decode bM_seat 58 = .ok (.invokevirtual 107, 3) := by decide +kernel
theorem dM_seat_61 : decode bM_seat 61 = .ok (.ifCond .eq 5, 3) := by decide +kernel
theorem dM_seat_64 : decode bM_seat 64 = .ok (.iconst 0, 1) := by decide +kernel
theorem dM_seat_65 : decode bM_seat 65 = .ok (.ireturn, 1) := by decide +kernel
theorem dM_seat_66 : decode bM_seat 66 = .ok (.aload_n 0, 1) := by decide +kernel
theorem dM_seat_67 : decode bM_seat 67 = .ok (.getfield 22, 3) := by decide +kernel
theorem dM_seat_70 : decode bM_seat 70 = .ok (.iconst 2, 1) := by decide +kernel
theorem dM_seat_71 : decode bM_seat 71 = .ok (.iload_n 1, 1) := by decide +kernel
theorem dM_seat_72 : decode bM_seat 72 = .ok (.imul, 1) := by decide +kernel
theorem dM_seat_73 : decode bM_seat 73 = .ok (.iload_n 2, 1) := by decide +kernel
theorem dM_seat_74 : decode bM_seat 74 = .ok (.iastore, 1) := by decide +kernel
theorem dM_seat_75 : decode bM_seat 75 = .ok (.aload_n 0, 1) := by decide +kernel
theorem dM_seat_76 : decode bM_seat 76 = .ok (.getfield 22, 3) := by decide +kernel
theorem dM_seat_79 : decode bM_seat 79 = .ok (.iconst 2, 1) := by decide +kernel
theorem dM_seat_80 : decode bM_seat 80 = .ok (.iload_n 1, 1) := by decide +kernel
theorem dM_seat_81 : decode bM_seat 81 = .ok (.imul, 1) := by decide +kernel
theorem dM_seat_82 : decode bM_seat 82 = .ok (.iconst 1, 1) := by decide +kernel
theorem dM_seat_83 : decode bM_seat 83 = .ok (.iadd, 1) := by decide +kernel
theorem dM_seat_84 : decode bM_seat 84 = .ok (.iload_n 3, 1) := by decide +kernel
theorem dM_seat_85 : decode bM_seat 85 = .ok (.iastore, 1) := by decide +kernel
theorem dM_seat_86 : decode bM_seat 86 = .ok (.aload_n 0, 1) := by decide +kernel
theorem dM_seat_87 : decode bM_seat 87 = .ok (.iconst 0, 1) := by decide +kernel
theorem dM_seat_88 : decode bM_seat 88 = .ok (.putfield 111, 3) := by decide +kernel
theorem dM_seat_91 : decode bM_seat 91 = .ok (.iconst 1, 1) := by decide +kernel
theorem dM_seat_92 : decode bM_seat 92 = .ok (.ireturn, 1) := by decide +kernel
abbrev bM_noSeat : ByteArray := prog_3_method_22_code
def yM_noSeat : MethodName := ⟨"HandTablesModel", "noSeat", "(I)Z"⟩
theorem dM_noSeat_0 : decode bM_noSeat 0 = .ok (.iload_n 0, 1) := by decide +kernel
theorem dM_noSeat_1 : decode bM_noSeat 1 = .ok (.ifCond .lt 8, 3) := by decide +kernel
theorem dM_noSeat_4 : decode bM_noSeat 4 = .ok (.iload_n 0, 1) := by decide +kernel
theorem dM_noSeat_5 : decode bM_noSeat 5 = .ok (.iconst 5, 1) := by decide +kernel
theorem dM_noSeat_6 : decode bM_noSeat 6 = .ok (.if_icmp .le 7, 3) := by decide +kernel
theorem dM_noSeat_9 : decode bM_noSeat 9 = .ok (.iconst 1, 1) := by decide +kernel
theorem dM_noSeat_10 : decode bM_noSeat 10 = .ok (.goto 4, 3) := by decide +kernel
theorem dM_noSeat_13 : decode bM_noSeat 13 = .ok (.iconst 0, 1) := by decide +kernel
theorem dM_noSeat_14 : decode bM_noSeat 14 = .ok (.ireturn, 1) := by decide +kernel
abbrev bM_noCard : ByteArray := prog_3_method_21_code
def yM_noCard : MethodName := ⟨"HandTablesModel", "noCard", "(I)Z"⟩
theorem dM_noCard_0 : decode bM_noCard 0 = .ok (.iload_n 0, 1) := by decide +kernel
theorem dM_noCard_1 : decode bM_noCard 1 = .ok (.ifCond .lt 9, 3) := by decide +kernel
theorem dM_noCard_4 : decode bM_noCard 4 = .ok (.iload_n 0, 1) := by decide +kernel
theorem dM_noCard_5 : decode bM_noCard 5 = .ok (.bipush 51, 2) := by decide +kernel
theorem dM_noCard_7 : decode bM_noCard 7 = .ok (.if_icmp .le 7, 3) := by decide +kernel
theorem dM_noCard_10 : decode bM_noCard 10 = .ok (.iconst 1, 1) := by decide +kernel
theorem dM_noCard_11 : decode bM_noCard 11 = .ok (.goto 4, 3) := by decide +kernel
theorem dM_noCard_14 : decode bM_noCard 14 = .ok (.iconst 0, 1) := by decide +kernel
theorem dM_noCard_15 : decode bM_noCard 15 = .ok (.ireturn, 1) := by decide +kernel
abbrev bM_stands : ByteArray := prog_3_method_23_code
def yM_stands : MethodName := ⟨"HandTablesModel", "stands", "(II)Z"⟩
theorem dM_stands_0 : decode bM_stands 0 = .ok (.iconst 0, 1) := by decide +kernel
theorem dM_stands_1 : decode bM_stands 1 = .ok (.istore_n 3, 1) := by decide +kernel
theorem dM_stands_2 : decode bM_stands 2 = .ok (.iload_n 3, 1) := by decide +kernel
theorem dM_stands_3 : decode bM_stands 3 = .ok (.bipush 12, 2) := by decide +kernel
theorem dM_stands_5 : decode bM_stands 5 = .ok (.if_icmp .ge 28, 3) := by decide +kernel
theorem dM_stands_8 : decode bM_stands 8 = .ok (.aload_n 0, 1) := by decide +kernel
theorem dM_stands_9 : decode bM_stands 9 = .ok (.getfield 22, 3) := by decide +kernel
theorem dM_stands_12 : decode bM_stands 12 = .ok (.iload_n 3, 1) := by decide +kernel
theorem dM_stands_13 : decode bM_stands 13 = .ok (.iaload, 1) := by decide +kernel
theorem dM_stands_14 : decode bM_stands 14 = .ok (.iload_n 1, 1) := by decide +kernel
theorem dM_stands_15 : decode bM_stands 15 = .ok (.if_icmp .ne 12, 3) := by decide +kernel
theorem dM_stands_18 : decode bM_stands 18 = .ok (.iload_n 3, 1) := by decide +kernel
theorem dM_stands_19 : decode bM_stands 19 = .ok (.iconst 2, 1) := by decide +kernel
theorem dM_stands_20 : decode bM_stands 20 = .ok (.idiv, 1) := by decide +kernel
theorem dM_stands_21 : decode bM_stands 21 = .ok (.iload_n 2, 1) := by decide +kernel
theorem dM_stands_22 : decode bM_stands 22 = .ok (.if_icmp .eq 5, 3) := by decide +kernel
theorem dM_stands_25 : decode bM_stands 25 = .ok (.iconst 1, 1) := by decide +kernel
theorem dM_stands_26 : decode bM_stands 26 = .ok (.ireturn, 1) := by decide +kernel
theorem dM_stands_27 : decode bM_stands 27 = .ok (.iinc 3 1, 3) := by decide +kernel
theorem dM_stands_30 : decode bM_stands 30 = .ok (.goto (-28), 3) := by decide +kernel
theorem dM_stands_33 : decode bM_stands 33 = .ok (.iconst 0, 1) := by decide +kernel
theorem dM_stands_34 : decode bM_stands 34 = .ok (.istore_n 3, 1) := by decide +kernel
theorem dM_stands_35 : decode bM_stands 35 = .ok (.iload_n 3, 1) := by decide +kernel
theorem dM_stands_36 : decode bM_stands 36 = .ok (.aload_n 0, 1) := by decide +kernel
theorem dM_stands_37 : decode bM_stands 37 = .ok (.getfield 97, 3) := by decide +kernel
theorem dM_stands_40 : decode bM_stands 40 = .ok (.if_icmp .ge 21, 3) := by decide +kernel
theorem dM_stands_43 : decode bM_stands 43 = .ok (.aload_n 0, 1) := by decide +kernel
theorem dM_stands_44 : decode bM_stands 44 = .ok (.getfield 25, 3) := by decide +kernel
theorem dM_stands_47 : decode bM_stands 47 = .ok (.iload_n 3, 1) := by decide +kernel
theorem dM_stands_48 : decode bM_stands 48 = .ok (.iaload, 1) := by decide +kernel
theorem dM_stands_49 : decode bM_stands 49 = .ok (.iload_n 1, 1) := by decide +kernel
theorem dM_stands_50 : decode bM_stands 50 = .ok (.if_icmp .ne 5, 3) := by decide +kernel
theorem dM_stands_53 : decode bM_stands 53 = .ok (.iconst 1, 1) := by decide +kernel
theorem dM_stands_54 : decode bM_stands 54 = .ok (.ireturn, 1) := by decide +kernel
theorem dM_stands_55 : decode bM_stands 55 = .ok (.iinc 3 1, 3) := by decide +kernel
theorem dM_stands_58 : decode bM_stands 58 = .ok (.goto (-23), 3) := by decide +kernel
theorem dM_stands_61 : decode bM_stands 61 = .ok (.iconst 0, 1) := by decide +kernel
theorem dM_stands_62 : decode bM_stands 62 = .ok (.ireturn, 1) := by decide +kernel
abbrev bM_leave : ByteArray := prog_3_method_25_code
def yM_leave : MethodName := ⟨"HandTablesModel", "leave", "(I)Z"⟩
theorem dM_leave_0 : decode bM_leave 0 = .ok (.aload_n 0, 1) := by decide +kernel
theorem dM_leave_1 : decode bM_leave 1 = .ok (.iload_n 1, 1) := by decide +kernel
theorem dM_leave_2 : decode bM_leave 2 = .ok (.invokestatic 100, 3) := by decide +kernel
theorem dM_leave_5 : decode bM_leave 5 = .ok (.ifCond .eq 7, 3) := by decide +kernel
theorem dM_leave_8 : decode bM_leave 8 = .ok (.iconst 1, 1) := by decide +kernel
theorem dM_leave_9 : decode bM_leave 9 = .ok (.goto 4, 3) := by decide +kernel
theorem dM_leave_12 : decode bM_leave 12 = .ok (.iconst 0, 1) := by decide +kernel
theorem dM_leave_13 : decode bM_leave 13 = .ok (.putfield 58, 3) := by decide +kernel
theorem dM_leave_16 : decode bM_leave 16 = .ok (.aload_n 0, 1) := by decide +kernel
theorem dM_leave_17 : decode bM_leave 17 = .ok (.getfield 58, 3) := by decide +kernel
theorem dM_leave_20 : decode bM_leave 20 = .ok (.ifCond .gt 15, 3) := by decide +kernel
theorem dM_leave_23 : decode bM_leave 23 = .ok (.aload_n 0, 1) := by decide +kernel
theorem dM_leave_24 : decode bM_leave 24 = .ok (.getfield 22, 3) := by decide +kernel
theorem dM_leave_27 : decode bM_leave 27 = .ok (.iconst 2, 1) := by decide +kernel
theorem dM_leave_28 : decode bM_leave 28 = .ok (.iload_n 1, 1) := by decide +kernel
theorem dM_leave_29 : decode bM_leave 29 = .ok (.imul, 1) := by decide +kernel
theorem dM_leave_30 : decode bM_leave 30 = .ok (.iaload, 1) := by decide +kernel
theorem dM_leave_31 : decode bM_leave 31 = .ok (.iconst (-1), 1) := by decide +kernel
theorem dM_leave_32 : decode bM_leave 32 = .ok (.if_icmp .ne 5, 3) := by decide +kernel
theorem dM_leave_35 : decode bM_leave 35 = .ok (.iconst 0, 1) := by decide +kernel
theorem dM_leave_36 : decode bM_leave 36 = .ok (.ireturn, 1) := by decide +kernel
theorem dM_leave_37 : decode bM_leave 37 = .ok (.aload_n 0, 1) := by decide +kernel
theorem dM_leave_38 : decode bM_leave 38 = .ok (.getfield 22, 3) := by decide +kernel
theorem dM_leave_41 : decode bM_leave 41 = .ok (.iconst 2, 1) := by decide +kernel
theorem dM_leave_42 : decode bM_leave 42 = .ok (.iload_n 1, 1) := by decide +kernel
theorem dM_leave_43 : decode bM_leave 43 = .ok (.imul, 1) := by decide +kernel
theorem dM_leave_44 : decode bM_leave 44 = .ok (.iconst (-1), 1) := by decide +kernel
theorem dM_leave_45 : decode bM_leave 45 = .ok (.iastore, 1) := by decide +kernel
theorem dM_leave_46 : decode bM_leave 46 = .ok (.aload_n 0, 1) := by decide +kernel
theorem dM_leave_47 : decode bM_leave 47 = .ok (.getfield 22, 3) := by decide +kernel
theorem dM_leave_50 : decode bM_leave 50 = .ok (.iconst 2, 1) := by decide +kernel
theorem dM_leave_51 : decode bM_leave 51 = .ok (.iload_n 1, 1) := by decide +kernel
theorem dM_leave_52 : decode bM_leave 52 = .ok (.imul, 1) := by decide +kernel
theorem dM_leave_53 : decode bM_leave 53 = .ok (.iconst 1, 1) := by decide +kernel
theorem dM_leave_54 : decode bM_leave 54 = .ok (.iadd, 1) := by decide +kernel
theorem dM_leave_55 : decode bM_leave 55 = .ok (.iconst (-1), 1) := by decide +kernel
theorem dM_leave_56 : decode bM_leave 56 = .ok (.iastore, 1) := by decide +kernel
theorem dM_leave_57 : decode bM_leave 57 = .ok (.aload_n 0, 1) := by decide +kernel
theorem dM_leave_58 : decode bM_leave 58 = .ok (.iconst 0, 1) := by decide +kernel
theorem dM_leave_59 : decode bM_leave 59 = .ok (.putfield 111, 3) := by decide +kernel
theorem dM_leave_62 : decode bM_leave 62 = .ok (.iconst 1, 1) := by decide +kernel
theorem dM_leave_63 : decode bM_leave 63 = .ok (.ireturn, 1) := by decide +kernel
abbrev bM_board : ByteArray := prog_3_method_26_code
def yM_board : MethodName := ⟨"HandTablesModel", "board", "(I)I"⟩
theorem dM_board_0 : decode bM_board 0 = .ok (.aload_n 0, 1) := by decide +kernel
theorem dM_board_1 : decode bM_board 1 = .ok (.iload_n 1, 1) := by decide +kernel
theorem dM_board_2 : decode bM_board 2 = .ok (.invokestatic 104, 3) := by decide +kernel
theorem dM_board_5 : decode bM_board 5 = .ok (.ifCond .eq 7, 3) := by decide +kernel
theorem dM_board_8 : decode bM_board 8 = .ok (.iconst 1, 1) := by decide +kernel
theorem dM_board_9 : decode bM_board 9 = .ok (.goto 4, 3) := by decide +kernel
theorem dM_board_12 : decode bM_board 12 = .ok (.iconst 0, 1) := by decide +kernel
theorem dM_board_13 : decode bM_board 13 = .ok (.putfield 58, 3) := by decide +kernel
theorem dM_board_16 : decode bM_board 16 = .ok (.aload_n 0, 1) := by decide +kernel
theorem dM_board_17 : decode bM_board 17 = .ok (.getfield 58, 3) := by decide +kernel
theorem dM_board_20 : decode bM_board 20 = .ok (.ifCond .le 5, 3) := by decide +kernel
theorem dM_board_23 : decode bM_board 23 = .ok (.iconst 0, 1) := by decide +kernel
theorem dM_board_24 : decode bM_board 24 = .ok (.ireturn, 1) := by decide +kernel
theorem dM_board_25 : decode bM_board 25 = .ok (.aload_n 0, 1) := by decide +kernel
theorem dM_board_26 : decode bM_board 26 = .ok (.getfield 97, 3) := by decide +kernel
theorem dM_board_29 : decode bM_board 29 = .ok (.iconst 5, 1) := by decide +kernel
theorem dM_board_30 : decode bM_board 30 = .ok (.if_icmp .eq 12, 3) := by decide +kernel
theorem dM_board_33 : decode bM_board 33 = .ok (.aload_n 0, 1) := by decide +kernel
theorem dM_board_34 : decode bM_board 34 = .ok (.iload_n 1, 1) := by decide +kernel
theorem dM_board_35 : decode bM_board 35 = .ok (.iconst (-1), 1) := by decide +kernel
theorem dM_board_36 : decode bM_board 36 = .ok (.invokevirtual 107, 3) := by decide +kernel
theorem dM_board_39 : decode bM_board 39 = .ok (.ifCond .eq 5, 3) := by decide +kernel
theorem dM_board_42 : decode bM_board 42 = .ok (.iconst (-1), 1) := by decide +kernel
theorem dM_board_43 : decode bM_board 43 = .ok (.ireturn, 1) := by decide +kernel
theorem dM_board_44 : decode bM_board 44 = .ok (.aload_n 0, 1) := by decide +kernel
theorem dM_board_45 : decode bM_board 45 = .ok (.getfield 25, 3) := by decide +kernel
theorem dM_board_48 : decode bM_board 48 = .ok (.aload_n 0, 1) := by decide +kernel
theorem dM_board_49 : decode bM_board 49 = .ok (.getfield 97, 3) := by decide +kernel
theorem dM_board_52 : decode bM_board 52 = .ok (.iload_n 1, 1) := by decide +kernel
theorem dM_board_53 : decode bM_board 53 = .ok (.iastore, 1) := by decide +kernel
theorem dM_board_54 : decode bM_board 54 = .ok (.aload_n 0, 1) := by decide +kernel
theorem dM_board_55 : decode bM_board 55 = .ok (.dup, 1) := by decide +kernel
theorem dM_board_56 : decode bM_board 56 = .ok (.getfield 97, 3) := by decide +kernel
theorem dM_board_59 : decode bM_board 59 = .ok (.iconst 1, 1) := by decide +kernel
theorem dM_board_60 : decode bM_board 60 = .ok (.iadd, 1) := by decide +kernel
theorem dM_board_61 : decode bM_board 61 = .ok (.putfield 97, 3) := by decide +kernel
theorem dM_board_64 : decode bM_board 64 = .ok (.aload_n 0, 1) := by decide +kernel
theorem dM_board_65 : decode bM_board 65 = .ok (.iconst 0, 1) := by decide +kernel
theorem dM_board_66 : decode bM_board 66 = .ok (.putfield 111, 3) := by decide +kernel
theorem dM_board_69 : decode bM_board 69 = .ok (.aload_n 0, 1) := by decide +kernel
theorem dM_board_70 : decode bM_board 70 = .ok (.getfield 97, 3) := by decide +kernel
theorem dM_board_73 : decode bM_board 73 = .ok (.ireturn, 1) := by decide +kernel
abbrev bM_clear : ByteArray := prog_3_method_27_code
def yM_clear : MethodName := ⟨"HandTablesModel", "clear", "()I"⟩
theorem dM_clear_0 : decode bM_clear 0 = .ok (.aload_n 0, 1) := by decide +kernel
theorem dM_clear_1 : decode bM_clear 1 = .ok (.iconst 0, 1) := by decide +kernel
theorem dM_clear_2 : decode bM_clear 2 = .ok (.putfield 58, 3) := by decide +kernel
theorem dM_clear_5 : decode bM_clear 5 = .ok (.aload_n 0, 1) := by decide +kernel
theorem dM_clear_6 : decode bM_clear 6 = .ok (.getfield 97, 3) := by decide +kernel
theorem dM_clear_9 : decode bM_clear 9 = .ok (.istore_n 1, 1) := by decide +kernel
theorem dM_clear_10 : decode bM_clear 10 = .ok (.aload_n 0, 1) := by decide +kernel
theorem dM_clear_11 : decode bM_clear 11 = .ok (.iconst 0, 1) := by decide +kernel
theorem dM_clear_12 : decode bM_clear 12 = .ok (.putfield 97, 3) := by decide +kernel
theorem dM_clear_15 : decode bM_clear 15 = .ok (.aload_n 0, 1) := by decide +kernel
theorem dM_clear_16 : decode bM_clear 16 = .ok (.iconst 0, 1) := by decide +kernel
theorem dM_clear_17 : decode bM_clear 17 = .ok (.putfield 111, 3) := by decide +kernel
theorem dM_clear_20 : decode bM_clear 20 = .ok (.iload_n 1, 1) := by decide +kernel
theorem dM_clear_21 : decode bM_clear 21 = .ok (.ireturn, 1) := by decide +kernel
abbrev bM_cards : ByteArray := prog_3_method_28_code
def yM_cards : MethodName := ⟨"HandTablesModel", "cards", "(I)J"⟩
theorem dM_cards_0 : decode bM_cards 0 = .ok (.aload_n 0, 1) := by decide +kernel
theorem dM_cards_1 : decode bM_cards 1 = .ok (.iload_n 1, 1) := by decide +kernel
theorem dM_cards_2 : decode bM_cards 2 = .ok (.bipush 6, 2) := by decide +kernel
theorem dM_cards_4 : decode bM_cards 4 = .ok (.if_icmp .eq 10, 3) := by decide +kernel
theorem dM_cards_7 : decode bM_cards 7 = .ok (.iload_n 1, 1) := by decide +kernel
theorem dM_cards_8 : decode bM_cards 8 = .ok (.invokestatic 100, 3) := by decide +kernel
theorem dM_cards_11 : decode bM_cards 11 = .ok (.ifCond .ne 7, 3) := by decide +kernel
theorem dM_cards_14 : decode bM_cards 14 = .ok (.iconst 0, 1) := by decide +kernel
theorem dM_cards_15 : decode bM_cards 15 = .ok (.goto 4, 3) := by decide +kernel
theorem dM_cards_18 : decode bM_cards 18 = .ok (.iconst 1, 1) := by decide +kernel
theorem dM_cards_19 : decode bM_cards 19 = .ok (.putfield 58, 3) := by decide +kernel
theorem dM_cards_22 : decode bM_cards 22 = .ok (.aload_n 0, 1) := by decide +kernel
theorem dM_cards_23 : decode bM_cards 23 = .ok (.getfield 58, 3) := by decide +kernel
theorem dM_cards_26 : decode bM_cards 26 = .ok (.ifCond .le 5, 3) := by decide +kernel
theorem dM_cards_29 : decode bM_cards 29 = .ok (.lconst 0, 1) := by decide +kernel
theorem dM_cards_30 : decode bM_cards 30 = .ok (.lreturn, 1) := by decide +kernel
theorem dM_cards_31 : decode bM_cards 31 = .ok (.lconst 0, 1) := by decide +kernel
theorem dM_cards_32 : decode bM_cards 32 = .ok (.lstore_n 2, 1) := by decide +kernel
theorem dM_cards_33 : decode bM_cards 33 = .ok (.iconst 0, 1) := by decide +kernel
theorem dM_cards_34 : decode bM_cards 34 = .ok (.istore 4, 2) := by decide +kernel
theorem dM_cards_36 : decode bM_cards 36 = .ok (.iload 4, 2) := by decide +kernel
theorem dM_cards_38 : decode bM_cards 38 = .ok (.aload_n 0, 1) := by decide +kernel
theorem dM_cards_39 : decode bM_cards 39 = .ok (.getfield 97, 3) := by decide +kernel
theorem dM_cards_42 : decode bM_cards 42 = .ok (.if_icmp .ge 27, 3) := by decide +kernel
theorem dM_cards_45 : decode bM_cards 45 = .ok (.iload_n 1, 1) := by decide +kernel
theorem dM_cards_46 : decode bM_cards 46 = .ok (.bipush 6, 2) := by decide +kernel
theorem dM_cards_48 : decode bM_cards 48 = .ok (.if_icmp .ne 21, 3) := by decide +kernel
theorem dM_cards_51 : decode bM_cards 51 = .ok (.lload_n 2, 1) := by decide +kernel
theorem dM_cards_52 : decode bM_cards 52 = .ok (.lconst 1, 1) := by decide +kernel
theorem dM_cards_53 : decode bM_cards 53 = .ok (.aload_n 0, 1) := by decide +kernel
theorem dM_cards_54 : decode bM_cards 54 = .ok (.getfield 25, 3) := by decide +kernel
theorem dM_cards_57 : decode bM_cards 57 = .ok (.iload 4, 2) := by decide +kernel
theorem dM_cards_59 : decode bM_cards 59 = .ok (.iaload, 1) := by decide +kernel
theorem dM_cards_60 : decode bM_cards 60 = .ok (.lshl, 1) := by decide +kernel
theorem dM_cards_61 : decode bM_cards 61 = .ok (.lor, 1) := by decide +kernel
theorem dM_cards_62 : decode bM_cards 62 = .ok (.lstore_n 2, 1) := by decide +kernel
theorem dM_cards_63 : decode bM_cards 63 = .ok (.iinc 4 1, 3) := by decide +kernel
theorem dM_cards_66 : decode bM_cards 66 = .ok (.goto (-30), 3) := by decide +kernel
theorem dM_cards_69 : decode bM_cards 69 = .ok (.iload_n 1, 1) := by decide +kernel
theorem dM_cards_70 : decode bM_cards 70 = .ok (.bipush 6, 2) := by decide +kernel
theorem dM_cards_72 : decode bM_cards 72 = .ok (.if_icmp .eq 15, 3) := by decide +kernel
theorem dM_cards_75 : decode bM_cards 75 = .ok (.aload_n 0, 1) := by decide +kernel
theorem dM_cards_76 : decode bM_cards 76 = .ok (.getfield 22, 3) := by decide +kernel
theorem dM_cards_79 : decode bM_cards 79 = .ok (.iconst 2, 1) := by decide +kernel
theorem dM_cards_80 : decode bM_cards 80 = .ok (.iload_n 1, 1) := by decide +kernel
theorem dM_cards_81 : decode bM_cards 81 = .ok (.imul, 1) := by decide +kernel
theorem dM_cards_82 : decode bM_cards 82 = .ok (.iaload, 1) := by decide +kernel
theorem dM_cards_83 : decode bM_cards 83 = .ok (.iconst (-1), 1) := by decide +kernel
theorem dM_cards_84 : decode bM_cards 84 = .ok (.if_icmp .ne 7, 3) := by decide +kernel
theorem dM_cards_87 : decode bM_cards 87 = .ok (.lload_n 2, 1) := by decide +kernel
theorem dM_cards_88 : decode bM_cards 88 = .ok (.goto 26, 3) := by decide +kernel
theorem dM_cards_91 : decode bM_cards 91 = .ok (.lconst 1, 1) := by decide +kernel
theorem dM_cards_92 : decode bM_cards 92 = .ok (.aload_n 0, 1) := by decide +kernel
theorem dM_cards_93 : decode bM_cards 93 = .ok (.getfield 22, 3) := by decide +kernel
theorem dM_cards_96 : decode bM_cards 96 = .ok (.iconst 2, 1) := by decide +kernel
theorem dM_cards_97 : decode bM_cards 97 = .ok (.iload_n 1, 1) := by decide +kernel
theorem dM_cards_98 : decode bM_cards 98 = .ok (.imul, 1) := by decide +kernel
theorem dM_cards_99 : decode bM_cards 99 = .ok (.iaload, 1) := by decide +kernel
theorem dM_cards_100 : decode bM_cards 100 = .ok (.lshl, 1) := by decide +kernel
theorem dM_cards_101 : decode bM_cards 101 = .ok (.lconst 1, 1) := by decide +kernel
theorem dM_cards_102 : decode bM_cards 102 = .ok (.aload_n 0, 1) := by decide +kernel
theorem dM_cards_103 : decode bM_cards 103 = .ok (.getfield 22, 3) := by decide +kernel
theorem dM_cards_106 : decode bM_cards 106 = .ok (.iconst 2, 1) := by decide +kernel
theorem dM_cards_107 : decode bM_cards 107 = .ok (.iload_n 1, 1) := by decide +kernel
theorem dM_cards_108 : decode bM_cards 108 = .ok (.imul, 1) := by decide +kernel
theorem dM_cards_109 : decode bM_cards 109 = .ok (.iconst 1, 1) := by decide +kernel
theorem dM_cards_110 : decode bM_cards 110 = .ok (.iadd, 1) := by decide +kernel
theorem dM_cards_111 : decode bM_cards 111 = .ok (.iaload, 1) := by decide +kernel
theorem dM_cards_112 : decode bM_cards 112 = .ok (.lshl, 1) := by decide +kernel
theorem dM_cards_113 : decode bM_cards 113 = .ok (.lor, 1) := by decide +kernel
theorem dM_cards_114 : decode bM_cards 114 = .ok (.lreturn, 1) := by decide +kernel
abbrev bM_hand : ByteArray := prog_3_method_31_code
def yM_hand : MethodName := ⟨"HandTablesModel", "hand", "(I)I"⟩
theorem dM_hand_0 : decode bM_hand 0 = .ok (.aload_n 0, 1) := by decide +kernel
theorem dM_hand_1 : decode bM_hand 1 = .ok (.iload_n 1, 1) := by decide +kernel
theorem dM_hand_2 : decode bM_hand 2 = .ok (.invokestatic 100, 3) := by decide +kernel
theorem dM_hand_5 : decode bM_hand 5 = .ok (.ifCond .eq 7, 3) := by decide +kernel
theorem dM_hand_8 : decode bM_hand 8 = .ok (.iconst 1, 1) := by decide +kernel
theorem dM_hand_9 : decode bM_hand 9 = .ok (.goto 28, 3) := by decide +kernel
theorem dM_hand_12 : decode bM_hand 12 = .ok (.aload_n 0, 1) := by decide +kernel
theorem dM_hand_13 : decode bM_hand 13 = .ok (.getfield 22, 3) := by decide +kernel
theorem dM_hand_16 : decode bM_hand 16 = .ok (.iconst 2, 1) := by decide +kernel
theorem dM_hand_17 : decode bM_hand 17 = .ok (.iload_n 1, 1) := by decide +kernel
theorem dM_hand_18 : decode bM_hand 18 = .ok (.imul, 1) := by decide +kernel
theorem dM_hand_19 : decode bM_hand 19 = .ok (.iaload, 1) := by decide +kernel
theorem dM_hand_20 : decode bM_hand 20 = .ok (.iconst (-1), 1) := by decide +kernel
theorem dM_hand_21 : decode bM_hand 21 = .ok (.if_icmp .eq 11, 3) := by decide +kernel
theorem dM_hand_24 : decode bM_hand 24 = .ok (.aload_n 0, 1) := by decide +kernel
theorem dM_hand_25 : decode bM_hand 25 = .ok (.getfield 97, 3) := by decide +kernel
theorem dM_hand_28 : decode bM_hand 28 = .ok (.iconst 3, 1) := by decide +kernel
theorem dM_hand_29 : decode bM_hand 29 = .ok (.if_icmp .ge 7, 3) := by decide +kernel
theorem dM_hand_32 : decode bM_hand 32 = .ok (.iconst 2, 1) := by decide +kernel
theorem dM_hand_33 : decode bM_hand 33 = .ok (.goto 4, 3) := by decide +kernel
theorem dM_hand_36 : decode bM_hand 36 = .ok (.iconst 0, 1) := by decide +kernel
theorem dM_hand_37 : decode bM_hand 37 = .ok (.putfield 58, 3) := by decide +kernel
theorem dM_hand_40 : decode bM_hand 40 = .ok (.aload_n 0, 1) := by decide +kernel
theorem dM_hand_41 : decode bM_hand 41 = .ok (.getfield 58, 3) := by decide +kernel
theorem dM_hand_44 : decode bM_hand 44 = .ok (.ifCond .le 7, 3) := by decide +kernel
theorem dM_hand_47 : decode bM_hand 47 = .ok (.iconst 0, 1) := by decide +kernel
theorem dM_hand_48 : decode bM_hand 48 = .ok (.goto 14, 3) := by decide +kernel
theorem dM_hand_51 : decode bM_hand 51 = .ok (.aload_n 0, 1) := by decide +kernel
theorem dM_hand_52 : decode bM_hand 52 = .ok (.aload_n 0, 1) := by decide +kernel
theorem dM_hand_53 : decode bM_hand 53 = .ok (.iload_n 1, 1) := by decide +kernel
theorem dM_hand_54 : decode bM_hand 54 = .ok (.iconst (-1), 1) := by decide +kernel
theorem dM_hand_55 : decode bM_hand 55 = .ok (.iconst (-1), 1) := by decide +kernel
theorem dM_hand_56 : decode bM_hand 56 = .ok (.invokevirtual 121, 3) := by decide +kernel
theorem dM_hand_59 : decode bM_hand 59 = .ok (.invokevirtual 91, 3) := by decide +kernel
theorem dM_hand_62 : decode bM_hand 62 = .ok (.ireturn, 1) := by decide +kernel
abbrev bM_keyOfSeat : ByteArray := prog_3_method_29_code
def yM_keyOfSeat : MethodName := ⟨"HandTablesModel", "keyOfSeat", "(III)I"⟩
theorem dM_keyOfSeat_0 : decode bM_keyOfSeat 0 = .ok (.aload_n 0, 1) := by decide +kernel
theorem dM_keyOfSeat_1 : decode bM_keyOfSeat 1 = .ok (.getfield 19, 3) := by decide +kernel
theorem dM_keyOfSeat_4 : decode bM_keyOfSeat 4 = .ok (.iconst 0, 1) := by decide +kernel
theorem dM_keyOfSeat_5 : decode bM_keyOfSeat 5 = .ok (.aload_n 0, 1) := by decide +kernel
theorem dM_keyOfSeat_6 : decode bM_keyOfSeat 6 = .ok (.getfield 22, 3) := by decide +kernel
theorem dM_keyOfSeat_9 : decode bM_keyOfSeat 9 = .ok (.iconst 2, 1) := by decide +kernel
theorem dM_keyOfSeat_10 : decode bM_keyOfSeat 10 = .ok (.iload_n 1, 1) := by decide +kernel
theorem dM_keyOfSeat_11 : decode bM_keyOfSeat 11 = .ok (.imul, 1) := by decide +kernel
theorem dM_keyOfSeat_12 : decode bM_keyOfSeat 12 = .ok (.iaload, 1) := by decide +kernel
theorem dM_keyOfSeat_13 : decode bM_keyOfSeat 13 = .ok (.iastore, 1) := by decide +kernel
theorem dM_keyOfSeat_14 : decode bM_keyOfSeat 14 = .ok (.aload_n 0, 1) := by decide +kernel
theorem dM_keyOfSeat_15 : decode bM_keyOfSeat 15 = .ok (.getfield 19, 3) := by decide +kernel
theorem dM_keyOfSeat_18 : decode bM_keyOfSeat 18 = .ok (.iconst 1, 1) := by decide +kernel
theorem dM_keyOfSeat_19 : decode bM_keyOfSeat 19 = .ok (.aload_n 0, 1) := by decide +kernel
theorem dM_keyOfSeat_20 : decode bM_keyOfSeat 20 = .ok (.getfield 22, 3) := by decide +kernel
theorem dM_keyOfSeat_23 : decode bM_keyOfSeat 23 = .ok (.iconst 2, 1) := by decide +kernel
theorem dM_keyOfSeat_24 : decode bM_keyOfSeat 24 = .ok (.iload_n 1, 1) := by decide +kernel
theorem dM_keyOfSeat_25 : decode bM_keyOfSeat 25 = .ok (.imul, 1) := by decide +kernel
theorem dM_keyOfSeat_26 : decode bM_keyOfSeat 26 = .ok (.iconst 1, 1) := by decide +kernel
theorem dM_keyOfSeat_27 : decode bM_keyOfSeat 27 = .ok (.iadd, 1) := by decide +kernel
theorem dM_keyOfSeat_28 : decode bM_keyOfSeat 28 = .ok (.iaload, 1) := by decide +kernel
theorem dM_keyOfSeat_29 : decode bM_keyOfSeat 29 = .ok (.iastore, 1) := by decide +kernel
theorem dM_keyOfSeat_30 : decode bM_keyOfSeat 30 = .ok (.aload_n 0, 1) := by decide +kernel
theorem dM_keyOfSeat_31 : decode bM_keyOfSeat 31 = .ok (.iconst 2, 1) := by decide +kernel
theorem dM_keyOfSeat_32 : decode bM_keyOfSeat 32 = .ok (.putfield 74, 3) := by decide +kernel
theorem dM_keyOfSeat_35 : decode bM_keyOfSeat 35 = .ok (.iconst 0, 1) := by decide +kernel
theorem dM_keyOfSeat_36 : decode bM_keyOfSeat 36 = .ok (.istore 4, 2) := by decide +kernel
theorem dM_keyOfSeat_38 : decode bM_keyOfSeat 38 = .ok (.iload 4, 2) := by decide +kernel
theorem dM_keyOfSeat_40 : decode bM_keyOfSeat 40 = .ok (.aload_n 0, 1) := by decide +kernel
theorem dM_keyOfSeat_41 : decode bM_keyOfSeat 41 = .ok (.getfield 97, 3) := by decide +kernel
theorem dM_keyOfSeat_44 : decode bM_keyOfSeat 44 = .ok (.if_icmp .ge 35, 3) := by decide +kernel
theorem dM_keyOfSeat_47 : decode bM_keyOfSeat 47 = .ok (.aload_n 0, 1) := by decide +kernel
theorem dM_keyOfSeat_48 : decode bM_keyOfSeat 48 = .ok (.getfield 19, 3) := by decide +kernel
theorem dM_keyOfSeat_51 : decode bM_keyOfSeat 51 = .ok (.aload_n 0, 1) := by decide +kernel
theorem dM_keyOfSeat_52 : decode bM_keyOfSeat 52 = .ok (.getfield 74, 3) := by decide +kernel
theorem dM_keyOfSeat_55 : decode bM_keyOfSeat 55 = .ok (.aload_n 0, 1) := by decide +kernel
theorem dM_keyOfSeat_56 : decode bM_keyOfSeat 56 = .ok (.getfield 25, 3) := by decide +kernel
theorem dM_keyOfSeat_59 : decode bM_keyOfSeat 59 = .ok (.iload 4, 2) := by decide +kernel
theorem dM_keyOfSeat_61 : decode bM_keyOfSeat 61 = .ok (.iaload, 1) := by decide +kernel
theorem dM_keyOfSeat_62 : decode bM_keyOfSeat 62 = .ok (.iastore, 1) := by decide +kernel
theorem dM_keyOfSeat_63 : decode bM_keyOfSeat 63 = .ok (.aload_n 0, 1) := by decide +kernel
theorem dM_keyOfSeat_64 : decode bM_keyOfSeat 64 = .ok (.dup, 1) := by decide +kernel
theorem dM_keyOfSeat_65 : decode bM_keyOfSeat 65 = .ok (.getfield 74, 3) := by decide +kernel
theorem dM_keyOfSeat_68 : decode bM_keyOfSeat 68 = .ok (.iconst 1, 1) := by decide +kernel
theorem dM_keyOfSeat_69 : decode bM_keyOfSeat 69 = .ok (.iadd, 1) := by decide +kernel
theorem dM_keyOfSeat_70 : decode bM_keyOfSeat 70 = .ok (.putfield 74, 3) := by decide +kernel
theorem dM_keyOfSeat_73 : decode bM_keyOfSeat 73 = .ok (.iinc 4 1, 3) := by decide +kernel
theorem dM_keyOfSeat_76 : decode bM_keyOfSeat 76 = .ok (.goto (-38), 3) := by decide +kernel
theorem dM_keyOfSeat_79 : decode bM_keyOfSeat 79 = .ok (.iload_n 2, 1) := by decide +kernel
theorem dM_keyOfSeat_80 : decode bM_keyOfSeat 80 = .ok (.ifCond .lt 23, 3) := by decide +kernel
theorem dM_keyOfSeat_83 : decode bM_keyOfSeat 83 = .ok (.aload_n 0, 1) := by decide +kernel
theorem dM_keyOfSeat_84 : decode bM_keyOfSeat 84 = .ok (.getfield 19, 3) := by decide +kernel
theorem dM_keyOfSeat_87 : decode bM_keyOfSeat 87 = .ok (.aload_n 0, 1) := by decide +kernel
theorem dM_keyOfSeat_88 : decode bM_keyOfSeat 88 = .ok (.getfield 74, 3) := by decide +kernel
theorem dM_keyOfSeat_91 : decode bM_keyOfSeat 91 = .ok (.iload_n 2, 1) := by decide +kernel
theorem dM_keyOfSeat_92 : decode bM_keyOfSeat 92 = .ok (.iastore, 1) := by decide +kernel
theorem dM_keyOfSeat_93 : decode bM_keyOfSeat 93 = .ok (.aload_n 0, 1) := by decide +kernel
theorem dM_keyOfSeat_94 : decode bM_keyOfSeat 94 = .ok (.dup, 1) := by decide +kernel
theorem dM_keyOfSeat_95 : decode bM_keyOfSeat 95 = .ok (.getfield 74, 3) := by decide +kernel
theorem dM_keyOfSeat_98 : decode bM_keyOfSeat 98 = .ok (.iconst 1, 1) := by decide +kernel
theorem dM_keyOfSeat_99 : decode bM_keyOfSeat 99 = .ok (.iadd, 1) := by decide +kernel
theorem dM_keyOfSeat_100 : decode bM_keyOfSeat 100 = .ok (.putfield 74, 3) := by decide +kernel
theorem dM_keyOfSeat_103 : decode bM_keyOfSeat 103 = .ok (.iload_n 3, 1) := by decide +kernel
theorem dM_keyOfSeat_104 : decode bM_keyOfSeat 104 = .ok (.ifCond .lt 23, 3) := by decide +kernel
theorem dM_keyOfSeat_107 : decode bM_keyOfSeat 107 = .ok (.aload_n 0, 1) := by decide +kernel
theorem dM_keyOfSeat_108 : decode bM_keyOfSeat 108 = .ok (.getfield 19, 3) := by decide +kernel
theorem dM_keyOfSeat_111 : decode bM_keyOfSeat 111 = .ok (.aload_n 0, 1) := by decide +kernel
theorem dM_keyOfSeat_112 : decode bM_keyOfSeat 112 = .ok (.getfield 74, 3) := by decide +kernel
theorem dM_keyOfSeat_115 : decode bM_keyOfSeat 115 = .ok (.iload_n 3, 1) := by decide +kernel
theorem dM_keyOfSeat_116 : decode bM_keyOfSeat 116 = .ok (.iastore, 1) := by decide +kernel
theorem dM_keyOfSeat_117 : decode bM_keyOfSeat 117 = .ok (.aload_n 0, 1) := by decide +kernel
theorem dM_keyOfSeat_118 : decode bM_keyOfSeat 118 = .ok (.dup, 1) := by decide +kernel
theorem dM_keyOfSeat_119 : decode bM_keyOfSeat 119 = .ok (.getfield 74, 3) := by decide +kernel
theorem dM_keyOfSeat_122 : decode bM_keyOfSeat 122 = .ok (.iconst 1, 1) := by decide +kernel
theorem dM_keyOfSeat_123 : decode bM_keyOfSeat 123 = .ok (.iadd, 1) := by decide +kernel
theorem dM_keyOfSeat_124 : decode bM_keyOfSeat 124 = .ok (.putfield 74, 3) := by decide +kernel
theorem dM_keyOfSeat_127 : decode bM_keyOfSeat 127 = .ok (.aload_n 0, 1) := by decide +kernel
theorem dM_keyOfSeat_128 : decode bM_keyOfSeat 128 = .ok (.invokevirtual 88, 3) := by decide +kernel
theorem dM_keyOfSeat_131 : decode bM_keyOfSeat 131 = .ok (.ireturn, 1) := by decide +kernel
abbrev bM_ahead : ByteArray := prog_3_method_33_code
def yM_ahead : MethodName := ⟨"HandTablesModel", "ahead", "()I"⟩
theorem dM_ahead_0 : decode bM_ahead 0 = .ok (.aload_n 0, 1) := by decide +kernel
theorem dM_ahead_1 : decode bM_ahead 1 = .ok (.aload_n 0, 1) := by decide +kernel
theorem dM_ahead_2 : decode bM_ahead 2 = .ok (.invokevirtual 125, 3) := by decide +kernel
theorem dM_ahead_5 : decode bM_ahead 5 = .ok (.ifCond .ne 11, 3) := by decide +kernel
theorem dM_ahead_8 : decode bM_ahead 8 = .ok (.aload_n 0, 1) := by decide +kernel
theorem dM_ahead_9 : decode bM_ahead 9 = .ok (.getfield 97, 3) := by decide +kernel
theorem dM_ahead_12 : decode bM_ahead 12 = .ok (.iconst 3, 1) := by decide +kernel
theorem dM_ahead_13 : decode bM_ahead 13 = .ok (.if_icmp .ge 7, 3) := by decide +kernel
theorem dM_ahead_16 : decode bM_ahead 16 = .ok (.iconst 1, 1) := by decide +kernel
theorem dM_ahead_17 : decode bM_ahead 17 = .ok (.goto 4, 3) := by decide +kernel
theorem dM_ahead_20 : decode bM_ahead 20 = .ok (.iconst 0, 1) := by decide +kernel
theorem dM_ahead_21 : decode bM_ahead 21 = .ok (.putfield 58, 3) := by decide +kernel
theorem dM_ahead_24 : decode bM_ahead 24 = .ok (.aload_n 0, 1) := by decide +kernel
theorem dM_ahead_25 : decode bM_ahead 25 = .ok (.getfield 58, 3) := by decide +kernel
theorem dM_ahead_28 : decode bM_ahead 28 = .ok (.ifCond .le 7, 3) := by decide +kernel
theorem dM_ahead_31 : decode bM_ahead 31 = .ok (.iconst 0, 1) := by decide +kernel
theorem dM_ahead_32 : decode bM_ahead 32 = .ok (.goto 9, 3) := by decide +kernel
theorem dM_ahead_35 : decode bM_ahead 35 = .ok (.aload_n 0, 1) := by decide +kernel
theorem dM_ahead_36 : decode bM_ahead 36 = .ok (.iconst (-1), 1) := by decide +kernel
theorem dM_ahead_37 : decode bM_ahead 37 = .ok (.iconst (-1), 1) := by decide +kernel
theorem dM_ahead_38 : decode bM_ahead 38 = .ok (.invokevirtual 129, 3) := by decide +kernel
theorem dM_ahead_41 : decode bM_ahead 41 = .ok (.ireturn, 1) := by decide +kernel
abbrev bM_isEmpty : ByteArray := prog_3_method_32_code
def yM_isEmpty : MethodName := ⟨"HandTablesModel", "isEmpty", "()Z"⟩
theorem dM_isEmpty_0 : decode bM_isEmpty 0 = .ok (.iconst 1, 1) := by decide +kernel
theorem dM_isEmpty_1 : decode bM_isEmpty 1 = .ok (.istore_n 1, 1) := by decide +kernel
theorem dM_isEmpty_2 : decode bM_isEmpty 2 = .ok (.iconst 0, 1) := by decide +kernel
theorem dM_isEmpty_3 : decode bM_isEmpty 3 = .ok (.istore_n 2, 1) := by decide +kernel
theorem dM_isEmpty_4 : decode bM_isEmpty 4 = .ok (.iload_n 2, 1) := by decide +kernel
theorem dM_isEmpty_5 : decode bM_isEmpty 5 = .ok (.bipush 6, 2) := by decide +kernel
theorem dM_isEmpty_7 : decode bM_isEmpty 7 = .ok (.if_icmp .ge 31, 3) := by decide +kernel
theorem dM_isEmpty_10 : decode bM_isEmpty 10 = .ok (.iload_n 1, 1) := by decide +kernel
theorem dM_isEmpty_11 : decode bM_isEmpty 11 = .ok (.ifCond .eq 19, 3) := by decide +kernel
theorem dM_isEmpty_14 : decode bM_isEmpty 14 = .ok (.aload_n 0, 1) := by decide +kernel
theorem dM_isEmpty_15 : decode bM_isEmpty 15 = .ok (.getfield 22, 3) := by decide +kernel
theorem dM_isEmpty_18 : decode bM_isEmpty 18 = .ok (.iconst 2, 1) := by decide +kernel
theorem dM_isEmpty_19 : decode bM_isEmpty 19 = .ok (.iload_n 2, 1) := by decide +kernel
theorem dM_isEmpty_20 : decode bM_isEmpty 20 = .ok (.imul, 1) := by decide +kernel
theorem dM_isEmpty_21 : decode bM_isEmpty 21 = .ok (.iaload, 1) := by decide +kernel
theorem dM_isEmpty_22 : decode bM_isEmpty 22 = .ok (.iconst (-1), 1) := by decide +kernel
theorem dM_isEmpty_23 : decode bM_isEmpty 23 = .ok (.if_icmp .ne 7, 3) := by decide +kernel
theorem dM_isEmpty_26 : decode bM_isEmpty 26 = .ok (.iconst 1, 1) := by decide +kernel
theorem dM_isEmpty_27 : decode bM_isEmpty 27 = .ok (.goto 4, 3) := by decide +kernel
theorem dM_isEmpty_30 : decode bM_isEmpty 30 = .ok (.iconst 0, 1) := by decide +kernel
theorem dM_isEmpty_31 : decode bM_isEmpty 31 = .ok (.istore_n 1, 1) := by decide +kernel
theorem dM_isEmpty_32 : decode bM_isEmpty 32 = .ok (.iinc 2 1, 3) := by decide +kernel
theorem dM_isEmpty_35 : decode bM_isEmpty 35 = .ok (.goto (-31), 3) := by decide +kernel
theorem dM_isEmpty_38 : decode bM_isEmpty 38 = .ok (.iload_n 1, 1) := by decide +kernel
theorem dM_isEmpty_39 : decode bM_isEmpty 39 = .ok (.ireturn, 1) := by decide +kernel
abbrev bM_leaders : ByteArray := prog_3_method_30_code
def yM_leaders : MethodName := ⟨"HandTablesModel", "leaders", "(II)I"⟩
theorem dM_leaders_0 : decode bM_leaders 0 = .ok (.aload_n 0, 1) := by decide +kernel
theorem dM_leaders_1 : decode bM_leaders 1 = .ok (.iconst (-1), 1) := by decide +kernel
theorem dM_leaders_2 : decode bM_leaders 2 = .ok (.putfield 115, 3) := by decide +kernel
theorem dM_leaders_5 : decode bM_leaders 5 = .ok (.aload_n 0, 1) := by decide +kernel
theorem dM_leaders_6 : decode bM_leaders 6 = .ok (.iconst 0, 1) := by decide +kernel
theorem dM_leaders_7 : decode bM_leaders 7 = .ok (.putfield 118, 3) := by decide +kernel
theorem dM_leaders_10 : decode bM_leaders 10 = .ok (.iconst 0, 1) := by decide +kernel
theorem dM_leaders_11 : decode bM_leaders 11 = .ok (.istore_n 3, 1) := by decide +kernel
theorem dM_leaders_12 : decode bM_leaders 12 = .ok (.iload_n 3, 1) := by decide +kernel
theorem dM_leaders_13 : decode bM_leaders 13 = .ok (.bipush 6, 2) := by decide +kernel
theorem dM_leaders_15 : decode bM_leaders 15 = .ok (.if_icmp .ge 78, 3) := by decide +kernel
theorem dM_leaders_18 : decode bM_leaders 18 = .ok (.aload_n 0, 1) := by decide +kernel
theorem dM_leaders_19 : decode bM_leaders 19 = .ok (.getfield 22, 3) := by decide +kernel
theorem dM_leaders_22 : decode bM_leaders 22 = .ok (.iconst 2, 1) := by decide +kernel
theorem dM_leaders_23 : decode bM_leaders 23 = .ok (.iload_n 3, 1) := by decide +kernel
theorem dM_leaders_24 : decode bM_leaders 24 = .ok (.imul, 1) := by decide +kernel
theorem dM_leaders_25 : decode bM_leaders 25 = .ok (.iaload, 1) := by decide +kernel
theorem dM_leaders_26 : decode bM_leaders 26 = .ok (.iconst (-1), 1) := by decide +kernel
theorem dM_leaders_27 : decode bM_leaders 27 = .ok (.if_icmp .eq 60, 3) := by decide +kernel
theorem dM_leaders_30 : decode bM_leaders 30 = .ok (.aload_n 0, 1) := by decide +kernel
theorem dM_leaders_31 : decode bM_leaders 31 = .ok (.iload_n 3, 1) := by decide +kernel
theorem dM_leaders_32 : decode bM_leaders 32 = .ok (.iload_n 1, 1) := by decide +kernel
theorem dM_leaders_33 : decode bM_leaders 33 = .ok (.iload_n 2, 1) := by decide +kernel
theorem dM_leaders_34 : decode bM_leaders 34 = .ok (.invokevirtual 121, 3) := by decide +kernel
theorem dM_leaders_37 : decode bM_leaders 37 = .ok (.istore 4, 2) := by decide +kernel
theorem dM_leaders_39 : decode bM_leaders 39 = .ok (.iload 4, 2) := by decide +kernel
theorem dM_leaders_41 : decode bM_leaders 41 = .ok (.aload_n 0, 1) := by decide +kernel
theorem dM_leaders_42 : decode bM_leaders 42 = .ok (.getfield 115, 3) := by decide +kernel
theorem dM_leaders_45 : decode bM_leaders 45 = .ok (.if_icmp .le 14, 3) := by decide +kernel
theorem dM_leaders_48 : decode bM_leaders 48 = .ok (.aload_n 0, 1) := by decide +kernel
theorem dM_leaders_49 : decode bM_leaders 49 = .ok (.iload 4, 2) := by decide +kernel
theorem dM_leaders_51 : decode bM_leaders 51 = .ok (.putfield 115, 3) := by decide +kernel
theorem dM_leaders_54 : decode bM_leaders 54 = .ok (.aload_n 0, 1) := by decide +kernel
theorem dM_leaders_55 : decode bM_leaders 55 = .ok (.iconst 0, 1) := by decide +kernel
theorem dM_leaders_56 : decode bM_leaders 56 = .ok (.putfield 118, 3) := by decide +kernel
theorem dM_leaders_59 : decode bM_leaders 59 = .ok (.aload_n 0, 1) := by decide +kernel
theorem dM_leaders_60 : decode bM_leaders 60 = .ok (.iload 4, 2) := by decide +kernel
theorem dM_leaders_62 : decode bM_leaders 62 = .ok (.aload_n 0, 1) := by decide +kernel
theorem dM_leaders_63 : decode bM_leaders 63 = .ok (.getfield 115, 3) := by decide +kernel
theorem dM_leaders_66 : decode bM_leaders 66 = .ok (.if_icmp .ne 14, 3) := by decide +kernel
theorem dM_leaders_69 : decode bM_leaders 69 = .ok (.aload_n 0, 1) := by decide +kernel
theorem dM_leaders_70 : decode bM_leaders 70 = .ok (.getfield 118, 3) := by decide +kernel
theorem dM_leaders_73 : decode bM_leaders 73 = .ok (.iconst 1, 1) := by decide +kernel
theorem dM_leaders_74 : decode bM_leaders 74 = .ok (.iload_n 3, 1) := by decide +kernel
theorem dM_leaders_75 : decode bM_leaders 75 = .ok (.ishl, 1) := by decide +kernel
theorem dM_leaders_76 : decode bM_leaders 76 = .ok (.ior, 1) := by decide +kernel
theorem dM_leaders_77 : decode bM_leaders 77 = .ok (.goto 7, 3) := by decide +kernel
theorem dM_leaders_80 : decode bM_leaders 80 = .ok (.aload_n 0, 1) := by decide +kernel
theorem dM_leaders_81 : decode bM_leaders 81 = .ok (.getfield 118, 3) := by decide +kernel
theorem dM_leaders_84 : decode bM_leaders 84 = .ok (.putfield 118, 3) := by decide +kernel
theorem dM_leaders_87 : decode bM_leaders 87 = .ok (.iinc 3 1, 3) := by decide +kernel
theorem dM_leaders_90 : decode bM_leaders 90 = .ok (.goto (-78), 3) := by decide +kernel
theorem dM_leaders_93 : decode bM_leaders 93 = .ok (.aload_n 0, 1) := by decide +kernel
theorem dM_leaders_94 : decode bM_leaders 94 = .ok (.getfield 118, 3) := by decide +kernel
theorem dM_leaders_97 : decode bM_leaders 97 = .ok (.ireturn, 1) := by decide +kernel
abbrev bM_boards : ByteArray := prog_3_method_37_code
def yM_boards : MethodName := ⟨"HandTablesModel", "boards", "()I"⟩
theorem dM_boards_0 : decode bM_boards 0 = .ok (.aload_n 0, 1) := by decide +kernel
theorem dM_boards_1 : decode bM_boards 1 = .ok (.aload_n 0, 1) := by decide +kernel
theorem dM_boards_2 : decode bM_boards 2 = .ok (.getfield 97, 3) := by decide +kernel
theorem dM_boards_5 : decode bM_boards 5 = .ok (.iconst 3, 1) := by decide +kernel
theorem dM_boards_6 : decode bM_boards 6 = .ok (.if_icmp .ge 7, 3) := by decide +kernel
theorem dM_boards_9 : decode bM_boards 9 = .ok (.iconst 1, 1) := by decide +kernel
theorem dM_boards_10 : decode bM_boards 10 = .ok (.goto 4, 3) := by decide +kernel
theorem dM_boards_13 : decode bM_boards 13 = .ok (.iconst 0, 1) := by decide +kernel
theorem dM_boards_14 : decode bM_boards 14 = .ok (.putfield 58, 3) := by decide +kernel
theorem dM_boards_17 : decode bM_boards 17 = .ok (.aload_n 0, 1) := by decide +kernel
theorem dM_boards_18 : decode bM_boards 18 = .ok (.getfield 58, 3) := by decide +kernel
theorem dM_boards_21 : decode bM_boards 21 = .ok (.ifCond .le 5, 3) := by decide +kernel
theorem dM_boards_24 : decode bM_boards 24 = .ok (.iconst 0, 1) := by decide +kernel
theorem dM_boards_25 : decode bM_boards 25 = .ok (.ireturn, 1) := by decide +kernel
theorem dM_boards_26 : decode bM_boards 26 = .ok (.aload_n 0, 1) := by decide +kernel
theorem dM_boards_27 : decode bM_boards 27 = .ok (.invokevirtual 139, 3) := by decide +kernel
theorem dM_boards_30 : decode bM_boards 30 = .ok (.aload_n 0, 1) := by decide +kernel
theorem dM_boards_31 : decode bM_boards 31 = .ok (.getfield 97, 3) := by decide +kernel
theorem dM_boards_34 : decode bM_boards 34 = .ok (.iconst 5, 1) := by decide +kernel
theorem dM_boards_35 : decode bM_boards 35 = .ok (.if_icmp .ne 7, 3) := by decide +kernel
theorem dM_boards_38 : decode bM_boards 38 = .ok (.iconst 1, 1) := by decide +kernel
theorem dM_boards_39 : decode bM_boards 39 = .ok (.goto 31, 3) := by decide +kernel
theorem dM_boards_42 : decode bM_boards 42 = .ok (.aload_n 0, 1) := by decide +kernel
theorem dM_boards_43 : decode bM_boards 43 = .ok (.getfield 97, 3) := by decide +kernel
theorem dM_boards_46 : decode bM_boards 46 = .ok (.iconst 4, 1) := by decide +kernel
theorem dM_boards_47 : decode bM_boards 47 = .ok (.if_icmp .ne 10, 3) := by decide +kernel
theorem dM_boards_50 : decode bM_boards 50 = .ok (.aload_n 0, 1) := by decide +kernel
theorem dM_boards_51 : decode bM_boards 51 = .ok (.getfield 133, 3) := by decide +kernel
theorem dM_boards_54 : decode bM_boards 54 = .ok (.goto 16, 3) := by decide +kernel
theorem dM_boards_57 : decode bM_boards 57 = .ok (.aload_n 0, 1) := by decide +kernel
theorem dM_boards_58 : decode bM_boards 58 = .ok (.getfield 133, 3) := by decide +kernel
theorem dM_boards_61 : decode bM_boards 61 = .ok (.aload_n 0, 1) := by decide +kernel
theorem dM_boards_62 : decode bM_boards 62 = .ok (.getfield 133, 3) := by decide +kernel
theorem dM_boards_65 : decode bM_boards 65 = .ok (.iconst 1, 1) := by decide +kernel
theorem dM_boards_66 : decode bM_boards 66 = .ok (.isub, 1) := by decide +kernel
theorem dM_boards_67 : decode bM_boards 67 = .ok (.imul, 1) := by decide +kernel
theorem dM_boards_68 : decode bM_boards 68 = .ok (.iconst 2, 1) := by decide +kernel
theorem dM_boards_69 : decode bM_boards 69 = .ok (.idiv, 1) := by decide +kernel
theorem dM_boards_70 : decode bM_boards 70 = .ok (.ireturn, 1) := by decide +kernel
abbrev bM_findLeft : ByteArray := prog_3_method_34_code
def yM_findLeft : MethodName := ⟨"HandTablesModel", "findLeft", "()V"⟩
theorem dM_findLeft_0 : decode bM_findLeft 0 = .ok (.aload_n 0, 1) := by decide +kernel
theorem dM_findLeft_1 : decode bM_findLeft 1 = .ok (.iconst 0, 1) := by decide +kernel
theorem dM_findLeft_2 : decode bM_findLeft 2 = .ok (.putfield 133, 3) := by decide +kernel
theorem dM_findLeft_5 : decode bM_findLeft 5 = .ok (.iconst 0, 1) := by decide +kernel
theorem dM_findLeft_6 : decode bM_findLeft 6 = .ok (.istore_n 1, 1) := by decide +kernel
theorem dM_findLeft_7 : decode bM_findLeft 7 = .ok (.iload_n 1, 1) := by decide +kernel
theorem dM_findLeft_8 : decode bM_findLeft 8 = .ok (.bipush 52, 2) := by decide +kernel
theorem dM_findLeft_10 : decode bM_findLeft 10 = .ok (.if_icmp .ge 38, 3) := by decide +kernel
theorem dM_findLeft_13 : decode bM_findLeft 13 = .ok (.aload_n 0, 1) := by decide +kernel
theorem dM_findLeft_14 : decode bM_findLeft 14 = .ok (.iload_n 1, 1) := by decide +kernel
theorem dM_findLeft_15 : decode bM_findLeft 15 = .ok (.iconst (-1), 1) := by decide +kernel
theorem dM_findLeft_16 : decode bM_findLeft 16 = .ok (.invokevirtual 107, 3) := by decide +kernel
theorem dM_findLeft_19 : decode bM_findLeft 19 = .ok (.ifCond .ne 23, 3) := by decide +kernel
theorem dM_findLeft_22 : decode bM_findLeft 22 = .ok (.aload_n 0, 1) := by decide +kernel
theorem dM_findLeft_23 : decode bM_findLeft 23 = .ok (.getfield 37, 3) := by decide +kernel
theorem dM_findLeft_26 : decode bM_findLeft 26 = .ok (.aload_n 0, 1) := by decide +kernel
theorem dM_findLeft_27 : decode bM_findLeft 27 = .ok (.getfield 133, 3) := by decide +kernel
theorem dM_findLeft_30 : decode bM_findLeft 30 = .ok (.iload_n 1, 1) := by decide +kernel
theorem dM_findLeft_31 : decode bM_findLeft 31 = .ok (.iastore, 1) := by decide +kernel
theorem dM_findLeft_32 : decode bM_findLeft 32 = .ok (.aload_n 0, 1) := by decide +kernel
theorem dM_findLeft_33 : decode bM_findLeft 33 = .ok (.dup, 1) := by decide +kernel
theorem dM_findLeft_34 : decode bM_findLeft 34 = .ok (.getfield 133, 3) := by decide +kernel
theorem dM_findLeft_37 : decode bM_findLeft 37 = .ok (.iconst 1, 1) := by decide +kernel
theorem dM_findLeft_38 : decode bM_findLeft 38 = .ok (.iadd, 1) := by decide +kernel
theorem dM_findLeft_39 : decode bM_findLeft 39 = .ok (.putfield 133, 3) := by decide +kernel
theorem dM_findLeft_42 : decode bM_findLeft 42 = .ok (.iinc 1 1, 3) := by decide +kernel
theorem dM_findLeft_45 : decode bM_findLeft 45 = .ok (.goto (-38), 3) := by decide +kernel
theorem dM_findLeft_48 : decode bM_findLeft 48 = .ok (.return_, 1) := by decide +kernel
abbrev bM_wins : ByteArray := prog_3_method_38_code
def yM_wins : MethodName := ⟨"HandTablesModel", "wins", "(II)I"⟩
theorem dM_wins_0 : decode bM_wins 0 = .ok (.aload_n 0, 1) := by decide +kernel
theorem dM_wins_1 : decode bM_wins 1 = .ok (.iload_n 1, 1) := by decide +kernel
theorem dM_wins_2 : decode bM_wins 2 = .ok (.invokestatic 100, 3) := by decide +kernel
theorem dM_wins_5 : decode bM_wins 5 = .ok (.ifCond .eq 7, 3) := by decide +kernel
theorem dM_wins_8 : decode bM_wins 8 = .ok (.iconst 1, 1) := by decide +kernel
theorem dM_wins_9 : decode bM_wins 9 = .ok (.goto 41, 3) := by decide +kernel
theorem dM_wins_12 : decode bM_wins 12 = .ok (.iload_n 2, 1) := by decide +kernel
theorem dM_wins_13 : decode bM_wins 13 = .ok (.ifCond .lt 8, 3) := by decide +kernel
theorem dM_wins_16 : decode bM_wins 16 = .ok (.iload_n 2, 1) := by decide +kernel
theorem dM_wins_17 : decode bM_wins 17 = .ok (.iconst 1, 1) := by decide +kernel
theorem dM_wins_18 : decode bM_wins 18 = .ok (.if_icmp .le 7, 3) := by decide +kernel
theorem dM_wins_21 : decode bM_wins 21 = .ok (.iconst 2, 1) := by decide +kernel
theorem dM_wins_22 : decode bM_wins 22 = .ok (.goto 28, 3) := by decide +kernel
theorem dM_wins_25 : decode bM_wins 25 = .ok (.aload_n 0, 1) := by decide +kernel
theorem dM_wins_26 : decode bM_wins 26 = .ok (.getfield 22, 3) := by decide +kernel
theorem dM_wins_29 : decode bM_wins 29 = .ok (.iconst 2, 1) := by decide +kernel
theorem dM_wins_30 : decode bM_wins 30 = .ok (.iload_n 1, 1) := by decide +kernel
theorem dM_wins_31 : decode bM_wins 31 = .ok (.imul, 1) := by decide +kernel
theorem dM_wins_32 : decode bM_wins 32 = .ok (.iaload, 1) := by decide +kernel
theorem dM_wins_33 : decode bM_wins 33 = .ok (.iconst (-1), 1) := by decide +kernel
theorem dM_wins_34 : decode bM_wins 34 = .ok (.if_icmp .eq 11, 3) := by decide +kernel
theorem dM_wins_37 : decode bM_wins 37 = .ok (.aload_n 0, 1) := by decide +kernel
theorem dM_wins_38 : decode bM_wins 38 = .ok (.getfield 97, 3) := by decide +kernel
theorem dM_wins_41 : decode bM_wins 41 = .ok (.iconst 3, 1) := by decide +kernel
theorem dM_wins_42 : decode bM_wins 42 = .ok (.if_icmp .ge 7, 3) := by decide +kernel
theorem dM_wins_45 : decode bM_wins 45 = .ok (.iconst 3, 1) := by decide +kernel
theorem dM_wins_46 : decode bM_wins 46 = .ok (.goto 4, 3) := by decide +kernel
theorem dM_wins_49 : decode bM_wins 49 = .ok (.iconst 0, 1) := by decide +kernel
theorem dM_wins_50 : decode bM_wins 50 = .ok (.putfield 58, 3) := by decide +kernel
theorem dM_wins_53 : decode bM_wins 53 = .ok (.aload_n 0, 1) := by decide +kernel
theorem dM_wins_54 : decode bM_wins 54 = .ok (.getfield 58, 3) := by decide +kernel
theorem dM_wins_57 : decode bM_wins 57 = .ok (.ifCond .le 5, 3) := by decide +kernel
theorem dM_wins_60 : decode bM_wins 60 = .ok (.iconst 0, 1) := by decide +kernel
theorem dM_wins_61 : decode bM_wins 61 = .ok (.ireturn, 1) := by decide +kernel
theorem dM_wins_62 : decode bM_wins 62 = .ok (.aload_n 0, 1) := by decide +kernel
theorem dM_wins_63 : decode bM_wins 63 = .ok (.invokevirtual 146, 3) := by decide +kernel
theorem dM_wins_66 : decode bM_wins 66 = .ok (.iload_n 2, 1) := by decide +kernel
theorem dM_wins_67 : decode bM_wins 67 = .ok (.ifCond .ne 12, 3) := by decide +kernel
theorem dM_wins_70 : decode bM_wins 70 = .ok (.aload_n 0, 1) := by decide +kernel
theorem dM_wins_71 : decode bM_wins 71 = .ok (.getfield 31, 3) := by decide +kernel
theorem dM_wins_74 : decode bM_wins 74 = .ok (.iload_n 1, 1) := by decide +kernel
theorem dM_wins_75 : decode bM_wins 75 = .ok (.iaload, 1) := by decide +kernel
theorem dM_wins_76 : decode bM_wins 76 = .ok (.goto 9, 3) := by decide +kernel
theorem dM_wins_79 : decode bM_wins 79 = .ok (.aload_n 0, 1) := by decide +kernel
theorem dM_wins_80 : decode bM_wins 80 = .ok (.getfield 34, 3) := by decide +kernel
theorem dM_wins_83 : decode bM_wins 83 = .ok (.iload_n 1, 1) := by decide +kernel
theorem dM_wins_84 : decode bM_wins 84 = .ok (.iaload, 1) := by decide +kernel
theorem dM_wins_85 : decode bM_wins 85 = .ok (.ireturn, 1) := by decide +kernel
abbrev bM_countAll : ByteArray := prog_3_method_36_code
def yM_countAll : MethodName := ⟨"HandTablesModel", "countAll", "()V"⟩
theorem dM_countAll_0 : decode bM_countAll 0 = .ok (.aload_n 0, 1) := by decide +kernel
theorem dM_countAll_1 : decode bM_countAll 1 = .ok (.getfield 111, 3) := by decide +kernel
theorem dM_countAll_4 : decode bM_countAll 4 = .ok (.ifCond .eq 4, 3) := by decide +kernel
theorem dM_countAll_7 : decode bM_countAll 7 = .ok (.return_, 1) := by decide +kernel
theorem dM_countAll_8 : decode bM_countAll 8 = .ok (.aload_n 0, 1) := by decide +kernel
theorem dM_countAll_9 : decode bM_countAll 9 = .ok (.iconst 1, 1) := by decide +kernel
theorem dM_countAll_10 : decode bM_countAll 10 = .ok (.putfield 111, 3) := by decide +kernel
theorem dM_countAll_13 : decode bM_countAll 13 = .ok (.aload_n 0, 1) := by decide +kernel
theorem dM_countAll_14 : decode bM_countAll 14 = .ok (.iconst 0, 1) := by decide +kernel
theorem dM_countAll_15 : decode bM_countAll 15 = .ok (.putfield 136, 3) := by decide +kernel
theorem dM_countAll_18 : decode bM_countAll 18 = .ok (.iconst 0, 1) := by decide +kernel
theorem dM_countAll_19 : decode bM_countAll 19 = .ok (.istore_n 1, 1) := by decide +kernel
theorem dM_countAll_20 : decode bM_countAll 20 = .ok (.iload_n 1, 1) := by decide +kernel
theorem dM_countAll_21 : decode bM_countAll 21 = .ok (.bipush 6, 2) := by decide +kernel
theorem dM_countAll_23 : decode bM_countAll 23 = .ok (.if_icmp .ge 23, 3) := by decide +kernel
theorem dM_countAll_26 : decode bM_countAll 26 = .ok (.aload_n 0, 1) := by decide +kernel
theorem dM_countAll_27 : decode bM_countAll 27 = .ok (.getfield 31, 3) := by decide +kernel
theorem dM_countAll_30 : decode bM_countAll 30 = .ok (.iload_n 1, 1) := by decide +kernel
theorem dM_countAll_31 : decode bM_countAll 31 = .ok (.iconst 0, 1) := by decide +kernel
theorem dM_countAll_32 : decode bM_countAll 32 = .ok (.iastore, 1) := by decide +kernel
theorem dM_countAll_33 : decode bM_countAll 33 = .ok (.aload_n 0, 1) := by decide +kernel
theorem dM_countAll_34 : decode bM_countAll 34 = .ok (.getfield 34, 3) := by decide +kernel
theorem dM_countAll_37 : decode bM_countAll 37 = .ok (.iload_n 1, 1) := by decide +kernel
theorem dM_countAll_38 : decode bM_countAll 38 = .ok (.iconst 0, 1) := by decide +kernel
theorem dM_countAll_39 : decode bM_countAll 39 = .ok (.iastore, 1) := by decide +kernel
theorem dM_countAll_40 : decode bM_countAll 40 = .ok (.iinc 1 1, 3) := by decide +kernel
theorem dM_countAll_43 : decode bM_countAll 43 = .ok (.goto (-23), 3) := by decide +kernel
theorem dM_countAll_46 : decode bM_countAll 46 = .ok (.aload_n 0, 1) := by decide +kernel
theorem dM_countAll_47 : decode bM_countAll 47 = .ok (.invokevirtual 139, 3) := by decide +kernel
theorem dM_countAll_50 : decode bM_countAll 50 = .ok (.aload_n 0, 1) := by decide +kernel
theorem dM_countAll_51 : decode bM_countAll 51 = .ok (.getfield 97, 3) := by decide +kernel
theorem dM_countAll_54 : decode bM_countAll 54 = .ok (.iconst 5, 1) := by decide +kernel
theorem dM_countAll_55 : decode bM_countAll 55 = .ok (.if_icmp .ne 9, 3) := by decide +kernel
theorem dM_countAll_58 : decode bM_countAll 58 = .ok (.aload_n 0, 1) := by decide +kernel
theorem dM_countAll_59 : decode bM_countAll 59 = .ok (.iconst (-1), 1) := by decide +kernel
theorem dM_countAll_60 : decode bM_countAll 60 = .ok (.iconst (-1), 1) := by decide +kernel
theorem dM_countAll_61 : decode bM_countAll 61 = .ok (.invokevirtual 142, 3) := by decide +kernel
theorem dM_countAll_64 : decode bM_countAll 64 = .ok (.iconst 0, 1) := by decide +kernel
theorem dM_countAll_65 : decode bM_countAll 65 = .ok (.istore_n 1, 1) := by decide +kernel
theorem dM_countAll_66 : decode bM_countAll 66 = .ok (.iload_n 1, 1) := by decide +kernel
theorem dM_countAll_67 : decode bM_countAll 67 = .ok (.aload_n 0, 1) := by decide +kernel
theorem dM_countAll_68 : decode bM_countAll 68 = .ok (.getfield 133, 3) := by decide +kernel
theorem dM_countAll_71 : decode bM_countAll 71 = .ok (.if_icmp .ge 78, 3) := by decide +kernel
theorem dM_countAll_74 : decode bM_countAll 74 = .ok (.aload_n 0, 1) := by decide +kernel
theorem dM_countAll_75 : decode bM_countAll 75 = .ok (.getfield 97, 3) := by decide +kernel
theorem dM_countAll_78 : decode bM_countAll 78 = .ok (.iconst 5, 1) := by decide +kernel
theorem dM_countAll_79 : decode bM_countAll 79 = .ok (.if_icmp .ge 70, 3) := by decide +kernel
theorem dM_countAll_82 : decode bM_countAll 82 = .ok (.aload_n 0, 1) := by decide +kernel
theorem dM_countAll_83 : decode bM_countAll 83 = .ok (.getfield 97, 3) := by decide +kernel
theorem dM_countAll_86 : decode bM_countAll 86 = .ok (.iconst 4, 1) := by decide +kernel
theorem dM_countAll_87 : decode bM_countAll 87 = .ok (.if_icmp .ne 14, 3) := by decide +kernel
theorem dM_countAll_90 : decode bM_countAll 90 = .ok (.aload_n 0, 1) := by decide +kernel
theorem dM_countAll_91 : decode bM_countAll 91 = .ok (.aload_n 0, 1) := by decide +kernel
theorem dM_countAll_92 : decode bM_countAll 92 = .ok (.getfield 37, 3) := by decide +kernel
theorem dM_countAll_95 : decode bM_countAll 95 = .ok (.iload_n 1, 1) := by decide +kernel
theorem dM_countAll_96 : decode bM_countAll 96 = .ok (.iaload, 1) := by decide +kernel
theorem dM_countAll_97 : decode bM_countAll 97 = .ok (.iconst (-1), 1) := by decide +kernel
theorem dM_countAll_98 : decode bM_countAll 98 = .ok (.invokevirtual 142, 3) := by decide +kernel
theorem dM_countAll_101 : decode bM_countAll 101 = .ok (.iload_n 1, 1) := by decide +kernel
theorem dM_countAll_102 : decode bM_countAll 102 = .ok (.iconst 1, 1) := by decide +kernel
theorem dM_countAll_103 : decode bM_countAll 103 = .ok (.iadd, 1) := by decide +kernel
theorem dM_countAll_104 : decode bM_countAll 104 = .ok (.istore_n 2, 1) := by decide +kernel
theorem dM_countAll_105 : decode bM_countAll 105 = .ok (.iload_n 2, 1) := by decide +kernel
theorem dM_countAll_106 : decode bM_countAll 106 = .ok (.aload_n 0, 1) := by decide +kernel
theorem dM_countAll_107 : decode bM_countAll 107 = .ok (.getfield 133, 3) := by decide +kernel
theorem dM_countAll_110 : decode bM_countAll 110 = .ok (.if_icmp .ge 33, 3) := by decide +kernel
theorem dM_countAll_113 : decode bM_countAll 113 = .ok (.aload_n 0, 1) := by decide +kernel
theorem dM_countAll_114 : decode bM_countAll 114 = .ok (.getfield 97, 3) := by decide +kernel
theorem dM_countAll_117 : decode bM_countAll 117 = .ok (.iconst 3, 1) := by decide +kernel
theorem dM_countAll_118 : decode bM_countAll 118 = .ok (.if_icmp .ne 25, 3) := by decide +kernel
theorem dM_countAll_121 : decode bM_countAll 121 = .ok (.aload_n 0, 1) := by decide +kernel
theorem dM_countAll_122 : decode bM_countAll 122 = .ok (.aload_n 0, 1) := by decide +kernel
theorem dM_countAll_123 : decode bM_countAll 123 = .ok (.getfield 37, 3) := by decide +kernel
theorem dM_countAll_126 : decode bM_countAll 126 = .ok (.iload_n 1, 1) := by decide +kernel
theorem dM_countAll_127 : decode bM_countAll 127 = .ok (.iaload, 1) := by decide +kernel
theorem dM_countAll_128 : decode bM_countAll 128 = .ok (.aload_n 0, 1) := by decide +kernel
theorem dM_countAll_129 : decode bM_countAll 129 = .ok (.getfield 37, 3) := by decide +kernel
theorem dM_countAll_132 : decode bM_countAll 132 = .ok (.iload_n 2, 1) := by decide +kernel
theorem dM_countAll_133 : decode bM_countAll 133 = .ok (.iaload, 1) := by decide +kernel
theorem dM_countAll_134 : decode bM_countAll 134 = .ok (.invokevirtual 142, 3) := by decide +kernel
theorem dM_countAll_137 : decode bM_countAll 137 = .ok (.iinc 2 1, 3) := by decide +kernel
theorem dM_countAll_140 : decode bM_countAll 140 = .ok (.goto (-35), 3) := by decide +kernel
theorem dM_countAll_143 : decode bM_countAll 143 = .ok (.iinc 1 1, 3) := by decide +kernel
theorem dM_countAll_146 : decode bM_countAll 146 = .ok (.goto (-80), 3) := by decide +kernel
theorem dM_countAll_149 : decode bM_countAll 149 = .ok (.return_, 1) := by decide +kernel
abbrev bM_countBoard : ByteArray := prog_3_method_35_code
def yM_countBoard : MethodName := ⟨"HandTablesModel", "countBoard", "(II)V"⟩
theorem dM_countBoard_0 : decode bM_countBoard 0 = .ok (.aload_n 0, 1) := by decide +kernel
theorem dM_countBoard_1 : decode bM_countBoard 1 = .ok (.dup, 1) := by decide +kernel
theorem dM_countBoard_2 : decode bM_countBoard 2 = .ok (.getfield 136, 3) := by decide +kernel
theorem dM_countBoard_5 : decode bM_countBoard 5 = .ok (.iconst 1, 1) := by decide +kernel
theorem dM_countBoard_6 : decode bM_countBoard 6 = .ok (.iadd, 1) := by decide +kernel
theorem dM_countBoard_7 : decode bM_countBoard 7 = .ok (.putfield 136, 3) := by decide +kernel
theorem dM_countBoard_10 : decode bM_countBoard 10 = .ok (.aload_n 0, 1) := by decide +kernel
theorem dM_countBoard_11 : decode bM_countBoard 11 = .ok (.iload_n 1, 1) := by decide +kernel
theorem dM_countBoard_12 : decode bM_countBoard 12 = .ok (.iload_n 2, 1) := by decide +kernel
theorem dM_countBoard_13 : decode bM_countBoard 13 = .ok (.invokevirtual 129, 3) := by decide +kernel
theorem dM_countBoard_16 : decode bM_countBoard 16 = .ok (.istore_n 3, 1) := by decide +kernel
theorem dM_countBoard_17 : decode bM_countBoard 17 = .ok (.iload_n 3, 1) := by decide +kernel
theorem dM_countBoard_18 : decode bM_countBoard 18 = .ok (.iload_n 3, 1) := by decide +kernel
theorem dM_countBoard_19 : decode bM_countBoard 19 = .ok (.iconst 1, 1) := by decide +kernel
theorem dM_countBoard_20 : decode bM_countBoard 20 = .ok (.isub, 1) := by decide +kernel
theorem dM_countBoard_21 : decode bM_countBoard 21 = .ok (.iand, 1) := by decide +kernel
theorem dM_countBoard_22 : decode bM_countBoard 22 = .ok (.ifCond .ne 7, 3) := by decide +kernel
theorem dM_countBoard_25 : decode bM_countBoard 25 = .ok (.iconst 1, 1) := by decide +kernel
theorem dM_countBoard_26 : decode bM_countBoard 26 = .ok (.goto 4, 3) := by decide +kernel
theorem dM_countBoard_29 : decode bM_countBoard 29 = .ok (.iconst 0, 1) := by decide +kernel
theorem dM_countBoard_30 : decode bM_countBoard 30 = .ok (.istore 4, 2) := by decide +kernel
theorem dM_countBoard_32 : decode bM_countBoard 32 = .ok (.iconst 0, 1) := by decide +kernel
theorem dM_countBoard_33 : decode bM_countBoard 33 = .ok (.istore 5, 2) := by decide +kernel
theorem dM_countBoard_35 : decode bM_countBoard 35 = .ok (.iload 5, 2) := by decide +kernel
theorem dM_countBoard_37 : decode bM_countBoard 37 = .ok (.bipush 6, 2) := by decide +kernel
theorem dM_countBoard_39 : decode bM_countBoard 39 = .ok (.if_icmp .ge 59, 3) := by decide +kernel
theorem dM_countBoard_42 : decode bM_countBoard 42 = .ok (.iload_n 3, 1) := by decide +kernel
theorem dM_countBoard_43 : decode bM_countBoard 43 = .ok (.iload 5, 2) := by decide +kernel
theorem dM_countBoard_45 : decode bM_countBoard 45 = .ok (.ishr, 1) := by decide +kernel
theorem dM_countBoard_46 : decode bM_countBoard 46 = .ok (.iconst 1, 1) := by decide +kernel
theorem dM_countBoard_47 : decode bM_countBoard 47 = .ok (.iand, 1) := by decide +kernel
theorem dM_countBoard_48 : decode bM_countBoard 48 = .ok (.iconst 1, 1) := by decide +kernel
theorem dM_countBoard_49 : decode bM_countBoard 49 = .ok (.if_icmp .ne 22, 3) := by decide +kernel
theorem dM_countBoard_52 : decode bM_countBoard 52 = .ok (.iload 4, 2) := by decide +kernel
theorem dM_countBoard_54 : decode bM_countBoard 54 = .ok (.ifCond .eq 17, 3) := by decide +kernel
theorem dM_countBoard_57 : decode bM_countBoard 57 = .ok (.aload_n 0, 1) := by decide +kernel
theorem dM_countBoard_58 : decode bM_countBoard 58 = .ok (.getfield 31, 3) := by decide +kernel
theorem dM_countBoard_61 : decode bM_countBoard 61 = .ok (.iload 5, 2) := by decide +kernel
theorem dM_countBoard_63 : decode bM_countBoard 63 = .ok (.dup2, 1) := by decide +kernel
theorem dM_countBoard_64 : decode bM_countBoard 64 = .ok (.iaload, 1) := by decide +kernel
theorem dM_countBoard_65 : decode bM_countBoard 65 = .ok (.iconst 1, 1) := by decide +kernel
theorem dM_countBoard_66 : decode bM_countBoard 66 = .ok (.iadd, 1) := by decide +kernel
theorem dM_countBoard_67 : decode bM_countBoard 67 = .ok (.iastore, 1) := by decide +kernel
theorem dM_countBoard_68 : decode bM_countBoard 68 = .ok (.goto 24, 3) := by decide +kernel
theorem dM_countBoard_71 : decode bM_countBoard 71 = .ok (.iload_n 3, 1) := by decide +kernel
theorem dM_countBoard_72 : decode bM_countBoard 72 = .ok (.iload 5, 2) := by decide +kernel
theorem dM_countBoard_74 : decode bM_countBoard 74 = .ok (.ishr, 1) := by decide +kernel
theorem dM_countBoard_75 : decode bM_countBoard 75 = .ok (.iconst 1, 1) := by decide +kernel
theorem dM_countBoard_76 : decode bM_countBoard 76 = .ok (.iand, 1) := by decide +kernel
theorem dM_countBoard_77 : decode bM_countBoard 77 = .ok (.iconst 1, 1) := by decide +kernel
theorem dM_countBoard_78 : decode bM_countBoard 78 = .ok (.if_icmp .ne 14, 3) := by decide +kernel
theorem dM_countBoard_81 : decode bM_countBoard 81 = .ok (.aload_n 0, 1) := by decide +kernel
theorem dM_countBoard_82 : decode bM_countBoard 82 = .ok (.getfield 34, 3) := by decide +kernel
theorem dM_countBoard_85 : decode bM_countBoard 85 = .ok (.iload 5, 2) := by decide +kernel
theorem dM_countBoard_87 : decode bM_countBoard 87 = .ok (.dup2, 1) := by decide +kernel
theorem dM_countBoard_88 : decode bM_countBoard 88 = .ok (.iaload, 1) := by decide +kernel
theorem dM_countBoard_89 : decode bM_countBoard 89 = .ok (.iconst 1, 1) := by decide +kernel
theorem dM_countBoard_90 : decode bM_countBoard 90 = .ok (.iadd, 1) := by decide +kernel
theorem dM_countBoard_91 : decode bM_countBoard 91 = .ok (.iastore, 1) := by decide +kernel
theorem dM_countBoard_92 : decode bM_countBoard 92 = .ok (.iinc 5 1, 3) := by decide +kernel
theorem dM_countBoard_95 : decode bM_countBoard 95 = .ok (.goto (-60), 3) := by decide +kernel
theorem dM_countBoard_98 : decode bM_countBoard 98 = .ok (.return_, 1) := by decide +kernel
abbrev bM_outs : ByteArray := prog_3_method_39_code
def yM_outs : MethodName := ⟨"HandTablesModel", "outs", "(I)J"⟩
theorem dM_outs_0 : decode bM_outs 0 = .ok (.aload_n 0, 1) := by decide +kernel
theorem dM_outs_1 : decode bM_outs 1 = .ok (.iload_n 1, 1) := by decide +kernel
theorem dM_outs_2 : decode bM_outs 2 = .ok (.invokestatic 100, 3) := by decide +kernel
theorem dM_outs_5 : decode bM_outs 5 = .ok (.ifCond .eq 7, 3) := by decide +kernel
theorem dM_outs_8 : decode bM_outs 8 = .ok (.iconst 1, 1) := by decide +kernel
theorem dM_outs_9 : decode bM_outs 9 = .ok (.goto 36, 3) := by decide +kernel
theorem dM_outs_12 : decode bM_outs 12 = .ok (.aload_n 0, 1) := by decide +kernel
theorem dM_outs_13 : decode bM_outs 13 = .ok (.getfield 22, 3) := by decide +kernel
theorem dM_outs_16 : decode bM_outs 16 = .ok (.iconst 2, 1) := by decide +kernel
theorem dM_outs_17 : decode bM_outs 17 = .ok (.iload_n 1, 1) := by decide +kernel
theorem dM_outs_18 : decode bM_outs 18 = .ok (.imul, 1) := by decide +kernel
theorem dM_outs_19 : decode bM_outs 19 = .ok (.iaload, 1) := by decide +kernel
theorem dM_outs_20 : decode bM_outs 20 = .ok (.iconst (-1), 1) := by decide +kernel
theorem dM_outs_21 : decode bM_outs 21 = .ok (.if_icmp .eq 19, 3) := by decide +kernel
theorem dM_outs_24 : decode bM_outs 24 = .ok (.aload_n 0, 1) := by decide +kernel
theorem dM_outs_25 : decode bM_outs 25 = .ok (.getfield 97, 3) := by decide +kernel
theorem dM_outs_28 : decode bM_outs 28 = .ok (.iconst 3, 1) := by decide +kernel
theorem dM_outs_29 : decode bM_outs 29 = .ok (.if_icmp .lt 11, 3) := by decide +kernel
theorem dM_outs_32 : decode bM_outs 32 = .ok (.aload_n 0, 1) := by decide +kernel
theorem dM_outs_33 : decode bM_outs 33 = .ok (.getfield 97, 3) := by decide +kernel
theorem dM_outs_36 : decode bM_outs 36 = .ok (.iconst 4, 1) := by decide +kernel
theorem dM_outs_37 : decode bM_outs 37 = .ok (.if_icmp .le 7, 3) := by decide +kernel
theorem dM_outs_40 : decode bM_outs 40 = .ok (.iconst 2, 1) := by decide +kernel
theorem dM_outs_41 : decode bM_outs 41 = .ok (.goto 4, 3) := by decide +kernel
theorem dM_outs_44 : decode bM_outs 44 = .ok (.iconst 0, 1) := by decide +kernel
theorem dM_outs_45 : decode bM_outs 45 = .ok (.putfield 58, 3) := by decide +kernel
theorem dM_outs_48 : decode bM_outs 48 = .ok (.aload_n 0, 1) := by decide +kernel
theorem dM_outs_49 : decode bM_outs 49 = .ok (.getfield 58, 3) := by decide +kernel
theorem dM_outs_52 : decode bM_outs 52 = .ok (.ifCond .le 5, 3) := by decide +kernel
theorem dM_outs_55 : decode bM_outs 55 = .ok (.lconst 0, 1) := by decide +kernel
theorem dM_outs_56 : decode bM_outs 56 = .ok (.lreturn, 1) := by decide +kernel
theorem dM_outs_57 : decode bM_outs 57 = .ok (.lconst 0, 1) := by decide +kernel
theorem dM_outs_58 : decode bM_outs 58 = .ok (.lstore_n 2, 1) := by decide +kernel
theorem dM_outs_59 : decode bM_outs 59 = .ok (.iconst 0, 1) := by decide +kernel
theorem dM_outs_60 : decode bM_outs 60 = .ok (.istore 4, 2) := by decide +kernel
theorem dM_outs_62 : decode bM_outs 62 = .ok (.iload 4, 2) := by decide +kernel
theorem dM_outs_64 : decode bM_outs 64 = .ok (.bipush 52, 2) := by decide +kernel
theorem dM_outs_66 : decode bM_outs 66 = .ok (.if_icmp .ge 39, 3) := by decide +kernel
theorem dM_outs_69 : decode bM_outs 69 = .ok (.aload_n 0, 1) := by decide +kernel
theorem dM_outs_70 : decode bM_outs 70 = .ok (.iload 4, 2) := by decide +kernel
theorem dM_outs_72 : decode bM_outs 72 = .ok (.iconst (-1), 1) := by decide +kernel
theorem dM_outs_73 : decode bM_outs 73 = .ok (.invokevirtual 107, 3) := by decide +kernel
theorem dM_outs_76 : decode bM_outs 76 = .ok (.ifCond .ne 23, 3) := by decide +kernel
theorem dM_outs_79 : decode bM_outs 79 = .ok (.aload_n 0, 1) := by decide +kernel
theorem dM_outs_80 : decode bM_outs 80 = .ok (.iload 4, 2) := by decide +kernel
theorem dM_outs_82 : decode bM_outs 82 = .ok (.iconst (-1), 1) := by decide +kernel
theorem dM_outs_83 : decode bM_outs 83 = .ok (.invokevirtual 129, 3) := by decide +kernel
theorem dM_outs_86 : decode bM_outs 86 = .ok (.iconst 1, 1) := by decide +kernel
theorem dM_outs_87 : decode bM_outs 87 = .ok (.iload_n 1, 1) := by decide +kernel
theorem dM_outs_88 : decode bM_outs 88 = .ok (.ishl, 1) := by decide +kernel
theorem dM_outs_89 : decode bM_outs 89 = .ok (.if_icmp .ne 10, 3) := by decide +kernel
theorem dM_outs_92 : decode bM_outs 92 = .ok (.lload_n 2, 1) := by decide +kernel
theorem dM_outs_93 : decode bM_outs 93 = .ok (.lconst 1, 1) := by decide +kernel
theorem dM_outs_94 : decode bM_outs 94 = .ok (.iload 4, 2) := by decide +kernel
theorem dM_outs_96 : decode bM_outs 96 = .ok (.lshl, 1) := by decide +kernel
theorem dM_outs_97 : decode bM_outs 97 = .ok (.lor, 1) := by decide +kernel
theorem dM_outs_98 : decode bM_outs 98 = .ok (.lstore_n 2, 1) := by decide +kernel
theorem dM_outs_99 : decode bM_outs 99 = .ok (.iinc 4 1, 3) := by decide +kernel
theorem dM_outs_102 : decode bM_outs 102 = .ok (.goto (-40), 3) := by decide +kernel
theorem dM_outs_105 : decode bM_outs 105 = .ok (.lload_n 2, 1) := by decide +kernel
theorem dM_outs_106 : decode bM_outs 106 = .ok (.lreturn, 1) := by decide +kernel
abbrev bM_share : ByteArray := prog_3_method_40_code
def yM_share : MethodName := ⟨"HandTablesModel", "share", "(II)I"⟩
theorem dM_share_0 : decode bM_share 0 = .ok (.aload_n 0, 1) := by decide +kernel
theorem dM_share_1 : decode bM_share 1 = .ok (.iload_n 1, 1) := by decide +kernel
theorem dM_share_2 : decode bM_share 2 = .ok (.invokestatic 100, 3) := by decide +kernel
theorem dM_share_5 : decode bM_share 5 = .ok (.ifCond .eq 7, 3) := by decide +kernel
theorem dM_share_8 : decode bM_share 8 = .ok (.iconst 1, 1) := by decide +kernel
theorem dM_share_9 : decode bM_share 9 = .ok (.goto 36, 3) := by decide +kernel
theorem dM_share_12 : decode bM_share 12 = .ok (.iload_n 2, 1) := by decide +kernel
theorem dM_share_13 : decode bM_share 13 = .ok (.ifCond .ge 7, 3) := by decide +kernel
theorem dM_share_16 : decode bM_share 16 = .ok (.iconst 2, 1) := by decide +kernel
theorem dM_share_17 : decode bM_share 17 = .ok (.goto 28, 3) := by decide +kernel
theorem dM_share_20 : decode bM_share 20 = .ok (.aload_n 0, 1) := by decide +kernel
theorem dM_share_21 : decode bM_share 21 = .ok (.getfield 22, 3) := by decide +kernel
theorem dM_share_24 : decode bM_share 24 = .ok (.iconst 2, 1) := by decide +kernel
theorem dM_share_25 : decode bM_share 25 = .ok (.iload_n 1, 1) := by decide +kernel
theorem dM_share_26 : decode bM_share 26 = .ok (.imul, 1) := by decide +kernel
theorem dM_share_27 : decode bM_share 27 = .ok (.iaload, 1) := by decide +kernel
theorem dM_share_28 : decode bM_share 28 = .ok (.iconst (-1), 1) := by decide +kernel
theorem dM_share_29 : decode bM_share 29 = .ok (.if_icmp .eq 11, 3) := by decide +kernel
theorem dM_share_32 : decode bM_share 32 = .ok (.aload_n 0, 1) := by decide +kernel
theorem dM_share_33 : decode bM_share 33 = .ok (.getfield 97, 3) := by decide +kernel
theorem dM_share_36 : decode bM_share 36 = .ok (.iconst 5, 1) := by decide +kernel
theorem dM_share_37 : decode bM_share 37 = .ok (.if_icmp .ge 7, 3) := by decide +kernel
theorem dM_share_40 : decode bM_share 40 = .ok (.iconst 3, 1) := by decide +kernel
theorem dM_share_41 : decode bM_share 41 = .ok (.goto 4, 3) := by decide +kernel
theorem dM_share_44 : decode bM_share 44 = .ok (.iconst 0, 1) := by decide +kernel
theorem dM_share_45 : decode bM_share 45 = .ok (.putfield 58, 3) := by decide +kernel
theorem dM_share_48 : decode bM_share 48 = .ok (.aload_n 0, 1) := by decide +kernel
theorem dM_share_49 : decode bM_share 49 = .ok (.getfield 58, 3) := by decide +kernel
theorem dM_share_52 : decode bM_share 52 = .ok (.ifCond .le 5, 3) := by decide +kernel
theorem dM_share_55 : decode bM_share 55 = .ok (.iconst 0, 1) := by decide +kernel
theorem dM_share_56 : decode bM_share 56 = .ok (.ireturn, 1) := by decide +kernel
theorem dM_share_57 : decode bM_share 57 = .ok (.aload_n 0, 1) := by decide +kernel
theorem dM_share_58 : decode bM_share 58 = .ok (.iconst (-1), 1) := by decide +kernel
theorem dM_share_59 : decode bM_share 59 = .ok (.iconst (-1), 1) := by decide +kernel
theorem dM_share_60 : decode bM_share 60 = .ok (.invokevirtual 129, 3) := by decide +kernel
theorem dM_share_63 : decode bM_share 63 = .ok (.istore_n 3, 1) := by decide +kernel
theorem dM_share_64 : decode bM_share 64 = .ok (.iconst 0, 1) := by decide +kernel
theorem dM_share_65 : decode bM_share 65 = .ok (.istore 4, 2) := by decide +kernel
theorem dM_share_67 : decode bM_share 67 = .ok (.iconst 0, 1) := by decide +kernel
theorem dM_share_68 : decode bM_share 68 = .ok (.istore 5, 2) := by decide +kernel
theorem dM_share_70 : decode bM_share 70 = .ok (.iconst 0, 1) := by decide +kernel
theorem dM_share_71 : decode bM_share 71 = .ok (.istore 6, 2) := by decide +kernel
theorem dM_share_73 : decode bM_share 73 = .ok (.iload 6, 2) := by decide +kernel
theorem dM_share_75 : decode bM_share 75 = .ok (.bipush 6, 2) := by decide +kernel
theorem dM_share_77 : decode bM_share 77 = .ok (.if_icmp .ge 39, 3) := by decide +kernel
theorem dM_share_80 : decode bM_share 80 = .ok (.iload_n 3, 1) := by decide +kernel
theorem dM_share_81 : decode bM_share 81 = .ok (.iload 6, 2) := by decide +kernel
theorem dM_share_83 : decode bM_share 83 = .ok (.ishr, 1) := by decide +kernel
theorem dM_share_84 : decode bM_share 84 = .ok (.iconst 1, 1) := by decide +kernel
theorem dM_share_85 : decode bM_share 85 = .ok (.iand, 1) := by decide +kernel
theorem dM_share_86 : decode bM_share 86 = .ok (.iconst 1, 1) := by decide +kernel
theorem dM_share_87 : decode bM_share 87 = .ok (.if_icmp .ne 23, 3) := by decide +kernel
theorem dM_share_90 : decode bM_share 90 = .ok (.iinc 4 1, 3) := by decide +kernel
theorem dM_share_93 : decode bM_share 93 = .ok (.iload 6, 2) := by decide +kernel
theorem dM_share_95 : decode bM_share 95 = .ok (.iload_n 1, 1) := by decide +kernel
theorem dM_share_96 : decode bM_share 96 = .ok (.if_icmp .ge 10, 3) := by decide +kernel
theorem dM_share_99 : decode bM_share 99 = .ok (.iload 5, 2) := by decide +kernel
theorem dM_share_101 : decode bM_share 101 = .ok (.iconst 1, 1) := by decide +kernel
theorem dM_share_102 : decode bM_share 102 = .ok (.iadd, 1) := by decide +kernel
theorem dM_share_103 : decode bM_share 103 = .ok (.goto 5, 3) := by decide +kernel
theorem dM_share_106 : decode bM_share 106 = .ok (.iload 5, 2) := by decide +kernel
theorem dM_share_108 : decode bM_share 108 = .ok (.istore 5, 2) := by decide +kernel
theorem dM_share_110 : decode bM_share 110 = .ok (.iinc 6 1, 3) := by decide +kernel
theorem dM_share_113 : decode bM_share 113 = .ok (.goto (-40), 3) := by decide +kernel
theorem dM_share_116 : decode bM_share 116 = .ok (.iload_n 3, 1) := by decide +kernel
theorem dM_share_117 : decode bM_share 117 = .ok (.iload_n 1, 1) := by decide +kernel
theorem dM_share_118 : decode bM_share 118 = .ok (.ishr, 1) := by decide +kernel
theorem dM_share_119 : decode bM_share 119 = .ok (.iconst 1, 1) := by decide +kernel
theorem dM_share_120 : decode bM_share 120 = .ok (.iand, 1) := by decide +kernel
theorem dM_share_121 : decode bM_share 121 = .ok (.ifCond .ne 5, 3) := by decide +kernel
theorem dM_share_124 : decode bM_share 124 = .ok (.iconst 0, 1) := by decide +kernel
theorem dM_share_125 : decode bM_share 125 = .ok (.ireturn, 1) := by decide +kernel
theorem dM_share_126 : decode bM_share 126 = .ok (.iload 5, 2) := by decide +kernel
theorem dM_share_128 : decode bM_share 128 = .ok (.iload_n 2, 1) := by decide +kernel
theorem dM_share_129 : decode bM_share 129 = .ok (.iload 4, 2) := by decide +kernel
theorem dM_share_131 : decode bM_share 131 = .ok (.irem, 1) := by decide +kernel
theorem dM_share_132 : decode bM_share 132 = .ok (.if_icmp .ge 12, 3) := by decide +kernel
theorem dM_share_135 : decode bM_share 135 = .ok (.iload_n 2, 1) := by decide +kernel
theorem dM_share_136 : decode bM_share 136 = .ok (.iload 4, 2) := by decide +kernel
theorem dM_share_138 : decode bM_share 138 = .ok (.idiv, 1) := by decide +kernel
theorem dM_share_139 : decode bM_share 139 = .ok (.iconst 1, 1) := by decide +kernel
theorem dM_share_140 : decode bM_share 140 = .ok (.iadd, 1) := by decide +kernel
theorem dM_share_141 : decode bM_share 141 = .ok (.goto 7, 3) := by decide +kernel
theorem dM_share_144 : decode bM_share 144 = .ok (.iload_n 2, 1) := by decide +kernel
theorem dM_share_145 : decode bM_share 145 = .ok (.iload 4, 2) := by decide +kernel
theorem dM_share_147 : decode bM_share 147 = .ok (.idiv, 1) := by decide +kernel
theorem dM_share_148 : decode bM_share 148 = .ok (.ireturn, 1) := by decide +kernel
abbrev bM_shuffle : ByteArray := prog_3_method_42_code
def yM_shuffle : MethodName := ⟨"HandTablesModel", "shuffle", "(I)V"⟩
theorem dM_shuffle_0 : decode bM_shuffle 0 = .ok (.aload_n 0, 1) := by decide +kernel
theorem dM_shuffle_1 : decode bM_shuffle 1 = .ok (.iconst 0, 1) := by decide +kernel
theorem dM_shuffle_2 : decode bM_shuffle 2 = .ok (.putfield 58, 3) := by decide +kernel
theorem dM_shuffle_5 : decode bM_shuffle 5 = .ok (.aload_n 0, 1) := by decide +kernel
theorem dM_shuffle_6 : decode bM_shuffle 6 = .ok (.invokevirtual 55, 3) := by decide +kernel
theorem dM_shuffle_9 : decode bM_shuffle 9 = .ok (.iload_n 1, 1) := by decide +kernel
theorem dM_shuffle_10 : decode bM_shuffle 10 = .ok (.istore_n 2, 1) := by decide +kernel
theorem dM_shuffle_11 : decode bM_shuffle 11 = .ok (.bipush 51, 2) := by decide +kernel
theorem dM_shuffle_13 : decode bM_shuffle 13 = .ok (.istore_n 3, 1) := by decide +kernel
theorem dM_shuffle_14 : decode bM_shuffle 14 = .ok (.iload_n 3, 1) := by decide +kernel
theorem dM_shuffle_15 : decode bM_shuffle 15 = .ok (.ifCond .le 61, 3) := by decide +kernel
theorem dM_shuffle_18 : decode bM_shuffle 18 = .ok (.iload_n 2, 1) := by decide +kernel
theorem dM_shuffle_19 : decode bM_shuffle 19 = .ok (.ldc 152, 2) := by decide +kernel
theorem dM_shuffle_21 : decode bM_shuffle 21 = .ok (.imul, 1) := by decide +kernel
theorem dM_shuffle_22 : decode bM_shuffle 22 = .ok (.sipush 12345, 3) := by decide +kernel
theorem dM_shuffle_25 : decode bM_shuffle 25 = .ok (.iadd, 1) := by decide +kernel
theorem dM_shuffle_26 : decode bM_shuffle 26 = .ok (.istore_n 2, 1) := by decide +kernel
theorem dM_shuffle_27 : decode bM_shuffle 27 = .ok (.iload_n 2, 1) := by decide +kernel
theorem dM_shuffle_28 : decode bM_shuffle 28 = .ok (.ldc 153, 2) := by decide +kernel
theorem dM_shuffle_30 : decode bM_shuffle 30 = .ok (.iand, 1) := by decide +kernel
theorem dM_shuffle_31 : decode bM_shuffle 31 = .ok (.bipush 8, 2) := by decide +kernel
theorem dM_shuffle_33 : decode bM_shuffle 33 = .ok (.ishr, 1) := by decide +kernel
theorem dM_shuffle_34 : decode bM_shuffle 34 = .ok (.iload_n 3, 1) := by decide +kernel
theorem dM_shuffle_35 : decode bM_shuffle 35 = .ok (.iconst 1, 1) := by decide +kernel
theorem dM_shuffle_36 : decode bM_shuffle 36 = .ok (.iadd, 1) := by decide +kernel
theorem dM_shuffle_37 : decode bM_shuffle 37 = .ok (.irem, 1) := by decide +kernel
theorem dM_shuffle_38 : decode bM_shuffle 38 = .ok (.istore 4, 2) := by decide +kernel
theorem dM_shuffle_40 : decode bM_shuffle 40 = .ok (.aload_n 0, 1) := by decide +kernel
theorem dM_shuffle_41 : decode bM_shuffle 41 = .ok (.getfield 28, 3) := by decide +kernel
theorem dM_shuffle_44 : decode bM_shuffle 44 = .ok (.iload_n 3, 1) := by decide +kernel
theorem dM_shuffle_45 : decode bM_shuffle 45 = .ok (.iaload, 1) := by decide +kernel
theorem dM_shuffle_46 : decode bM_shuffle 46 = .ok (.istore 5, 2) := by decide +kernel
theorem dM_shuffle_48 : decode bM_shuffle 48 = .ok (.aload_n 0, 1) := by decide +kernel
theorem dM_shuffle_49 : decode bM_shuffle 49 = .ok (.getfield 28, 3) := by decide +kernel
theorem dM_shuffle_52 : decode bM_shuffle 52 = .ok (.iload_n 3, 1) := by decide +kernel
theorem dM_shuffle_53 : decode bM_shuffle 53 = .ok (.aload_n 0, 1) := by decide +kernel
theorem dM_shuffle_54 : decode bM_shuffle 54 = .ok (.getfield 28, 3) := by decide +kernel
theorem dM_shuffle_57 : decode bM_shuffle 57 = .ok (.iload 4, 2) := by decide +kernel
theorem dM_shuffle_59 : decode bM_shuffle 59 = .ok (.iaload, 1) := by decide +kernel
theorem dM_shuffle_60 : decode bM_shuffle 60 = .ok (.iastore, 1) := by decide +kernel
theorem dM_shuffle_61 : decode bM_shuffle 61 = .ok (.aload_n 0, 1) := by decide +kernel
theorem dM_shuffle_62 : decode bM_shuffle 62 = .ok (.getfield 28, 3) := by decide +kernel
theorem dM_shuffle_65 : decode bM_shuffle 65 = .ok (.iload 4, 2) := by decide +kernel
theorem dM_shuffle_67 : decode bM_shuffle 67 = .ok (.iload 5, 2) := by decide +kernel
theorem dM_shuffle_69 : decode bM_shuffle 69 = .ok (.iastore, 1) := by decide +kernel
theorem dM_shuffle_70 : decode bM_shuffle 70 = .ok (.iinc 3 (-1), 3) := by decide +kernel
theorem dM_shuffle_73 : decode bM_shuffle 73 = .ok (.goto (-59), 3) := by decide +kernel
theorem dM_shuffle_76 : decode bM_shuffle 76 = .ok (.return_, 1) := by decide +kernel
abbrev bM_draw : ByteArray := prog_3_method_43_code
def yM_draw : MethodName := ⟨"HandTablesModel", "draw", "()I"⟩
theorem dM_draw_0 : decode bM_draw 0 = .ok (.aload_n 0, 1) := by decide +kernel
theorem dM_draw_1 : decode bM_draw 1 = .ok (.iconst 0, 1) := by decide +kernel
theorem dM_draw_2 : decode bM_draw 2 = .ok (.putfield 58, 3) := by decide +kernel
theorem dM_draw_5 : decode bM_draw 5 = .ok (.aload_n 0, 1) := by decide +kernel
theorem dM_draw_6 : decode bM_draw 6 = .ok (.getfield 149, 3) := by decide +kernel
theorem dM_draw_9 : decode bM_draw 9 = .ok (.bipush 52, 2) := by decide +kernel
theorem dM_draw_11 : decode bM_draw 11 = .ok (.if_icmp .ne 5, 3) := by decide +kernel
theorem dM_draw_14 : decode bM_draw 14 = .ok (.iconst (-1), 1) := by decide +kernel
theorem dM_draw_15 : decode bM_draw 15 = .ok (.ireturn, 1) := by decide +kernel
theorem dM_draw_16 : decode bM_draw 16 = .ok (.aload_n 0, 1) := by decide +kernel
theorem dM_draw_17 : decode bM_draw 17 = .ok (.dup, 1) := by decide +kernel
theorem dM_draw_18 : decode bM_draw 18 = .ok (.getfield 149, 3) := by decide +kernel
theorem dM_draw_21 : decode bM_draw 21 = .ok (.iconst 1, 1) := by decide +kernel
theorem dM_draw_22 : decode bM_draw 22 = .ok (.iadd, 1) := by decide +kernel
theorem dM_draw_23 : decode bM_draw 23 = .ok (.putfield 149, 3) := by decide +kernel
theorem dM_draw_26 : decode bM_draw 26 = .ok (.aload_n 0, 1) := by decide +kernel
theorem dM_draw_27 : decode bM_draw 27 = .ok (.getfield 28, 3) := by decide +kernel
theorem dM_draw_30 : decode bM_draw 30 = .ok (.aload_n 0, 1) := by decide +kernel
theorem dM_draw_31 : decode bM_draw 31 = .ok (.getfield 149, 3) := by decide +kernel
theorem dM_draw_34 : decode bM_draw 34 = .ok (.iconst 1, 1) := by decide +kernel
theorem dM_draw_35 : decode bM_draw 35 = .ok (.isub, 1) := by decide +kernel
theorem dM_draw_36 : decode bM_draw 36 = .ok (.iaload, 1) := by decide +kernel
theorem dM_draw_37 : decode bM_draw 37 = .ok (.ireturn, 1) := by decide +kernel
