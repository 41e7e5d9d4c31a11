/-! names of methods, their code, and a row that decodes each instruction (by program out of javap's listing) -/
abbrev bA_init : ByteArray := prog_1_method_1_code
def yA_init : MethodName := ⟨"HandTables", "<init>", "()V"⟩
theorem dA_init_0 : decode bA_init 0 = .ok (.aload_n 0, 1) := by decide +kernel
theorem dA_init_1 : decode bA_init 1 = .ok (.invokespecial 1, 3) := by decide +kernel
theorem dA_init_4 : decode bA_init 4 = .ok (.aload_n 0, 1) := by decide +kernel
theorem dA_init_5 : decode bA_init 5 = .ok (.bipush 7, 2) := by decide +kernel
theorem dA_init_7 : decode bA_init 7 = .ok (.newarray .long, 2) := by decide +kernel
theorem dA_init_9 : decode bA_init 9 = .ok (.putfield 9, 3) := by decide +kernel
theorem dA_init_12 : decode bA_init 12 = .ok (.aload_n 0, 1) := by decide +kernel
theorem dA_init_13 : decode bA_init 13 = .ok (.bipush 52, 2) := by decide +kernel
theorem dA_init_15 : decode bA_init 15 = .ok (.newarray .int, 2) := by decide +kernel
theorem dA_init_17 : decode bA_init 17 = .ok (.putfield 13, 3) := by decide +kernel
theorem dA_init_20 : decode bA_init 20 = .ok (.aload_n 0, 1) := by decide +kernel
theorem dA_init_21 : decode bA_init 21 = .ok (.invokevirtual 17, 3) := by decide +kernel
theorem dA_init_24 : decode bA_init 24 = .ok (.return_, 1) := by decide +kernel
abbrev bA_sortDeck : ByteArray := prog_1_method_34_code
def yA_sortDeck : MethodName := ⟨"HandTables", "sortDeck", "()V"⟩
theorem dA_sortDeck_0 : decode bA_sortDeck 0 = .ok (.iconst 0, 1) := by decide +kernel
theorem dA_sortDeck_1 : decode bA_sortDeck 1 = .ok (.istore_n 1, 1) := by decide +kernel
theorem dA_sortDeck_2 : decode bA_sortDeck 2 = .ok (.iload_n 1, 1) := by decide +kernel
theorem dA_sortDeck_3 : decode bA_sortDeck 3 = .ok (.bipush 52, 2) := by decide +kernel
theorem dA_sortDeck_5 : decode bA_sortDeck 5 = .ok (.if_icmp .ge 16, 3) := by decide +kernel
theorem dA_sortDeck_8 : decode bA_sortDeck 8 = .ok (.aload_n 0, 1) := by decide +kernel
theorem dA_sortDeck_9 : decode bA_sortDeck 9 = .ok (.getfield 13, 3) := by decide +kernel
theorem dA_sortDeck_12 : decode bA_sortDeck 12 = .ok (.iload_n 1, 1) := by decide +kernel
theorem dA_sortDeck_13 : decode bA_sortDeck 13 = .ok (.iload_n 1, 1) := by decide +kernel
theorem dA_sortDeck_14 : decode bA_sortDeck 14 = .ok (.iastore, 1) := by decide +kernel
theorem dA_sortDeck_15 : decode bA_sortDeck 15 = .ok (.iinc 1 1, 3) := by decide +kernel
theorem dA_sortDeck_18 : decode bA_sortDeck 18 = .ok (.goto (-16), 3) := by decide +kernel
theorem dA_sortDeck_21 : decode bA_sortDeck 21 = .ok (.aload_n 0, 1) := by decide +kernel
theorem dA_sortDeck_22 : decode bA_sortDeck 22 = .ok (.iconst 0, 1) := by decide +kernel
theorem dA_sortDeck_23 : decode bA_sortDeck 23 = .ok (.putfield 117, 3) := by decide +kernel
theorem dA_sortDeck_26 : decode bA_sortDeck 26 = .ok (.return_, 1) := by decide +kernel
abbrev bA_clear : ByteArray := prog_1_method_11_code
def yA_clear : MethodName := ⟨"HandTables", "clear", "()I"⟩
theorem dA_clear_0 : decode bA_clear 0 = .ok (.aload_n 0, 1) := by decide +kernel
theorem dA_clear_1 : decode bA_clear 1 = .ok (.invokevirtual 73, 3) := by decide +kernel
theorem dA_clear_4 : decode bA_clear 4 = .ok (.istore_n 1, 1) := by decide +kernel
theorem dA_clear_5 : decode bA_clear 5 = .ok (.aload_n 0, 1) := by decide +kernel
theorem dA_clear_6 : decode bA_clear 6 = .ok (.getfield 9, 3) := by decide +kernel
theorem dA_clear_9 : decode bA_clear 9 = .ok (.bipush 6, 2) := by decide +kernel
theorem dA_clear_11 : decode bA_clear 11 = .ok (.lconst 0, 1) := by decide +kernel
theorem dA_clear_12 : decode bA_clear 12 = .ok (.lastore, 1) := by decide +kernel
theorem dA_clear_13 : decode bA_clear 13 = .ok (.iload_n 1, 1) := by decide +kernel
theorem dA_clear_14 : decode bA_clear 14 = .ok (.ireturn, 1) := by decide +kernel
abbrev bA_boardSize : ByteArray := prog_1_method_27_code
def yA_boardSize : MethodName := ⟨"HandTables", "boardSize", "()I"⟩
theorem dA_boardSize_0 : decode bA_boardSize 0 = .ok (.aload_n 0, 1) := by decide +kernel
theorem dA_boardSize_1 : decode bA_boardSize 1 = .ok (.getfield 9, 3) := by decide +kernel
theorem dA_boardSize_4 : decode bA_boardSize 4 = .ok (.bipush 6, 2) := by decide +kernel
theorem dA_boardSize_6 : decode bA_boardSize 6 = .ok (.laload, 1) := by decide +kernel
theorem dA_boardSize_7 : decode bA_boardSize 7 = .ok (.invokestatic 94, 3) := by decide +kernel
theorem dA_boardSize_10 : decode bA_boardSize 10 = .ok (.ireturn, 1) := by decide +kernel
abbrev bJ_bitCount : ByteArray := prog_9_method_50_code
def yJ_bitCount : MethodName := ⟨"java/lang/Long", "bitCount", "(J)I"⟩
theorem dJ_bitCount_0 : decode bJ_bitCount 0 = .ok (.lload_n 0, 1) := by decide +kernel
theorem dJ_bitCount_1 : decode bJ_bitCount 1 = .ok (.lload_n 0, 1) := by decide +kernel
theorem dJ_bitCount_2 : decode bJ_bitCount 2 = .ok (.iconst 1, 1) := by decide +kernel
theorem dJ_bitCount_3 : decode bJ_bitCount 3 = .ok (.lushr, 1) := by decide +kernel
theorem dJ_bitCount_4 : decode bJ_bitCount 4 = .ok (.ldc2_w 314, 3) := by decide +kernel
theorem dJ_bitCount_7 : decode bJ_bitCount 7 = .ok (.land, 1) := by decide +kernel
theorem dJ_bitCount_8 : decode bJ_bitCount 8 = .ok (.lsub, 1) := by decide +kernel
theorem dJ_bitCount_9 : decode bJ_bitCount 9 = .ok (.lstore_n 0, 1) := by decide +kernel
theorem dJ_bitCount_10 : decode bJ_bitCount 10 = .ok (.lload_n 0, 1) := by decide +kernel
theorem dJ_bitCount_11 : decode bJ_bitCount 11 = .ok (.ldc2_w 316, 3) := by decide +kernel
theorem dJ_bitCount_14 : decode bJ_bitCount 14 = .ok (.land, 1) := by decide +kernel
theorem dJ_bitCount_15 : decode bJ_bitCount 15 = .ok (.lload_n 0, 1) := by decide +kernel
theorem dJ_bitCount_16 : decode bJ_bitCount 16 = .ok (.iconst 2, 1) := by decide +kernel
theorem dJ_bitCount_17 : decode bJ_bitCount 17 = .ok (.lushr, 1) := by decide +kernel
theorem dJ_bitCount_18 : decode bJ_bitCount 18 = .ok (.ldc2_w 316, 3) := by decide +kernel
theorem dJ_bitCount_21 : decode bJ_bitCount 21 = .ok (.land, 1) := by decide +kernel
theorem dJ_bitCount_22 : decode bJ_bitCount 22 = .ok (.ladd, 1) := by decide +kernel
theorem dJ_bitCount_23 : decode bJ_bitCount 23 = .ok (.lstore_n 0, 1) := by decide +kernel
theorem dJ_bitCount_24 : decode bJ_bitCount 24 = .ok (.lload_n 0, 1) := by decide +kernel
theorem dJ_bitCount_25 : decode bJ_bitCount 25 = .ok (.lload_n 0, 1) := by decide +kernel
theorem dJ_bitCount_26 : decode bJ_bitCount 26 = .ok (.iconst 4, 1) := by decide +kernel
theorem dJ_bitCount_27 : decode bJ_bitCount 27 = .ok (.lushr, 1) := by decide +kernel
theorem dJ_bitCount_28 : decode bJ_bitCount 28 = .ok (.ladd, 1) := by decide +kernel
theorem dJ_bitCount_29 : decode bJ_bitCount 29 = .ok (.ldc2_w 318, 3) := by decide +kernel
theorem dJ_bitCount_32 : decode bJ_bitCount 32 = .ok (.land, 1) := by decide +kernel
theorem dJ_bitCount_33 : decode bJ_bitCount 33 = .ok (.lstore_n 0, 1) := by decide +kernel
theorem dJ_bitCount_34 : decode bJ_bitCount 34 = .ok (.lload_n 0, 1) := by decide +kernel
theorem dJ_bitCount_35 : decode bJ_bitCount 35 = .ok (.lload_n 0, 1) := by decide +kernel
theorem dJ_bitCount_36 : decode bJ_bitCount 36 = .ok (.bipush 8, 2) := by decide +kernel
theorem dJ_bitCount_38 : decode bJ_bitCount 38 = .ok (.lushr, 1) := by decide +kernel
theorem dJ_bitCount_39 : decode bJ_bitCount 39 = .ok (.ladd, 1) := by decide +kernel
theorem dJ_bitCount_40 : decode bJ_bitCount 40 = .ok (.lstore_n 0, 1) := by decide +kernel
theorem dJ_bitCount_41 : decode bJ_bitCount 41 = .ok (.lload_n 0, 1) := by decide +kernel
theorem dJ_bitCount_42 : decode bJ_bitCount 42 = .ok (.lload_n 0, 1) := by decide +kernel
theorem dJ_bitCount_43 : decode bJ_bitCount 43 = .ok (.bipush 16, 2) := by decide +kernel
theorem dJ_bitCount_45 : decode bJ_bitCount 45 = .ok (.lushr, 1) := by decide +kernel
theorem dJ_bitCount_46 : decode bJ_bitCount 46 = .ok (.ladd, 1) := by decide +kernel
theorem dJ_bitCount_47 : decode bJ_bitCount 47 = .ok (.lstore_n 0, 1) := by decide +kernel
theorem dJ_bitCount_48 : decode bJ_bitCount 48 = .ok (.lload_n 0, 1) := by decide +kernel
theorem dJ_bitCount_49 : decode bJ_bitCount 49 = .ok (.lload_n 0, 1) := by decide +kernel
theorem dJ_bitCount_50 : decode bJ_bitCount 50 = .ok (.bipush 32, 2) := by decide +kernel
theorem dJ_bitCount_52 : decode bJ_bitCount 52 = .ok (.lushr, 1) := by decide +kernel
theorem dJ_bitCount_53 : decode bJ_bitCount 53 = .ok (.ladd, 1) := by decide +kernel
theorem dJ_bitCount_54 : decode bJ_bitCount 54 = .ok (.lstore_n 0, 1) := by decide +kernel
theorem dJ_bitCount_55 : decode bJ_bitCount 55 = .ok (.lload_n 0, 1) := by decide +kernel
theorem dJ_bitCount_56 : decode bJ_bitCount 56 = .ok (.l2i, 1) := by decide +kernel
theorem dJ_bitCount_57 : decode bJ_bitCount 57 = .ok (.bipush 127, 2) := by decide +kernel
theorem dJ_bitCount_59 : decode bJ_bitCount 59 = .ok (.iand, 1) := by decide +kernel
theorem dJ_bitCount_60 : decode bJ_bitCount 60 = .ok (.ireturn, 1) := by decide +kernel
abbrev bA_shuffle : ByteArray := prog_1_method_19_code
def yA_shuffle : MethodName := ⟨"HandTables", "shuffle", "(I)V"⟩
theorem dA_shuffle_0 : decode bA_shuffle 0 = .ok (.aload_n 0, 1) := by decide +kernel
theorem dA_shuffle_1 : decode bA_shuffle 1 = .ok (.invokevirtual 17, 3) := by decide +kernel
theorem dA_shuffle_4 : decode bA_shuffle 4 = .ok (.iload_n 1, 1) := by decide +kernel
theorem dA_shuffle_5 : decode bA_shuffle 5 = .ok (.istore_n 2, 1) := by decide +kernel
theorem dA_shuffle_6 : decode bA_shuffle 6 = .ok (.bipush 51, 2) := by decide +kernel
theorem dA_shuffle_8 : decode bA_shuffle 8 = .ok (.istore_n 3, 1) := by decide +kernel
theorem dA_shuffle_9 : decode bA_shuffle 9 = .ok (.iload_n 3, 1) := by decide +kernel
theorem dA_shuffle_10 : decode bA_shuffle 10 = .ok (.iconst 1, 1) := by decide +kernel
theorem dA_shuffle_11 : decode bA_shuffle 11 = .ok (.if_icmp .lt 61, 3) := by decide +kernel
theorem dA_shuffle_14 : decode bA_shuffle 14 = .ok (.iload_n 2, 1) := by decide +kernel
theorem dA_shuffle_15 : decode bA_shuffle 15 = .ok (.ldc 115, 2) := by decide +kernel
theorem dA_shuffle_17 : decode bA_shuffle 17 = .ok (.imul, 1) := by decide +kernel
theorem dA_shuffle_18 : decode bA_shuffle 18 = .ok (.sipush 12345, 3) := by decide +kernel
theorem dA_shuffle_21 : decode bA_shuffle 21 = .ok (.iadd, 1) := by decide +kernel
theorem dA_shuffle_22 : decode bA_shuffle 22 = .ok (.istore_n 2, 1) := by decide +kernel
theorem dA_shuffle_23 : decode bA_shuffle 23 = .ok (.iload_n 2, 1) := by decide +kernel
theorem dA_shuffle_24 : decode bA_shuffle 24 = .ok (.ldc 116, 2) := by decide +kernel
theorem dA_shuffle_26 : decode bA_shuffle 26 = .ok (.iand, 1) := by decide +kernel
theorem dA_shuffle_27 : decode bA_shuffle 27 = .ok (.bipush 8, 2) := by decide +kernel
theorem dA_shuffle_29 : decode bA_shuffle 29 = .ok (.ishr, 1) := by decide +kernel
theorem dA_shuffle_30 : decode bA_shuffle 30 = .ok (.iload_n 3, 1) := by decide +kernel
theorem dA_shuffle_31 : decode bA_shuffle 31 = .ok (.iconst 1, 1) := by decide +kernel
theorem dA_shuffle_32 : decode bA_shuffle 32 = .ok (.iadd, 1) := by decide +kernel
theorem dA_shuffle_33 : decode bA_shuffle 33 = .ok (.irem, 1) := by decide +kernel
theorem dA_shuffle_34 : decode bA_shuffle 34 = .ok (.istore 4, 2) := by decide +kernel
theorem dA_shuffle_36 : decode bA_shuffle 36 = .ok (.aload_n 0, 1) := by decide +kernel
theorem dA_shuffle_37 : decode bA_shuffle 37 = .ok (.getfield 13, 3) := by decide +kernel
theorem dA_shuffle_40 : decode bA_shuffle 40 = .ok (.iload_n 3, 1) := by decide +kernel
theorem dA_shuffle_41 : decode bA_shuffle 41 = .ok (.iaload, 1) := by decide +kernel
theorem dA_shuffle_42 : decode bA_shuffle 42 = .ok (.istore 5, 2) := by decide +kernel
theorem dA_shuffle_44 : decode bA_shuffle 44 = .ok (.aload_n 0, 1) := by decide +kernel
theorem dA_shuffle_45 : decode bA_shuffle 45 = .ok (.getfield 13, 3) := by decide +kernel
theorem dA_shuffle_48 : decode bA_shuffle 48 = .ok (.iload_n 3, 1) := by decide +kernel
theorem dA_shuffle_49 : decode bA_shuffle 49 = .ok (.aload_n 0, 1) := by decide +kernel
theorem dA_shuffle_50 : decode bA_shuffle 50 = .ok (.getfield 13, 3) := by decide +kernel
theorem dA_shuffle_53 : decode bA_shuffle 53 = .ok (.iload 4, 2) := by decide +kernel
theorem dA_shuffle_55 : decode bA_shuffle 55 = .ok (.iaload, 1) := by decide +kernel
theorem dA_shuffle_56 : decode bA_shuffle 56 = .ok (.iastore, 1) := by decide +kernel
theorem dA_shuffle_57 : decode bA_shuffle 57 = .ok (.aload_n 0, 1) := by decide +kernel
theorem dA_shuffle_58 : decode bA_shuffle 58 = .ok (.getfield 13, 3) := by decide +kernel
theorem dA_shuffle_61 : decode bA_shuffle 61 = .ok (.iload 4, 2) := by decide +kernel
theorem dA_shuffle_63 : decode bA_shuffle 63 = .ok (.iload 5, 2) := by decide +kernel
theorem dA_shuffle_65 : decode bA_shuffle 65 = .ok (.iastore, 1) := by decide +kernel
theorem dA_shuffle_66 : decode bA_shuffle 66 = .ok (.iinc 3 (-1), 3) := by decide +kernel
theorem dA_shuffle_69 : decode bA_shuffle 69 = .ok (.goto (-60), 3) := by decide +kernel
theorem dA_shuffle_72 : decode bA_shuffle 72 = .ok (.return_, 1) := by decide +kernel
abbrev bA_draw : ByteArray := prog_1_method_20_code
def yA_draw : MethodName := ⟨"HandTables", "draw", "()I"⟩
theorem dA_draw_0 : decode bA_draw 0 = .ok (.aload_n 0, 1) := by decide +kernel
theorem dA_draw_1 : decode bA_draw 1 = .ok (.getfield 117, 3) := by decide +kernel
theorem dA_draw_4 : decode bA_draw 4 = .ok (.bipush 52, 2) := by decide +kernel
theorem dA_draw_6 : decode bA_draw 6 = .ok (.if_icmp .lt 5, 3) := by decide +kernel
theorem dA_draw_9 : decode bA_draw 9 = .ok (.iconst (-1), 1) := by decide +kernel
theorem dA_draw_10 : decode bA_draw 10 = .ok (.ireturn, 1) := by decide +kernel
theorem dA_draw_11 : decode bA_draw 11 = .ok (.aload_n 0, 1) := by decide +kernel
theorem dA_draw_12 : decode bA_draw 12 = .ok (.getfield 13, 3) := by decide +kernel
theorem dA_draw_15 : decode bA_draw 15 = .ok (.aload_n 0, 1) := by decide +kernel
theorem dA_draw_16 : decode bA_draw 16 = .ok (.getfield 117, 3) := by decide +kernel
theorem dA_draw_19 : decode bA_draw 19 = .ok (.iaload, 1) := by decide +kernel
theorem dA_draw_20 : decode bA_draw 20 = .ok (.istore_n 1, 1) := by decide +kernel
theorem dA_draw_21 : decode bA_draw 21 = .ok (.aload_n 0, 1) := by decide +kernel
theorem dA_draw_22 : decode bA_draw 22 = .ok (.dup, 1) := by decide +kernel
theorem dA_draw_23 : decode bA_draw 23 = .ok (.getfield 117, 3) := by decide +kernel
theorem dA_draw_26 : decode bA_draw 26 = .ok (.iconst 1, 1) := by decide +kernel
theorem dA_draw_27 : decode bA_draw 27 = .ok (.iadd, 1) := by decide +kernel
theorem dA_draw_28 : decode bA_draw 28 = .ok (.putfield 117, 3) := by decide +kernel
theorem dA_draw_31 : decode bA_draw 31 = .ok (.iload_n 1, 1) := by decide +kernel
theorem dA_draw_32 : decode bA_draw 32 = .ok (.ireturn, 1) := by decide +kernel
abbrev bA_value : ByteArray := prog_1_method_2_code
def yA_value : MethodName := ⟨"HandTables", "value", "(J)I"⟩
theorem dA_value_0 : decode bA_value 0 = .ok (.lload_n 1, 1) := by decide +kernel
theorem dA_value_1 : decode bA_value 1 = .ok (.invokestatic 20, 3) := by decide +kernel
theorem dA_value_4 : decode bA_value 4 = .ok (.lload_n 1, 1) := by decide +kernel
theorem dA_value_5 : decode bA_value 5 = .ok (.invokestatic 24, 3) := by decide +kernel
theorem dA_value_8 : decode bA_value 8 = .ok (.ireturn, 1) := by decide +kernel
abbrev bA_requireHand : ByteArray := prog_1_method_21_code
def yA_requireHand : MethodName := ⟨"HandTables", "requireHand", "(J)V"⟩
theorem dA_requireHand_0 : decode bA_requireHand 0 = .ok (.lload_n 0, 1) := by decide +kernel
theorem dA_requireHand_1 : decode bA_requireHand 1 = .ok (.invokestatic 94, 3) := by decide +kernel
theorem dA_requireHand_4 : decode bA_requireHand 4 = .ok (.istore_n 2, 1) := by decide +kernel
theorem dA_requireHand_5 : decode bA_requireHand 5 = .ok (.iload_n 2, 1) := by decide +kernel
theorem dA_requireHand_6 : decode bA_requireHand 6 = .ok (.iconst 5, 1) := by decide +kernel
theorem dA_requireHand_7 : decode bA_requireHand 7 = .ok (.if_icmp .lt 19, 3) := by decide +kernel
theorem dA_requireHand_10 : decode bA_requireHand 10 = .ok (.iload_n 2, 1) := by decide +kernel
theorem dA_requireHand_11 : decode bA_requireHand 11 = .ok (.bipush 7, 2) := by decide +kernel
theorem dA_requireHand_13 : decode bA_requireHand 13 = .ok (.if_icmp .gt 13, 3) := by decide +kernel
theorem dA_requireHand_16 : decode bA_requireHand 16 = .ok (.lload_n 0, 1) := by decide +kernel
theorem dA_requireHand_17 : decode bA_requireHand 17 = .ok (.ldc2_w 121, 3) := by decide +kernel
theorem dA_requireHand_20 : decode bA_requireHand 20 = .ok (.land, 1) := by decide +kernel
theorem dA_requireHand_21 : decode bA_requireHand 21 = .ok (.lconst 0, 1) := by decide +kernel
theorem dA_requireHand_22 : decode bA_requireHand 22 = .ok (.lcmp, 1) := by decide +kernel
theorem dA_requireHand_23 : decode bA_requireHand 23 = .ok (.ifCond .eq 13, 3) := by decide +kernel
theorem dA_requireHand_26 : decode bA_requireHand 26 = .ok (.new 50, 3) := by decide +kernel
theorem dA_requireHand_29 : decode bA_requireHand 29 = .ok (.dup, 1) := by decide +kernel
theorem dA_requireHand_30 : decode bA_requireHand 30 = .ok (.ldc 123, 2) := by decide +kernel
theorem dA_requireHand_32 : decode bA_requireHand 32 = .ok (.invokespecial 54, 3) := by decide +kernel
theorem dA_requireHand_35 : decode bA_requireHand 35 = .ok (.athrow, 1) := by decide +kernel
theorem dA_requireHand_36 : decode bA_requireHand 36 = .ok (.return_, 1) := by decide +kernel
abbrev bA_valueOf : ByteArray := prog_1_method_37_code
def yA_valueOf : MethodName := ⟨"HandTables", "valueOf", "(J)I"⟩
theorem dA_valueOf_0 : decode bA_valueOf 0 = .ok (.lload_n 0, 1) := by decide +kernel
theorem dA_valueOf_1 : decode bA_valueOf 1 = .ok (.invokestatic 144, 3) := by decide +kernel
theorem dA_valueOf_4 : decode bA_valueOf 4 = .ok (.lstore_n 2, 1) := by decide +kernel
theorem dA_valueOf_5 : decode bA_valueOf 5 = .ok (.lload_n 2, 1) := by decide +kernel
theorem dA_valueOf_6 : decode bA_valueOf 6 = .ok (.invokestatic 148, 3) := by decide +kernel
theorem dA_valueOf_9 : decode bA_valueOf 9 = .ok (.lstore 4, 2) := by decide +kernel
theorem dA_valueOf_11 : decode bA_valueOf 11 = .ok (.lload 4, 2) := by decide +kernel
theorem dA_valueOf_13 : decode bA_valueOf 13 = .ok (.lconst 0, 1) := by decide +kernel
theorem dA_valueOf_14 : decode bA_valueOf 14 = .ok (.lcmp, 1) := by decide +kernel
theorem dA_valueOf_15 : decode bA_valueOf 15 = .ok (.ifCond .eq 16, 3) := by decide +kernel
theorem dA_valueOf_18 : decode bA_valueOf 18 = .ok (.getstatic 40, 3) := by decide +kernel
theorem dA_valueOf_21 : decode bA_valueOf 21 = .ok (.bipush 8, 2) := by decide +kernel
theorem dA_valueOf_23 : decode bA_valueOf 23 = .ok (.iaload, 1) := by decide +kernel
theorem dA_valueOf_24 : decode bA_valueOf 24 = .ok (.lload 4, 2) := by decide +kernel
theorem dA_valueOf_26 : decode bA_valueOf 26 = .ok (.invokestatic 151, 3) := by decide +kernel
theorem dA_valueOf_29 : decode bA_valueOf 29 = .ok (.iadd, 1) := by decide +kernel
theorem dA_valueOf_30 : decode bA_valueOf 30 = .ok (.ireturn, 1) := by decide +kernel
theorem dA_valueOf_31 : decode bA_valueOf 31 = .ok (.lload_n 0, 1) := by decide +kernel
theorem dA_valueOf_32 : decode bA_valueOf 32 = .ok (.ldc2_w 154, 3) := by decide +kernel
theorem dA_valueOf_35 : decode bA_valueOf 35 = .ok (.land, 1) := by decide +kernel
theorem dA_valueOf_36 : decode bA_valueOf 36 = .ok (.lstore 6, 2) := by decide +kernel
theorem dA_valueOf_38 : decode bA_valueOf 38 = .ok (.lload_n 0, 1) := by decide +kernel
theorem dA_valueOf_39 : decode bA_valueOf 39 = .ok (.iconst 1, 1) := by decide +kernel
theorem dA_valueOf_40 : decode bA_valueOf 40 = .ok (.lushr, 1) := by decide +kernel
theorem dA_valueOf_41 : decode bA_valueOf 41 = .ok (.ldc2_w 154, 3) := by decide +kernel
theorem dA_valueOf_44 : decode bA_valueOf 44 = .ok (.land, 1) := by decide +kernel
theorem dA_valueOf_45 : decode bA_valueOf 45 = .ok (.lstore 8, 2) := by decide +kernel
theorem dA_valueOf_47 : decode bA_valueOf 47 = .ok (.lload_n 0, 1) := by decide +kernel
theorem dA_valueOf_48 : decode bA_valueOf 48 = .ok (.iconst 2, 1) := by decide +kernel
theorem dA_valueOf_49 : decode bA_valueOf 49 = .ok (.lushr, 1) := by decide +kernel
theorem dA_valueOf_50 : decode bA_valueOf 50 = .ok (.ldc2_w 154, 3) := by decide +kernel
theorem dA_valueOf_53 : decode bA_valueOf 53 = .ok (.land, 1) := by decide +kernel
theorem dA_valueOf_54 : decode bA_valueOf 54 = .ok (.lstore 10, 2) := by decide +kernel
theorem dA_valueOf_56 : decode bA_valueOf 56 = .ok (.lload_n 0, 1) := by decide +kernel
theorem dA_valueOf_57 : decode bA_valueOf 57 = .ok (.iconst 3, 1) := by decide +kernel
theorem dA_valueOf_58 : decode bA_valueOf 58 = .ok (.lushr, 1) := by decide +kernel
theorem dA_valueOf_59 : decode bA_valueOf 59 = .ok (.ldc2_w 154, 3) := by decide +kernel
theorem dA_valueOf_62 : decode bA_valueOf 62 = .ok (.land, 1) := by decide +kernel
theorem dA_valueOf_63 : decode bA_valueOf 63 = .ok (.lstore 12, 2) := by decide +kernel
theorem dA_valueOf_65 : decode bA_valueOf 65 = .ok (.lload 6, 2) := by decide +kernel
theorem dA_valueOf_67 : decode bA_valueOf 67 = .ok (.lload 8, 2) := by decide +kernel
theorem dA_valueOf_69 : decode bA_valueOf 69 = .ok (.lor, 1) := by decide +kernel
theorem dA_valueOf_70 : decode bA_valueOf 70 = .ok (.lload 10, 2) := by decide +kernel
theorem dA_valueOf_72 : decode bA_valueOf 72 = .ok (.lor, 1) := by decide +kernel
theorem dA_valueOf_73 : decode bA_valueOf 73 = .ok (.lload 12, 2) := by decide +kernel
theorem dA_valueOf_75 : decode bA_valueOf 75 = .ok (.lor, 1) := by decide +kernel
theorem dA_valueOf_76 : decode bA_valueOf 76 = .ok (.lstore 14, 2) := by decide +kernel
theorem dA_valueOf_78 : decode bA_valueOf 78 = .ok (.lload 6, 2) := by decide +kernel
theorem dA_valueOf_80 : decode bA_valueOf 80 = .ok (.lload 8, 2) := by decide +kernel
theorem dA_valueOf_82 : decode bA_valueOf 82 = .ok (.land, 1) := by decide +kernel
theorem dA_valueOf_83 : decode bA_valueOf 83 = .ok (.lload 10, 2) := by decide +kernel
theorem dA_valueOf_85 : decode bA_valueOf 85 = .ok (.lload 12, 2) := by decide +kernel
theorem dA_valueOf_87 : decode bA_valueOf 87 = .ok (.land, 1) := by decide +kernel
theorem dA_valueOf_88 : decode bA_valueOf 88 = .ok (.lor, 1) := by decide +kernel
theorem dA_valueOf_89 : decode bA_valueOf 89 = .ok (.lload 6, 2) := by decide +kernel
theorem dA_valueOf_91 : decode bA_valueOf 91 = .ok (.lload 8, 2) := by decide +kernel
theorem dA_valueOf_93 : decode bA_valueOf 93 = .ok (.lor, 1) := by decide +kernel
theorem dA_valueOf_94 : decode bA_valueOf 94 = .ok (.lload 10, 2) := by decide +kernel
theorem dA_valueOf_96 : decode bA_valueOf 96 = .ok (.lload 12, 2) := by decide +kernel
theorem dA_valueOf_98 : decode bA_valueOf 98 = .ok (.lor, 1) := by decide +kernel
theorem dA_valueOf_99 : decode bA_valueOf 99 = .ok (.land, 1) := by decide +kernel
theorem dA_valueOf_100 : decode bA_valueOf 100 = .ok (.lor, 1) := by decide +kernel
theorem dA_valueOf_101 : decode bA_valueOf 101 = .ok (.lstore 16, 2) := by decide +kernel
theorem dA_valueOf_103 : decode bA_valueOf 103 = .ok (.lload 6, 2) := by decide +kernel
theorem dA_valueOf_105 : decode bA_valueOf 105 = .ok (.lload 8, 2) := by decide +kernel
theorem dA_valueOf_107 : decode bA_valueOf 107 = .ok (.land, 1) := by decide +kernel
theorem dA_valueOf_108 : decode bA_valueOf 108 = .ok (.lload 10, 2) := by decide +kernel
theorem dA_valueOf_110 : decode bA_valueOf 110 = .ok (.lload 12, 2) := by decide +kernel
theorem dA_valueOf_112 : decode bA_valueOf 112 = .ok (.lor, 1) := by decide +kernel
theorem dA_valueOf_113 : decode bA_valueOf 113 = .ok (.land, 1) := by decide +kernel
theorem dA_valueOf_114 : decode bA_valueOf 114 = .ok (.lload 10, 2) := by decide +kernel
theorem dA_valueOf_116 : decode bA_valueOf 116 = .ok (.lload 12, 2) := by decide +kernel
theorem dA_valueOf_118 : decode bA_valueOf 118 = .ok (.land, 1) := by decide +kernel
theorem dA_valueOf_119 : decode bA_valueOf 119 = .ok (.lload 6, 2) := by decide +kernel
theorem dA_valueOf_121 : decode bA_valueOf 121 = .ok (.lload 8, 2) := by decide +kernel
theorem dA_valueOf_123 : decode bA_valueOf 123 = .ok (.lor, 1) := by decide +kernel
theorem dA_valueOf_124 : decode bA_valueOf 124 = .ok (.land, 1) := by decide +kernel
theorem dA_valueOf_125 : decode bA_valueOf 125 = .ok (.lor, 1) := by decide +kernel
theorem dA_valueOf_126 : decode bA_valueOf 126 = .ok (.lstore 18, 2) := by decide +kernel
theorem dA_valueOf_128 : decode bA_valueOf 128 = .ok (.lload 6, 2) := by decide +kernel
theorem dA_valueOf_130 : decode bA_valueOf 130 = .ok (.lload 8, 2) := by decide +kernel
theorem dA_valueOf_132 : decode bA_valueOf 132 = .ok (.land, 1) := by decide +kernel
theorem dA_valueOf_133 : decode bA_valueOf 133 = .ok (.lload 10, 2) := by decide +kernel
theorem dA_valueOf_135 : decode bA_valueOf 135 = .ok (.land, 1) := by decide +kernel
theorem dA_valueOf_136 : decode bA_valueOf 136 = .ok (.lload 12, 2) := by decide +kernel
theorem dA_valueOf_138 : decode bA_valueOf 138 = .ok (.land, 1) := by decide +kernel
theorem dA_valueOf_139 : decode bA_valueOf 139 = .ok (.lstore 20, 2) := by decide +kernel
theorem dA_valueOf_141 : decode bA_valueOf 141 = .ok (.lload 20, 2) := by decide +kernel
theorem dA_valueOf_143 : decode bA_valueOf 143 = .ok (.lconst 0, 1) := by decide +kernel
theorem dA_valueOf_144 : decode bA_valueOf 144 = .ok (.lcmp, 1) := by decide +kernel
theorem dA_valueOf_145 : decode bA_valueOf 145 = .ok (.ifCond .eq 35, 3) := by decide +kernel
theorem dA_valueOf_148 : decode bA_valueOf 148 = .ok (.lload 20, 2) := by decide +kernel
theorem dA_valueOf_150 : decode bA_valueOf 150 = .ok (.invokestatic 151, 3) := by decide +kernel
theorem dA_valueOf_153 : decode bA_valueOf 153 = .ok (.istore 22, 2) := by decide +kernel
theorem dA_valueOf_155 : decode bA_valueOf 155 = .ok (.getstatic 40, 3) := by decide +kernel
theorem dA_valueOf_158 : decode bA_valueOf 158 = .ok (.bipush 7, 2) := by decide +kernel
theorem dA_valueOf_160 : decode bA_valueOf 160 = .ok (.iaload, 1) := by decide +kernel
theorem dA_valueOf_161 : decode bA_valueOf 161 = .ok (.iload 22, 2) := by decide +kernel
theorem dA_valueOf_163 : decode bA_valueOf 163 = .ok (.bipush 12, 2) := by decide +kernel
theorem dA_valueOf_165 : decode bA_valueOf 165 = .ok (.imul, 1) := by decide +kernel
theorem dA_valueOf_166 : decode bA_valueOf 166 = .ok (.iadd, 1) := by decide +kernel
theorem dA_valueOf_167 : decode bA_valueOf 167 = .ok (.lload 14, 2) := by decide +kernel
theorem dA_valueOf_169 : decode bA_valueOf 169 = .ok (.iload 22, 2) := by decide +kernel
theorem dA_valueOf_171 : decode bA_valueOf 171 = .ok (.invokestatic 156, 3) := by decide +kernel
theorem dA_valueOf_174 : decode bA_valueOf 174 = .ok (.iconst 1, 1) := by decide +kernel
theorem dA_valueOf_175 : decode bA_valueOf 175 = .ok (.invokestatic 160, 3) := by decide +kernel
theorem dA_valueOf_178 : decode bA_valueOf 178 = .ok (.iadd, 1) := by decide +kernel
theorem dA_valueOf_179 : decode bA_valueOf 179 = .ok (.ireturn, 1) := by decide +kernel
theorem dA_valueOf_180 : decode bA_valueOf 180 = .ok (.lload 18, 2) := by decide +kernel
theorem dA_valueOf_182 : decode bA_valueOf 182 = .ok (.invokestatic 151, 3) := by decide +kernel
theorem dA_valueOf_185 : decode bA_valueOf 185 = .ok (.istore 22, 2) := by decide +kernel
theorem dA_valueOf_187 : decode bA_valueOf 187 = .ok (.lload 18, 2) := by decide +kernel
theorem dA_valueOf_189 : decode bA_valueOf 189 = .ok (.lconst 0, 1) := by decide +kernel
theorem dA_valueOf_190 : decode bA_valueOf 190 = .ok (.lcmp, 1) := by decide +kernel
theorem dA_valueOf_191 : decode bA_valueOf 191 = .ok (.ifCond .eq 40, 3) := by decide +kernel
theorem dA_valueOf_194 : decode bA_valueOf 194 = .ok (.lload 16, 2) := by decide +kernel
theorem dA_valueOf_196 : decode bA_valueOf 196 = .ok (.iload 22, 2) := by decide +kernel
theorem dA_valueOf_198 : decode bA_valueOf 198 = .ok (.invokestatic 156, 3) := by decide +kernel
theorem dA_valueOf_201 : decode bA_valueOf 201 = .ok (.lconst 0, 1) := by decide +kernel
theorem dA_valueOf_202 : decode bA_valueOf 202 = .ok (.lcmp, 1) := by decide +kernel
theorem dA_valueOf_203 : decode bA_valueOf 203 = .ok (.ifCond .eq 28, 3) := by decide +kernel
theorem dA_valueOf_206 : decode bA_valueOf 206 = .ok (.getstatic 40, 3) := by decide +kernel
theorem dA_valueOf_209 : decode bA_valueOf 209 = .ok (.bipush 6, 2) := by decide +kernel
theorem dA_valueOf_211 : decode bA_valueOf 211 = .ok (.iaload, 1) := by decide +kernel
theorem dA_valueOf_212 : decode bA_valueOf 212 = .ok (.iload 22, 2) := by decide +kernel
theorem dA_valueOf_214 : decode bA_valueOf 214 = .ok (.bipush 12, 2) := by decide +kernel
theorem dA_valueOf_216 : decode bA_valueOf 216 = .ok (.imul, 1) := by decide +kernel
theorem dA_valueOf_217 : decode bA_valueOf 217 = .ok (.iadd, 1) := by decide +kernel
theorem dA_valueOf_218 : decode bA_valueOf 218 = .ok (.lload 16, 2) := by decide +kernel
theorem dA_valueOf_220 : decode bA_valueOf 220 = .ok (.iload 22, 2) := by decide +kernel
theorem dA_valueOf_222 : decode bA_valueOf 222 = .ok (.invokestatic 156, 3) := by decide +kernel
theorem dA_valueOf_225 : decode bA_valueOf 225 = .ok (.iconst 1, 1) := by decide +kernel
theorem dA_valueOf_226 : decode bA_valueOf 226 = .ok (.invokestatic 160, 3) := by decide +kernel
theorem dA_valueOf_229 : decode bA_valueOf 229 = .ok (.iadd, 1) := by decide +kernel
theorem dA_valueOf_230 : decode bA_valueOf 230 = .ok (.ireturn, 1) := by decide +kernel
theorem dA_valueOf_231 : decode bA_valueOf 231 = .ok (.lload_n 2, 1) := by decide +kernel
theorem dA_valueOf_232 : decode bA_valueOf 232 = .ok (.lconst 0, 1) := by decide +kernel
theorem dA_valueOf_233 : decode bA_valueOf 233 = .ok (.lcmp, 1) := by decide +kernel
theorem dA_valueOf_234 : decode bA_valueOf 234 = .ok (.ifCond .eq 14, 3) := by decide +kernel
theorem dA_valueOf_237 : decode bA_valueOf 237 = .ok (.getstatic 40, 3) := by decide +kernel
theorem dA_valueOf_240 : decode bA_valueOf 240 = .ok (.iconst 5, 1) := by decide +kernel
theorem dA_valueOf_241 : decode bA_valueOf 241 = .ok (.iaload, 1) := by decide +kernel
theorem dA_valueOf_242 : decode bA_valueOf 242 = .ok (.lload_n 2, 1) := by decide +kernel
theorem dA_valueOf_243 : decode bA_valueOf 243 = .ok (.invokestatic 164, 3) := by decide +kernel
theorem dA_valueOf_246 : decode bA_valueOf 246 = .ok (.iadd, 1) := by decide +kernel
theorem dA_valueOf_247 : decode bA_valueOf 247 = .ok (.ireturn, 1) := by decide +kernel
theorem dA_valueOf_248 : decode bA_valueOf 248 = .ok (.lload 14, 2) := by decide +kernel
theorem dA_valueOf_250 : decode bA_valueOf 250 = .ok (.invokestatic 148, 3) := by decide +kernel
theorem dA_valueOf_253 : decode bA_valueOf 253 = .ok (.lstore 23, 2) := by decide +kernel
theorem dA_valueOf_255 : decode bA_valueOf 255 = .ok (.lload 23, 2) := by decide +kernel
theorem dA_valueOf_257 : decode bA_valueOf 257 = .ok (.lconst 0, 1) := by decide +kernel
theorem dA_valueOf_258 : decode bA_valueOf 258 = .ok (.lcmp, 1) := by decide +kernel
theorem dA_valueOf_259 : decode bA_valueOf 259 = .ok (.ifCond .eq 15, 3) := by decide +kernel
theorem dA_valueOf_262 : decode bA_valueOf 262 = .ok (.getstatic 40, 3) := by decide +kernel
theorem dA_valueOf_265 : decode bA_valueOf 265 = .ok (.iconst 4, 1) := by decide +kernel
theorem dA_valueOf_266 : decode bA_valueOf 266 = .ok (.iaload, 1) := by decide +kernel
theorem dA_valueOf_267 : decode bA_valueOf 267 = .ok (.lload 23, 2) := by decide +kernel
theorem dA_valueOf_269 : decode bA_valueOf 269 = .ok (.invokestatic 151, 3) := by decide +kernel
theorem dA_valueOf_272 : decode bA_valueOf 272 = .ok (.iadd, 1) := by decide +kernel
theorem dA_valueOf_273 : decode bA_valueOf 273 = .ok (.ireturn, 1) := by decide +kernel
theorem dA_valueOf_274 : decode bA_valueOf 274 = .ok (.lload 18, 2) := by decide +kernel
theorem dA_valueOf_276 : decode bA_valueOf 276 = .ok (.lconst 0, 1) := by decide +kernel
theorem dA_valueOf_277 : decode bA_valueOf 277 = .ok (.lcmp, 1) := by decide +kernel
theorem dA_valueOf_278 : decode bA_valueOf 278 = .ok (.ifCond .eq 27, 3) := by decide +kernel
theorem dA_valueOf_281 : decode bA_valueOf 281 = .ok (.getstatic 40, 3) := by decide +kernel
theorem dA_valueOf_284 : decode bA_valueOf 284 = .ok (.iconst 3, 1) := by decide +kernel
theorem dA_valueOf_285 : decode bA_valueOf 285 = .ok (.iaload, 1) := by decide +kernel
theorem dA_valueOf_286 : decode bA_valueOf 286 = .ok (.iload 22, 2) := by decide +kernel
theorem dA_valueOf_288 : decode bA_valueOf 288 = .ok (.bipush 66, 2) := by decide +kernel
theorem dA_valueOf_290 : decode bA_valueOf 290 = .ok (.imul, 1) := by decide +kernel
theorem dA_valueOf_291 : decode bA_valueOf 291 = .ok (.iadd, 1) := by decide +kernel
theorem dA_valueOf_292 : decode bA_valueOf 292 = .ok (.lload 14, 2) := by decide +kernel
theorem dA_valueOf_294 : decode bA_valueOf 294 = .ok (.iload 22, 2) := by decide +kernel
theorem dA_valueOf_296 : decode bA_valueOf 296 = .ok (.invokestatic 156, 3) := by decide +kernel
theorem dA_valueOf_299 : decode bA_valueOf 299 = .ok (.iconst 2, 1) := by decide +kernel
theorem dA_valueOf_300 : decode bA_valueOf 300 = .ok (.invokestatic 160, 3) := by decide +kernel
theorem dA_valueOf_303 : decode bA_valueOf 303 = .ok (.iadd, 1) := by decide +kernel
theorem dA_valueOf_304 : decode bA_valueOf 304 = .ok (.ireturn, 1) := by decide +kernel
theorem dA_valueOf_305 : decode bA_valueOf 305 = .ok (.lload 16, 2) := by decide +kernel
theorem dA_valueOf_307 : decode bA_valueOf 307 = .ok (.lconst 0, 1) := by decide +kernel
theorem dA_valueOf_308 : decode bA_valueOf 308 = .ok (.lcmp, 1) := by decide +kernel
theorem dA_valueOf_309 : decode bA_valueOf 309 = .ok (.ifCond .eq 13, 3) := by decide +kernel
theorem dA_valueOf_312 : decode bA_valueOf 312 = .ok (.lload 14, 2) := by decide +kernel
theorem dA_valueOf_314 : decode bA_valueOf 314 = .ok (.lload 16, 2) := by decide +kernel
theorem dA_valueOf_316 : decode bA_valueOf 316 = .ok (.invokestatic 167, 3) := by decide +kernel
theorem dA_valueOf_319 : decode bA_valueOf 319 = .ok (.goto 14, 3) := by decide +kernel
theorem dA_valueOf_322 : decode bA_valueOf 322 = .ok (.getstatic 40, 3) := by decide +kernel
theorem dA_valueOf_325 : decode bA_valueOf 325 = .ok (.iconst 0, 1) := by decide +kernel
theorem dA_valueOf_326 : decode bA_valueOf 326 = .ok (.iaload, 1) := by decide +kernel
theorem dA_valueOf_327 : decode bA_valueOf 327 = .ok (.lload 14, 2) := by decide +kernel
theorem dA_valueOf_329 : decode bA_valueOf 329 = .ok (.invokestatic 164, 3) := by decide +kernel
theorem dA_valueOf_332 : decode bA_valueOf 332 = .ok (.iadd, 1) := by decide +kernel
theorem dA_valueOf_333 : decode bA_valueOf 333 = .ok (.ireturn, 1) := by decide +kernel
abbrev bA_suitedRanks : ByteArray := prog_1_method_39_code
def yA_suitedRanks : MethodName := ⟨"HandTables", "suitedRanks", "(J)J"⟩
theorem dA_suitedRanks_0 : decode bA_suitedRanks 0 = .ok (.iconst 0, 1) := by decide +kernel
theorem dA_suitedRanks_1 : decode bA_suitedRanks 1 = .ok (.istore_n 2, 1) := by decide +kernel
theorem dA_suitedRanks_2 : decode bA_suitedRanks 2 = .ok (.iload_n 2, 1) := by decide +kernel
theorem dA_suitedRanks_3 : decode bA_suitedRanks 3 = .ok (.iconst 4, 1) := by decide +kernel
theorem dA_suitedRanks_4 : decode bA_suitedRanks 4 = .ok (.if_icmp .ge 27, 3) := by decide +kernel
theorem dA_suitedRanks_7 : decode bA_suitedRanks 7 = .ok (.lload_n 0, 1) := by decide +kernel
theorem dA_suitedRanks_8 : decode bA_suitedRanks 8 = .ok (.iload_n 2, 1) := by decide +kernel
theorem dA_suitedRanks_9 : decode bA_suitedRanks 9 = .ok (.lushr, 1) := by decide +kernel
theorem dA_suitedRanks_10 : decode bA_suitedRanks 10 = .ok (.ldc2_w 154, 3) := by decide +kernel
theorem dA_suitedRanks_13 : decode bA_suitedRanks 13 = .ok (.land, 1) := by decide +kernel
theorem dA_suitedRanks_14 : decode bA_suitedRanks 14 = .ok (.lstore_n 3, 1) := by decide +kernel
theorem dA_suitedRanks_15 : decode bA_suitedRanks 15 = .ok (.lload_n 3, 1) := by decide +kernel
theorem dA_suitedRanks_16 : decode bA_suitedRanks 16 = .ok (.invokestatic 94, 3) := by decide +kernel
theorem dA_suitedRanks_19 : decode bA_suitedRanks 19 = .ok (.iconst 5, 1) := by decide +kernel
theorem dA_suitedRanks_20 : decode bA_suitedRanks 20 = .ok (.if_icmp .lt 5, 3) := by decide +kernel
theorem dA_suitedRanks_23 : decode bA_suitedRanks 23 = .ok (.lload_n 3, 1) := by decide +kernel
theorem dA_suitedRanks_24 : decode bA_suitedRanks 24 = .ok (.lreturn, 1) := by decide +kernel
theorem dA_suitedRanks_25 : decode bA_suitedRanks 25 = .ok (.iinc 2 1, 3) := by decide +kernel
theorem dA_suitedRanks_28 : decode bA_suitedRanks 28 = .ok (.goto (-26), 3) := by decide +kernel
theorem dA_suitedRanks_31 : decode bA_suitedRanks 31 = .ok (.lconst 0, 1) := by decide +kernel
theorem dA_suitedRanks_32 : decode bA_suitedRanks 32 = .ok (.lreturn, 1) := by decide +kernel
abbrev bA_straights : ByteArray := prog_1_method_40_code
def yA_straights : MethodName := ⟨"HandTables", "straights", "(J)J"⟩
theorem dA_straights_0 : decode bA_straights 0 = .ok (.lload_n 0, 1) := by decide +kernel
theorem dA_straights_1 : decode bA_straights 1 = .ok (.iconst 4, 1) := by decide +kernel
theorem dA_straights_2 : decode bA_straights 2 = .ok (.lshl, 1) := by decide +kernel
theorem dA_straights_3 : decode bA_straights 3 = .ok (.lload_n 0, 1) := by decide +kernel
theorem dA_straights_4 : decode bA_straights 4 = .ok (.bipush 48, 2) := by decide +kernel
theorem dA_straights_6 : decode bA_straights 6 = .ok (.lushr, 1) := by decide +kernel
theorem dA_straights_7 : decode bA_straights 7 = .ok (.lor, 1) := by decide +kernel
theorem dA_straights_8 : decode bA_straights 8 = .ok (.lstore_n 2, 1) := by decide +kernel
theorem dA_straights_9 : decode bA_straights 9 = .ok (.lload_n 2, 1) := by decide +kernel
theorem dA_straights_10 : decode bA_straights 10 = .ok (.lload_n 2, 1) := by decide +kernel
theorem dA_straights_11 : decode bA_straights 11 = .ok (.iconst 4, 1) := by decide +kernel
theorem dA_straights_12 : decode bA_straights 12 = .ok (.lushr, 1) := by decide +kernel
theorem dA_straights_13 : decode bA_straights 13 = .ok (.land, 1) := by decide +kernel
theorem dA_straights_14 : decode bA_straights 14 = .ok (.lload_n 2, 1) := by decide +kernel
theorem dA_straights_15 : decode bA_straights 15 = .ok (.bipush 8, 2) := by decide +kernel
theorem dA_straights_17 : decode bA_straights 17 = .ok (.lushr, 1) := by decide +kernel
theorem dA_straights_18 : decode bA_straights 18 = .ok (.land, 1) := by decide +kernel
theorem dA_straights_19 : decode bA_straights 19 = .ok (.lload_n 2, 1) := by decide +kernel
theorem dA_straights_20 : decode bA_straights 20 = .ok (.bipush 12, 2) := by decide +kernel
theorem dA_straights_22 : decode bA_straights 22 = .ok (.lushr, 1) := by decide +kernel
theorem dA_straights_23 : decode bA_straights 23 = .ok (.land, 1) := by decide +kernel
theorem dA_straights_24 : decode bA_straights 24 = .ok (.lload_n 2, 1) := by decide +kernel
theorem dA_straights_25 : decode bA_straights 25 = .ok (.bipush 16, 2) := by decide +kernel
theorem dA_straights_27 : decode bA_straights 27 = .ok (.lushr, 1) := by decide +kernel
theorem dA_straights_28 : decode bA_straights 28 = .ok (.land, 1) := by decide +kernel
theorem dA_straights_29 : decode bA_straights 29 = .ok (.lreturn, 1) := by decide +kernel
abbrev bA_highest : ByteArray := prog_1_method_41_code
def yA_highest : MethodName := ⟨"HandTables", "highest", "(J)I"⟩
theorem dA_highest_0 : decode bA_highest 0 = .ok (.lload_n 0, 1) := by decide +kernel
theorem dA_highest_1 : decode bA_highest 1 = .ok (.lload_n 0, 1) := by decide +kernel
theorem dA_highest_2 : decode bA_highest 2 = .ok (.iconst 4, 1) := by decide +kernel
theorem dA_highest_3 : decode bA_highest 3 = .ok (.lushr, 1) := by decide +kernel
theorem dA_highest_4 : decode bA_highest 4 = .ok (.lor, 1) := by decide +kernel
theorem dA_highest_5 : decode bA_highest 5 = .ok (.lstore_n 2, 1) := by decide +kernel
theorem dA_highest_6 : decode bA_highest 6 = .ok (.lload_n 2, 1) := by decide +kernel
theorem dA_highest_7 : decode bA_highest 7 = .ok (.lload_n 2, 1) := by decide +kernel
theorem dA_highest_8 : decode bA_highest 8 = .ok (.bipush 8, 2) := by decide +kernel
theorem dA_highest_10 : decode bA_highest 10 = .ok (.lushr, 1) := by decide +kernel
theorem dA_highest_11 : decode bA_highest 11 = .ok (.lor, 1) := by decide +kernel
theorem dA_highest_12 : decode bA_highest 12 = .ok (.lstore_n 2, 1) := by decide +kernel
theorem dA_highest_13 : decode bA_highest 13 = .ok (.lload_n 2, 1) := by decide +kernel
theorem dA_highest_14 : decode bA_highest 14 = .ok (.lload_n 2, 1) := by decide +kernel
theorem dA_highest_15 : decode bA_highest 15 = .ok (.bipush 16, 2) := by decide +kernel
theorem dA_highest_17 : decode bA_highest 17 = .ok (.lushr, 1) := by decide +kernel
theorem dA_highest_18 : decode bA_highest 18 = .ok (.lor, 1) := by decide +kernel
theorem dA_highest_19 : decode bA_highest 19 = .ok (.lstore_n 2, 1) := by decide +kernel
theorem dA_highest_20 : decode bA_highest 20 = .ok (.lload_n 2, 1) := by decide +kernel
theorem dA_highest_21 : decode bA_highest 21 = .ok (.lload_n 2, 1) := by decide +kernel
theorem dA_highest_22 : decode bA_highest 22 = .ok (.bipush 32, 2) := by decide +kernel
theorem dA_highest_24 : decode bA_highest 24 = .ok (.lushr, 1) := by decide +kernel
theorem dA_highest_25 : decode bA_highest 25 = .ok (.lor, 1) := by decide +kernel
theorem dA_highest_26 : decode bA_highest 26 = .ok (.lstore_n 2, 1) := by decide +kernel
theorem dA_highest_27 : decode bA_highest 27 = .ok (.lload_n 2, 1) := by decide +kernel
theorem dA_highest_28 : decode bA_highest 28 = .ok (.invokestatic 94, 3) := by decide +kernel
theorem dA_highest_31 : decode bA_highest 31 = .ok (.iconst 1, 1) := by decide +kernel
theorem dA_highest_32 : decode bA_highest 32 = .ok (.isub, 1) := by decide +kernel
theorem dA_highest_33 : decode bA_highest 33 = .ok (.ireturn, 1) := by decide +kernel
abbrev bA_without : ByteArray := prog_1_method_42_code
def yA_without : MethodName := ⟨"HandTables", "without", "(JI)J"⟩
theorem dA_without_0 : decode bA_without 0 = .ok (.lconst 1, 1) := by decide +kernel
theorem dA_without_1 : decode bA_without 1 = .ok (.iconst 4, 1) := by decide +kernel
theorem dA_without_2 : decode bA_without 2 = .ok (.iload_n 2, 1) := by decide +kernel
theorem dA_without_3 : decode bA_without 3 = .ok (.imul, 1) := by decide +kernel
theorem dA_without_4 : decode bA_without 4 = .ok (.lshl, 1) := by decide +kernel
theorem dA_without_5 : decode bA_without 5 = .ok (.lconst 1, 1) := by decide +kernel
theorem dA_without_6 : decode bA_without 6 = .ok (.lsub, 1) := by decide +kernel
theorem dA_without_7 : decode bA_without 7 = .ok (.lstore_n 3, 1) := by decide +kernel
theorem dA_without_8 : decode bA_without 8 = .ok (.lload_n 0, 1) := by decide +kernel
theorem dA_without_9 : decode bA_without 9 = .ok (.lload_n 3, 1) := by decide +kernel
theorem dA_without_10 : decode bA_without 10 = .ok (.land, 1) := by decide +kernel
theorem dA_without_11 : decode bA_without 11 = .ok (.lload_n 0, 1) := by decide +kernel
theorem dA_without_12 : decode bA_without 12 = .ok (.iconst 4, 1) := by decide +kernel
theorem dA_without_13 : decode bA_without 13 = .ok (.lushr, 1) := by decide +kernel
theorem dA_without_14 : decode bA_without 14 = .ok (.lload_n 3, 1) := by decide +kernel
theorem dA_without_15 : decode bA_without 15 = .ok (.ldc2_w 67, 3) := by decide +kernel
theorem dA_without_18 : decode bA_without 18 = .ok (.lxor, 1) := by decide +kernel
theorem dA_without_19 : decode bA_without 19 = .ok (.land, 1) := by decide +kernel
theorem dA_without_20 : decode bA_without 20 = .ok (.lor, 1) := by decide +kernel
theorem dA_without_21 : decode bA_without 21 = .ok (.lreturn, 1) := by decide +kernel
abbrev bA_placeOf : ByteArray := prog_1_method_44_code
def yA_placeOf : MethodName := ⟨"HandTables", "placeOf", "(JI)I"⟩
theorem dA_placeOf_0 : decode bA_placeOf 0 = .ok (.iconst 0, 1) := by decide +kernel
theorem dA_placeOf_1 : decode bA_placeOf 1 = .ok (.istore_n 3, 1) := by decide +kernel
theorem dA_placeOf_2 : decode bA_placeOf 2 = .ok (.lload_n 0, 1) := by decide +kernel
theorem dA_placeOf_3 : decode bA_placeOf 3 = .ok (.lstore 4, 2) := by decide +kernel
theorem dA_placeOf_5 : decode bA_placeOf 5 = .ok (.iload_n 2, 1) := by decide +kernel
theorem dA_placeOf_6 : decode bA_placeOf 6 = .ok (.istore 6, 2) := by decide +kernel
theorem dA_placeOf_8 : decode bA_placeOf 8 = .ok (.iload 6, 2) := by decide +kernel
theorem dA_placeOf_10 : decode bA_placeOf 10 = .ok (.iconst 1, 1) := by decide +kernel
theorem dA_placeOf_11 : decode bA_placeOf 11 = .ok (.if_icmp .lt 48, 3) := by decide +kernel
theorem dA_placeOf_14 : decode bA_placeOf 14 = .ok (.lload 4, 2) := by decide +kernel
theorem dA_placeOf_16 : decode bA_placeOf 16 = .ok (.lconst 0, 1) := by decide +kernel
theorem dA_placeOf_17 : decode bA_placeOf 17 = .ok (.lcmp, 1) := by decide +kernel
theorem dA_placeOf_18 : decode bA_placeOf 18 = .ok (.ifCond .eq 41, 3) := by decide +kernel
theorem dA_placeOf_21 : decode bA_placeOf 21 = .ok (.lload 4, 2) := by decide +kernel
theorem dA_placeOf_23 : decode bA_placeOf 23 = .ok (.invokestatic 151, 3) := by decide +kernel
theorem dA_placeOf_26 : decode bA_placeOf 26 = .ok (.istore 7, 2) := by decide +kernel
theorem dA_placeOf_28 : decode bA_placeOf 28 = .ok (.iload_n 3, 1) := by decide +kernel
theorem dA_placeOf_29 : decode bA_placeOf 29 = .ok (.iload 7, 2) := by decide +kernel
theorem dA_placeOf_31 : decode bA_placeOf 31 = .ok (.iload 6, 2) := by decide +kernel
theorem dA_placeOf_33 : decode bA_placeOf 33 = .ok (.invokestatic 171, 3) := by decide +kernel
theorem dA_placeOf_36 : decode bA_placeOf 36 = .ok (.iadd, 1) := by decide +kernel
theorem dA_placeOf_37 : decode bA_placeOf 37 = .ok (.istore_n 3, 1) := by decide +kernel
theorem dA_placeOf_38 : decode bA_placeOf 38 = .ok (.lload 4, 2) := by decide +kernel
theorem dA_placeOf_40 : decode bA_placeOf 40 = .ok (.lconst 1, 1) := by decide +kernel
theorem dA_placeOf_41 : decode bA_placeOf 41 = .ok (.iconst 4, 1) := by decide +kernel
theorem dA_placeOf_42 : decode bA_placeOf 42 = .ok (.iload 7, 2) := by decide +kernel
theorem dA_placeOf_44 : decode bA_placeOf 44 = .ok (.imul, 1) := by decide +kernel
theorem dA_placeOf_45 : decode bA_placeOf 45 = .ok (.lshl, 1) := by decide +kernel
theorem dA_placeOf_46 : decode bA_placeOf 46 = .ok (.ldc2_w 67, 3) := by decide +kernel
theorem dA_placeOf_49 : decode bA_placeOf 49 = .ok (.lxor, 1) := by decide +kernel
theorem dA_placeOf_50 : decode bA_placeOf 50 = .ok (.land, 1) := by decide +kernel
theorem dA_placeOf_51 : decode bA_placeOf 51 = .ok (.lstore 4, 2) := by decide +kernel
theorem dA_placeOf_53 : decode bA_placeOf 53 = .ok (.iinc 6 (-1), 3) := by decide +kernel
theorem dA_placeOf_56 : decode bA_placeOf 56 = .ok (.goto (-48), 3) := by decide +kernel
theorem dA_placeOf_59 : decode bA_placeOf 59 = .ok (.iload_n 3, 1) := by decide +kernel
theorem dA_placeOf_60 : decode bA_placeOf 60 = .ok (.ireturn, 1) := by decide +kernel
abbrev bA_choose : ByteArray := prog_1_method_46_code
def yA_choose : MethodName := ⟨"HandTables", "choose", "(II)I"⟩
theorem dA_choose_0 : decode bA_choose 0 = .ok (.getstatic 174, 3) := by decide +kernel
theorem dA_choose_3 : decode bA_choose 3 = .ok (.iload_n 1, 1) := by decide +kernel
theorem dA_choose_4 : decode bA_choose 4 = .ok (.iconst 1, 1) := by decide +kernel
theorem dA_choose_5 : decode bA_choose 5 = .ok (.isub, 1) := by decide +kernel
theorem dA_choose_6 : decode bA_choose 6 = .ok (.bipush 13, 2) := by decide +kernel
theorem dA_choose_8 : decode bA_choose 8 = .ok (.imul, 1) := by decide +kernel
theorem dA_choose_9 : decode bA_choose 9 = .ok (.iload_n 0, 1) := by decide +kernel
theorem dA_choose_10 : decode bA_choose 10 = .ok (.iadd, 1) := by decide +kernel
theorem dA_choose_11 : decode bA_choose 11 = .ok (.iaload, 1) := by decide +kernel
theorem dA_choose_12 : decode bA_choose 12 = .ok (.ireturn, 1) := by decide +kernel
abbrev bA_placeBesideStraights : ByteArray := prog_1_method_47_code
def yA_placeBesideStraights : MethodName := ⟨"HandTables", "placeBesideStraights", "(J)I"⟩
theorem dA_placeBesideStraights_0 : decode bA_placeBesideStraights 0 = .ok (.lload_n 0, 1) := by decide +kernel
theorem dA_placeBesideStraights_1 : decode bA_placeBesideStraights 1 = .ok (.iconst 5, 1) := by decide +kernel
theorem dA_placeBesideStraights_2 : decode bA_placeBesideStraights 2 = .ok (.invokestatic 160, 3) := by decide +kernel
theorem dA_placeBesideStraights_5 : decode bA_placeBesideStraights 5 = .ok (.istore_n 2, 1) := by decide +kernel
theorem dA_placeBesideStraights_6 : decode bA_placeBesideStraights 6 = .ok (.iconst 0, 1) := by decide +kernel
theorem dA_placeBesideStraights_7 : decode bA_placeBesideStraights 7 = .ok (.istore_n 3, 1) := by decide +kernel
theorem dA_placeBesideStraights_8 : decode bA_placeBesideStraights 8 = .ok (.getstatic 177, 3) := by decide +kernel
theorem dA_placeBesideStraights_11 : decode bA_placeBesideStraights 11 = .ok (.astore 4, 2) := by decide +kernel
theorem dA_placeBesideStraights_13 : decode bA_placeBesideStraights 13 = .ok (.aload 4, 2) := by decide +kernel
theorem dA_placeBesideStraights_15 : decode bA_placeBesideStraights 15 = .ok (.arraylength, 1) := by decide +kernel
theorem dA_placeBesideStraights_16 : decode bA_placeBesideStraights 16 = .ok (.istore 5, 2) := by decide +kernel
theorem dA_placeBesideStraights_18 : decode bA_placeBesideStraights 18 = .ok (.iconst 0, 1) := by decide +kernel
theorem dA_placeBesideStraights_19 : decode bA_placeBesideStraights 19 = .ok (.istore 6, 2) := by decide +kernel
theorem dA_placeBesideStraights_21 : decode bA_placeBesideStraights 21 = .ok (.iload 6, 2) := by decide +kernel
theorem dA_placeBesideStraights_23 : decode bA_placeBesideStraights 23 = .ok (.iload 5, 2) := by decide +kernel
theorem dA_placeBesideStraights_25 : decode bA_placeBesideStraights 25 = .ok (.if_icmp .ge 25, 3) := by decide +kernel
theorem dA_placeBesideStraights_28 : decode bA_placeBesideStraights 28 = .ok (.aload 4, 2) := by decide +kernel
theorem dA_placeBesideStraights_30 : decode bA_placeBesideStraights 30 = .ok (.iload 6, 2) := by decide +kernel
theorem dA_placeBesideStraights_32 : decode bA_placeBesideStraights 32 = .ok (.iaload, 1) := by decide +kernel
theorem dA_placeBesideStraights_33 : decode bA_placeBesideStraights 33 = .ok (.istore 7, 2) := by decide +kernel
theorem dA_placeBesideStraights_35 : decode bA_placeBesideStraights 35 = .ok (.iload 7, 2) := by decide +kernel
theorem dA_placeBesideStraights_37 : decode bA_placeBesideStraights 37 = .ok (.iload_n 2, 1) := by decide +kernel
theorem dA_placeBesideStraights_38 : decode bA_placeBesideStraights 38 = .ok (.if_icmp .ge 6, 3) := by decide +kernel
theorem dA_placeBesideStraights_41 : decode bA_placeBesideStraights 41 = .ok (.iinc 3 1, 3) := by decide +kernel
theorem dA_placeBesideStraights_44 : decode bA_placeBesideStraights 44 = .ok (.iinc 6 1, 3) := by decide +kernel
theorem dA_placeBesideStraights_47 : decode bA_placeBesideStraights 47 = .ok (.goto (-26), 3) := by decide +kernel
theorem dA_placeBesideStraights_50 : decode bA_placeBesideStraights 50 = .ok (.iload_n 2, 1) := by decide +kernel
theorem dA_placeBesideStraights_51 : decode bA_placeBesideStraights 51 = .ok (.iload_n 3, 1) := by decide +kernel
theorem dA_placeBesideStraights_52 : decode bA_placeBesideStraights 52 = .ok (.isub, 1) := by decide +kernel
theorem dA_placeBesideStraights_53 : decode bA_placeBesideStraights 53 = .ok (.ireturn, 1) := by decide +kernel
abbrev bA_pairsValue : ByteArray := prog_1_method_38_code
def yA_pairsValue : MethodName := ⟨"HandTables", "pairsValue", "(JJ)I"⟩
theorem dA_pairsValue_0 : decode bA_pairsValue 0 = .ok (.lload_n 2, 1) := by decide +kernel
theorem dA_pairsValue_1 : decode bA_pairsValue 1 = .ok (.invokestatic 151, 3) := by decide +kernel
theorem dA_pairsValue_4 : decode bA_pairsValue 4 = .ok (.istore 4, 2) := by decide +kernel
theorem dA_pairsValue_6 : decode bA_pairsValue 6 = .ok (.lload_n 0, 1) := by decide +kernel
theorem dA_pairsValue_7 : decode bA_pairsValue 7 = .ok (.iload 4, 2) := by decide +kernel
theorem dA_pairsValue_9 : decode bA_pairsValue 9 = .ok (.invokestatic 156, 3) := by decide +kernel
theorem dA_pairsValue_12 : decode bA_pairsValue 12 = .ok (.lstore 5, 2) := by decide +kernel
theorem dA_pairsValue_14 : decode bA_pairsValue 14 = .ok (.lload_n 2, 1) := by decide +kernel
theorem dA_pairsValue_15 : decode bA_pairsValue 15 = .ok (.iload 4, 2) := by decide +kernel
theorem dA_pairsValue_17 : decode bA_pairsValue 17 = .ok (.invokestatic 156, 3) := by decide +kernel
theorem dA_pairsValue_20 : decode bA_pairsValue 20 = .ok (.lstore 7, 2) := by decide +kernel
theorem dA_pairsValue_22 : decode bA_pairsValue 22 = .ok (.lload 7, 2) := by decide +kernel
theorem dA_pairsValue_24 : decode bA_pairsValue 24 = .ok (.lconst 0, 1) := by decide +kernel
theorem dA_pairsValue_25 : decode bA_pairsValue 25 = .ok (.lcmp, 1) := by decide +kernel
theorem dA_pairsValue_26 : decode bA_pairsValue 26 = .ok (.ifCond .ne 23, 3) := by decide +kernel
theorem dA_pairsValue_29 : decode bA_pairsValue 29 = .ok (.getstatic 40, 3) := by decide +kernel
theorem dA_pairsValue_32 : decode bA_pairsValue 32 = .ok (.iconst 1, 1) := by decide +kernel
theorem dA_pairsValue_33 : decode bA_pairsValue 33 = .ok (.iaload, 1) := by decide +kernel
theorem dA_pairsValue_34 : decode bA_pairsValue 34 = .ok (.iload 4, 2) := by decide +kernel
theorem dA_pairsValue_36 : decode bA_pairsValue 36 = .ok (.sipush 220, 3) := by decide +kernel
theorem dA_pairsValue_39 : decode bA_pairsValue 39 = .ok (.imul, 1) := by decide +kernel
theorem dA_pairsValue_40 : decode bA_pairsValue 40 = .ok (.iadd, 1) := by decide +kernel
theorem dA_pairsValue_41 : decode bA_pairsValue 41 = .ok (.lload 5, 2) := by decide +kernel
theorem dA_pairsValue_43 : decode bA_pairsValue 43 = .ok (.iconst 3, 1) := by decide +kernel
theorem dA_pairsValue_44 : decode bA_pairsValue 44 = .ok (.invokestatic 160, 3) := by decide +kernel
theorem dA_pairsValue_47 : decode bA_pairsValue 47 = .ok (.iadd, 1) := by decide +kernel
theorem dA_pairsValue_48 : decode bA_pairsValue 48 = .ok (.ireturn, 1) := by decide +kernel
theorem dA_pairsValue_49 : decode bA_pairsValue 49 = .ok (.lload 5, 2) := by decide +kernel
theorem dA_pairsValue_51 : decode bA_pairsValue 51 = .ok (.lload 7, 2) := by decide +kernel
theorem dA_pairsValue_53 : decode bA_pairsValue 53 = .ok (.invokestatic 151, 3) := by decide +kernel
theorem dA_pairsValue_56 : decode bA_pairsValue 56 = .ok (.invokestatic 156, 3) := by decide +kernel
theorem dA_pairsValue_59 : decode bA_pairsValue 59 = .ok (.iconst 1, 1) := by decide +kernel
theorem dA_pairsValue_60 : decode bA_pairsValue 60 = .ok (.invokestatic 160, 3) := by decide +kernel
theorem dA_pairsValue_63 : decode bA_pairsValue 63 = .ok (.istore 9, 2) := by decide +kernel
theorem dA_pairsValue_65 : decode bA_pairsValue 65 = .ok (.getstatic 40, 3) := by decide +kernel
theorem dA_pairsValue_68 : decode bA_pairsValue 68 = .ok (.iconst 2, 1) := by decide +kernel
theorem dA_pairsValue_69 : decode bA_pairsValue 69 = .ok (.iaload, 1) := by decide +kernel
theorem dA_pairsValue_70 : decode bA_pairsValue 70 = .ok (.lload_n 2, 1) := by decide +kernel
theorem dA_pairsValue_71 : decode bA_pairsValue 71 = .ok (.iconst 2, 1) := by decide +kernel
theorem dA_pairsValue_72 : decode bA_pairsValue 72 = .ok (.invokestatic 160, 3) := by decide +kernel
theorem dA_pairsValue_75 : decode bA_pairsValue 75 = .ok (.bipush 11, 2) := by decide +kernel
theorem dA_pairsValue_77 : decode bA_pairsValue 77 = .ok (.imul, 1) := by decide +kernel
theorem dA_pairsValue_78 : decode bA_pairsValue 78 = .ok (.iadd, 1) := by decide +kernel
theorem dA_pairsValue_79 : decode bA_pairsValue 79 = .ok (.iload 9, 2) := by decide +kernel
theorem dA_pairsValue_81 : decode bA_pairsValue 81 = .ok (.iadd, 1) := by decide +kernel
theorem dA_pairsValue_82 : decode bA_pairsValue 82 = .ok (.ireturn, 1) := by decide +kernel
abbrev bA_category : ByteArray := prog_1_method_3_code
def yA_category : MethodName := ⟨"HandTables", "category", "(J)I"⟩
theorem dA_category_0 : decode bA_category 0 = .ok (.lload_n 1, 1) := by decide +kernel
theorem dA_category_1 : decode bA_category 1 = .ok (.invokestatic 20, 3) := by decide +kernel
theorem dA_category_4 : decode bA_category 4 = .ok (.lload_n 1, 1) := by decide +kernel
theorem dA_category_5 : decode bA_category 5 = .ok (.invokestatic 24, 3) := by decide +kernel
theorem dA_category_8 : decode bA_category 8 = .ok (.invokestatic 28, 3) := by decide +kernel
theorem dA_category_11 : decode bA_category 11 = .ok (.ireturn, 1) := by decide +kernel
abbrev bA_categoryOf : ByteArray := prog_1_method_35_code
def yA_categoryOf : MethodName := ⟨"HandTables", "categoryOf", "(I)I"⟩
theorem dA_categoryOf_0 : decode bA_categoryOf 0 = .ok (.bipush 8, 2) := by decide +kernel
theorem dA_categoryOf_2 : decode bA_categoryOf 2 = .ok (.istore_n 1, 1) := by decide +kernel
theorem dA_categoryOf_3 : decode bA_categoryOf 3 = .ok (.iload_n 1, 1) := by decide +kernel
theorem dA_categoryOf_4 : decode bA_categoryOf 4 = .ok (.ifCond .le 18, 3) := by decide +kernel
theorem dA_categoryOf_7 : decode bA_categoryOf 7 = .ok (.iload_n 0, 1) := by decide +kernel
theorem dA_categoryOf_8 : decode bA_categoryOf 8 = .ok (.getstatic 40, 3) := by decide +kernel
theorem dA_categoryOf_11 : decode bA_categoryOf 11 = .ok (.iload_n 1, 1) := by decide +kernel
theorem dA_categoryOf_12 : decode bA_categoryOf 12 = .ok (.iaload, 1) := by decide +kernel
theorem dA_categoryOf_13 : decode bA_categoryOf 13 = .ok (.if_icmp .ge 9, 3) := by decide +kernel
theorem dA_categoryOf_16 : decode bA_categoryOf 16 = .ok (.iinc 1 (-1), 3) := by decide +kernel
theorem dA_categoryOf_19 : decode bA_categoryOf 19 = .ok (.goto (-16), 3) := by decide +kernel
theorem dA_categoryOf_22 : decode bA_categoryOf 22 = .ok (.iload_n 1, 1) := by decide +kernel
theorem dA_categoryOf_23 : decode bA_categoryOf 23 = .ok (.ireturn, 1) := by decide +kernel
abbrev bA_best : ByteArray := prog_1_method_4_code
def yA_best : MethodName := ⟨"HandTables", "best", "(J)J"⟩
theorem dA_best_0 : decode bA_best 0 = .ok (.lload_n 1, 1) := by decide +kernel
theorem dA_best_1 : decode bA_best 1 = .ok (.invokestatic 20, 3) := by decide +kernel
theorem dA_best_4 : decode bA_best 4 = .ok (.lload_n 1, 1) := by decide +kernel
theorem dA_best_5 : decode bA_best 5 = .ok (.invokestatic 24, 3) := by decide +kernel
theorem dA_best_8 : decode bA_best 8 = .ok (.istore_n 3, 1) := by decide +kernel
theorem dA_best_9 : decode bA_best 9 = .ok (.lload_n 1, 1) := by decide +kernel
theorem dA_best_10 : decode bA_best 10 = .ok (.lstore 4, 2) := by decide +kernel
theorem dA_best_12 : decode bA_best 12 = .ok (.iconst 0, 1) := by decide +kernel
theorem dA_best_13 : decode bA_best 13 = .ok (.istore 6, 2) := by decide +kernel
theorem dA_best_15 : decode bA_best 15 = .ok (.iload 6, 2) := by decide +kernel
theorem dA_best_17 : decode bA_best 17 = .ok (.sipush 128, 3) := by decide +kernel
theorem dA_best_20 : decode bA_best 20 = .ok (.if_icmp .ge 26, 3) := by decide +kernel
theorem dA_best_23 : decode bA_best 23 = .ok (.lload 4, 2) := by decide +kernel
theorem dA_best_25 : decode bA_best 25 = .ok (.iload_n 3, 1) := by decide +kernel
theorem dA_best_26 : decode bA_best 26 = .ok (.invokestatic 32, 3) := by decide +kernel
theorem dA_best_29 : decode bA_best 29 = .ok (.ifCond .ne 17, 3) := by decide +kernel
theorem dA_best_32 : decode bA_best 32 = .ok (.lload 4, 2) := by decide +kernel
theorem dA_best_34 : decode bA_best 34 = .ok (.lconst 1, 1) := by decide +kernel
theorem dA_best_35 : decode bA_best 35 = .ok (.lsub, 1) := by decide +kernel
theorem dA_best_36 : decode bA_best 36 = .ok (.lload_n 1, 1) := by decide +kernel
theorem dA_best_37 : decode bA_best 37 = .ok (.land, 1) := by decide +kernel
theorem dA_best_38 : decode bA_best 38 = .ok (.lstore 4, 2) := by decide +kernel
theorem dA_best_40 : decode bA_best 40 = .ok (.iinc 6 1, 3) := by decide +kernel
theorem dA_best_43 : decode bA_best 43 = .ok (.goto (-28), 3) := by decide +kernel
theorem dA_best_46 : decode bA_best 46 = .ok (.lload 4, 2) := by decide +kernel
theorem dA_best_48 : decode bA_best 48 = .ok (.lreturn, 1) := by decide +kernel
abbrev bA_isFiveWorth : ByteArray := prog_1_method_36_code
def yA_isFiveWorth : MethodName := ⟨"HandTables", "isFiveWorth", "(JI)Z"⟩
theorem dA_isFiveWorth_0 : decode bA_isFiveWorth 0 = .ok (.lload_n 0, 1) := by decide +kernel
theorem dA_isFiveWorth_1 : decode bA_isFiveWorth 1 = .ok (.invokestatic 94, 3) := by decide +kernel
theorem dA_isFiveWorth_4 : decode bA_isFiveWorth 4 = .ok (.iconst 5, 1) := by decide +kernel
theorem dA_isFiveWorth_5 : decode bA_isFiveWorth 5 = .ok (.if_icmp .ne 15, 3) := by decide +kernel
theorem dA_isFiveWorth_8 : decode bA_isFiveWorth 8 = .ok (.lload_n 0, 1) := by decide +kernel
theorem dA_isFiveWorth_9 : decode bA_isFiveWorth 9 = .ok (.invokestatic 24, 3) := by decide +kernel
theorem dA_isFiveWorth_12 : decode bA_isFiveWorth 12 = .ok (.iload_n 2, 1) := by decide +kernel
theorem dA_isFiveWorth_13 : decode bA_isFiveWorth 13 = .ok (.if_icmp .ne 7, 3) := by decide +kernel
theorem dA_isFiveWorth_16 : decode bA_isFiveWorth 16 = .ok (.iconst 1, 1) := by decide +kernel
theorem dA_isFiveWorth_17 : decode bA_isFiveWorth 17 = .ok (.goto 4, 3) := by decide +kernel
theorem dA_isFiveWorth_20 : decode bA_isFiveWorth 20 = .ok (.iconst 0, 1) := by decide +kernel
theorem dA_isFiveWorth_21 : decode bA_isFiveWorth 21 = .ok (.ireturn, 1) := by decide +kernel
abbrev bA_worth : ByteArray := prog_1_method_5_code
def yA_worth : MethodName := ⟨"HandTables", "worth", "(I)I"⟩
theorem dA_worth_0 : decode bA_worth 0 = .ok (.iload_n 1, 1) := by decide +kernel
theorem dA_worth_1 : decode bA_worth 1 = .ok (.invokestatic 36, 3) := by decide +kernel
theorem dA_worth_4 : decode bA_worth 4 = .ok (.iload_n 1, 1) := by decide +kernel
theorem dA_worth_5 : decode bA_worth 5 = .ok (.invokestatic 28, 3) := by decide +kernel
theorem dA_worth_8 : decode bA_worth 8 = .ok (.istore_n 2, 1) := by decide +kernel
theorem dA_worth_9 : decode bA_worth 9 = .ok (.iload_n 2, 1) := by decide +kernel
theorem dA_worth_10 : decode bA_worth 10 = .ok (.iload_n 2, 1) := by decide +kernel
theorem dA_worth_11 : decode bA_worth 11 = .ok (.iload_n 1, 1) := by decide +kernel
theorem dA_worth_12 : decode bA_worth 12 = .ok (.getstatic 40, 3) := by decide +kernel
theorem dA_worth_15 : decode bA_worth 15 = .ok (.iload_n 2, 1) := by decide +kernel
theorem dA_worth_16 : decode bA_worth 16 = .ok (.iaload, 1) := by decide +kernel
theorem dA_worth_17 : decode bA_worth 17 = .ok (.isub, 1) := by decide +kernel
theorem dA_worth_18 : decode bA_worth 18 = .ok (.invokestatic 43, 3) := by decide +kernel
theorem dA_worth_21 : decode bA_worth 21 = .ok (.iadd, 1) := by decide +kernel
theorem dA_worth_22 : decode bA_worth 22 = .ok (.ireturn, 1) := by decide +kernel
abbrev bA_requireValue : ByteArray := prog_1_method_22_code
def yA_requireValue : MethodName := ⟨"HandTables", "requireValue", "(I)V"⟩
theorem dA_requireValue_0 : decode bA_requireValue 0 = .ok (.iload_n 0, 1) := by decide +kernel
theorem dA_requireValue_1 : decode bA_requireValue 1 = .ok (.ifCond .lt 10, 3) := by decide +kernel
theorem dA_requireValue_4 : decode bA_requireValue 4 = .ok (.iload_n 0, 1) := by decide +kernel
theorem dA_requireValue_5 : decode bA_requireValue 5 = .ok (.sipush 7462, 3) := by decide +kernel
theorem dA_requireValue_8 : decode bA_requireValue 8 = .ok (.if_icmp .lt 13, 3) := by decide +kernel
theorem dA_requireValue_11 : decode bA_requireValue 11 = .ok (.new 50, 3) := by decide +kernel
theorem dA_requireValue_14 : decode bA_requireValue 14 = .ok (.dup, 1) := by decide +kernel
theorem dA_requireValue_15 : decode bA_requireValue 15 = .ok (.ldc 125, 2) := by decide +kernel
theorem dA_requireValue_17 : decode bA_requireValue 17 = .ok (.invokespecial 54, 3) := by decide +kernel
theorem dA_requireValue_20 : decode bA_requireValue 20 = .ok (.athrow, 1) := by decide +kernel
theorem dA_requireValue_21 : decode bA_requireValue 21 = .ok (.return_, 1) := by decide +kernel
abbrev bA_rowAt : ByteArray := prog_1_method_49_code
def yA_rowAt : MethodName := ⟨"HandTables", "rowAt", "(II)I"⟩
theorem dA_rowAt_0 : decode bA_rowAt 0 = .ok (.iload_n 0, 1) := by decide +kernel
theorem dA_rowAt_1 : decode bA_rowAt 1 = .ok (.tableswitch 114 1 8 #[96, 91, 75, 47, 114, 59, 59, 47], 47) := by decide +kernel
theorem dA_rowAt_48 : decode bA_rowAt 48 = .ok (.lconst 1, 1) := by decide +kernel
theorem dA_rowAt_49 : decode bA_rowAt 49 = .ok (.iconst 4, 1) := by decide +kernel
theorem dA_rowAt_50 : decode bA_rowAt 50 = .ok (.iload_n 1, 1) := by decide +kernel
theorem dA_rowAt_51 : decode bA_rowAt 51 = .ok (.iconst 3, 1) := by decide +kernel
theorem dA_rowAt_52 : decode bA_rowAt 52 = .ok (.iadd, 1) := by decide +kernel
theorem dA_rowAt_53 : decode bA_rowAt 53 = .ok (.imul, 1) := by decide +kernel
theorem dA_rowAt_54 : decode bA_rowAt 54 = .ok (.lshl, 1) := by decide +kernel
theorem dA_rowAt_55 : decode bA_rowAt 55 = .ok (.iconst 0, 1) := by decide +kernel
theorem dA_rowAt_56 : decode bA_rowAt 56 = .ok (.invokestatic 184, 3) := by decide +kernel
theorem dA_rowAt_59 : decode bA_rowAt 59 = .ok (.ireturn, 1) := by decide +kernel
theorem dA_rowAt_60 : decode bA_rowAt 60 = .ok (.iload_n 1, 1) := by decide +kernel
theorem dA_rowAt_61 : decode bA_rowAt 61 = .ok (.bipush 12, 2) := by decide +kernel
theorem dA_rowAt_63 : decode bA_rowAt 63 = .ok (.idiv, 1) := by decide +kernel
theorem dA_rowAt_64 : decode bA_rowAt 64 = .ok (.iload_n 1, 1) := by decide +kernel
theorem dA_rowAt_65 : decode bA_rowAt 65 = .ok (.bipush 12, 2) := by decide +kernel
theorem dA_rowAt_67 : decode bA_rowAt 67 = .ok (.irem, 1) := by decide +kernel
theorem dA_rowAt_68 : decode bA_rowAt 68 = .ok (.iconst 1, 1) := by decide +kernel
theorem dA_rowAt_69 : decode bA_rowAt 69 = .ok (.invokestatic 180, 3) := by decide +kernel
theorem dA_rowAt_72 : decode bA_rowAt 72 = .ok (.invokestatic 187, 3) := by decide +kernel
theorem dA_rowAt_75 : decode bA_rowAt 75 = .ok (.ireturn, 1) := by decide +kernel
theorem dA_rowAt_76 : decode bA_rowAt 76 = .ok (.iload_n 1, 1) := by decide +kernel
theorem dA_rowAt_77 : decode bA_rowAt 77 = .ok (.bipush 66, 2) := by decide +kernel
theorem dA_rowAt_79 : decode bA_rowAt 79 = .ok (.idiv, 1) := by decide +kernel
theorem dA_rowAt_80 : decode bA_rowAt 80 = .ok (.iload_n 1, 1) := by decide +kernel
theorem dA_rowAt_81 : decode bA_rowAt 81 = .ok (.bipush 66, 2) := by decide +kernel
theorem dA_rowAt_83 : decode bA_rowAt 83 = .ok (.irem, 1) := by decide +kernel
theorem dA_rowAt_84 : decode bA_rowAt 84 = .ok (.iconst 2, 1) := by decide +kernel
theorem dA_rowAt_85 : decode bA_rowAt 85 = .ok (.invokestatic 180, 3) := by decide +kernel
theorem dA_rowAt_88 : decode bA_rowAt 88 = .ok (.invokestatic 187, 3) := by decide +kernel
theorem dA_rowAt_91 : decode bA_rowAt 91 = .ok (.ireturn, 1) := by decide +kernel
theorem dA_rowAt_92 : decode bA_rowAt 92 = .ok (.iload_n 1, 1) := by decide +kernel
theorem dA_rowAt_93 : decode bA_rowAt 93 = .ok (.invokestatic 191, 3) := by decide +kernel
theorem dA_rowAt_96 : decode bA_rowAt 96 = .ok (.ireturn, 1) := by decide +kernel
theorem dA_rowAt_97 : decode bA_rowAt 97 = .ok (.iload_n 1, 1) := by decide +kernel
theorem dA_rowAt_98 : decode bA_rowAt 98 = .ok (.sipush 220, 3) := by decide +kernel
theorem dA_rowAt_101 : decode bA_rowAt 101 = .ok (.idiv, 1) := by decide +kernel
theorem dA_rowAt_102 : decode bA_rowAt 102 = .ok (.iload_n 1, 1) := by decide +kernel
theorem dA_rowAt_103 : decode bA_rowAt 103 = .ok (.sipush 220, 3) := by decide +kernel
theorem dA_rowAt_106 : decode bA_rowAt 106 = .ok (.irem, 1) := by decide +kernel
theorem dA_rowAt_107 : decode bA_rowAt 107 = .ok (.iconst 3, 1) := by decide +kernel
theorem dA_rowAt_108 : decode bA_rowAt 108 = .ok (.invokestatic 180, 3) := by decide +kernel
theorem dA_rowAt_111 : decode bA_rowAt 111 = .ok (.invokestatic 187, 3) := by decide +kernel
theorem dA_rowAt_114 : decode bA_rowAt 114 = .ok (.ireturn, 1) := by decide +kernel
theorem dA_rowAt_115 : decode bA_rowAt 115 = .ok (.iload_n 1, 1) := by decide +kernel
theorem dA_rowAt_116 : decode bA_rowAt 116 = .ok (.invokestatic 194, 3) := by decide +kernel
theorem dA_rowAt_119 : decode bA_rowAt 119 = .ok (.iconst 0, 1) := by decide +kernel
theorem dA_rowAt_120 : decode bA_rowAt 120 = .ok (.invokestatic 184, 3) := by decide +kernel
theorem dA_rowAt_123 : decode bA_rowAt 123 = .ok (.ireturn, 1) := by decide +kernel
abbrev bA_written : ByteArray := prog_1_method_52_code
def yA_written : MethodName := ⟨"HandTables", "written", "(JI)I"⟩
theorem dA_written_0 : decode bA_written 0 = .ok (.iconst 0, 1) := by decide +kernel
theorem dA_written_1 : decode bA_written 1 = .ok (.istore_n 3, 1) := by decide +kernel
theorem dA_written_2 : decode bA_written 2 = .ok (.iconst 4, 1) := by decide +kernel
theorem dA_written_3 : decode bA_written 3 = .ok (.iload_n 2, 1) := by decide +kernel
theorem dA_written_4 : decode bA_written 4 = .ok (.iconst 1, 1) := by decide +kernel
theorem dA_written_5 : decode bA_written 5 = .ok (.iadd, 1) := by decide +kernel
theorem dA_written_6 : decode bA_written 6 = .ok (.imul, 1) := by decide +kernel
theorem dA_written_7 : decode bA_written 7 = .ok (.istore 4, 2) := by decide +kernel
theorem dA_written_9 : decode bA_written 9 = .ok (.bipush 12, 2) := by decide +kernel
theorem dA_written_11 : decode bA_written 11 = .ok (.istore 5, 2) := by decide +kernel
theorem dA_written_13 : decode bA_written 13 = .ok (.iload 5, 2) := by decide +kernel
theorem dA_written_15 : decode bA_written 15 = .ok (.ifCond .lt 35, 3) := by decide +kernel
theorem dA_written_18 : decode bA_written 18 = .ok (.lload_n 0, 1) := by decide +kernel
theorem dA_written_19 : decode bA_written 19 = .ok (.lconst 1, 1) := by decide +kernel
theorem dA_written_20 : decode bA_written 20 = .ok (.iconst 4, 1) := by decide +kernel
theorem dA_written_21 : decode bA_written 21 = .ok (.iload 5, 2) := by decide +kernel
theorem dA_written_23 : decode bA_written 23 = .ok (.imul, 1) := by decide +kernel
theorem dA_written_24 : decode bA_written 24 = .ok (.lshl, 1) := by decide +kernel
theorem dA_written_25 : decode bA_written 25 = .ok (.land, 1) := by decide +kernel
theorem dA_written_26 : decode bA_written 26 = .ok (.lconst 0, 1) := by decide +kernel
theorem dA_written_27 : decode bA_written 27 = .ok (.lcmp, 1) := by decide +kernel
theorem dA_written_28 : decode bA_written 28 = .ok (.ifCond .eq 16, 3) := by decide +kernel
theorem dA_written_31 : decode bA_written 31 = .ok (.iload_n 3, 1) := by decide +kernel
theorem dA_written_32 : decode bA_written 32 = .ok (.iload 5, 2) := by decide +kernel
theorem dA_written_34 : decode bA_written 34 = .ok (.iconst 1, 1) := by decide +kernel
theorem dA_written_35 : decode bA_written 35 = .ok (.iadd, 1) := by decide +kernel
theorem dA_written_36 : decode bA_written 36 = .ok (.iload 4, 2) := by decide +kernel
theorem dA_written_38 : decode bA_written 38 = .ok (.ishl, 1) := by decide +kernel
theorem dA_written_39 : decode bA_written 39 = .ok (.iadd, 1) := by decide +kernel
theorem dA_written_40 : decode bA_written 40 = .ok (.istore_n 3, 1) := by decide +kernel
theorem dA_written_41 : decode bA_written 41 = .ok (.iinc 4 4, 3) := by decide +kernel
theorem dA_written_44 : decode bA_written 44 = .ok (.iinc 5 (-1), 3) := by decide +kernel
theorem dA_written_47 : decode bA_written 47 = .ok (.goto (-34), 3) := by decide +kernel
theorem dA_written_50 : decode bA_written 50 = .ok (.iload_n 3, 1) := by decide +kernel
theorem dA_written_51 : decode bA_written 51 = .ok (.ireturn, 1) := by decide +kernel
abbrev bA_ranksAt : ByteArray := prog_1_method_45_code
def yA_ranksAt : MethodName := ⟨"HandTables", "ranksAt", "(II)J"⟩
theorem dA_ranksAt_0 : decode bA_ranksAt 0 = .ok (.lconst 0, 1) := by decide +kernel
theorem dA_ranksAt_1 : decode bA_ranksAt 1 = .ok (.lstore_n 2, 1) := by decide +kernel
theorem dA_ranksAt_2 : decode bA_ranksAt 2 = .ok (.iload_n 0, 1) := by decide +kernel
theorem dA_ranksAt_3 : decode bA_ranksAt 3 = .ok (.istore 4, 2) := by decide +kernel
theorem dA_ranksAt_5 : decode bA_ranksAt 5 = .ok (.iload_n 1, 1) := by decide +kernel
theorem dA_ranksAt_6 : decode bA_ranksAt 6 = .ok (.istore 5, 2) := by decide +kernel
theorem dA_ranksAt_8 : decode bA_ranksAt 8 = .ok (.bipush 12, 2) := by decide +kernel
theorem dA_ranksAt_10 : decode bA_ranksAt 10 = .ok (.istore 6, 2) := by decide +kernel
theorem dA_ranksAt_12 : decode bA_ranksAt 12 = .ok (.iload 6, 2) := by decide +kernel
theorem dA_ranksAt_14 : decode bA_ranksAt 14 = .ok (.ifCond .lt 50, 3) := by decide +kernel
theorem dA_ranksAt_17 : decode bA_ranksAt 17 = .ok (.iload 5, 2) := by decide +kernel
theorem dA_ranksAt_19 : decode bA_ranksAt 19 = .ok (.iconst 1, 1) := by decide +kernel
theorem dA_ranksAt_20 : decode bA_ranksAt 20 = .ok (.if_icmp .lt 44, 3) := by decide +kernel
theorem dA_ranksAt_23 : decode bA_ranksAt 23 = .ok (.iload 6, 2) := by decide +kernel
theorem dA_ranksAt_25 : decode bA_ranksAt 25 = .ok (.iload 5, 2) := by decide +kernel
theorem dA_ranksAt_27 : decode bA_ranksAt 27 = .ok (.invokestatic 171, 3) := by decide +kernel
theorem dA_ranksAt_30 : decode bA_ranksAt 30 = .ok (.istore 7, 2) := by decide +kernel
theorem dA_ranksAt_32 : decode bA_ranksAt 32 = .ok (.iload 7, 2) := by decide +kernel
theorem dA_ranksAt_34 : decode bA_ranksAt 34 = .ok (.iload 4, 2) := by decide +kernel
theorem dA_ranksAt_36 : decode bA_ranksAt 36 = .ok (.if_icmp .gt 22, 3) := by decide +kernel
theorem dA_ranksAt_39 : decode bA_ranksAt 39 = .ok (.lload_n 2, 1) := by decide +kernel
theorem dA_ranksAt_40 : decode bA_ranksAt 40 = .ok (.lconst 1, 1) := by decide +kernel
theorem dA_ranksAt_41 : decode bA_ranksAt 41 = .ok (.iconst 4, 1) := by decide +kernel
theorem dA_ranksAt_42 : decode bA_ranksAt 42 = .ok (.iload 6, 2) := by decide +kernel
theorem dA_ranksAt_44 : decode bA_ranksAt 44 = .ok (.imul, 1) := by decide +kernel
theorem dA_ranksAt_45 : decode bA_ranksAt 45 = .ok (.lshl, 1) := by decide +kernel
theorem dA_ranksAt_46 : decode bA_ranksAt 46 = .ok (.lor, 1) := by decide +kernel
theorem dA_ranksAt_47 : decode bA_ranksAt 47 = .ok (.lstore_n 2, 1) := by decide +kernel
theorem dA_ranksAt_48 : decode bA_ranksAt 48 = .ok (.iload 4, 2) := by decide +kernel
theorem dA_ranksAt_50 : decode bA_ranksAt 50 = .ok (.iload 7, 2) := by decide +kernel
theorem dA_ranksAt_52 : decode bA_ranksAt 52 = .ok (.isub, 1) := by decide +kernel
theorem dA_ranksAt_53 : decode bA_ranksAt 53 = .ok (.istore 4, 2) := by decide +kernel
theorem dA_ranksAt_55 : decode bA_ranksAt 55 = .ok (.iinc 5 (-1), 3) := by decide +kernel
theorem dA_ranksAt_58 : decode bA_ranksAt 58 = .ok (.iinc 6 (-1), 3) := by decide +kernel
theorem dA_ranksAt_61 : decode bA_ranksAt 61 = .ok (.goto (-49), 3) := by decide +kernel
theorem dA_ranksAt_64 : decode bA_ranksAt 64 = .ok (.lload_n 2, 1) := by decide +kernel
theorem dA_ranksAt_65 : decode bA_ranksAt 65 = .ok (.lreturn, 1) := by decide +kernel
abbrev bA_rowBehind : ByteArray := prog_1_method_50_code
def yA_rowBehind : MethodName := ⟨"HandTables", "rowBehind", "(IJ)I"⟩
theorem dA_rowBehind_0 : decode bA_rowBehind 0 = .ok (.lconst 1, 1) := by decide +kernel
theorem dA_rowBehind_1 : decode bA_rowBehind 1 = .ok (.iconst 4, 1) := by decide +kernel
theorem dA_rowBehind_2 : decode bA_rowBehind 2 = .ok (.iload_n 0, 1) := by decide +kernel
theorem dA_rowBehind_3 : decode bA_rowBehind 3 = .ok (.imul, 1) := by decide +kernel
theorem dA_rowBehind_4 : decode bA_rowBehind 4 = .ok (.lshl, 1) := by decide +kernel
theorem dA_rowBehind_5 : decode bA_rowBehind 5 = .ok (.iconst 0, 1) := by decide +kernel
theorem dA_rowBehind_6 : decode bA_rowBehind 6 = .ok (.invokestatic 184, 3) := by decide +kernel
theorem dA_rowBehind_9 : decode bA_rowBehind 9 = .ok (.lload_n 1, 1) := by decide +kernel
theorem dA_rowBehind_10 : decode bA_rowBehind 10 = .ok (.iload_n 0, 1) := by decide +kernel
theorem dA_rowBehind_11 : decode bA_rowBehind 11 = .ok (.invokestatic 198, 3) := by decide +kernel
theorem dA_rowBehind_14 : decode bA_rowBehind 14 = .ok (.iconst 1, 1) := by decide +kernel
theorem dA_rowBehind_15 : decode bA_rowBehind 15 = .ok (.invokestatic 184, 3) := by decide +kernel
theorem dA_rowBehind_18 : decode bA_rowBehind 18 = .ok (.iadd, 1) := by decide +kernel
theorem dA_rowBehind_19 : decode bA_rowBehind 19 = .ok (.ireturn, 1) := by decide +kernel
abbrev bA_beside : ByteArray := prog_1_method_43_code
def yA_beside : MethodName := ⟨"HandTables", "beside", "(JI)J"⟩
theorem dA_beside_0 : decode bA_beside 0 = .ok (.lconst 1, 1) := by decide +kernel
theorem dA_beside_1 : decode bA_beside 1 = .ok (.iconst 4, 1) := by decide +kernel
theorem dA_beside_2 : decode bA_beside 2 = .ok (.iload_n 2, 1) := by decide +kernel
theorem dA_beside_3 : decode bA_beside 3 = .ok (.imul, 1) := by decide +kernel
theorem dA_beside_4 : decode bA_beside 4 = .ok (.lshl, 1) := by decide +kernel
theorem dA_beside_5 : decode bA_beside 5 = .ok (.lconst 1, 1) := by decide +kernel
theorem dA_beside_6 : decode bA_beside 6 = .ok (.lsub, 1) := by decide +kernel
theorem dA_beside_7 : decode bA_beside 7 = .ok (.lstore_n 3, 1) := by decide +kernel
theorem dA_beside_8 : decode bA_beside 8 = .ok (.lload_n 0, 1) := by decide +kernel
theorem dA_beside_9 : decode bA_beside 9 = .ok (.lload_n 3, 1) := by decide +kernel
theorem dA_beside_10 : decode bA_beside 10 = .ok (.land, 1) := by decide +kernel
theorem dA_beside_11 : decode bA_beside 11 = .ok (.lload_n 0, 1) := by decide +kernel
theorem dA_beside_12 : decode bA_beside 12 = .ok (.lload_n 3, 1) := by decide +kernel
theorem dA_beside_13 : decode bA_beside 13 = .ok (.ldc2_w 67, 3) := by decide +kernel
theorem dA_beside_16 : decode bA_beside 16 = .ok (.lxor, 1) := by decide +kernel
theorem dA_beside_17 : decode bA_beside 17 = .ok (.land, 1) := by decide +kernel
theorem dA_beside_18 : decode bA_beside 18 = .ok (.iconst 4, 1) := by decide +kernel
theorem dA_beside_19 : decode bA_beside 19 = .ok (.lshl, 1) := by decide +kernel
theorem dA_beside_20 : decode bA_beside 20 = .ok (.lor, 1) := by decide +kernel
theorem dA_beside_21 : decode bA_beside 21 = .ok (.lreturn, 1) := by decide +kernel
abbrev bA_rowOfPairs : ByteArray := prog_1_method_51_code
def yA_rowOfPairs : MethodName := ⟨"HandTables", "rowOfPairs", "(I)I"⟩
theorem dA_rowOfPairs_0 : decode bA_rowOfPairs 0 = .ok (.iload_n 0, 1) := by decide +kernel
theorem dA_rowOfPairs_1 : decode bA_rowOfPairs 1 = .ok (.bipush 11, 2) := by decide +kernel
theorem dA_rowOfPairs_3 : decode bA_rowOfPairs 3 = .ok (.idiv, 1) := by decide +kernel
theorem dA_rowOfPairs_4 : decode bA_rowOfPairs 4 = .ok (.iconst 2, 1) := by decide +kernel
theorem dA_rowOfPairs_5 : decode bA_rowOfPairs 5 = .ok (.invokestatic 180, 3) := by decide +kernel
theorem dA_rowOfPairs_8 : decode bA_rowOfPairs 8 = .ok (.lstore_n 1, 1) := by decide +kernel
theorem dA_rowOfPairs_9 : decode bA_rowOfPairs 9 = .ok (.lload_n 1, 1) := by decide +kernel
theorem dA_rowOfPairs_10 : decode bA_rowOfPairs 10 = .ok (.invokestatic 151, 3) := by decide +kernel
theorem dA_rowOfPairs_13 : decode bA_rowOfPairs 13 = .ok (.istore_n 3, 1) := by decide +kernel
theorem dA_rowOfPairs_14 : decode bA_rowOfPairs 14 = .ok (.lload_n 1, 1) := by decide +kernel
theorem dA_rowOfPairs_15 : decode bA_rowOfPairs 15 = .ok (.iload_n 3, 1) := by decide +kernel
theorem dA_rowOfPairs_16 : decode bA_rowOfPairs 16 = .ok (.invokestatic 156, 3) := by decide +kernel
theorem dA_rowOfPairs_19 : decode bA_rowOfPairs 19 = .ok (.invokestatic 151, 3) := by decide +kernel
theorem dA_rowOfPairs_22 : decode bA_rowOfPairs 22 = .ok (.istore 4, 2) := by decide +kernel
theorem dA_rowOfPairs_24 : decode bA_rowOfPairs 24 = .ok (.iload_n 0, 1) := by decide +kernel
theorem dA_rowOfPairs_25 : decode bA_rowOfPairs 25 = .ok (.bipush 11, 2) := by decide +kernel
theorem dA_rowOfPairs_27 : decode bA_rowOfPairs 27 = .ok (.irem, 1) := by decide +kernel
theorem dA_rowOfPairs_28 : decode bA_rowOfPairs 28 = .ok (.iconst 1, 1) := by decide +kernel
theorem dA_rowOfPairs_29 : decode bA_rowOfPairs 29 = .ok (.invokestatic 180, 3) := by decide +kernel
theorem dA_rowOfPairs_32 : decode bA_rowOfPairs 32 = .ok (.iload 4, 2) := by decide +kernel
theorem dA_rowOfPairs_34 : decode bA_rowOfPairs 34 = .ok (.invokestatic 198, 3) := by decide +kernel
theorem dA_rowOfPairs_37 : decode bA_rowOfPairs 37 = .ok (.iload_n 3, 1) := by decide +kernel
theorem dA_rowOfPairs_38 : decode bA_rowOfPairs 38 = .ok (.invokestatic 198, 3) := by decide +kernel
theorem dA_rowOfPairs_41 : decode bA_rowOfPairs 41 = .ok (.lstore 5, 2) := by decide +kernel
theorem dA_rowOfPairs_43 : decode bA_rowOfPairs 43 = .ok (.lload_n 1, 1) := by decide +kernel
theorem dA_rowOfPairs_44 : decode bA_rowOfPairs 44 = .ok (.iconst 0, 1) := by decide +kernel
theorem dA_rowOfPairs_45 : decode bA_rowOfPairs 45 = .ok (.invokestatic 184, 3) := by decide +kernel
theorem dA_rowOfPairs_48 : decode bA_rowOfPairs 48 = .ok (.lload 5, 2) := by decide +kernel
theorem dA_rowOfPairs_50 : decode bA_rowOfPairs 50 = .ok (.iconst 2, 1) := by decide +kernel
theorem dA_rowOfPairs_51 : decode bA_rowOfPairs 51 = .ok (.invokestatic 184, 3) := by decide +kernel
theorem dA_rowOfPairs_54 : decode bA_rowOfPairs 54 = .ok (.iadd, 1) := by decide +kernel
theorem dA_rowOfPairs_55 : decode bA_rowOfPairs 55 = .ok (.ireturn, 1) := by decide +kernel
abbrev bA_ranksBesideStraights : ByteArray := prog_1_method_48_code
def yA_ranksBesideStraights : MethodName := ⟨"HandTables", "ranksBesideStraights", "(I)J"⟩
theorem dA_ranksBesideStraights_0 : decode bA_ranksBesideStraights 0 = .ok (.iload_n 0, 1) := by decide +kernel
theorem dA_ranksBesideStraights_1 : decode bA_ranksBesideStraights 1 = .ok (.istore_n 1, 1) := by decide +kernel
theorem dA_ranksBesideStraights_2 : decode bA_ranksBesideStraights 2 = .ok (.getstatic 177, 3) := by decide +kernel
theorem dA_ranksBesideStraights_5 : decode bA_ranksBesideStraights 5 = .ok (.astore_n 2, 1) := by decide +kernel
theorem dA_ranksBesideStraights_6 : decode bA_ranksBesideStraights 6 = .ok (.aload_n 2, 1) := by decide +kernel
theorem dA_ranksBesideStraights_7 : decode bA_ranksBesideStraights 7 = .ok (.arraylength, 1) := by decide +kernel
theorem dA_ranksBesideStraights_8 : decode bA_ranksBesideStraights 8 = .ok (.istore_n 3, 1) := by decide +kernel
theorem dA_ranksBesideStraights_9 : decode bA_ranksBesideStraights 9 = .ok (.iconst 0, 1) := by decide +kernel
theorem dA_ranksBesideStraights_10 : decode bA_ranksBesideStraights 10 = .ok (.istore 4, 2) := by decide +kernel
theorem dA_ranksBesideStraights_12 : decode bA_ranksBesideStraights 12 = .ok (.iload 4, 2) := by decide +kernel
theorem dA_ranksBesideStraights_14 : decode bA_ranksBesideStraights 14 = .ok (.iload_n 3, 1) := by decide +kernel
theorem dA_ranksBesideStraights_15 : decode bA_ranksBesideStraights 15 = .ok (.if_icmp .ge 24, 3) := by decide +kernel
theorem dA_ranksBesideStraights_18 : decode bA_ranksBesideStraights 18 = .ok (.aload_n 2, 1) := by decide +kernel
theorem dA_ranksBesideStraights_19 : decode bA_ranksBesideStraights 19 = .ok (.iload 4, 2) := by decide +kernel
theorem dA_ranksBesideStraights_21 : decode bA_ranksBesideStraights 21 = .ok (.iaload, 1) := by decide +kernel
theorem dA_ranksBesideStraights_22 : decode bA_ranksBesideStraights 22 = .ok (.istore 5, 2) := by decide +kernel
theorem dA_ranksBesideStraights_24 : decode bA_ranksBesideStraights 24 = .ok (.iload 5, 2) := by decide +kernel
theorem dA_ranksBesideStraights_26 : decode bA_ranksBesideStraights 26 = .ok (.iload_n 1, 1) := by decide +kernel
theorem dA_ranksBesideStraights_27 : decode bA_ranksBesideStraights 27 = .ok (.if_icmp .gt 6, 3) := by decide +kernel
theorem dA_ranksBesideStraights_30 : decode bA_ranksBesideStraights 30 = .ok (.iinc 1 1, 3) := by decide +kernel
theorem dA_ranksBesideStraights_33 : decode bA_ranksBesideStraights 33 = .ok (.iinc 4 1, 3) := by decide +kernel
theorem dA_ranksBesideStraights_36 : decode bA_ranksBesideStraights 36 = .ok (.goto (-24), 3) := by decide +kernel
theorem dA_ranksBesideStraights_39 : decode bA_ranksBesideStraights 39 = .ok (.iload_n 1, 1) := by decide +kernel
theorem dA_ranksBesideStraights_40 : decode bA_ranksBesideStraights 40 = .ok (.iconst 5, 1) := by decide +kernel
theorem dA_ranksBesideStraights_41 : decode bA_ranksBesideStraights 41 = .ok (.invokestatic 180, 3) := by decide +kernel
theorem dA_ranksBesideStraights_44 : decode bA_ranksBesideStraights 44 = .ok (.lreturn, 1) := by decide +kernel
abbrev bA_sets : ByteArray := prog_1_method_6_code
def yA_sets : MethodName := ⟨"HandTables", "sets", "(I)I"⟩
theorem dA_sets_0 : decode bA_sets 0 = .ok (.iload_n 1, 1) := by decide +kernel
theorem dA_sets_1 : decode bA_sets 1 = .ok (.invokestatic 36, 3) := by decide +kernel
theorem dA_sets_4 : decode bA_sets 4 = .ok (.getstatic 47, 3) := by decide +kernel
theorem dA_sets_7 : decode bA_sets 7 = .ok (.iload_n 1, 1) := by decide +kernel
theorem dA_sets_8 : decode bA_sets 8 = .ok (.invokestatic 28, 3) := by decide +kernel
theorem dA_sets_11 : decode bA_sets 11 = .ok (.iaload, 1) := by decide +kernel
theorem dA_sets_12 : decode bA_sets 12 = .ok (.ireturn, 1) := by decide +kernel
abbrev bA_first : ByteArray := prog_1_method_7_code
def yA_first : MethodName := ⟨"HandTables", "first", "(I)I"⟩
theorem dA_first_0 : decode bA_first 0 = .ok (.iload_n 1, 1) := by decide +kernel
theorem dA_first_1 : decode bA_first 1 = .ok (.ifCond .lt 9, 3) := by decide +kernel
theorem dA_first_4 : decode bA_first 4 = .ok (.iload_n 1, 1) := by decide +kernel
theorem dA_first_5 : decode bA_first 5 = .ok (.bipush 9, 2) := by decide +kernel
theorem dA_first_7 : decode bA_first 7 = .ok (.if_icmp .le 13, 3) := by decide +kernel
theorem dA_first_10 : decode bA_first 10 = .ok (.new 50, 3) := by decide +kernel
theorem dA_first_13 : decode bA_first 13 = .ok (.dup, 1) := by decide +kernel
theorem dA_first_14 : decode bA_first 14 = .ok (.ldc 52, 2) := by decide +kernel
theorem dA_first_16 : decode bA_first 16 = .ok (.invokespecial 54, 3) := by decide +kernel
theorem dA_first_19 : decode bA_first 19 = .ok (.athrow, 1) := by decide +kernel
theorem dA_first_20 : decode bA_first 20 = .ok (.getstatic 40, 3) := by decide +kernel
theorem dA_first_23 : decode bA_first 23 = .ok (.iload_n 1, 1) := by decide +kernel
theorem dA_first_24 : decode bA_first 24 = .ok (.iaload, 1) := by decide +kernel
theorem dA_first_25 : decode bA_first 25 = .ok (.ireturn, 1) := by decide +kernel
abbrev bA_seat : ByteArray := prog_1_method_8_code
def yA_seat : MethodName := ⟨"HandTables", "seat", "(III)Z"⟩
theorem dA_seat_0 : decode bA_seat 0 = .ok (.iload_n 1, 1) := by decide +kernel
theorem dA_seat_1 : decode bA_seat 1 = .ok (.invokestatic 57, 3) := by decide +kernel
theorem dA_seat_4 : decode bA_seat 4 = .ok (.iload_n 2, 1) := by decide +kernel
theorem dA_seat_5 : decode bA_seat 5 = .ok (.invokestatic 60, 3) := by decide +kernel
theorem dA_seat_8 : decode bA_seat 8 = .ok (.iload_n 3, 1) := by decide +kernel
theorem dA_seat_9 : decode bA_seat 9 = .ok (.invokestatic 60, 3) := by decide +kernel
theorem dA_seat_12 : decode bA_seat 12 = .ok (.lconst 1, 1) := by decide +kernel
theorem dA_seat_13 : decode bA_seat 13 = .ok (.iload_n 2, 1) := by decide +kernel
theorem dA_seat_14 : decode bA_seat 14 = .ok (.lshl, 1) := by decide +kernel
theorem dA_seat_15 : decode bA_seat 15 = .ok (.lconst 1, 1) := by decide +kernel
theorem dA_seat_16 : decode bA_seat 16 = .ok (.iload_n 3, 1) := by decide +kernel
theorem dA_seat_17 : decode bA_seat 17 = .ok (.lshl, 1) := by decide +kernel
theorem dA_seat_18 : decode bA_seat 18 = .ok (.lor, 1) := by decide +kernel
theorem dA_seat_19 : decode bA_seat 19 = .ok (.lstore 4, 2) := by decide +kernel
theorem dA_seat_21 : decode bA_seat 21 = .ok (.aload_n 0, 1) := by decide +kernel
theorem dA_seat_22 : decode bA_seat 22 = .ok (.invokevirtual 63, 3) := by decide +kernel
theorem dA_seat_25 : decode bA_seat 25 = .ok (.aload_n 0, 1) := by decide +kernel
theorem dA_seat_26 : decode bA_seat 26 = .ok (.getfield 9, 3) := by decide +kernel
theorem dA_seat_29 : decode bA_seat 29 = .ok (.iload_n 1, 1) := by decide +kernel
theorem dA_seat_30 : decode bA_seat 30 = .ok (.laload, 1) := by decide +kernel
theorem dA_seat_31 : decode bA_seat 31 = .ok (.ldc2_w 67, 3) := by decide +kernel
theorem dA_seat_34 : decode bA_seat 34 = .ok (.lxor, 1) := by decide +kernel
theorem dA_seat_35 : decode bA_seat 35 = .ok (.land, 1) := by decide +kernel
theorem dA_seat_36 : decode bA_seat 36 = .ok (.lstore 6, 2) := by decide +kernel
theorem dA_seat_38 : decode bA_seat 38 = .ok (.iload_n 2, 1) := by decide +kernel
theorem dA_seat_39 : decode bA_seat 39 = .ok (.iload_n 3, 1) := by decide +kernel
theorem dA_seat_40 : decode bA_seat 40 = .ok (.if_icmp .eq 13, 3) := by decide +kernel
theorem dA_seat_43 : decode bA_seat 43 = .ok (.lload 4, 2) := by decide +kernel
theorem dA_seat_45 : decode bA_seat 45 = .ok (.lload 6, 2) := by decide +kernel
theorem dA_seat_47 : decode bA_seat 47 = .ok (.land, 1) := by decide +kernel
theorem dA_seat_48 : decode bA_seat 48 = .ok (.lconst 0, 1) := by decide +kernel
theorem dA_seat_49 : decode bA_seat 49 = .ok (.lcmp, 1) := by decide +kernel
theorem dA_seat_50 : decode bA_seat 50 = .ok (.ifCond .eq 5, 3) := by decide +kernel
theorem dA_seat_53 : decode bA_seat 53 = .ok (.iconst 0, 1) := by decide +kernel
theorem dA_seat_54 : decode bA_seat 54 = .ok (.ireturn, 1) := by decide +kernel
theorem dA_seat_55 : decode bA_seat 55 = .ok (.aload_n 0, 1) := by decide +kernel
theorem dA_seat_56 : decode bA_seat 56 = .ok (.getfield 9, 3) := by decide +kernel
theorem dA_seat_59 : decode bA_seat 59 = .ok (.iload_n 1, 1) := by decide +kernel
theorem dA_seat_60 : decode bA_seat 60 = .ok (.lload 4, 2) := by decide +kernel
theorem dA_seat_62 : decode bA_seat 62 = .ok (.lastore, 1) := by decide +kernel
theorem dA_seat_63 : decode bA_seat 63 = .ok (.iconst 1, 1) := by decide +kernel
theorem dA_seat_64 : decode bA_seat 64 = .ok (.ireturn, 1) := by decide +kernel
abbrev bA_requireSeat : ByteArray := prog_1_method_23_code
def yA_requireSeat : MethodName := ⟨"HandTables", "requireSeat", "(I)V"⟩
theorem dA_requireSeat_0 : decode bA_requireSeat 0 = .ok (.iload_n 0, 1) := by decide +kernel
theorem dA_requireSeat_1 : decode bA_requireSeat 1 = .ok (.ifCond .lt 9, 3) := by decide +kernel
theorem dA_requireSeat_4 : decode bA_requireSeat 4 = .ok (.iload_n 0, 1) := by decide +kernel
theorem dA_requireSeat_5 : decode bA_requireSeat 5 = .ok (.bipush 6, 2) := by decide +kernel
theorem dA_requireSeat_7 : decode bA_requireSeat 7 = .ok (.if_icmp .lt 13, 3) := by decide +kernel
theorem dA_requireSeat_10 : decode bA_requireSeat 10 = .ok (.new 127, 3) := by decide +kernel
theorem dA_requireSeat_13 : decode bA_requireSeat 13 = .ok (.dup, 1) := by decide +kernel
theorem dA_requireSeat_14 : decode bA_requireSeat 14 = .ok (.ldc 129, 2) := by decide +kernel
theorem dA_requireSeat_16 : decode bA_requireSeat 16 = .ok (.invokespecial 131, 3) := by decide +kernel
theorem dA_requireSeat_19 : decode bA_requireSeat 19 = .ok (.athrow, 1) := by decide +kernel
theorem dA_requireSeat_20 : decode bA_requireSeat 20 = .ok (.return_, 1) := by decide +kernel
abbrev bA_requireCard : ByteArray := prog_1_method_24_code
def yA_requireCard : MethodName := ⟨"HandTables", "requireCard", "(I)V"⟩
theorem dA_requireCard_0 : decode bA_requireCard 0 = .ok (.iload_n 0, 1) := by decide +kernel
theorem dA_requireCard_1 : decode bA_requireCard 1 = .ok (.ifCond .lt 9, 3) := by decide +kernel
theorem dA_requireCard_4 : decode bA_requireCard 4 = .ok (.iload_n 0, 1) := by decide +kernel
theorem dA_requireCard_5 : decode bA_requireCard 5 = .ok (.bipush 52, 2) := by decide +kernel
theorem dA_requireCard_7 : decode bA_requireCard 7 = .ok (.if_icmp .lt 13, 3) := by decide +kernel
theorem dA_requireCard_10 : decode bA_requireCard 10 = .ok (.new 50, 3) := by decide +kernel
theorem dA_requireCard_13 : decode bA_requireCard 13 = .ok (.dup, 1) := by decide +kernel
theorem dA_requireCard_14 : decode bA_requireCard 14 = .ok (.ldc 132, 2) := by decide +kernel
theorem dA_requireCard_16 : decode bA_requireCard 16 = .ok (.invokespecial 54, 3) := by decide +kernel
theorem dA_requireCard_19 : decode bA_requireCard 19 = .ok (.athrow, 1) := by decide +kernel
theorem dA_requireCard_20 : decode bA_requireCard 20 = .ok (.return_, 1) := by decide +kernel
abbrev bA_standing : ByteArray := prog_1_method_29_code
def yA_standing : MethodName := ⟨"HandTables", "standing", "()J"⟩
theorem dA_standing_0 : decode bA_standing 0 = .ok (.lconst 0, 1) := by decide +kernel
theorem dA_standing_1 : decode bA_standing 1 = .ok (.lstore_n 1, 1) := by decide +kernel
theorem dA_standing_2 : decode bA_standing 2 = .ok (.iconst 0, 1) := by decide +kernel
theorem dA_standing_3 : decode bA_standing 3 = .ok (.istore_n 3, 1) := by decide +kernel
theorem dA_standing_4 : decode bA_standing 4 = .ok (.iload_n 3, 1) := by decide +kernel
theorem dA_standing_5 : decode bA_standing 5 = .ok (.bipush 6, 2) := by decide +kernel
theorem dA_standing_7 : decode bA_standing 7 = .ok (.if_icmp .gt 18, 3) := by decide +kernel
theorem dA_standing_10 : decode bA_standing 10 = .ok (.lload_n 1, 1) := by decide +kernel
theorem dA_standing_11 : decode bA_standing 11 = .ok (.aload_n 0, 1) := by decide +kernel
theorem dA_standing_12 : decode bA_standing 12 = .ok (.getfield 9, 3) := by decide +kernel
theorem dA_standing_15 : decode bA_standing 15 = .ok (.iload_n 3, 1) := by decide +kernel
theorem dA_standing_16 : decode bA_standing 16 = .ok (.laload, 1) := by decide +kernel
theorem dA_standing_17 : decode bA_standing 17 = .ok (.lor, 1) := by decide +kernel
theorem dA_standing_18 : decode bA_standing 18 = .ok (.lstore_n 1, 1) := by decide +kernel
theorem dA_standing_19 : decode bA_standing 19 = .ok (.iinc 3 1, 3) := by decide +kernel
theorem dA_standing_22 : decode bA_standing 22 = .ok (.goto (-18), 3) := by decide +kernel
theorem dA_standing_25 : decode bA_standing 25 = .ok (.lload_n 1, 1) := by decide +kernel
theorem dA_standing_26 : decode bA_standing 26 = .ok (.lreturn, 1) := by decide +kernel
abbrev bA_leave : ByteArray := prog_1_method_9_code
def yA_leave : MethodName := ⟨"HandTables", "leave", "(I)Z"⟩
theorem dA_leave_0 : decode bA_leave 0 = .ok (.iload_n 1, 1) := by decide +kernel
theorem dA_leave_1 : decode bA_leave 1 = .ok (.invokestatic 57, 3) := by decide +kernel
theorem dA_leave_4 : decode bA_leave 4 = .ok (.aload_n 0, 1) := by decide +kernel
theorem dA_leave_5 : decode bA_leave 5 = .ok (.getfield 9, 3) := by decide +kernel
theorem dA_leave_8 : decode bA_leave 8 = .ok (.iload_n 1, 1) := by decide +kernel
theorem dA_leave_9 : decode bA_leave 9 = .ok (.laload, 1) := by decide +kernel
theorem dA_leave_10 : decode bA_leave 10 = .ok (.lconst 0, 1) := by decide +kernel
theorem dA_leave_11 : decode bA_leave 11 = .ok (.lcmp, 1) := by decide +kernel
theorem dA_leave_12 : decode bA_leave 12 = .ok (.ifCond .eq 7, 3) := by decide +kernel
theorem dA_leave_15 : decode bA_leave 15 = .ok (.iconst 1, 1) := by decide +kernel
theorem dA_leave_16 : decode bA_leave 16 = .ok (.goto 4, 3) := by decide +kernel
theorem dA_leave_19 : decode bA_leave 19 = .ok (.iconst 0, 1) := by decide +kernel
theorem dA_leave_20 : decode bA_leave 20 = .ok (.istore_n 2, 1) := by decide +kernel
theorem dA_leave_21 : decode bA_leave 21 = .ok (.aload_n 0, 1) := by decide +kernel
theorem dA_leave_22 : decode bA_leave 22 = .ok (.getfield 9, 3) := by decide +kernel
theorem dA_leave_25 : decode bA_leave 25 = .ok (.iload_n 1, 1) := by decide +kernel
theorem dA_leave_26 : decode bA_leave 26 = .ok (.lconst 0, 1) := by decide +kernel
theorem dA_leave_27 : decode bA_leave 27 = .ok (.lastore, 1) := by decide +kernel
theorem dA_leave_28 : decode bA_leave 28 = .ok (.iload_n 2, 1) := by decide +kernel
theorem dA_leave_29 : decode bA_leave 29 = .ok (.ireturn, 1) := by decide +kernel
abbrev bA_board : ByteArray := prog_1_method_10_code
def yA_board : MethodName := ⟨"HandTables", "board", "(I)I"⟩
theorem dA_board_0 : decode bA_board 0 = .ok (.iload_n 1, 1) := by decide +kernel
theorem dA_board_1 : decode bA_board 1 = .ok (.invokestatic 60, 3) := by decide +kernel
theorem dA_board_4 : decode bA_board 4 = .ok (.lconst 1, 1) := by decide +kernel
theorem dA_board_5 : decode bA_board 5 = .ok (.iload_n 1, 1) := by decide +kernel
theorem dA_board_6 : decode bA_board 6 = .ok (.lshl, 1) := by decide +kernel
theorem dA_board_7 : decode bA_board 7 = .ok (.lstore_n 2, 1) := by decide +kernel
theorem dA_board_8 : decode bA_board 8 = .ok (.aload_n 0, 1) := by decide +kernel
theorem dA_board_9 : decode bA_board 9 = .ok (.invokevirtual 69, 3) := by decide +kernel
theorem dA_board_12 : decode bA_board 12 = .ok (.ifCond .eq 14, 3) := by decide +kernel
theorem dA_board_15 : decode bA_board 15 = .ok (.aload_n 0, 1) := by decide +kernel
theorem dA_board_16 : decode bA_board 16 = .ok (.invokevirtual 63, 3) := by decide +kernel
theorem dA_board_19 : decode bA_board 19 = .ok (.lload_n 2, 1) := by decide +kernel
theorem dA_board_20 : decode bA_board 20 = .ok (.land, 1) := by decide +kernel
theorem dA_board_21 : decode bA_board 21 = .ok (.lconst 0, 1) := by decide +kernel
theorem dA_board_22 : decode bA_board 22 = .ok (.lcmp, 1) := by decide +kernel
theorem dA_board_23 : decode bA_board 23 = .ok (.ifCond .eq 5, 3) := by decide +kernel
theorem dA_board_26 : decode bA_board 26 = .ok (.iconst (-1), 1) := by decide +kernel
theorem dA_board_27 : decode bA_board 27 = .ok (.ireturn, 1) := by decide +kernel
theorem dA_board_28 : decode bA_board 28 = .ok (.aload_n 0, 1) := by decide +kernel
theorem dA_board_29 : decode bA_board 29 = .ok (.getfield 9, 3) := by decide +kernel
theorem dA_board_32 : decode bA_board 32 = .ok (.bipush 6, 2) := by decide +kernel
theorem dA_board_34 : decode bA_board 34 = .ok (.dup2, 1) := by decide +kernel
theorem dA_board_35 : decode bA_board 35 = .ok (.laload, 1) := by decide +kernel
theorem dA_board_36 : decode bA_board 36 = .ok (.lload_n 2, 1) := by decide +kernel
theorem dA_board_37 : decode bA_board 37 = .ok (.lor, 1) := by decide +kernel
theorem dA_board_38 : decode bA_board 38 = .ok (.lastore, 1) := by decide +kernel
theorem dA_board_39 : decode bA_board 39 = .ok (.aload_n 0, 1) := by decide +kernel
theorem dA_board_40 : decode bA_board 40 = .ok (.invokevirtual 73, 3) := by decide +kernel
theorem dA_board_43 : decode bA_board 43 = .ok (.ireturn, 1) := by decide +kernel
abbrev bA_missing : ByteArray := prog_1_method_28_code
def yA_missing : MethodName := ⟨"HandTables", "missing", "()I"⟩
theorem dA_missing_0 : decode bA_missing 0 = .ok (.iconst 5, 1) := by decide +kernel
theorem dA_missing_1 : decode bA_missing 1 = .ok (.aload_n 0, 1) := by decide +kernel
theorem dA_missing_2 : decode bA_missing 2 = .ok (.invokevirtual 73, 3) := by decide +kernel
theorem dA_missing_5 : decode bA_missing 5 = .ok (.isub, 1) := by decide +kernel
theorem dA_missing_6 : decode bA_missing 6 = .ok (.ireturn, 1) := by decide +kernel
abbrev bA_cards : ByteArray := prog_1_method_12_code
def yA_cards : MethodName := ⟨"HandTables", "cards", "(I)J"⟩
theorem dA_cards_0 : decode bA_cards 0 = .ok (.iload_n 1, 1) := by decide +kernel
theorem dA_cards_1 : decode bA_cards 1 = .ok (.bipush 6, 2) := by decide +kernel
theorem dA_cards_3 : decode bA_cards 3 = .ok (.if_icmp .eq 7, 3) := by decide +kernel
theorem dA_cards_6 : decode bA_cards 6 = .ok (.iload_n 1, 1) := by decide +kernel
theorem dA_cards_7 : decode bA_cards 7 = .ok (.invokestatic 57, 3) := by decide +kernel
theorem dA_cards_10 : decode bA_cards 10 = .ok (.aload_n 0, 1) := by decide +kernel
theorem dA_cards_11 : decode bA_cards 11 = .ok (.getfield 9, 3) := by decide +kernel
theorem dA_cards_14 : decode bA_cards 14 = .ok (.iload_n 1, 1) := by decide +kernel
theorem dA_cards_15 : decode bA_cards 15 = .ok (.laload, 1) := by decide +kernel
theorem dA_cards_16 : decode bA_cards 16 = .ok (.lreturn, 1) := by decide +kernel
abbrev bA_hand : ByteArray := prog_1_method_13_code
def yA_hand : MethodName := ⟨"HandTables", "hand", "(I)I"⟩
theorem dA_hand_0 : decode bA_hand 0 = .ok (.iload_n 1, 1) := by decide +kernel
theorem dA_hand_1 : decode bA_hand 1 = .ok (.invokestatic 57, 3) := by decide +kernel
theorem dA_hand_4 : decode bA_hand 4 = .ok (.aload_n 0, 1) := by decide +kernel
theorem dA_hand_5 : decode bA_hand 5 = .ok (.iload_n 1, 1) := by decide +kernel
theorem dA_hand_6 : decode bA_hand 6 = .ok (.invokevirtual 76, 3) := by decide +kernel
theorem dA_hand_9 : decode bA_hand 9 = .ok (.aload_n 0, 1) := by decide +kernel
theorem dA_hand_10 : decode bA_hand 10 = .ok (.invokevirtual 79, 3) := by decide +kernel
theorem dA_hand_13 : decode bA_hand 13 = .ok (.aload_n 0, 1) := by decide +kernel
theorem dA_hand_14 : decode bA_hand 14 = .ok (.getfield 9, 3) := by decide +kernel
theorem dA_hand_17 : decode bA_hand 17 = .ok (.iload_n 1, 1) := by decide +kernel
theorem dA_hand_18 : decode bA_hand 18 = .ok (.laload, 1) := by decide +kernel
theorem dA_hand_19 : decode bA_hand 19 = .ok (.aload_n 0, 1) := by decide +kernel
theorem dA_hand_20 : decode bA_hand 20 = .ok (.getfield 9, 3) := by decide +kernel
theorem dA_hand_23 : decode bA_hand 23 = .ok (.bipush 6, 2) := by decide +kernel
theorem dA_hand_25 : decode bA_hand 25 = .ok (.laload, 1) := by decide +kernel
theorem dA_hand_26 : decode bA_hand 26 = .ok (.lor, 1) := by decide +kernel
theorem dA_hand_27 : decode bA_hand 27 = .ok (.invokestatic 24, 3) := by decide +kernel
theorem dA_hand_30 : decode bA_hand 30 = .ok (.ireturn, 1) := by decide +kernel
abbrev bA_requireTaken : ByteArray := prog_1_method_25_code
def yA_requireTaken : MethodName := ⟨"HandTables", "requireTaken", "(I)V"⟩
theorem dA_requireTaken_0 : decode bA_requireTaken 0 = .ok (.aload_n 0, 1) := by decide +kernel
theorem dA_requireTaken_1 : decode bA_requireTaken 1 = .ok (.getfield 9, 3) := by decide +kernel
theorem dA_requireTaken_4 : decode bA_requireTaken 4 = .ok (.iload_n 1, 1) := by decide +kernel
theorem dA_requireTaken_5 : decode bA_requireTaken 5 = .ok (.laload, 1) := by decide +kernel
theorem dA_requireTaken_6 : decode bA_requireTaken 6 = .ok (.lconst 0, 1) := by decide +kernel
theorem dA_requireTaken_7 : decode bA_requireTaken 7 = .ok (.lcmp, 1) := by decide +kernel
theorem dA_requireTaken_8 : decode bA_requireTaken 8 = .ok (.ifCond .ne 13, 3) := by decide +kernel
theorem dA_requireTaken_11 : decode bA_requireTaken 11 = .ok (.new 86, 3) := by decide +kernel
theorem dA_requireTaken_14 : decode bA_requireTaken 14 = .ok (.dup, 1) := by decide +kernel
theorem dA_requireTaken_15 : decode bA_requireTaken 15 = .ok (.ldc 134, 2) := by decide +kernel
theorem dA_requireTaken_17 : decode bA_requireTaken 17 = .ok (.invokespecial 90, 3) := by decide +kernel
theorem dA_requireTaken_20 : decode bA_requireTaken 20 = .ok (.athrow, 1) := by decide +kernel
theorem dA_requireTaken_21 : decode bA_requireTaken 21 = .ok (.return_, 1) := by decide +kernel
abbrev bA_requireThreeOnBoard : ByteArray := prog_1_method_26_code
def yA_requireThreeOnBoard : MethodName := ⟨"HandTables", "requireThreeOnBoard", "()V"⟩
theorem dA_requireThreeOnBoard_0 : decode bA_requireThreeOnBoard 0 = .ok (.aload_n 0, 1) := by decide +kernel
theorem dA_requireThreeOnBoard_1 : decode bA_requireThreeOnBoard 1 = .ok (.invokevirtual 73, 3) := by decide +kernel
theorem dA_requireThreeOnBoard_4 : decode bA_requireThreeOnBoard 4 = .ok (.iconst 3, 1) := by decide +kernel
theorem dA_requireThreeOnBoard_5 : decode bA_requireThreeOnBoard 5 = .ok (.if_icmp .ge 13, 3) := by decide +kernel
theorem dA_requireThreeOnBoard_8 : decode bA_requireThreeOnBoard 8 = .ok (.new 86, 3) := by decide +kernel
theorem dA_requireThreeOnBoard_11 : decode bA_requireThreeOnBoard 11 = .ok (.dup, 1) := by decide +kernel
theorem dA_requireThreeOnBoard_12 : decode bA_requireThreeOnBoard 12 = .ok (.ldc 136, 2) := by decide +kernel
theorem dA_requireThreeOnBoard_14 : decode bA_requireThreeOnBoard 14 = .ok (.invokespecial 90, 3) := by decide +kernel
theorem dA_requireThreeOnBoard_17 : decode bA_requireThreeOnBoard 17 = .ok (.athrow, 1) := by decide +kernel
theorem dA_requireThreeOnBoard_18 : decode bA_requireThreeOnBoard 18 = .ok (.return_, 1) := by decide +kernel
abbrev bA_ahead : ByteArray := prog_1_method_14_code
def yA_ahead : MethodName := ⟨"HandTables", "ahead", "()I"⟩
theorem dA_ahead_0 : decode bA_ahead 0 = .ok (.aload_n 0, 1) := by decide +kernel
theorem dA_ahead_1 : decode bA_ahead 1 = .ok (.invokevirtual 79, 3) := by decide +kernel
theorem dA_ahead_4 : decode bA_ahead 4 = .ok (.aload_n 0, 1) := by decide +kernel
theorem dA_ahead_5 : decode bA_ahead 5 = .ok (.getfield 9, 3) := by decide +kernel
theorem dA_ahead_8 : decode bA_ahead 8 = .ok (.aload_n 0, 1) := by decide +kernel
theorem dA_ahead_9 : decode bA_ahead 9 = .ok (.getfield 9, 3) := by decide +kernel
theorem dA_ahead_12 : decode bA_ahead 12 = .ok (.bipush 6, 2) := by decide +kernel
theorem dA_ahead_14 : decode bA_ahead 14 = .ok (.laload, 1) := by decide +kernel
theorem dA_ahead_15 : decode bA_ahead 15 = .ok (.invokestatic 82, 3) := by decide +kernel
theorem dA_ahead_18 : decode bA_ahead 18 = .ok (.istore_n 1, 1) := by decide +kernel
theorem dA_ahead_19 : decode bA_ahead 19 = .ok (.iload_n 1, 1) := by decide +kernel
theorem dA_ahead_20 : decode bA_ahead 20 = .ok (.ifCond .ne 13, 3) := by decide +kernel
theorem dA_ahead_23 : decode bA_ahead 23 = .ok (.new 86, 3) := by decide +kernel
theorem dA_ahead_26 : decode bA_ahead 26 = .ok (.dup, 1) := by decide +kernel
theorem dA_ahead_27 : decode bA_ahead 27 = .ok (.ldc 88, 2) := by decide +kernel
theorem dA_ahead_29 : decode bA_ahead 29 = .ok (.invokespecial 90, 3) := by decide +kernel
theorem dA_ahead_32 : decode bA_ahead 32 = .ok (.athrow, 1) := by decide +kernel
theorem dA_ahead_33 : decode bA_ahead 33 = .ok (.iload_n 1, 1) := by decide +kernel
theorem dA_ahead_34 : decode bA_ahead 34 = .ok (.ireturn, 1) := by decide +kernel
abbrev bA_leadersOn : ByteArray := prog_1_method_31_code
def yA_leadersOn : MethodName := ⟨"HandTables", "leadersOn", "([JJ)I"⟩
theorem dA_leadersOn_0 : decode bA_leadersOn 0 = .ok (.iconst (-1), 1) := by decide +kernel
theorem dA_leadersOn_1 : decode bA_leadersOn 1 = .ok (.istore_n 3, 1) := by decide +kernel
theorem dA_leadersOn_2 : decode bA_leadersOn 2 = .ok (.iconst 0, 1) := by decide +kernel
theorem dA_leadersOn_3 : decode bA_leadersOn 3 = .ok (.istore 4, 2) := by decide +kernel
theorem dA_leadersOn_5 : decode bA_leadersOn 5 = .ok (.iconst 0, 1) := by decide +kernel
theorem dA_leadersOn_6 : decode bA_leadersOn 6 = .ok (.istore 5, 2) := by decide +kernel
theorem dA_leadersOn_8 : decode bA_leadersOn 8 = .ok (.iload 5, 2) := by decide +kernel
theorem dA_leadersOn_10 : decode bA_leadersOn 10 = .ok (.bipush 6, 2) := by decide +kernel
theorem dA_leadersOn_12 : decode bA_leadersOn 12 = .ok (.if_icmp .ge 66, 3) := by decide +kernel
theorem dA_leadersOn_15 : decode bA_leadersOn 15 = .ok (.aload_n 0, 1) := by decide +kernel
theorem dA_leadersOn_16 : decode bA_leadersOn 16 = .ok (.iload 5, 2) := by decide +kernel
theorem dA_leadersOn_18 : decode bA_leadersOn 18 = .ok (.laload, 1) := by decide +kernel
theorem dA_leadersOn_19 : decode bA_leadersOn 19 = .ok (.lconst 0, 1) := by decide +kernel
theorem dA_leadersOn_20 : decode bA_leadersOn 20 = .ok (.lcmp, 1) := by decide +kernel
theorem dA_leadersOn_21 : decode bA_leadersOn 21 = .ok (.ifCond .ne 7, 3) := by decide +kernel
theorem dA_leadersOn_24 : decode bA_leadersOn 24 = .ok (.iconst (-1), 1) := by decide +kernel
theorem dA_leadersOn_25 : decode bA_leadersOn 25 = .ok (.goto 12, 3) := by decide +kernel
theorem dA_leadersOn_28 : decode bA_leadersOn 28 = .ok (.aload_n 0, 1) := by decide +kernel
theorem dA_leadersOn_29 : decode bA_leadersOn 29 = .ok (.iload 5, 2) := by decide +kernel
theorem dA_leadersOn_31 : decode bA_leadersOn 31 = .ok (.laload, 1) := by decide +kernel
theorem dA_leadersOn_32 : decode bA_leadersOn 32 = .ok (.lload_n 1, 1) := by decide +kernel
theorem dA_leadersOn_33 : decode bA_leadersOn 33 = .ok (.lor, 1) := by decide +kernel
theorem dA_leadersOn_34 : decode bA_leadersOn 34 = .ok (.invokestatic 24, 3) := by decide +kernel
theorem dA_leadersOn_37 : decode bA_leadersOn 37 = .ok (.istore 6, 2) := by decide +kernel
theorem dA_leadersOn_39 : decode bA_leadersOn 39 = .ok (.iload 6, 2) := by decide +kernel
theorem dA_leadersOn_41 : decode bA_leadersOn 41 = .ok (.iload_n 3, 1) := by decide +kernel
theorem dA_leadersOn_42 : decode bA_leadersOn 42 = .ok (.if_icmp .le 9, 3) := by decide +kernel
theorem dA_leadersOn_45 : decode bA_leadersOn 45 = .ok (.iload 6, 2) := by decide +kernel
theorem dA_leadersOn_47 : decode bA_leadersOn 47 = .ok (.istore_n 3, 1) := by decide +kernel
theorem dA_leadersOn_48 : decode bA_leadersOn 48 = .ok (.iconst 0, 1) := by decide +kernel
theorem dA_leadersOn_49 : decode bA_leadersOn 49 = .ok (.istore 4, 2) := by decide +kernel
theorem dA_leadersOn_51 : decode bA_leadersOn 51 = .ok (.iload 6, 2) := by decide +kernel
theorem dA_leadersOn_53 : decode bA_leadersOn 53 = .ok (.iconst (-1), 1) := by decide +kernel
theorem dA_leadersOn_54 : decode bA_leadersOn 54 = .ok (.if_icmp .eq 18, 3) := by decide +kernel
theorem dA_leadersOn_57 : decode bA_leadersOn 57 = .ok (.iload 6, 2) := by decide +kernel
theorem dA_leadersOn_59 : decode bA_leadersOn 59 = .ok (.iload_n 3, 1) := by decide +kernel
theorem dA_leadersOn_60 : decode bA_leadersOn 60 = .ok (.if_icmp .ne 12, 3) := by decide +kernel
theorem dA_leadersOn_63 : decode bA_leadersOn 63 = .ok (.iload 4, 2) := by decide +kernel
theorem dA_leadersOn_65 : decode bA_leadersOn 65 = .ok (.iconst 1, 1) := by decide +kernel
theorem dA_leadersOn_66 : decode bA_leadersOn 66 = .ok (.iload 5, 2) := by decide +kernel
theorem dA_leadersOn_68 : decode bA_leadersOn 68 = .ok (.ishl, 1) := by decide +kernel
theorem dA_leadersOn_69 : decode bA_leadersOn 69 = .ok (.ior, 1) := by decide +kernel
theorem dA_leadersOn_70 : decode bA_leadersOn 70 = .ok (.istore 4, 2) := by decide +kernel
theorem dA_leadersOn_72 : decode bA_leadersOn 72 = .ok (.iinc 5 1, 3) := by decide +kernel
theorem dA_leadersOn_75 : decode bA_leadersOn 75 = .ok (.goto (-67), 3) := by decide +kernel
theorem dA_leadersOn_78 : decode bA_leadersOn 78 = .ok (.iload 4, 2) := by decide +kernel
theorem dA_leadersOn_80 : decode bA_leadersOn 80 = .ok (.ireturn, 1) := by decide +kernel
abbrev bA_boards : ByteArray := prog_1_method_15_code
def yA_boards : MethodName := ⟨"HandTables", "boards", "()I"⟩
theorem dA_boards_0 : decode bA_boards 0 = .ok (.aload_n 0, 1) := by decide +kernel
theorem dA_boards_1 : decode bA_boards 1 = .ok (.invokevirtual 79, 3) := by decide +kernel
theorem dA_boards_4 : decode bA_boards 4 = .ok (.aload_n 0, 1) := by decide +kernel
theorem dA_boards_5 : decode bA_boards 5 = .ok (.invokevirtual 91, 3) := by decide +kernel
theorem dA_boards_8 : decode bA_boards 8 = .ok (.invokestatic 94, 3) := by decide +kernel
theorem dA_boards_11 : decode bA_boards 11 = .ok (.istore_n 1, 1) := by decide +kernel
theorem dA_boards_12 : decode bA_boards 12 = .ok (.aload_n 0, 1) := by decide +kernel
theorem dA_boards_13 : decode bA_boards 13 = .ok (.invokevirtual 69, 3) := by decide +kernel
theorem dA_boards_16 : decode bA_boards 16 = .ok (.lookupswitch 32 #[(0, 28), (1, 30)], 28) := by decide +kernel
theorem dA_boards_44 : decode bA_boards 44 = .ok (.iconst 1, 1) := by decide +kernel
theorem dA_boards_45 : decode bA_boards 45 = .ok (.ireturn, 1) := by decide +kernel
theorem dA_boards_46 : decode bA_boards 46 = .ok (.iload_n 1, 1) := by decide +kernel
theorem dA_boards_47 : decode bA_boards 47 = .ok (.ireturn, 1) := by decide +kernel
theorem dA_boards_48 : decode bA_boards 48 = .ok (.iload_n 1, 1) := by decide +kernel
theorem dA_boards_49 : decode bA_boards 49 = .ok (.iload_n 1, 1) := by decide +kernel
theorem dA_boards_50 : decode bA_boards 50 = .ok (.iconst 1, 1) := by decide +kernel
theorem dA_boards_51 : decode bA_boards 51 = .ok (.isub, 1) := by decide +kernel
theorem dA_boards_52 : decode bA_boards 52 = .ok (.imul, 1) := by decide +kernel
theorem dA_boards_53 : decode bA_boards 53 = .ok (.iconst 2, 1) := by decide +kernel
theorem dA_boards_54 : decode bA_boards 54 = .ok (.idiv, 1) := by decide +kernel
theorem dA_boards_55 : decode bA_boards 55 = .ok (.ireturn, 1) := by decide +kernel
abbrev bA_free : ByteArray := prog_1_method_30_code
def yA_free : MethodName := ⟨"HandTables", "free", "()J"⟩
theorem dA_free_0 : decode bA_free 0 = .ok (.ldc2_w 138, 3) := by decide +kernel
theorem dA_free_3 : decode bA_free 3 = .ok (.aload_n 0, 1) := by decide +kernel
theorem dA_free_4 : decode bA_free 4 = .ok (.invokevirtual 63, 3) := by decide +kernel
theorem dA_free_7 : decode bA_free 7 = .ok (.ldc2_w 67, 3) := by decide +kernel
theorem dA_free_10 : decode bA_free 10 = .ok (.lxor, 1) := by decide +kernel
theorem dA_free_11 : decode bA_free 11 = .ok (.land, 1) := by decide +kernel
theorem dA_free_12 : decode bA_free 12 = .ok (.lreturn, 1) := by decide +kernel
abbrev bA_wins : ByteArray := prog_1_method_16_code
def yA_wins : MethodName := ⟨"HandTables", "wins", "(II)I"⟩
theorem dA_wins_0 : decode bA_wins 0 = .ok (.iload_n 1, 1) := by decide +kernel
theorem dA_wins_1 : decode bA_wins 1 = .ok (.invokestatic 57, 3) := by decide +kernel
theorem dA_wins_4 : decode bA_wins 4 = .ok (.iload_n 2, 1) := by decide +kernel
theorem dA_wins_5 : decode bA_wins 5 = .ok (.ifCond .eq 18, 3) := by decide +kernel
theorem dA_wins_8 : decode bA_wins 8 = .ok (.iload_n 2, 1) := by decide +kernel
theorem dA_wins_9 : decode bA_wins 9 = .ok (.iconst 1, 1) := by decide +kernel
theorem dA_wins_10 : decode bA_wins 10 = .ok (.if_icmp .eq 13, 3) := by decide +kernel
theorem dA_wins_13 : decode bA_wins 13 = .ok (.new 50, 3) := by decide +kernel
theorem dA_wins_16 : decode bA_wins 16 = .ok (.dup, 1) := by decide +kernel
theorem dA_wins_17 : decode bA_wins 17 = .ok (.ldc 99, 2) := by decide +kernel
theorem dA_wins_19 : decode bA_wins 19 = .ok (.invokespecial 54, 3) := by decide +kernel
theorem dA_wins_22 : decode bA_wins 22 = .ok (.athrow, 1) := by decide +kernel
theorem dA_wins_23 : decode bA_wins 23 = .ok (.aload_n 0, 1) := by decide +kernel
theorem dA_wins_24 : decode bA_wins 24 = .ok (.iload_n 1, 1) := by decide +kernel
theorem dA_wins_25 : decode bA_wins 25 = .ok (.invokevirtual 76, 3) := by decide +kernel
theorem dA_wins_28 : decode bA_wins 28 = .ok (.aload_n 0, 1) := by decide +kernel
theorem dA_wins_29 : decode bA_wins 29 = .ok (.invokevirtual 79, 3) := by decide +kernel
theorem dA_wins_32 : decode bA_wins 32 = .ok (.aload_n 0, 1) := by decide +kernel
theorem dA_wins_33 : decode bA_wins 33 = .ok (.getfield 9, 3) := by decide +kernel
theorem dA_wins_36 : decode bA_wins 36 = .ok (.iload_n 1, 1) := by decide +kernel
theorem dA_wins_37 : decode bA_wins 37 = .ok (.iload_n 2, 1) := by decide +kernel
theorem dA_wins_38 : decode bA_wins 38 = .ok (.iconst 1, 1) := by decide +kernel
theorem dA_wins_39 : decode bA_wins 39 = .ok (.if_icmp .ne 7, 3) := by decide +kernel
theorem dA_wins_42 : decode bA_wins 42 = .ok (.iconst 1, 1) := by decide +kernel
theorem dA_wins_43 : decode bA_wins 43 = .ok (.goto 4, 3) := by decide +kernel
theorem dA_wins_46 : decode bA_wins 46 = .ok (.iconst 0, 1) := by decide +kernel
theorem dA_wins_47 : decode bA_wins 47 = .ok (.aload_n 0, 1) := by decide +kernel
theorem dA_wins_48 : decode bA_wins 48 = .ok (.getfield 9, 3) := by decide +kernel
theorem dA_wins_51 : decode bA_wins 51 = .ok (.bipush 6, 2) := by decide +kernel
theorem dA_wins_53 : decode bA_wins 53 = .ok (.laload, 1) := by decide +kernel
theorem dA_wins_54 : decode bA_wins 54 = .ok (.aload_n 0, 1) := by decide +kernel
theorem dA_wins_55 : decode bA_wins 55 = .ok (.invokevirtual 91, 3) := by decide +kernel
theorem dA_wins_58 : decode bA_wins 58 = .ok (.aload_n 0, 1) := by decide +kernel
theorem dA_wins_59 : decode bA_wins 59 = .ok (.invokevirtual 69, 3) := by decide +kernel
theorem dA_wins_62 : decode bA_wins 62 = .ok (.invokestatic 101, 3) := by decide +kernel
theorem dA_wins_65 : decode bA_wins 65 = .ok (.ireturn, 1) := by decide +kernel
abbrev bA_countBoards : ByteArray := prog_1_method_32_code
def yA_countBoards : MethodName := ⟨"HandTables", "countBoards", "([JIZJJI)I"⟩
theorem dA_countBoards_0 : decode bA_countBoards 0 = .ok (.iload 7, 2) := by decide +kernel
theorem dA_countBoards_2 : decode bA_countBoards 2 = .ok (.ifCond .gt 22, 3) := by decide +kernel
theorem dA_countBoards_5 : decode bA_countBoards 5 = .ok (.iload_n 1, 1) := by decide +kernel
theorem dA_countBoards_6 : decode bA_countBoards 6 = .ok (.iload_n 2, 1) := by decide +kernel
theorem dA_countBoards_7 : decode bA_countBoards 7 = .ok (.aload_n 0, 1) := by decide +kernel
theorem dA_countBoards_8 : decode bA_countBoards 8 = .ok (.lload_n 3, 1) := by decide +kernel
theorem dA_countBoards_9 : decode bA_countBoards 9 = .ok (.invokestatic 82, 3) := by decide +kernel
theorem dA_countBoards_12 : decode bA_countBoards 12 = .ok (.invokestatic 140, 3) := by decide +kernel
theorem dA_countBoards_15 : decode bA_countBoards 15 = .ok (.ifCond .eq 7, 3) := by decide +kernel
theorem dA_countBoards_18 : decode bA_countBoards 18 = .ok (.iconst 1, 1) := by decide +kernel
theorem dA_countBoards_19 : decode bA_countBoards 19 = .ok (.goto 4, 3) := by decide +kernel
theorem dA_countBoards_22 : decode bA_countBoards 22 = .ok (.iconst 0, 1) := by decide +kernel
theorem dA_countBoards_23 : decode bA_countBoards 23 = .ok (.ireturn, 1) := by decide +kernel
theorem dA_countBoards_24 : decode bA_countBoards 24 = .ok (.iconst 0, 1) := by decide +kernel
theorem dA_countBoards_25 : decode bA_countBoards 25 = .ok (.istore 8, 2) := by decide +kernel
theorem dA_countBoards_27 : decode bA_countBoards 27 = .ok (.lload 5, 2) := by decide +kernel
theorem dA_countBoards_29 : decode bA_countBoards 29 = .ok (.lstore 9, 2) := by decide +kernel
theorem dA_countBoards_31 : decode bA_countBoards 31 = .ok (.iconst 0, 1) := by decide +kernel
theorem dA_countBoards_32 : decode bA_countBoards 32 = .ok (.istore 11, 2) := by decide +kernel
theorem dA_countBoards_34 : decode bA_countBoards 34 = .ok (.iload 11, 2) := by decide +kernel
theorem dA_countBoards_36 : decode bA_countBoards 36 = .ok (.bipush 52, 2) := by decide +kernel
theorem dA_countBoards_38 : decode bA_countBoards 38 = .ok (.if_icmp .ge 57, 3) := by decide +kernel
theorem dA_countBoards_41 : decode bA_countBoards 41 = .ok (.lload 9, 2) := by decide +kernel
theorem dA_countBoards_43 : decode bA_countBoards 43 = .ok (.lconst 1, 1) := by decide +kernel
theorem dA_countBoards_44 : decode bA_countBoards 44 = .ok (.iload 11, 2) := by decide +kernel
theorem dA_countBoards_46 : decode bA_countBoards 46 = .ok (.lshl, 1) := by decide +kernel
theorem dA_countBoards_47 : decode bA_countBoards 47 = .ok (.land, 1) := by decide +kernel
theorem dA_countBoards_48 : decode bA_countBoards 48 = .ok (.lstore 12, 2) := by decide +kernel
theorem dA_countBoards_50 : decode bA_countBoards 50 = .ok (.lload 12, 2) := by decide +kernel
theorem dA_countBoards_52 : decode bA_countBoards 52 = .ok (.lconst 0, 1) := by decide +kernel
theorem dA_countBoards_53 : decode bA_countBoards 53 = .ok (.lcmp, 1) := by decide +kernel
theorem dA_countBoards_54 : decode bA_countBoards 54 = .ok (.ifCond .eq 35, 3) := by decide +kernel
theorem dA_countBoards_57 : decode bA_countBoards 57 = .ok (.lload 9, 2) := by decide +kernel
theorem dA_countBoards_59 : decode bA_countBoards 59 = .ok (.lload 12, 2) := by decide +kernel
theorem dA_countBoards_61 : decode bA_countBoards 61 = .ok (.ldc2_w 67, 3) := by decide +kernel
theorem dA_countBoards_64 : decode bA_countBoards 64 = .ok (.lxor, 1) := by decide +kernel
theorem dA_countBoards_65 : decode bA_countBoards 65 = .ok (.land, 1) := by decide +kernel
theorem dA_countBoards_66 : decode bA_countBoards 66 = .ok (.lstore 9, 2) := by decide +kernel
theorem dA_countBoards_68 : decode bA_countBoards 68 = .ok (.iload 8, 2) := by decide +kernel
theorem dA_countBoards_70 : decode bA_countBoards 70 = .ok (.aload_n 0, 1) := by decide +kernel
theorem dA_countBoards_71 : decode bA_countBoards 71 = .ok (.iload_n 1, 1) := by decide +kernel
theorem dA_countBoards_72 : decode bA_countBoards 72 = .ok (.iload_n 2, 1) := by decide +kernel
theorem dA_countBoards_73 : decode bA_countBoards 73 = .ok (.lload_n 3, 1) := by decide +kernel
theorem dA_countBoards_74 : decode bA_countBoards 74 = .ok (.lload 12, 2) := by decide +kernel
theorem dA_countBoards_76 : decode bA_countBoards 76 = .ok (.lor, 1) := by decide +kernel
theorem dA_countBoards_77 : decode bA_countBoards 77 = .ok (.lload 9, 2) := by decide +kernel
theorem dA_countBoards_79 : decode bA_countBoards 79 = .ok (.iload 7, 2) := by decide +kernel
theorem dA_countBoards_81 : decode bA_countBoards 81 = .ok (.iconst 1, 1) := by decide +kernel
theorem dA_countBoards_82 : decode bA_countBoards 82 = .ok (.isub, 1) := by decide +kernel
theorem dA_countBoards_83 : decode bA_countBoards 83 = .ok (.invokestatic 101, 3) := by decide +kernel
theorem dA_countBoards_86 : decode bA_countBoards 86 = .ok (.iadd, 1) := by decide +kernel
theorem dA_countBoards_87 : decode bA_countBoards 87 = .ok (.istore 8, 2) := by decide +kernel
theorem dA_countBoards_89 : decode bA_countBoards 89 = .ok (.iinc 11 1, 3) := by decide +kernel
theorem dA_countBoards_92 : decode bA_countBoards 92 = .ok (.goto (-58), 3) := by decide +kernel
theorem dA_countBoards_95 : decode bA_countBoards 95 = .ok (.iload 8, 2) := by decide +kernel
theorem dA_countBoards_97 : decode bA_countBoards 97 = .ok (.ireturn, 1) := by decide +kernel
abbrev bA_isOutcome : ByteArray := prog_1_method_33_code
def yA_isOutcome : MethodName := ⟨"HandTables", "isOutcome", "(IZI)Z"⟩
theorem dA_isOutcome_0 : decode bA_isOutcome 0 = .ok (.iload_n 2, 1) := by decide +kernel
theorem dA_isOutcome_1 : decode bA_isOutcome 1 = .ok (.iconst 1, 1) := by decide +kernel
theorem dA_isOutcome_2 : decode bA_isOutcome 2 = .ok (.iload_n 0, 1) := by decide +kernel
theorem dA_isOutcome_3 : decode bA_isOutcome 3 = .ok (.ishl, 1) := by decide +kernel
theorem dA_isOutcome_4 : decode bA_isOutcome 4 = .ok (.iand, 1) := by decide +kernel
theorem dA_isOutcome_5 : decode bA_isOutcome 5 = .ok (.ifCond .eq 7, 3) := by decide +kernel
theorem dA_isOutcome_8 : decode bA_isOutcome 8 = .ok (.iconst 1, 1) := by decide +kernel
theorem dA_isOutcome_9 : decode bA_isOutcome 9 = .ok (.goto 4, 3) := by decide +kernel
theorem dA_isOutcome_12 : decode bA_isOutcome 12 = .ok (.iconst 0, 1) := by decide +kernel
theorem dA_isOutcome_13 : decode bA_isOutcome 13 = .ok (.istore_n 3, 1) := by decide +kernel
theorem dA_isOutcome_14 : decode bA_isOutcome 14 = .ok (.iload_n 2, 1) := by decide +kernel
theorem dA_isOutcome_15 : decode bA_isOutcome 15 = .ok (.iconst 1, 1) := by decide +kernel
theorem dA_isOutcome_16 : decode bA_isOutcome 16 = .ok (.iload_n 0, 1) := by decide +kernel
theorem dA_isOutcome_17 : decode bA_isOutcome 17 = .ok (.ishl, 1) := by decide +kernel
theorem dA_isOutcome_18 : decode bA_isOutcome 18 = .ok (.if_icmp .ne 7, 3) := by decide +kernel
theorem dA_isOutcome_21 : decode bA_isOutcome 21 = .ok (.iconst 1, 1) := by decide +kernel
theorem dA_isOutcome_22 : decode bA_isOutcome 22 = .ok (.goto 4, 3) := by decide +kernel
theorem dA_isOutcome_25 : decode bA_isOutcome 25 = .ok (.iconst 0, 1) := by decide +kernel
theorem dA_isOutcome_26 : decode bA_isOutcome 26 = .ok (.istore 4, 2) := by decide +kernel
theorem dA_isOutcome_28 : decode bA_isOutcome 28 = .ok (.iload_n 3, 1) := by decide +kernel
theorem dA_isOutcome_29 : decode bA_isOutcome 29 = .ok (.ifCond .eq 13, 3) := by decide +kernel
theorem dA_isOutcome_32 : decode bA_isOutcome 32 = .ok (.iload_n 1, 1) := by decide +kernel
theorem dA_isOutcome_33 : decode bA_isOutcome 33 = .ok (.iload 4, 2) := by decide +kernel
theorem dA_isOutcome_35 : decode bA_isOutcome 35 = .ok (.if_icmp .eq 7, 3) := by decide +kernel
theorem dA_isOutcome_38 : decode bA_isOutcome 38 = .ok (.iconst 1, 1) := by decide +kernel
theorem dA_isOutcome_39 : decode bA_isOutcome 39 = .ok (.goto 4, 3) := by decide +kernel
theorem dA_isOutcome_42 : decode bA_isOutcome 42 = .ok (.iconst 0, 1) := by decide +kernel
theorem dA_isOutcome_43 : decode bA_isOutcome 43 = .ok (.ireturn, 1) := by decide +kernel
abbrev bA_outs : ByteArray := prog_1_method_17_code
def yA_outs : MethodName := ⟨"HandTables", "outs", "(I)J"⟩
theorem dA_outs_0 : decode bA_outs 0 = .ok (.iload_n 1, 1) := by decide +kernel
theorem dA_outs_1 : decode bA_outs 1 = .ok (.invokestatic 57, 3) := by decide +kernel
theorem dA_outs_4 : decode bA_outs 4 = .ok (.aload_n 0, 1) := by decide +kernel
theorem dA_outs_5 : decode bA_outs 5 = .ok (.iload_n 1, 1) := by decide +kernel
theorem dA_outs_6 : decode bA_outs 6 = .ok (.invokevirtual 76, 3) := by decide +kernel
theorem dA_outs_9 : decode bA_outs 9 = .ok (.aload_n 0, 1) := by decide +kernel
theorem dA_outs_10 : decode bA_outs 10 = .ok (.invokevirtual 79, 3) := by decide +kernel
theorem dA_outs_13 : decode bA_outs 13 = .ok (.aload_n 0, 1) := by decide +kernel
theorem dA_outs_14 : decode bA_outs 14 = .ok (.invokevirtual 69, 3) := by decide +kernel
theorem dA_outs_17 : decode bA_outs 17 = .ok (.ifCond .ne 13, 3) := by decide +kernel
theorem dA_outs_20 : decode bA_outs 20 = .ok (.new 86, 3) := by decide +kernel
theorem dA_outs_23 : decode bA_outs 23 = .ok (.dup, 1) := by decide +kernel
theorem dA_outs_24 : decode bA_outs 24 = .ok (.ldc 105, 2) := by decide +kernel
theorem dA_outs_26 : decode bA_outs 26 = .ok (.invokespecial 90, 3) := by decide +kernel
theorem dA_outs_29 : decode bA_outs 29 = .ok (.athrow, 1) := by decide +kernel
theorem dA_outs_30 : decode bA_outs 30 = .ok (.aload_n 0, 1) := by decide +kernel
theorem dA_outs_31 : decode bA_outs 31 = .ok (.invokevirtual 91, 3) := by decide +kernel
theorem dA_outs_34 : decode bA_outs 34 = .ok (.lstore_n 2, 1) := by decide +kernel
theorem dA_outs_35 : decode bA_outs 35 = .ok (.lconst 0, 1) := by decide +kernel
theorem dA_outs_36 : decode bA_outs 36 = .ok (.lstore 4, 2) := by decide +kernel
theorem dA_outs_38 : decode bA_outs 38 = .ok (.iconst 0, 1) := by decide +kernel
theorem dA_outs_39 : decode bA_outs 39 = .ok (.istore 6, 2) := by decide +kernel
theorem dA_outs_41 : decode bA_outs 41 = .ok (.iload 6, 2) := by decide +kernel
theorem dA_outs_43 : decode bA_outs 43 = .ok (.bipush 52, 2) := by decide +kernel
theorem dA_outs_45 : decode bA_outs 45 = .ok (.if_icmp .ge 54, 3) := by decide +kernel
theorem dA_outs_48 : decode bA_outs 48 = .ok (.lload_n 2, 1) := by decide +kernel
theorem dA_outs_49 : decode bA_outs 49 = .ok (.lconst 1, 1) := by decide +kernel
theorem dA_outs_50 : decode bA_outs 50 = .ok (.iload 6, 2) := by decide +kernel
theorem dA_outs_52 : decode bA_outs 52 = .ok (.lshl, 1) := by decide +kernel
theorem dA_outs_53 : decode bA_outs 53 = .ok (.land, 1) := by decide +kernel
theorem dA_outs_54 : decode bA_outs 54 = .ok (.lstore 7, 2) := by decide +kernel
theorem dA_outs_56 : decode bA_outs 56 = .ok (.lload 7, 2) := by decide +kernel
theorem dA_outs_58 : decode bA_outs 58 = .ok (.lconst 0, 1) := by decide +kernel
theorem dA_outs_59 : decode bA_outs 59 = .ok (.lcmp, 1) := by decide +kernel
theorem dA_outs_60 : decode bA_outs 60 = .ok (.ifCond .eq 33, 3) := by decide +kernel
theorem dA_outs_63 : decode bA_outs 63 = .ok (.aload_n 0, 1) := by decide +kernel
theorem dA_outs_64 : decode bA_outs 64 = .ok (.getfield 9, 3) := by decide +kernel
theorem dA_outs_67 : decode bA_outs 67 = .ok (.aload_n 0, 1) := by decide +kernel
theorem dA_outs_68 : decode bA_outs 68 = .ok (.getfield 9, 3) := by decide +kernel
theorem dA_outs_71 : decode bA_outs 71 = .ok (.bipush 6, 2) := by decide +kernel
theorem dA_outs_73 : decode bA_outs 73 = .ok (.laload, 1) := by decide +kernel
theorem dA_outs_74 : decode bA_outs 74 = .ok (.lload 7, 2) := by decide +kernel
theorem dA_outs_76 : decode bA_outs 76 = .ok (.lor, 1) := by decide +kernel
theorem dA_outs_77 : decode bA_outs 77 = .ok (.invokestatic 82, 3) := by decide +kernel
theorem dA_outs_80 : decode bA_outs 80 = .ok (.iconst 1, 1) := by decide +kernel
theorem dA_outs_81 : decode bA_outs 81 = .ok (.iload_n 1, 1) := by decide +kernel
theorem dA_outs_82 : decode bA_outs 82 = .ok (.ishl, 1) := by decide +kernel
theorem dA_outs_83 : decode bA_outs 83 = .ok (.if_icmp .ne 10, 3) := by decide +kernel
theorem dA_outs_86 : decode bA_outs 86 = .ok (.lload 4, 2) := by decide +kernel
theorem dA_outs_88 : decode bA_outs 88 = .ok (.lload 7, 2) := by decide +kernel
theorem dA_outs_90 : decode bA_outs 90 = .ok (.lor, 1) := by decide +kernel
theorem dA_outs_91 : decode bA_outs 91 = .ok (.lstore 4, 2) := by decide +kernel
theorem dA_outs_93 : decode bA_outs 93 = .ok (.iinc 6 1, 3) := by decide +kernel
theorem dA_outs_96 : decode bA_outs 96 = .ok (.goto (-55), 3) := by decide +kernel
theorem dA_outs_99 : decode bA_outs 99 = .ok (.lload 4, 2) := by decide +kernel
theorem dA_outs_101 : decode bA_outs 101 = .ok (.lreturn, 1) := by decide +kernel
abbrev bA_share : ByteArray := prog_1_method_18_code
def yA_share : MethodName := ⟨"HandTables", "share", "(II)I"⟩
theorem dA_share_0 : decode bA_share 0 = .ok (.iload_n 1, 1) := by decide +kernel
theorem dA_share_1 : decode bA_share 1 = .ok (.invokestatic 57, 3) := by decide +kernel
theorem dA_share_4 : decode bA_share 4 = .ok (.iload_n 2, 1) := by decide +kernel
theorem dA_share_5 : decode bA_share 5 = .ok (.ifCond .ge 13, 3) := by decide +kernel
theorem dA_share_8 : decode bA_share 8 = .ok (.new 50, 3) := by decide +kernel
theorem dA_share_11 : decode bA_share 11 = .ok (.dup, 1) := by decide +kernel
theorem dA_share_12 : decode bA_share 12 = .ok (.ldc 107, 2) := by decide +kernel
theorem dA_share_14 : decode bA_share 14 = .ok (.invokespecial 54, 3) := by decide +kernel
theorem dA_share_17 : decode bA_share 17 = .ok (.athrow, 1) := by decide +kernel
theorem dA_share_18 : decode bA_share 18 = .ok (.aload_n 0, 1) := by decide +kernel
theorem dA_share_19 : decode bA_share 19 = .ok (.iload_n 1, 1) := by decide +kernel
theorem dA_share_20 : decode bA_share 20 = .ok (.invokevirtual 76, 3) := by decide +kernel
theorem dA_share_23 : decode bA_share 23 = .ok (.aload_n 0, 1) := by decide +kernel
theorem dA_share_24 : decode bA_share 24 = .ok (.invokevirtual 69, 3) := by decide +kernel
theorem dA_share_27 : decode bA_share 27 = .ok (.ifCond .eq 13, 3) := by decide +kernel
theorem dA_share_30 : decode bA_share 30 = .ok (.new 86, 3) := by decide +kernel
theorem dA_share_33 : decode bA_share 33 = .ok (.dup, 1) := by decide +kernel
theorem dA_share_34 : decode bA_share 34 = .ok (.ldc 109, 2) := by decide +kernel
theorem dA_share_36 : decode bA_share 36 = .ok (.invokespecial 90, 3) := by decide +kernel
theorem dA_share_39 : decode bA_share 39 = .ok (.athrow, 1) := by decide +kernel
theorem dA_share_40 : decode bA_share 40 = .ok (.aload_n 0, 1) := by decide +kernel
theorem dA_share_41 : decode bA_share 41 = .ok (.getfield 9, 3) := by decide +kernel
theorem dA_share_44 : decode bA_share 44 = .ok (.aload_n 0, 1) := by decide +kernel
theorem dA_share_45 : decode bA_share 45 = .ok (.getfield 9, 3) := by decide +kernel
theorem dA_share_48 : decode bA_share 48 = .ok (.bipush 6, 2) := by decide +kernel
theorem dA_share_50 : decode bA_share 50 = .ok (.laload, 1) := by decide +kernel
theorem dA_share_51 : decode bA_share 51 = .ok (.invokestatic 82, 3) := by decide +kernel
theorem dA_share_54 : decode bA_share 54 = .ok (.istore_n 3, 1) := by decide +kernel
theorem dA_share_55 : decode bA_share 55 = .ok (.iload_n 3, 1) := by decide +kernel
theorem dA_share_56 : decode bA_share 56 = .ok (.invokestatic 111, 3) := by decide +kernel
theorem dA_share_59 : decode bA_share 59 = .ok (.istore 4, 2) := by decide +kernel
theorem dA_share_61 : decode bA_share 61 = .ok (.iload 4, 2) := by decide +kernel
theorem dA_share_63 : decode bA_share 63 = .ok (.ifCond .eq 11, 3) := by decide +kernel
theorem dA_share_66 : decode bA_share 66 = .ok (.iload_n 3, 1) := by decide +kernel
theorem dA_share_67 : decode bA_share 67 = .ok (.iconst 1, 1) := by decide +kernel
theorem dA_share_68 : decode bA_share 68 = .ok (.iload_n 1, 1) := by decide +kernel
theorem dA_share_69 : decode bA_share 69 = .ok (.ishl, 1) := by decide +kernel
theorem dA_share_70 : decode bA_share 70 = .ok (.iand, 1) := by decide +kernel
theorem dA_share_71 : decode bA_share 71 = .ok (.ifCond .ne 5, 3) := by decide +kernel
theorem dA_share_74 : decode bA_share 74 = .ok (.iconst 0, 1) := by decide +kernel
theorem dA_share_75 : decode bA_share 75 = .ok (.ireturn, 1) := by decide +kernel
theorem dA_share_76 : decode bA_share 76 = .ok (.iload_n 3, 1) := by decide +kernel
theorem dA_share_77 : decode bA_share 77 = .ok (.iconst 1, 1) := by decide +kernel
theorem dA_share_78 : decode bA_share 78 = .ok (.iload_n 1, 1) := by decide +kernel
theorem dA_share_79 : decode bA_share 79 = .ok (.ishl, 1) := by decide +kernel
theorem dA_share_80 : decode bA_share 80 = .ok (.iconst 1, 1) := by decide +kernel
theorem dA_share_81 : decode bA_share 81 = .ok (.isub, 1) := by decide +kernel
theorem dA_share_82 : decode bA_share 82 = .ok (.iand, 1) := by decide +kernel
theorem dA_share_83 : decode bA_share 83 = .ok (.invokestatic 111, 3) := by decide +kernel
theorem dA_share_86 : decode bA_share 86 = .ok (.istore 5, 2) := by decide +kernel
theorem dA_share_88 : decode bA_share 88 = .ok (.iload_n 2, 1) := by decide +kernel
theorem dA_share_89 : decode bA_share 89 = .ok (.iload 4, 2) := by decide +kernel
theorem dA_share_91 : decode bA_share 91 = .ok (.idiv, 1) := by decide +kernel
theorem dA_share_92 : decode bA_share 92 = .ok (.iload 5, 2) := by decide +kernel
theorem dA_share_94 : decode bA_share 94 = .ok (.iload_n 2, 1) := by decide +kernel
theorem dA_share_95 : decode bA_share 95 = .ok (.iload 4, 2) := by decide +kernel
theorem dA_share_97 : decode bA_share 97 = .ok (.irem, 1) := by decide +kernel
theorem dA_share_98 : decode bA_share 98 = .ok (.if_icmp .ge 7, 3) := by decide +kernel
theorem dA_share_101 : decode bA_share 101 = .ok (.iconst 1, 1) := by decide +kernel
theorem dA_share_102 : decode bA_share 102 = .ok (.goto 4, 3) := by decide +kernel
theorem dA_share_105 : decode bA_share 105 = .ok (.iconst 0, 1) := by decide +kernel
theorem dA_share_106 : decode bA_share 106 = .ok (.iadd, 1) := by decide +kernel
theorem dA_share_107 : decode bA_share 107 = .ok (.ireturn, 1) := by decide +kernel
abbrev bI_bitCount : ByteArray := prog_8_method_49_code
def yI_bitCount : MethodName := ⟨"java/lang/Integer", "bitCount", "(I)I"⟩
theorem dI_bitCount_0 : decode bI_bitCount 0 = .ok (.iload_n 0, 1) := by decide +kernel
theorem dI_bitCount_1 : decode bI_bitCount 1 = .ok (.iload_n 0, 1) := by decide +kernel
theorem dI_bitCount_2 : decode bI_bitCount 2 = .ok (.iconst 1, 1) := by decide +kernel
theorem dI_bitCount_3 : decode bI_bitCount 3 = .ok (.iushr, 1) := by decide +kernel
theorem dI_bitCount_4 : decode bI_bitCount 4 = .ok (.ldc_w 265, 3) := by decide +kernel
theorem dI_bitCount_7 : decode bI_bitCount 7 = .ok (.iand, 1) := by decide +kernel
theorem dI_bitCount_8 : decode bI_bitCount 8 = .ok (.isub, 1) := by decide +kernel
theorem dI_bitCount_9 : decode bI_bitCount 9 = .ok (.istore_n 0, 1) := by decide +kernel
theorem dI_bitCount_10 : decode bI_bitCount 10 = .ok (.iload_n 0, 1) := by decide +kernel
theorem dI_bitCount_11 : decode bI_bitCount 11 = .ok (.ldc_w 266, 3) := by decide +kernel
theorem dI_bitCount_14 : decode bI_bitCount 14 = .ok (.iand, 1) := by decide +kernel
theorem dI_bitCount_15 : decode bI_bitCount 15 = .ok (.iload_n 0, 1) := by decide +kernel
theorem dI_bitCount_16 : decode bI_bitCount 16 = .ok (.iconst 2, 1) := by decide +kernel
theorem dI_bitCount_17 : decode bI_bitCount 17 = .ok (.iushr, 1) := by decide +kernel
theorem dI_bitCount_18 : decode bI_bitCount 18 = .ok (.ldc_w 266, 3) := by decide +kernel
theorem dI_bitCount_21 : decode bI_bitCount 21 = .ok (.iand, 1) := by decide +kernel
theorem dI_bitCount_22 : decode bI_bitCount 22 = .ok (.iadd, 1) := by decide +kernel
theorem dI_bitCount_23 : decode bI_bitCount 23 = .ok (.istore_n 0, 1) := by decide +kernel
theorem dI_bitCount_24 : decode bI_bitCount 24 = .ok (.iload_n 0, 1) := by decide +kernel
theorem dI_bitCount_25 : decode bI_bitCount 25 = .ok (.iload_n 0, 1) := by decide +kernel
theorem dI_bitCount_26 : decode bI_bitCount 26 = .ok (.iconst 4, 1) := by decide +kernel
theorem dI_bitCount_27 : decode bI_bitCount 27 = .ok (.iushr, 1) := by decide +kernel
theorem dI_bitCount_28 : decode bI_bitCount 28 = .ok (.iadd, 1) := by decide +kernel
theorem dI_bitCount_29 : decode bI_bitCount 29 = .ok (.ldc_w 267, 3) := by decide +kernel
theorem dI_bitCount_32 : decode bI_bitCount 32 = .ok (.iand, 1) := by decide +kernel
theorem dI_bitCount_33 : decode bI_bitCount 33 = .ok (.istore_n 0, 1) := by decide +kernel
theorem dI_bitCount_34 : decode bI_bitCount 34 = .ok (.iload_n 0, 1) := by decide +kernel
theorem dI_bitCount_35 : decode bI_bitCount 35 = .ok (.iload_n 0, 1) := by decide +kernel
theorem dI_bitCount_36 : decode bI_bitCount 36 = .ok (.bipush 8, 2) := by decide +kernel
theorem dI_bitCount_38 : decode bI_bitCount 38 = .ok (.iushr, 1) := by decide +kernel
theorem dI_bitCount_39 : decode bI_bitCount 39 = .ok (.iadd, 1) := by decide +kernel
theorem dI_bitCount_40 : decode bI_bitCount 40 = .ok (.istore_n 0, 1) := by decide +kernel
theorem dI_bitCount_41 : decode bI_bitCount 41 = .ok (.iload_n 0, 1) := by decide +kernel
theorem dI_bitCount_42 : decode bI_bitCount 42 = .ok (.iload_n 0, 1) := by decide +kernel
theorem dI_bitCount_43 : decode bI_bitCount 43 = .ok (.bipush 16, 2) := by decide +kernel
theorem dI_bitCount_45 : decode bI_bitCount 45 = .ok (.iushr, 1) := by decide +kernel
theorem dI_bitCount_46 : decode bI_bitCount 46 = .ok (.iadd, 1) := by decide +kernel
theorem dI_bitCount_47 : decode bI_bitCount 47 = .ok (.istore_n 0, 1) := by decide +kernel
theorem dI_bitCount_48 : decode bI_bitCount 48 = .ok (.iload_n 0, 1) := by decide +kernel
theorem dI_bitCount_49 : decode bI_bitCount 49 = .ok (.bipush 63, 2) := by decide +kernel
theorem dI_bitCount_51 : decode bI_bitCount 51 = .ok (.iand, 1) := by decide +kernel
theorem dI_bitCount_52 : decode bI_bitCount 52 = .ok (.ireturn, 1) := by decide +kernel
