theorem dX8_button_230 : decode cX8_button 230 = .ok (.iadd, 1) := by decide +kernel
theorem dX8_button_231 : decode cX8_button 231 = .ok (.iload 6, 2) := by decide +kernel
theorem dX8_button_233 : decode cX8_button 233 = .ok (.iadd, 1) := by decide +kernel
theorem dX8_button_234 : decode cX8_button 234 = .ok (.iconst 0, 1) := by decide +kernel
theorem dX8_button_235 : decode cX8_button 235 = .ok (.iastore, 1) := by decide +kernel
theorem dX8_button_236 : decode cX8_button 236 = .ok (.iinc 6 1, 3) := by decide +kernel
theorem dX8_button_239 : decode cX8_button 239 = .ok (.goto (-28), 3) := by decide +kernel
theorem dX8_button_242 : decode cX8_button 242 = .ok (.iload 5, 2) := by decide +kernel
theorem dX8_button_244 : decode cX8_button 244 = .ok (.ireturn, 1) := by decide +kernel
theorem dX8_board_0 : decode cX8_board 0 = .ok (.iload_n 1, 1) := by decide +kernel
theorem dX8_board_1 : decode cX8_board 1 = .ok (.i2l, 1) := by decide +kernel
theorem dX8_board_2 : decode cX8_board 2 = .ok (.lconst 0, 1) := by decide +kernel
theorem dX8_board_3 : decode cX8_board 3 = .ok (.ldc2_w 87, 3) := by decide +kernel
theorem dX8_board_6 : decode cX8_board 6 = .ok (.invokestatic 69, 3) := by decide +kernel
theorem dX8_board_9 : decode cX8_board 9 = .ok (.ifCond .eq 20, 3) := by decide +kernel
theorem dX8_board_12 : decode cX8_board 12 = .ok (.iload_n 1, 1) := by decide +kernel
theorem dX8_board_13 : decode cX8_board 13 = .ok (.iconst 4, 1) := by decide +kernel
theorem dX8_board_14 : decode cX8_board 14 = .ok (.if_icmp .ge 17, 3) := by decide +kernel
theorem dX8_board_17 : decode cX8_board 17 = .ok (.iload_n 2, 1) := by decide +kernel
theorem dX8_board_18 : decode cX8_board 18 = .ok (.i2l, 1) := by decide +kernel
theorem dX8_board_19 : decode cX8_board 19 = .ok (.lconst 0, 1) := by decide +kernel
theorem dX8_board_20 : decode cX8_board 20 = .ok (.ldc2_w 102, 3) := by decide +kernel
theorem dX8_board_23 : decode cX8_board 23 = .ok (.invokestatic 69, 3) := by decide +kernel
theorem dX8_board_26 : decode cX8_board 26 = .ok (.ifCond .ne 5, 3) := by decide +kernel
theorem dX8_board_29 : decode cX8_board 29 = .ok (.iconst 0, 1) := by decide +kernel
theorem dX8_board_30 : decode cX8_board 30 = .ok (.ireturn, 1) := by decide +kernel
theorem dX8_board_31 : decode cX8_board 31 = .ok (.aload_n 0, 1) := by decide +kernel
theorem dX8_board_32 : decode cX8_board 32 = .ok (.iload_n 1, 1) := by decide +kernel
theorem dX8_board_33 : decode cX8_board 33 = .ok (.putfield 20, 3) := by decide +kernel
theorem dX8_board_36 : decode cX8_board 36 = .ok (.aload_n 0, 1) := by decide +kernel
theorem dX8_board_37 : decode cX8_board 37 = .ok (.iload_n 1, 1) := by decide +kernel
theorem dX8_board_38 : decode cX8_board 38 = .ok (.iconst 4, 1) := by decide +kernel
theorem dX8_board_39 : decode cX8_board 39 = .ok (.if_icmp .ne 7, 3) := by decide +kernel
theorem dX8_board_42 : decode cX8_board 42 = .ok (.iconst 0, 1) := by decide +kernel
theorem dX8_board_43 : decode cX8_board 43 = .ok (.goto 4, 3) := by decide +kernel
theorem dX8_board_46 : decode cX8_board 46 = .ok (.iload_n 2, 1) := by decide +kernel
theorem dX8_board_47 : decode cX8_board 47 = .ok (.putfield 104, 3) := by decide +kernel
theorem dX8_board_50 : decode cX8_board 50 = .ok (.iconst 0, 1) := by decide +kernel
theorem dX8_board_51 : decode cX8_board 51 = .ok (.istore_n 3, 1) := by decide +kernel
theorem dX8_board_52 : decode cX8_board 52 = .ok (.iload_n 3, 1) := by decide +kernel
theorem dX8_board_53 : decode cX8_board 53 = .ok (.aload_n 0, 1) := by decide +kernel
theorem dX8_board_54 : decode cX8_board 54 = .ok (.getfield 104, 3) := by decide +kernel
theorem dX8_board_57 : decode cX8_board 57 = .ok (.if_icmp .ge 16, 3) := by decide +kernel
theorem dX8_board_60 : decode cX8_board 60 = .ok (.aload_n 0, 1) := by decide +kernel
theorem dX8_board_61 : decode cX8_board 61 = .ok (.getfield 24, 3) := by decide +kernel
theorem dX8_board_64 : decode cX8_board 64 = .ok (.iload_n 3, 1) := by decide +kernel
theorem dX8_board_65 : decode cX8_board 65 = .ok (.lconst 0, 1) := by decide +kernel
theorem dX8_board_66 : decode cX8_board 66 = .ok (.lastore, 1) := by decide +kernel
theorem dX8_board_67 : decode cX8_board 67 = .ok (.iinc 3 1, 3) := by decide +kernel
theorem dX8_board_70 : decode cX8_board 70 = .ok (.goto (-18), 3) := by decide +kernel
theorem dX8_board_73 : decode cX8_board 73 = .ok (.iconst 1, 1) := by decide +kernel
theorem dX8_board_74 : decode cX8_board 74 = .ok (.ireturn, 1) := by decide +kernel
theorem dX8_entry_0 : decode cX8_entry 0 = .ok (.aload_n 0, 1) := by decide +kernel
theorem dX8_entry_1 : decode cX8_entry 1 = .ok (.getfield 20, 3) := by decide +kernel
theorem dX8_entry_4 : decode cX8_entry 4 = .ok (.i2l, 1) := by decide +kernel
theorem dX8_entry_5 : decode cX8_entry 5 = .ok (.lconst 0, 1) := by decide +kernel
theorem dX8_entry_6 : decode cX8_entry 6 = .ok (.ldc2_w 107, 3) := by decide +kernel
theorem dX8_entry_9 : decode cX8_entry 9 = .ok (.invokestatic 69, 3) := by decide +kernel
theorem dX8_entry_12 : decode cX8_entry 12 = .ok (.ifCond .eq 19, 3) := by decide +kernel
theorem dX8_entry_15 : decode cX8_entry 15 = .ok (.iload_n 1, 1) := by decide +kernel
theorem dX8_entry_16 : decode cX8_entry 16 = .ok (.i2l, 1) := by decide +kernel
theorem dX8_entry_17 : decode cX8_entry 17 = .ok (.lconst 0, 1) := by decide +kernel
theorem dX8_entry_18 : decode cX8_entry 18 = .ok (.aload_n 0, 1) := by decide +kernel
theorem dX8_entry_19 : decode cX8_entry 19 = .ok (.getfield 104, 3) := by decide +kernel
theorem dX8_entry_22 : decode cX8_entry 22 = .ok (.iconst 1, 1) := by decide +kernel
theorem dX8_entry_23 : decode cX8_entry 23 = .ok (.isub, 1) := by decide +kernel
theorem dX8_entry_24 : decode cX8_entry 24 = .ok (.i2l, 1) := by decide +kernel
theorem dX8_entry_25 : decode cX8_entry 25 = .ok (.invokestatic 69, 3) := by decide +kernel
theorem dX8_entry_28 : decode cX8_entry 28 = .ok (.ifCond .ne 5, 3) := by decide +kernel
theorem dX8_entry_31 : decode cX8_entry 31 = .ok (.iconst 0, 1) := by decide +kernel
theorem dX8_entry_32 : decode cX8_entry 32 = .ok (.ireturn, 1) := by decide +kernel
theorem dX8_entry_33 : decode cX8_entry 33 = .ok (.aload_n 0, 1) := by decide +kernel
theorem dX8_entry_34 : decode cX8_entry 34 = .ok (.getfield 24, 3) := by decide +kernel
theorem dX8_entry_37 : decode cX8_entry 37 = .ok (.iload_n 1, 1) := by decide +kernel
theorem dX8_entry_38 : decode cX8_entry 38 = .ok (.aload_n 0, 1) := by decide +kernel
theorem dX8_entry_39 : decode cX8_entry 39 = .ok (.getfield 20, 3) := by decide +kernel
theorem dX8_entry_42 : decode cX8_entry 42 = .ok (.ifCond .ne 10, 3) := by decide +kernel
theorem dX8_entry_45 : decode cX8_entry 45 = .ok (.lload_n 2, 1) := by decide +kernel
theorem dX8_entry_46 : decode cX8_entry 46 = .ok (.l2i, 1) := by decide +kernel
theorem dX8_entry_47 : decode cX8_entry 47 = .ok (.i2b, 1) := by decide +kernel
theorem dX8_entry_48 : decode cX8_entry 48 = .ok (.i2l, 1) := by decide +kernel
theorem dX8_entry_49 : decode cX8_entry 49 = .ok (.goto 33, 3) := by decide +kernel
theorem dX8_entry_52 : decode cX8_entry 52 = .ok (.aload_n 0, 1) := by decide +kernel
theorem dX8_entry_53 : decode cX8_entry 53 = .ok (.getfield 20, 3) := by decide +kernel
theorem dX8_entry_56 : decode cX8_entry 56 = .ok (.iconst 1, 1) := by decide +kernel
theorem dX8_entry_57 : decode cX8_entry 57 = .ok (.if_icmp .ne 10, 3) := by decide +kernel
theorem dX8_entry_60 : decode cX8_entry 60 = .ok (.lload_n 2, 1) := by decide +kernel
theorem dX8_entry_61 : decode cX8_entry 61 = .ok (.l2i, 1) := by decide +kernel
theorem dX8_entry_62 : decode cX8_entry 62 = .ok (.i2s, 1) := by decide +kernel
theorem dX8_entry_63 : decode cX8_entry 63 = .ok (.i2l, 1) := by decide +kernel
theorem dX8_entry_64 : decode cX8_entry 64 = .ok (.goto 18, 3) := by decide +kernel
theorem dX8_entry_67 : decode cX8_entry 67 = .ok (.aload_n 0, 1) := by decide +kernel
theorem dX8_entry_68 : decode cX8_entry 68 = .ok (.getfield 20, 3) := by decide +kernel
theorem dX8_entry_71 : decode cX8_entry 71 = .ok (.iconst 2, 1) := by decide +kernel
theorem dX8_entry_72 : decode cX8_entry 72 = .ok (.if_icmp .ne 9, 3) := by decide +kernel
theorem dX8_entry_75 : decode cX8_entry 75 = .ok (.lload_n 2, 1) := by decide +kernel
theorem dX8_entry_76 : decode cX8_entry 76 = .ok (.l2i, 1) := by decide +kernel
theorem dX8_entry_77 : decode cX8_entry 77 = .ok (.i2l, 1) := by decide +kernel
theorem dX8_entry_78 : decode cX8_entry 78 = .ok (.goto 4, 3) := by decide +kernel
theorem dX8_entry_81 : decode cX8_entry 81 = .ok (.lload_n 2, 1) := by decide +kernel
theorem dX8_entry_82 : decode cX8_entry 82 = .ok (.lastore, 1) := by decide +kernel
theorem dX8_entry_83 : decode cX8_entry 83 = .ok (.iconst 1, 1) := by decide +kernel
theorem dX8_entry_84 : decode cX8_entry 84 = .ok (.ireturn, 1) := by decide +kernel
theorem dX8_told_0 : decode cX8_told 0 = .ok (.aload_n 0, 1) := by decide +kernel
theorem dX8_told_1 : decode cX8_told 1 = .ok (.getfield 20, 3) := by decide +kernel
theorem dX8_told_4 : decode cX8_told 4 = .ok (.iconst 2, 1) := by decide +kernel
theorem dX8_told_5 : decode cX8_told 5 = .ok (.if_icmp .ne 8, 3) := by decide +kernel
theorem dX8_told_8 : decode cX8_told 8 = .ok (.bipush 32, 2) := by decide +kernel
theorem dX8_told_10 : decode cX8_told 10 = .ok (.goto 17, 3) := by decide +kernel
theorem dX8_told_13 : decode cX8_told 13 = .ok (.aload_n 0, 1) := by decide +kernel
theorem dX8_told_14 : decode cX8_told 14 = .ok (.getfield 20, 3) := by decide +kernel
theorem dX8_told_17 : decode cX8_told 17 = .ok (.iconst 3, 1) := by decide +kernel
theorem dX8_told_18 : decode cX8_told 18 = .ok (.if_icmp .ne 8, 3) := by decide +kernel
theorem dX8_told_21 : decode cX8_told 21 = .ok (.bipush 64, 2) := by decide +kernel
theorem dX8_told_23 : decode cX8_told 23 = .ok (.goto 4, 3) := by decide +kernel
theorem dX8_told_26 : decode cX8_told 26 = .ok (.iconst 1, 1) := by decide +kernel
theorem dX8_told_27 : decode cX8_told 27 = .ok (.istore_n 2, 1) := by decide +kernel
theorem dX8_told_28 : decode cX8_told 28 = .ok (.iload_n 1, 1) := by decide +kernel
theorem dX8_told_29 : decode cX8_told 29 = .ok (.iload_n 2, 1) := by decide +kernel
theorem dX8_told_30 : decode cX8_told 30 = .ok (.idiv, 1) := by decide +kernel
theorem dX8_told_31 : decode cX8_told 31 = .ok (.istore_n 3, 1) := by decide +kernel
theorem dX8_told_32 : decode cX8_told 32 = .ok (.aload_n 0, 1) := by decide +kernel
theorem dX8_told_33 : decode cX8_told 33 = .ok (.getfield 20, 3) := by decide +kernel
theorem dX8_told_36 : decode cX8_told 36 = .ok (.iconst 4, 1) := by decide +kernel
theorem dX8_told_37 : decode cX8_told 37 = .ok (.if_icmp .eq 11, 3) := by decide +kernel
theorem dX8_told_40 : decode cX8_told 40 = .ok (.iload_n 3, 1) := by decide +kernel
theorem dX8_told_41 : decode cX8_told 41 = .ok (.aload_n 0, 1) := by decide +kernel
theorem dX8_told_42 : decode cX8_told 42 = .ok (.getfield 104, 3) := by decide +kernel
theorem dX8_told_45 : decode cX8_told 45 = .ok (.if_icmp .lt 5, 3) := by decide +kernel
theorem dX8_told_48 : decode cX8_told 48 = .ok (.iconst 0, 1) := by decide +kernel
theorem dX8_told_49 : decode cX8_told 49 = .ok (.ireturn, 1) := by decide +kernel
theorem dX8_told_50 : decode cX8_told 50 = .ok (.iload_n 2, 1) := by decide +kernel
theorem dX8_told_51 : decode cX8_told 51 = .ok (.iconst 1, 1) := by decide +kernel
theorem dX8_told_52 : decode cX8_told 52 = .ok (.if_icmp .ne 21, 3) := by decide +kernel
theorem dX8_told_55 : decode cX8_told 55 = .ok (.aload_n 0, 1) := by decide +kernel
theorem dX8_told_56 : decode cX8_told 56 = .ok (.getfield 24, 3) := by decide +kernel
theorem dX8_told_59 : decode cX8_told 59 = .ok (.iload_n 3, 1) := by decide +kernel
theorem dX8_told_60 : decode cX8_told 60 = .ok (.laload, 1) := by decide +kernel
theorem dX8_told_61 : decode cX8_told 61 = .ok (.aload_n 0, 1) := by decide +kernel
theorem dX8_told_62 : decode cX8_told 62 = .ok (.invokevirtual 96, 3) := by decide +kernel
theorem dX8_told_65 : decode cX8_told 65 = .ok (.i2l, 1) := by decide +kernel
theorem dX8_told_66 : decode cX8_told 66 = .ok (.invokestatic 109, 3) := by decide +kernel
theorem dX8_told_69 : decode cX8_told 69 = .ok (.l2i, 1) := by decide +kernel
theorem dX8_told_70 : decode cX8_told 70 = .ok (.goto 16, 3) := by decide +kernel
theorem dX8_told_73 : decode cX8_told 73 = .ok (.aload_n 0, 1) := by decide +kernel
theorem dX8_told_74 : decode cX8_told 74 = .ok (.getfield 24, 3) := by decide +kernel
theorem dX8_told_77 : decode cX8_told 77 = .ok (.iload_n 3, 1) := by decide +kernel
theorem dX8_told_78 : decode cX8_told 78 = .ok (.laload, 1) := by decide +kernel
theorem dX8_told_79 : decode cX8_told 79 = .ok (.iload_n 1, 1) := by decide +kernel
theorem dX8_told_80 : decode cX8_told 80 = .ok (.iload_n 2, 1) := by decide +kernel
theorem dX8_told_81 : decode cX8_told 81 = .ok (.irem, 1) := by decide +kernel
theorem dX8_told_82 : decode cX8_told 82 = .ok (.lshr, 1) := by decide +kernel
theorem dX8_told_83 : decode cX8_told 83 = .ok (.lconst 1, 1) := by decide +kernel
theorem dX8_told_84 : decode cX8_told 84 = .ok (.land, 1) := by decide +kernel
theorem dX8_told_85 : decode cX8_told 85 = .ok (.l2i, 1) := by decide +kernel
theorem dX8_told_86 : decode cX8_told 86 = .ok (.ireturn, 1) := by decide +kernel
theorem dX8_isButton_0 : decode cX8_isButton 0 = .ok (.iload_n 1, 1) := by decide +kernel
theorem dX8_isButton_1 : decode cX8_isButton 1 = .ok (.i2l, 1) := by decide +kernel
theorem dX8_isButton_2 : decode cX8_isButton 2 = .ok (.lconst 0, 1) := by decide +kernel
theorem dX8_isButton_3 : decode cX8_isButton 3 = .ok (.aload_n 0, 1) := by decide +kernel
theorem dX8_isButton_4 : decode cX8_isButton 4 = .ok (.invokevirtual 89, 3) := by decide +kernel
theorem dX8_isButton_7 : decode cX8_isButton 7 = .ok (.iconst 1, 1) := by decide +kernel
theorem dX8_isButton_8 : decode cX8_isButton 8 = .ok (.isub, 1) := by decide +kernel
theorem dX8_isButton_9 : decode cX8_isButton 9 = .ok (.i2l, 1) := by decide +kernel
theorem dX8_isButton_10 : decode cX8_isButton 10 = .ok (.invokestatic 69, 3) := by decide +kernel
theorem dX8_isButton_13 : decode cX8_isButton 13 = .ok (.ireturn, 1) := by decide +kernel
theorem dX8_wire_0 : decode cX8_wire 0 = .ok (.aload_n 0, 1) := by decide +kernel
theorem dX8_wire_1 : decode cX8_wire 1 = .ok (.iload_n 1, 1) := by decide +kernel
theorem dX8_wire_2 : decode cX8_wire 2 = .ok (.invokevirtual 115, 3) := by decide +kernel
theorem dX8_wire_5 : decode cX8_wire 5 = .ok (.ifCond .eq 22, 3) := by decide +kernel
theorem dX8_wire_8 : decode cX8_wire 8 = .ok (.aload_n 0, 1) := by decide +kernel
theorem dX8_wire_9 : decode cX8_wire 9 = .ok (.getfield 9, 3) := by decide +kernel
theorem dX8_wire_12 : decode cX8_wire 12 = .ok (.bipush 40, 2) := by decide +kernel
theorem dX8_wire_14 : decode cX8_wire 14 = .ok (.iload_n 1, 1) := by decide +kernel
theorem dX8_wire_15 : decode cX8_wire 15 = .ok (.iadd, 1) := by decide +kernel
theorem dX8_wire_16 : decode cX8_wire 16 = .ok (.iaload, 1) := by decide +kernel
theorem dX8_wire_17 : decode cX8_wire 17 = .ok (.ifCond .ne 10, 3) := by decide +kernel
theorem dX8_wire_20 : decode cX8_wire 20 = .ok (.aload_n 0, 1) := by decide +kernel
theorem dX8_wire_21 : decode cX8_wire 21 = .ok (.getfield 20, 3) := by decide +kernel
theorem dX8_wire_24 : decode cX8_wire 24 = .ok (.ifCond .ge 5, 3) := by decide +kernel
theorem dX8_wire_27 : decode cX8_wire 27 = .ok (.iconst (-1), 1) := by decide +kernel
theorem dX8_wire_28 : decode cX8_wire 28 = .ok (.ireturn, 1) := by decide +kernel
theorem dX8_wire_29 : decode cX8_wire 29 = .ok (.aload_n 0, 1) := by decide +kernel
theorem dX8_wire_30 : decode cX8_wire 30 = .ok (.invokevirtual 99, 3) := by decide +kernel
theorem dX8_wire_33 : decode cX8_wire 33 = .ok (.iconst 0, 1) := by decide +kernel
theorem dX8_wire_34 : decode cX8_wire 34 = .ok (.istore_n 2, 1) := by decide +kernel
theorem dX8_wire_35 : decode cX8_wire 35 = .ok (.iconst 0, 1) := by decide +kernel
theorem dX8_wire_36 : decode cX8_wire 36 = .ok (.istore_n 3, 1) := by decide +kernel
theorem dX8_wire_37 : decode cX8_wire 37 = .ok (.iload_n 3, 1) := by decide +kernel
theorem dX8_wire_38 : decode cX8_wire 38 = .ok (.aload_n 0, 1) := by decide +kernel
theorem dX8_wire_39 : decode cX8_wire 39 = .ok (.invokevirtual 84, 3) := by decide +kernel
theorem dX8_wire_42 : decode cX8_wire 42 = .ok (.if_icmp .ge 46, 3) := by decide +kernel
theorem dX8_wire_45 : decode cX8_wire 45 = .ok (.aload_n 0, 1) := by decide +kernel
theorem dX8_wire_46 : decode cX8_wire 46 = .ok (.iload_n 3, 1) := by decide +kernel
theorem dX8_wire_47 : decode cX8_wire 47 = .ok (.invokevirtual 118, 3) := by decide +kernel
theorem dX8_wire_50 : decode cX8_wire 50 = .ok (.istore 4, 2) := by decide +kernel
theorem dX8_wire_52 : decode cX8_wire 52 = .ok (.aload_n 0, 1) := by decide +kernel
theorem dX8_wire_53 : decode cX8_wire 53 = .ok (.getfield 9, 3) := by decide +kernel
theorem dX8_wire_56 : decode cX8_wire 56 = .ok (.sipush 220, 3) := by decide +kernel
theorem dX8_wire_59 : decode cX8_wire 59 = .ok (.bipush 36, 2) := by decide +kernel
theorem dX8_wire_61 : decode cX8_wire 61 = .ok (.iload_n 1, 1) := by decide +kernel
theorem dX8_wire_62 : decode cX8_wire 62 = .ok (.imul, 1) := by decide +kernel
theorem dX8_wire_63 : decode cX8_wire 63 = .ok (.iadd, 1) := by decide +kernel
theorem dX8_wire_64 : decode cX8_wire 64 = .ok (.iload_n 3, 1) := by decide +kernel
theorem dX8_wire_65 : decode cX8_wire 65 = .ok (.iadd, 1) := by decide +kernel
theorem dX8_wire_66 : decode cX8_wire 66 = .ok (.iload 4, 2) := by decide +kernel
theorem dX8_wire_68 : decode cX8_wire 68 = .ok (.iastore, 1) := by decide +kernel
theorem dX8_wire_69 : decode cX8_wire 69 = .ok (.iload_n 2, 1) := by decide +kernel
theorem dX8_wire_70 : decode cX8_wire 70 = .ok (.iload 4, 2) := by decide +kernel
theorem dX8_wire_72 : decode cX8_wire 72 = .ok (.ifCond .eq 7, 3) := by decide +kernel
theorem dX8_wire_75 : decode cX8_wire 75 = .ok (.iconst 1, 1) := by decide +kernel
theorem dX8_wire_76 : decode cX8_wire 76 = .ok (.goto 4, 3) := by decide +kernel
theorem dX8_wire_79 : decode cX8_wire 79 = .ok (.iconst 0, 1) := by decide +kernel
theorem dX8_wire_80 : decode cX8_wire 80 = .ok (.iadd, 1) := by decide +kernel
theorem dX8_wire_81 : decode cX8_wire 81 = .ok (.istore_n 2, 1) := by decide +kernel
theorem dX8_wire_82 : decode cX8_wire 82 = .ok (.iinc 3 1, 3) := by decide +kernel
theorem dX8_wire_85 : decode cX8_wire 85 = .ok (.goto (-48), 3) := by decide +kernel
theorem dX8_wire_88 : decode cX8_wire 88 = .ok (.aload_n 0, 1) := by decide +kernel
theorem dX8_wire_89 : decode cX8_wire 89 = .ok (.iconst (-1), 1) := by decide +kernel
theorem dX8_wire_90 : decode cX8_wire 90 = .ok (.putfield 20, 3) := by decide +kernel
theorem dX8_wire_93 : decode cX8_wire 93 = .ok (.iload_n 2, 1) := by decide +kernel
theorem dX8_wire_94 : decode cX8_wire 94 = .ok (.ireturn, 1) := by decide +kernel
theorem dX8_cost_0 : decode cX8_cost 0 = .ok (.aload_n 0, 1) := by decide +kernel
theorem dX8_cost_1 : decode cX8_cost 1 = .ok (.iload_n 1, 1) := by decide +kernel
theorem dX8_cost_2 : decode cX8_cost 2 = .ok (.invokevirtual 115, 3) := by decide +kernel
theorem dX8_cost_5 : decode cX8_cost 5 = .ok (.ifCond .eq 15, 3) := by decide +kernel
theorem dX8_cost_8 : decode cX8_cost 8 = .ok (.iload_n 2, 1) := by decide +kernel
theorem dX8_cost_9 : decode cX8_cost 9 = .ok (.i2l, 1) := by decide +kernel
theorem dX8_cost_10 : decode cX8_cost 10 = .ok (.lconst 0, 1) := by decide +kernel
theorem dX8_cost_11 : decode cX8_cost 11 = .ok (.ldc2_w 122, 3) := by decide +kernel
theorem dX8_cost_14 : decode cX8_cost 14 = .ok (.invokestatic 69, 3) := by decide +kernel
theorem dX8_cost_17 : decode cX8_cost 17 = .ok (.ifCond .ne 5, 3) := by decide +kernel
theorem dX8_cost_20 : decode cX8_cost 20 = .ok (.iconst (-1), 1) := by decide +kernel
theorem dX8_cost_21 : decode cX8_cost 21 = .ok (.ireturn, 1) := by decide +kernel
theorem dX8_cost_22 : decode cX8_cost 22 = .ok (.aload_n 0, 1) := by decide +kernel
theorem dX8_cost_23 : decode cX8_cost 23 = .ok (.invokevirtual 99, 3) := by decide +kernel
theorem dX8_cost_26 : decode cX8_cost 26 = .ok (.aload_n 0, 1) := by decide +kernel
theorem dX8_cost_27 : decode cX8_cost 27 = .ok (.getfield 9, 3) := by decide +kernel
theorem dX8_cost_30 : decode cX8_cost 30 = .ok (.sipush 184, 3) := by decide +kernel
theorem dX8_cost_33 : decode cX8_cost 33 = .ok (.iload_n 1, 1) := by decide +kernel
theorem dX8_cost_34 : decode cX8_cost 34 = .ok (.iadd, 1) := by decide +kernel
theorem dX8_cost_35 : decode cX8_cost 35 = .ok (.iaload, 1) := by decide +kernel
theorem dX8_cost_36 : decode cX8_cost 36 = .ok (.istore_n 3, 1) := by decide +kernel
theorem dX8_cost_37 : decode cX8_cost 37 = .ok (.aload_n 0, 1) := by decide +kernel
theorem dX8_cost_38 : decode cX8_cost 38 = .ok (.getfield 9, 3) := by decide +kernel
theorem dX8_cost_41 : decode cX8_cost 41 = .ok (.sipush 184, 3) := by decide +kernel
theorem dX8_cost_44 : decode cX8_cost 44 = .ok (.iload_n 1, 1) := by decide +kernel
theorem dX8_cost_45 : decode cX8_cost 45 = .ok (.iadd, 1) := by decide +kernel
theorem dX8_cost_46 : decode cX8_cost 46 = .ok (.iload_n 2, 1) := by decide +kernel
theorem dX8_cost_47 : decode cX8_cost 47 = .ok (.iastore, 1) := by decide +kernel
theorem dX8_cost_48 : decode cX8_cost 48 = .ok (.iload_n 3, 1) := by decide +kernel
theorem dX8_cost_49 : decode cX8_cost 49 = .ok (.ireturn, 1) := by decide +kernel
theorem dX8_light_0 : decode cX8_light 0 = .ok (.iload_n 1, 1) := by decide +kernel
theorem dX8_light_1 : decode cX8_light 1 = .ok (.i2l, 1) := by decide +kernel
theorem dX8_light_2 : decode cX8_light 2 = .ok (.lconst 0, 1) := by decide +kernel
theorem dX8_light_3 : decode cX8_light 3 = .ok (.aload_n 0, 1) := by decide +kernel
theorem dX8_light_4 : decode cX8_light 4 = .ok (.invokevirtual 84, 3) := by decide +kernel
theorem dX8_light_7 : decode cX8_light 7 = .ok (.iconst 1, 1) := by decide +kernel
theorem dX8_light_8 : decode cX8_light 8 = .ok (.isub, 1) := by decide +kernel
theorem dX8_light_9 : decode cX8_light 9 = .ok (.i2l, 1) := by decide +kernel
theorem dX8_light_10 : decode cX8_light 10 = .ok (.invokestatic 69, 3) := by decide +kernel
theorem dX8_light_13 : decode cX8_light 13 = .ok (.ifCond .eq 19, 3) := by decide +kernel
theorem dX8_light_16 : decode cX8_light 16 = .ok (.iload_n 2, 1) := by decide +kernel
theorem dX8_light_17 : decode cX8_light 17 = .ok (.i2l, 1) := by decide +kernel
theorem dX8_light_18 : decode cX8_light 18 = .ok (.lconst 0, 1) := by decide +kernel
theorem dX8_light_19 : decode cX8_light 19 = .ok (.aload_n 0, 1) := by decide +kernel
theorem dX8_light_20 : decode cX8_light 20 = .ok (.invokevirtual 96, 3) := by decide +kernel
theorem dX8_light_23 : decode cX8_light 23 = .ok (.iconst 1, 1) := by decide +kernel
theorem dX8_light_24 : decode cX8_light 24 = .ok (.isub, 1) := by decide +kernel
theorem dX8_light_25 : decode cX8_light 25 = .ok (.i2l, 1) := by decide +kernel
theorem dX8_light_26 : decode cX8_light 26 = .ok (.invokestatic 69, 3) := by decide +kernel
theorem dX8_light_29 : decode cX8_light 29 = .ok (.ifCond .ne 5, 3) := by decide +kernel
theorem dX8_light_32 : decode cX8_light 32 = .ok (.iconst (-1), 1) := by decide +kernel
theorem dX8_light_33 : decode cX8_light 33 = .ok (.ireturn, 1) := by decide +kernel
theorem dX8_light_34 : decode cX8_light 34 = .ok (.aload_n 0, 1) := by decide +kernel
theorem dX8_light_35 : decode cX8_light 35 = .ok (.invokevirtual 99, 3) := by decide +kernel
theorem dX8_light_38 : decode cX8_light 38 = .ok (.aload_n 0, 1) := by decide +kernel
theorem dX8_light_39 : decode cX8_light 39 = .ok (.getfield 9, 3) := by decide +kernel
theorem dX8_light_42 : decode cX8_light 42 = .ok (.iconst 4, 1) := by decide +kernel
theorem dX8_light_43 : decode cX8_light 43 = .ok (.iload_n 1, 1) := by decide +kernel
theorem dX8_light_44 : decode cX8_light 44 = .ok (.iadd, 1) := by decide +kernel
theorem dX8_light_45 : decode cX8_light 45 = .ok (.iaload, 1) := by decide +kernel
theorem dX8_light_46 : decode cX8_light 46 = .ok (.istore_n 3, 1) := by decide +kernel
theorem dX8_light_47 : decode cX8_light 47 = .ok (.aload_n 0, 1) := by decide +kernel
theorem dX8_light_48 : decode cX8_light 48 = .ok (.getfield 9, 3) := by decide +kernel
theorem dX8_light_51 : decode cX8_light 51 = .ok (.iconst 4, 1) := by decide +kernel
theorem dX8_light_52 : decode cX8_light 52 = .ok (.iload_n 1, 1) := by decide +kernel
theorem dX8_light_53 : decode cX8_light 53 = .ok (.iadd, 1) := by decide +kernel
theorem dX8_light_54 : decode cX8_light 54 = .ok (.iload_n 2, 1) := by decide +kernel
theorem dX8_light_55 : decode cX8_light 55 = .ok (.iastore, 1) := by decide +kernel
theorem dX8_light_56 : decode cX8_light 56 = .ok (.iload_n 3, 1) := by decide +kernel
theorem dX8_light_57 : decode cX8_light 57 = .ok (.ireturn, 1) := by decide +kernel
theorem dX8_cross_0 : decode cX8_cross 0 = .ok (.aload_n 0, 1) := by decide +kernel
theorem dX8_cross_1 : decode cX8_cross 1 = .ok (.getfield 9, 3) := by decide +kernel
theorem dX8_cross_4 : decode cX8_cross 4 = .ok (.bipush 76, 2) := by decide +kernel
theorem dX8_cross_6 : decode cX8_cross 6 = .ok (.iload_n 1, 1) := by decide +kernel
theorem dX8_cross_7 : decode cX8_cross 7 = .ok (.iadd, 1) := by decide +kernel
theorem dX8_cross_8 : decode cX8_cross 8 = .ok (.iaload, 1) := by decide +kernel
theorem dX8_cross_9 : decode cX8_cross 9 = .ok (.istore_n 3, 1) := by decide +kernel
theorem dX8_cross_10 : decode cX8_cross 10 = .ok (.iload_n 2, 1) := by decide +kernel
theorem dX8_cross_11 : decode cX8_cross 11 = .ok (.aload_n 0, 1) := by decide +kernel
theorem dX8_cross_12 : decode cX8_cross 12 = .ok (.invokevirtual 80, 3) := by decide +kernel
theorem dX8_cross_15 : decode cX8_cross 15 = .ok (.idiv, 1) := by decide +kernel
theorem dX8_cross_16 : decode cX8_cross 16 = .ok (.iload_n 3, 1) := by decide +kernel
theorem dX8_cross_17 : decode cX8_cross 17 = .ok (.aload_n 0, 1) := by decide +kernel
theorem dX8_cross_18 : decode cX8_cross 18 = .ok (.invokevirtual 80, 3) := by decide +kernel
theorem dX8_cross_21 : decode cX8_cross 21 = .ok (.idiv, 1) := by decide +kernel
theorem dX8_cross_22 : decode cX8_cross 22 = .ok (.if_icmp .ne 13, 3) := by decide +kernel
theorem dX8_cross_25 : decode cX8_cross 25 = .ok (.iload_n 2, 1) := by decide +kernel
theorem dX8_cross_26 : decode cX8_cross 26 = .ok (.iload_n 3, 1) := by decide +kernel
theorem dX8_cross_27 : decode cX8_cross 27 = .ok (.isub, 1) := by decide +kernel
theorem dX8_cross_28 : decode cX8_cross 28 = .ok (.invokestatic 124, 3) := by decide +kernel
theorem dX8_cross_31 : decode cX8_cross 31 = .ok (.iconst 1, 1) := by decide +kernel
theorem dX8_cross_32 : decode cX8_cross 32 = .ok (.if_icmp .eq 31, 3) := by decide +kernel
theorem dX8_cross_35 : decode cX8_cross 35 = .ok (.iload_n 2, 1) := by decide +kernel
theorem dX8_cross_36 : decode cX8_cross 36 = .ok (.iload_n 3, 1) := by decide +kernel
theorem dX8_cross_37 : decode cX8_cross 37 = .ok (.isub, 1) := by decide +kernel
theorem dX8_cross_38 : decode cX8_cross 38 = .ok (.invokestatic 124, 3) := by decide +kernel
theorem dX8_cross_41 : decode cX8_cross 41 = .ok (.aload_n 0, 1) := by decide +kernel
theorem dX8_cross_42 : decode cX8_cross 42 = .ok (.invokevirtual 80, 3) := by decide +kernel
theorem dX8_cross_45 : decode cX8_cross 45 = .ok (.if_icmp .ne 22, 3) := by decide +kernel
theorem dX8_cross_48 : decode cX8_cross 48 = .ok (.iload_n 2, 1) := by decide +kernel
theorem dX8_cross_49 : decode cX8_cross 49 = .ok (.aload_n 0, 1) := by decide +kernel
theorem dX8_cross_50 : decode cX8_cross 50 = .ok (.invokevirtual 80, 3) := by decide +kernel
theorem dX8_cross_53 : decode cX8_cross 53 = .ok (.irem, 1) := by decide +kernel
theorem dX8_cross_54 : decode cX8_cross 54 = .ok (.iload_n 3, 1) := by decide +kernel
theorem dX8_cross_55 : decode cX8_cross 55 = .ok (.aload_n 0, 1) := by decide +kernel
theorem dX8_cross_56 : decode cX8_cross 56 = .ok (.invokevirtual 80, 3) := by decide +kernel
theorem dX8_cross_59 : decode cX8_cross 59 = .ok (.irem, 1) := by decide +kernel
theorem dX8_cross_60 : decode cX8_cross 60 = .ok (.if_icmp .ne 7, 3) := by decide +kernel
theorem dX8_cross_63 : decode cX8_cross 63 = .ok (.iconst 1, 1) := by decide +kernel
theorem dX8_cross_64 : decode cX8_cross 64 = .ok (.goto 4, 3) := by decide +kernel
theorem dX8_cross_67 : decode cX8_cross 67 = .ok (.iconst 0, 1) := by decide +kernel
theorem dX8_cross_68 : decode cX8_cross 68 = .ok (.istore 4, 2) := by decide +kernel
theorem dX8_cross_70 : decode cX8_cross 70 = .ok (.iload_n 2, 1) := by decide +kernel
theorem dX8_cross_71 : decode cX8_cross 71 = .ok (.iload_n 3, 1) := by decide +kernel
theorem dX8_cross_72 : decode cX8_cross 72 = .ok (.if_icmp .eq 8, 3) := by decide +kernel
theorem dX8_cross_75 : decode cX8_cross 75 = .ok (.iload 4, 2) := by decide +kernel
theorem dX8_cross_77 : decode cX8_cross 77 = .ok (.ifCond .eq 15, 3) := by decide +kernel
theorem dX8_cross_80 : decode cX8_cross 80 = .ok (.aload_n 0, 1) := by decide +kernel
theorem dX8_cross_81 : decode cX8_cross 81 = .ok (.getfield 9, 3) := by decide +kernel
theorem dX8_cross_84 : decode cX8_cross 84 = .ok (.bipush 112, 2) := by decide +kernel
theorem dX8_cross_86 : decode cX8_cross 86 = .ok (.iload_n 1, 1) := by decide +kernel
theorem dX8_cross_87 : decode cX8_cross 87 = .ok (.iadd, 1) := by decide +kernel
theorem dX8_cross_88 : decode cX8_cross 88 = .ok (.iaload, 1) := by decide +kernel
theorem dX8_cross_89 : decode cX8_cross 89 = .ok (.goto 4, 3) := by decide +kernel
theorem dX8_cross_92 : decode cX8_cross 92 = .ok (.iconst 0, 1) := by decide +kernel
theorem dX8_cross_93 : decode cX8_cross 93 = .ok (.ireturn, 1) := by decide +kernel
theorem dX8_own_0 : decode cX8_own 0 = .ok (.aload_n 0, 1) := by decide +kernel
theorem dX8_own_1 : decode cX8_own 1 = .ok (.getfield 9, 3) := by decide +kernel
theorem dX8_own_4 : decode cX8_own 4 = .ok (.bipush 40, 2) := by decide +kernel
theorem dX8_own_6 : decode cX8_own 6 = .ok (.iload_n 1, 1) := by decide +kernel
theorem dX8_own_7 : decode cX8_own 7 = .ok (.iadd, 1) := by decide +kernel
theorem dX8_own_8 : decode cX8_own 8 = .ok (.iaload, 1) := by decide +kernel
theorem dX8_own_9 : decode cX8_own 9 = .ok (.tableswitch 130 0 3 #[31, 130, 47, 47], 31) := by decide +kernel
theorem dX8_own_40 : decode cX8_own 40 = .ok (.aload_n 0, 1) := by decide +kernel
theorem dX8_own_41 : decode cX8_own 41 = .ok (.getfield 9, 3) := by decide +kernel
theorem dX8_own_44 : decode cX8_own 44 = .ok (.sipush 220, 3) := by decide +kernel
theorem dX8_own_47 : decode cX8_own 47 = .ok (.bipush 36, 2) := by decide +kernel
theorem dX8_own_49 : decode cX8_own 49 = .ok (.iload_n 1, 1) := by decide +kernel
theorem dX8_own_50 : decode cX8_own 50 = .ok (.imul, 1) := by decide +kernel
theorem dX8_own_51 : decode cX8_own 51 = .ok (.iadd, 1) := by decide +kernel
theorem dX8_own_52 : decode cX8_own 52 = .ok (.iload_n 2, 1) := by decide +kernel
theorem dX8_own_53 : decode cX8_own 53 = .ok (.iadd, 1) := by decide +kernel
theorem dX8_own_54 : decode cX8_own 54 = .ok (.iaload, 1) := by decide +kernel
theorem dX8_own_55 : decode cX8_own 55 = .ok (.ireturn, 1) := by decide +kernel
theorem dX8_own_56 : decode cX8_own 56 = .ok (.aload_n 0, 1) := by decide +kernel
theorem dX8_own_57 : decode cX8_own 57 = .ok (.getfield 9, 3) := by decide +kernel
theorem dX8_own_60 : decode cX8_own 60 = .ok (.bipush 76, 2) := by decide +kernel
theorem dX8_own_62 : decode cX8_own 62 = .ok (.iload_n 1, 1) := by decide +kernel
theorem dX8_own_63 : decode cX8_own 63 = .ok (.iadd, 1) := by decide +kernel
theorem dX8_own_64 : decode cX8_own 64 = .ok (.iaload, 1) := by decide +kernel
theorem dX8_own_65 : decode cX8_own 65 = .ok (.bipush 100, 2) := by decide +kernel
theorem dX8_own_67 : decode cX8_own 67 = .ok (.if_icmp .lt 40, 3) := by decide +kernel
theorem dX8_own_70 : decode cX8_own 70 = .ok (.iload_n 2, 1) := by decide +kernel
theorem dX8_own_71 : decode cX8_own 71 = .ok (.aload_n 0, 1) := by decide +kernel
theorem dX8_own_72 : decode cX8_own 72 = .ok (.invokevirtual 80, 3) := by decide +kernel
theorem dX8_own_75 : decode cX8_own 75 = .ok (.irem, 1) := by decide +kernel
theorem dX8_own_76 : decode cX8_own 76 = .ok (.aload_n 0, 1) := by decide +kernel
theorem dX8_own_77 : decode cX8_own 77 = .ok (.getfield 9, 3) := by decide +kernel
theorem dX8_own_80 : decode cX8_own 80 = .ok (.bipush 76, 2) := by decide +kernel
theorem dX8_own_82 : decode cX8_own 82 = .ok (.iload_n 1, 1) := by decide +kernel
theorem dX8_own_83 : decode cX8_own 83 = .ok (.iadd, 1) := by decide +kernel
theorem dX8_own_84 : decode cX8_own 84 = .ok (.iaload, 1) := by decide +kernel
theorem dX8_own_85 : decode cX8_own 85 = .ok (.bipush 100, 2) := by decide +kernel
theorem dX8_own_87 : decode cX8_own 87 = .ok (.isub, 1) := by decide +kernel
theorem dX8_own_88 : decode cX8_own 88 = .ok (.if_icmp .ne 15, 3) := by decide +kernel
theorem dX8_own_91 : decode cX8_own 91 = .ok (.aload_n 0, 1) := by decide +kernel
theorem dX8_own_92 : decode cX8_own 92 = .ok (.getfield 9, 3) := by decide +kernel
theorem dX8_own_95 : decode cX8_own 95 = .ok (.bipush 112, 2) := by decide +kernel
theorem dX8_own_97 : decode cX8_own 97 = .ok (.iload_n 1, 1) := by decide +kernel
theorem dX8_own_98 : decode cX8_own 98 = .ok (.iadd, 1) := by decide +kernel
theorem dX8_own_99 : decode cX8_own 99 = .ok (.iaload, 1) := by decide +kernel
theorem dX8_own_100 : decode cX8_own 100 = .ok (.goto 38, 3) := by decide +kernel
theorem dX8_own_103 : decode cX8_own 103 = .ok (.iconst 0, 1) := by decide +kernel
theorem dX8_own_104 : decode cX8_own 104 = .ok (.goto 34, 3) := by decide +kernel
theorem dX8_own_107 : decode cX8_own 107 = .ok (.iload_n 2, 1) := by decide +kernel
theorem dX8_own_108 : decode cX8_own 108 = .ok (.aload_n 0, 1) := by decide +kernel
theorem dX8_own_109 : decode cX8_own 109 = .ok (.invokevirtual 80, 3) := by decide +kernel
theorem dX8_own_112 : decode cX8_own 112 = .ok (.idiv, 1) := by decide +kernel
theorem dX8_own_113 : decode cX8_own 113 = .ok (.aload_n 0, 1) := by decide +kernel
theorem dX8_own_114 : decode cX8_own 114 = .ok (.getfield 9, 3) := by decide +kernel
theorem dX8_own_117 : decode cX8_own 117 = .ok (.bipush 76, 2) := by decide +kernel
theorem dX8_own_119 : decode cX8_own 119 = .ok (.iload_n 1, 1) := by decide +kernel
theorem dX8_own_120 : decode cX8_own 120 = .ok (.iadd, 1) := by decide +kernel
theorem dX8_own_121 : decode cX8_own 121 = .ok (.iaload, 1) := by decide +kernel
theorem dX8_own_122 : decode cX8_own 122 = .ok (.if_icmp .ne 15, 3) := by decide +kernel
theorem dX8_own_125 : decode cX8_own 125 = .ok (.aload_n 0, 1) := by decide +kernel
theorem dX8_own_126 : decode cX8_own 126 = .ok (.getfield 9, 3) := by decide +kernel
theorem dX8_own_129 : decode cX8_own 129 = .ok (.bipush 112, 2) := by decide +kernel
theorem dX8_own_131 : decode cX8_own 131 = .ok (.iload_n 1, 1) := by decide +kernel
theorem dX8_own_132 : decode cX8_own 132 = .ok (.iadd, 1) := by decide +kernel
theorem dX8_own_133 : decode cX8_own 133 = .ok (.iaload, 1) := by decide +kernel
theorem dX8_own_134 : decode cX8_own 134 = .ok (.goto 4, 3) := by decide +kernel
theorem dX8_own_137 : decode cX8_own 137 = .ok (.iconst 0, 1) := by decide +kernel
theorem dX8_own_138 : decode cX8_own 138 = .ok (.ireturn, 1) := by decide +kernel
theorem dX8_own_139 : decode cX8_own 139 = .ok (.aload_n 0, 1) := by decide +kernel
theorem dX8_own_140 : decode cX8_own 140 = .ok (.iload_n 1, 1) := by decide +kernel
theorem dX8_own_141 : decode cX8_own 141 = .ok (.iload_n 2, 1) := by decide +kernel
theorem dX8_own_142 : decode cX8_own 142 = .ok (.invokevirtual 127, 3) := by decide +kernel
theorem dX8_own_145 : decode cX8_own 145 = .ok (.ireturn, 1) := by decide +kernel
theorem dX8_steps_0 : decode cX8_steps 0 = .ok (.aload_n 0, 1) := by decide +kernel
theorem dX8_steps_1 : decode cX8_steps 1 = .ok (.iload_n 1, 1) := by decide +kernel
theorem dX8_steps_2 : decode cX8_steps 2 = .ok (.iload_n 2, 1) := by decide +kernel
theorem dX8_steps_3 : decode cX8_steps 3 = .ok (.invokevirtual 131, 3) := by decide +kernel
theorem dX8_steps_6 : decode cX8_steps 6 = .ok (.aload_n 0, 1) := by decide +kernel
theorem dX8_steps_7 : decode cX8_steps 7 = .ok (.getfield 9, 3) := by decide +kernel
theorem dX8_steps_10 : decode cX8_steps 10 = .ok (.bipush 40, 2) := by decide +kernel
theorem dX8_steps_12 : decode cX8_steps 12 = .ok (.iload_n 1, 1) := by decide +kernel
theorem dX8_steps_13 : decode cX8_steps 13 = .ok (.iadd, 1) := by decide +kernel
theorem dX8_steps_14 : decode cX8_steps 14 = .ok (.iaload, 1) := by decide +kernel
theorem dX8_steps_15 : decode cX8_steps 15 = .ok (.iconst 4, 1) := by decide +kernel
theorem dX8_steps_16 : decode cX8_steps 16 = .ok (.if_icmp .ne 21, 3) := by decide +kernel
theorem dX8_steps_19 : decode cX8_steps 19 = .ok (.aload_n 0, 1) := by decide +kernel
theorem dX8_steps_20 : decode cX8_steps 20 = .ok (.aload_n 0, 1) := by decide +kernel
theorem dX8_steps_21 : decode cX8_steps 21 = .ok (.getfield 9, 3) := by decide +kernel
theorem dX8_steps_24 : decode cX8_steps 24 = .ok (.sipush 148, 3) := by decide +kernel
theorem dX8_steps_27 : decode cX8_steps 27 = .ok (.iload_n 1, 1) := by decide +kernel
theorem dX8_steps_28 : decode cX8_steps 28 = .ok (.iadd, 1) := by decide +kernel
theorem dX8_steps_29 : decode cX8_steps 29 = .ok (.iaload, 1) := by decide +kernel
theorem dX8_steps_30 : decode cX8_steps 30 = .ok (.iload_n 2, 1) := by decide +kernel
theorem dX8_steps_31 : decode cX8_steps 31 = .ok (.invokevirtual 131, 3) := by decide +kernel
theorem dX8_steps_34 : decode cX8_steps 34 = .ok (.goto 4, 3) := by decide +kernel
theorem dX8_steps_37 : decode cX8_steps 37 = .ok (.iconst 0, 1) := by decide +kernel
theorem dX8_steps_38 : decode cX8_steps 38 = .ok (.iadd, 1) := by decide +kernel
theorem dX8_steps_39 : decode cX8_steps 39 = .ok (.aload_n 0, 1) := by decide +kernel
theorem dX8_steps_40 : decode cX8_steps 40 = .ok (.invokevirtual 96, 3) := by decide +kernel
theorem dX8_steps_43 : decode cX8_steps 43 = .ok (.irem, 1) := by decide +kernel
theorem dX8_steps_44 : decode cX8_steps 44 = .ok (.ireturn, 1) := by decide +kernel
theorem dX8_isStuck_0 : decode cX8_isStuck 0 = .ok (.aload_n 0, 1) := by decide +kernel
theorem dX8_isStuck_1 : decode cX8_isStuck 1 = .ok (.getfield 9, 3) := by decide +kernel
theorem dX8_isStuck_4 : decode cX8_isStuck 4 = .ok (.bipush 40, 2) := by decide +kernel
theorem dX8_isStuck_6 : decode cX8_isStuck 6 = .ok (.iload_n 1, 1) := by decide +kernel
theorem dX8_isStuck_7 : decode cX8_isStuck 7 = .ok (.iadd, 1) := by decide +kernel
theorem dX8_isStuck_8 : decode cX8_isStuck 8 = .ok (.iaload, 1) := by decide +kernel
theorem dX8_isStuck_9 : decode cX8_isStuck 9 = .ok (.iconst 3, 1) := by decide +kernel
theorem dX8_isStuck_10 : decode cX8_isStuck 10 = .ok (.if_icmp .ne 7, 3) := by decide +kernel
theorem dX8_isStuck_13 : decode cX8_isStuck 13 = .ok (.iconst 1, 1) := by decide +kernel
theorem dX8_isStuck_14 : decode cX8_isStuck 14 = .ok (.goto 4, 3) := by decide +kernel
theorem dX8_isStuck_17 : decode cX8_isStuck 17 = .ok (.iconst 0, 1) := by decide +kernel
theorem dX8_isStuck_18 : decode cX8_isStuck 18 = .ok (.ireturn, 1) := by decide +kernel
theorem dX8_pushed_0 : decode cX8_pushed 0 = .ok (.iconst 0, 1) := by decide +kernel
theorem dX8_pushed_1 : decode cX8_pushed 1 = .ok (.istore_n 3, 1) := by decide +kernel
theorem dX8_pushed_2 : decode cX8_pushed 2 = .ok (.iconst 0, 1) := by decide +kernel
theorem dX8_pushed_3 : decode cX8_pushed 3 = .ok (.istore 4, 2) := by decide +kernel
theorem dX8_pushed_5 : decode cX8_pushed 5 = .ok (.iload 4, 2) := by decide +kernel
theorem dX8_pushed_7 : decode cX8_pushed 7 = .ok (.aload_n 0, 1) := by decide +kernel
theorem dX8_pushed_8 : decode cX8_pushed 8 = .ok (.invokevirtual 84, 3) := by decide +kernel
theorem dX8_pushed_11 : decode cX8_pushed 11 = .ok (.if_icmp .ge 73, 3) := by decide +kernel
theorem dX8_pushed_14 : decode cX8_pushed 14 = .ok (.aload_n 0, 1) := by decide +kernel
theorem dX8_pushed_15 : decode cX8_pushed 15 = .ok (.getfield 9, 3) := by decide +kernel
theorem dX8_pushed_18 : decode cX8_pushed 18 = .ok (.iconst 4, 1) := by decide +kernel
theorem dX8_pushed_19 : decode cX8_pushed 19 = .ok (.iload 4, 2) := by decide +kernel
theorem dX8_pushed_21 : decode cX8_pushed 21 = .ok (.iadd, 1) := by decide +kernel
theorem dX8_pushed_22 : decode cX8_pushed 22 = .ok (.iaload, 1) := by decide +kernel
theorem dX8_pushed_23 : decode cX8_pushed 23 = .ok (.iload_n 2, 1) := by decide +kernel
theorem dX8_pushed_24 : decode cX8_pushed 24 = .ok (.aload_n 0, 1) := by decide +kernel
theorem dX8_pushed_25 : decode cX8_pushed 25 = .ok (.invokevirtual 96, 3) := by decide +kernel
theorem dX8_pushed_28 : decode cX8_pushed 28 = .ok (.irem, 1) := by decide +kernel
theorem dX8_pushed_29 : decode cX8_pushed 29 = .ok (.aload_n 0, 1) := by decide +kernel
theorem dX8_pushed_30 : decode cX8_pushed 30 = .ok (.iload_n 1, 1) := by decide +kernel
theorem dX8_pushed_31 : decode cX8_pushed 31 = .ok (.iload 4, 2) := by decide +kernel
theorem dX8_pushed_33 : decode cX8_pushed 33 = .ok (.invokevirtual 134, 3) := by decide +kernel
theorem dX8_pushed_36 : decode cX8_pushed 36 = .ok (.imul, 1) := by decide +kernel
theorem dX8_pushed_37 : decode cX8_pushed 37 = .ok (.iadd, 1) := by decide +kernel
theorem dX8_pushed_38 : decode cX8_pushed 38 = .ok (.aload_n 0, 1) := by decide +kernel
theorem dX8_pushed_39 : decode cX8_pushed 39 = .ok (.invokevirtual 96, 3) := by decide +kernel
theorem dX8_pushed_42 : decode cX8_pushed 42 = .ok (.irem, 1) := by decide +kernel
theorem dX8_pushed_43 : decode cX8_pushed 43 = .ok (.istore 5, 2) := by decide +kernel
theorem dX8_pushed_45 : decode cX8_pushed 45 = .ok (.iload_n 3, 1) := by decide +kernel
theorem dX8_pushed_46 : decode cX8_pushed 46 = .ok (.iload 5, 2) := by decide +kernel
theorem dX8_pushed_48 : decode cX8_pushed 48 = .ok (.aload_n 0, 1) := by decide +kernel
theorem dX8_pushed_49 : decode cX8_pushed 49 = .ok (.getfield 9, 3) := by decide +kernel
theorem dX8_pushed_52 : decode cX8_pushed 52 = .ok (.iconst 4, 1) := by decide +kernel
theorem dX8_pushed_53 : decode cX8_pushed 53 = .ok (.iload 4, 2) := by decide +kernel
theorem dX8_pushed_55 : decode cX8_pushed 55 = .ok (.iadd, 1) := by decide +kernel
theorem dX8_pushed_56 : decode cX8_pushed 56 = .ok (.iaload, 1) := by decide +kernel
theorem dX8_pushed_57 : decode cX8_pushed 57 = .ok (.if_icmp .eq 7, 3) := by decide +kernel
theorem dX8_pushed_60 : decode cX8_pushed 60 = .ok (.iconst 1, 1) := by decide +kernel
theorem dX8_pushed_61 : decode cX8_pushed 61 = .ok (.goto 4, 3) := by decide +kernel
theorem dX8_pushed_64 : decode cX8_pushed 64 = .ok (.iconst 0, 1) := by decide +kernel
theorem dX8_pushed_65 : decode cX8_pushed 65 = .ok (.iadd, 1) := by decide +kernel
theorem dX8_pushed_66 : decode cX8_pushed 66 = .ok (.istore_n 3, 1) := by decide +kernel
theorem dX8_pushed_67 : decode cX8_pushed 67 = .ok (.aload_n 0, 1) := by decide +kernel
theorem dX8_pushed_68 : decode cX8_pushed 68 = .ok (.getfield 9, 3) := by decide +kernel
theorem dX8_pushed_71 : decode cX8_pushed 71 = .ok (.iconst 4, 1) := by decide +kernel
theorem dX8_pushed_72 : decode cX8_pushed 72 = .ok (.iload 4, 2) := by decide +kernel
theorem dX8_pushed_74 : decode cX8_pushed 74 = .ok (.iadd, 1) := by decide +kernel
theorem dX8_pushed_75 : decode cX8_pushed 75 = .ok (.iload 5, 2) := by decide +kernel
theorem dX8_pushed_77 : decode cX8_pushed 77 = .ok (.iastore, 1) := by decide +kernel
theorem dX8_pushed_78 : decode cX8_pushed 78 = .ok (.iinc 4 1, 3) := by decide +kernel
theorem dX8_pushed_81 : decode cX8_pushed 81 = .ok (.goto (-76), 3) := by decide +kernel
theorem dX8_pushed_84 : decode cX8_pushed 84 = .ok (.iload_n 3, 1) := by decide +kernel
theorem dX8_pushed_85 : decode cX8_pushed 85 = .ok (.ireturn, 1) := by decide +kernel
theorem dX8_push_0 : decode cX8_push 0 = .ok (.aload_n 0, 1) := by decide +kernel
theorem dX8_push_1 : decode cX8_push 1 = .ok (.iload_n 1, 1) := by decide +kernel
theorem dX8_push_2 : decode cX8_push 2 = .ok (.invokevirtual 115, 3) := by decide +kernel
theorem dX8_push_5 : decode cX8_push 5 = .ok (.ifCond .eq 23, 3) := by decide +kernel
theorem dX8_push_8 : decode cX8_push 8 = .ok (.aload_n 0, 1) := by decide +kernel
theorem dX8_push_9 : decode cX8_push 9 = .ok (.iload_n 1, 1) := by decide +kernel
theorem dX8_push_10 : decode cX8_push 10 = .ok (.invokevirtual 137, 3) := by decide +kernel
theorem dX8_push_13 : decode cX8_push 13 = .ok (.ifCond .ne 15, 3) := by decide +kernel
theorem dX8_push_16 : decode cX8_push 16 = .ok (.iload_n 2, 1) := by decide +kernel
theorem dX8_push_17 : decode cX8_push 17 = .ok (.i2l, 1) := by decide +kernel
theorem dX8_push_18 : decode cX8_push 18 = .ok (.lconst 0, 1) := by decide +kernel
theorem dX8_push_19 : decode cX8_push 19 = .ok (.ldc2_w 140, 3) := by decide +kernel
theorem dX8_push_22 : decode cX8_push 22 = .ok (.invokestatic 69, 3) := by decide +kernel
theorem dX8_push_25 : decode cX8_push 25 = .ok (.ifCond .ne 5, 3) := by decide +kernel
theorem dX8_push_28 : decode cX8_push 28 = .ok (.iconst (-1), 1) := by decide +kernel
theorem dX8_push_29 : decode cX8_push 29 = .ok (.ireturn, 1) := by decide +kernel
theorem dX8_push_30 : decode cX8_push 30 = .ok (.aload_n 0, 1) := by decide +kernel
theorem dX8_push_31 : decode cX8_push 31 = .ok (.invokevirtual 99, 3) := by decide +kernel
theorem dX8_push_34 : decode cX8_push 34 = .ok (.aload_n 0, 1) := by decide +kernel
theorem dX8_push_35 : decode cX8_push 35 = .ok (.iload_n 1, 1) := by decide +kernel
theorem dX8_push_36 : decode cX8_push 36 = .ok (.iload_n 2, 1) := by decide +kernel
theorem dX8_push_37 : decode cX8_push 37 = .ok (.invokevirtual 142, 3) := by decide +kernel
theorem dX8_push_40 : decode cX8_push 40 = .ok (.ireturn, 1) := by decide +kernel
theorem dX8_chase_0 : decode cX8_chase 0 = .ok (.aload_n 0, 1) := by decide +kernel
theorem dX8_chase_1 : decode cX8_chase 1 = .ok (.invokevirtual 89, 3) := by decide +kernel
theorem dX8_chase_4 : decode cX8_chase 4 = .ok (.aload_n 0, 1) := by decide +kernel
theorem dX8_chase_5 : decode cX8_chase 5 = .ok (.invokevirtual 84, 3) := by decide +kernel
theorem dX8_chase_8 : decode cX8_chase 8 = .ok (.if_icmp .ne 7, 3) := by decide +kernel
theorem dX8_chase_11 : decode cX8_chase 11 = .ok (.iconst 1, 1) := by decide +kernel
theorem dX8_chase_12 : decode cX8_chase 12 = .ok (.goto 4, 3) := by decide +kernel
theorem dX8_chase_15 : decode cX8_chase 15 = .ok (.iconst 0, 1) := by decide +kernel
theorem dX8_chase_16 : decode cX8_chase 16 = .ok (.istore_n 1, 1) := by decide +kernel
theorem dX8_chase_17 : decode cX8_chase 17 = .ok (.iconst 0, 1) := by decide +kernel
theorem dX8_chase_18 : decode cX8_chase 18 = .ok (.istore_n 2, 1) := by decide +kernel
theorem dX8_chase_19 : decode cX8_chase 19 = .ok (.iload_n 2, 1) := by decide +kernel
theorem dX8_chase_20 : decode cX8_chase 20 = .ok (.aload_n 0, 1) := by decide +kernel
theorem dX8_chase_21 : decode cX8_chase 21 = .ok (.invokevirtual 84, 3) := by decide +kernel
theorem dX8_chase_24 : decode cX8_chase 24 = .ok (.if_icmp .ge 58, 3) := by decide +kernel
theorem dX8_chase_27 : decode cX8_chase 27 = .ok (.iload_n 1, 1) := by decide +kernel
theorem dX8_chase_28 : decode cX8_chase 28 = .ok (.ifCond .eq 54, 3) := by decide +kernel
theorem dX8_chase_31 : decode cX8_chase 31 = .ok (.aload_n 0, 1) := by decide +kernel
theorem dX8_chase_32 : decode cX8_chase 32 = .ok (.getfield 9, 3) := by decide +kernel
theorem dX8_chase_35 : decode cX8_chase 35 = .ok (.bipush 40, 2) := by decide +kernel
theorem dX8_chase_37 : decode cX8_chase 37 = .ok (.iload_n 2, 1) := by decide +kernel
theorem dX8_chase_38 : decode cX8_chase 38 = .ok (.iadd, 1) := by decide +kernel
theorem dX8_chase_39 : decode cX8_chase 39 = .ok (.iaload, 1) := by decide +kernel
theorem dX8_chase_40 : decode cX8_chase 40 = .ok (.iconst 1, 1) := by decide +kernel
theorem dX8_chase_41 : decode cX8_chase 41 = .ok (.if_icmp .ne 33, 3) := by decide +kernel
theorem dX8_chase_44 : decode cX8_chase 44 = .ok (.aload_n 0, 1) := by decide +kernel
theorem dX8_chase_45 : decode cX8_chase 45 = .ok (.getfield 9, 3) := by decide +kernel
theorem dX8_chase_48 : decode cX8_chase 48 = .ok (.bipush 76, 2) := by decide +kernel
theorem dX8_chase_50 : decode cX8_chase 50 = .ok (.iload_n 2, 1) := by decide +kernel
theorem dX8_chase_51 : decode cX8_chase 51 = .ok (.iadd, 1) := by decide +kernel
theorem dX8_chase_52 : decode cX8_chase 52 = .ok (.iaload, 1) := by decide +kernel
theorem dX8_chase_53 : decode cX8_chase 53 = .ok (.iload_n 2, 1) := by decide +kernel
theorem dX8_chase_54 : decode cX8_chase 54 = .ok (.if_icmp .ne 20, 3) := by decide +kernel
theorem dX8_chase_57 : decode cX8_chase 57 = .ok (.aload_n 0, 1) := by decide +kernel
theorem dX8_chase_58 : decode cX8_chase 58 = .ok (.getfield 9, 3) := by decide +kernel
theorem dX8_chase_61 : decode cX8_chase 61 = .ok (.bipush 112, 2) := by decide +kernel
theorem dX8_chase_63 : decode cX8_chase 63 = .ok (.iload_n 2, 1) := by decide +kernel
theorem dX8_chase_64 : decode cX8_chase 64 = .ok (.iadd, 1) := by decide +kernel
theorem dX8_chase_65 : decode cX8_chase 65 = .ok (.iaload, 1) := by decide +kernel
theorem dX8_chase_66 : decode cX8_chase 66 = .ok (.iconst 1, 1) := by decide +kernel
theorem dX8_chase_67 : decode cX8_chase 67 = .ok (.if_icmp .ne 7, 3) := by decide +kernel
theorem dX8_chase_70 : decode cX8_chase 70 = .ok (.iconst 1, 1) := by decide +kernel
theorem dX8_chase_71 : decode cX8_chase 71 = .ok (.goto 4, 3) := by decide +kernel
theorem dX8_chase_74 : decode cX8_chase 74 = .ok (.iconst 0, 1) := by decide +kernel
theorem dX8_chase_75 : decode cX8_chase 75 = .ok (.istore_n 1, 1) := by decide +kernel
theorem dX8_chase_76 : decode cX8_chase 76 = .ok (.iinc 2 1, 3) := by decide +kernel
theorem dX8_chase_79 : decode cX8_chase 79 = .ok (.goto (-60), 3) := by decide +kernel
theorem dX8_chase_82 : decode cX8_chase 82 = .ok (.iload_n 1, 1) := by decide +kernel
theorem dX8_chase_83 : decode cX8_chase 83 = .ok (.ifCond .ne 5, 3) := by decide +kernel
theorem dX8_chase_86 : decode cX8_chase 86 = .ok (.iconst (-1), 1) := by decide +kernel
theorem dX8_chase_87 : decode cX8_chase 87 = .ok (.ireturn, 1) := by decide +kernel
theorem dX8_chase_88 : decode cX8_chase 88 = .ok (.aload_n 0, 1) := by decide +kernel
theorem dX8_chase_89 : decode cX8_chase 89 = .ok (.invokevirtual 99, 3) := by decide +kernel
theorem dX8_chase_92 : decode cX8_chase 92 = .ok (.iconst 0, 1) := by decide +kernel
theorem dX8_chase_93 : decode cX8_chase 93 = .ok (.istore_n 2, 1) := by decide +kernel
theorem dX8_chase_94 : decode cX8_chase 94 = .ok (.aload_n 0, 1) := by decide +kernel
theorem dX8_chase_95 : decode cX8_chase 95 = .ok (.invokevirtual 80, 3) := by decide +kernel
theorem dX8_chase_98 : decode cX8_chase 98 = .ok (.istore_n 3, 1) := by decide +kernel
theorem dX8_chase_99 : decode cX8_chase 99 = .ok (.iload_n 3, 1) := by decide +kernel
theorem dX8_chase_100 : decode cX8_chase 100 = .ok (.aload_n 0, 1) := by decide +kernel
theorem dX8_chase_101 : decode cX8_chase 101 = .ok (.invokevirtual 84, 3) := by decide +kernel
theorem dX8_chase_104 : decode cX8_chase 104 = .ok (.if_icmp .ge 53, 3) := by decide +kernel
theorem dX8_chase_107 : decode cX8_chase 107 = .ok (.aload_n 0, 1) := by decide +kernel
theorem dX8_chase_108 : decode cX8_chase 108 = .ok (.getfield 9, 3) := by decide +kernel
theorem dX8_chase_111 : decode cX8_chase 111 = .ok (.iconst 4, 1) := by decide +kernel
theorem dX8_chase_112 : decode cX8_chase 112 = .ok (.iload_n 3, 1) := by decide +kernel
theorem dX8_chase_113 : decode cX8_chase 113 = .ok (.iadd, 1) := by decide +kernel
theorem dX8_chase_114 : decode cX8_chase 114 = .ok (.aload_n 0, 1) := by decide +kernel
theorem dX8_chase_115 : decode cX8_chase 115 = .ok (.invokevirtual 80, 3) := by decide +kernel
theorem dX8_chase_118 : decode cX8_chase 118 = .ok (.isub, 1) := by decide +kernel
theorem dX8_chase_119 : decode cX8_chase 119 = .ok (.iaload, 1) := by decide +kernel
theorem dX8_chase_120 : decode cX8_chase 120 = .ok (.istore 4, 2) := by decide +kernel
theorem dX8_chase_122 : decode cX8_chase 122 = .ok (.iload 4, 2) := by decide +kernel
theorem dX8_chase_124 : decode cX8_chase 124 = .ok (.ifCond .eq 27, 3) := by decide +kernel
theorem dX8_chase_127 : decode cX8_chase 127 = .ok (.iload_n 2, 1) := by decide +kernel
theorem dX8_chase_128 : decode cX8_chase 128 = .ok (.aload_n 0, 1) := by decide +kernel
theorem dX8_chase_129 : decode cX8_chase 129 = .ok (.invokevirtual 96, 3) := by decide +kernel
theorem dX8_chase_132 : decode cX8_chase 132 = .ok (.iload 4, 2) := by decide +kernel
theorem dX8_chase_134 : decode cX8_chase 134 = .ok (.isub, 1) := by decide +kernel
theorem dX8_chase_135 : decode cX8_chase 135 = .ok (.iadd, 1) := by decide +kernel
theorem dX8_chase_136 : decode cX8_chase 136 = .ok (.istore_n 2, 1) := by decide +kernel
theorem dX8_chase_137 : decode cX8_chase 137 = .ok (.aload_n 0, 1) := by decide +kernel
theorem dX8_chase_138 : decode cX8_chase 138 = .ok (.iload_n 3, 1) := by decide +kernel
theorem dX8_chase_139 : decode cX8_chase 139 = .ok (.aload_n 0, 1) := by decide +kernel
theorem dX8_chase_140 : decode cX8_chase 140 = .ok (.invokevirtual 96, 3) := by decide +kernel
theorem dX8_chase_143 : decode cX8_chase 143 = .ok (.iload 4, 2) := by decide +kernel
theorem dX8_chase_145 : decode cX8_chase 145 = .ok (.isub, 1) := by decide +kernel
theorem dX8_chase_146 : decode cX8_chase 146 = .ok (.invokevirtual 142, 3) := by decide +kernel
theorem dX8_chase_149 : decode cX8_chase 149 = .ok (.istore 5, 2) := by decide +kernel
theorem dX8_chase_151 : decode cX8_chase 151 = .ok (.iinc 3 1, 3) := by decide +kernel
theorem dX8_chase_154 : decode cX8_chase 154 = .ok (.goto (-55), 3) := by decide +kernel
theorem dX8_chase_157 : decode cX8_chase 157 = .ok (.iload_n 2, 1) := by decide +kernel
theorem dX8_chase_158 : decode cX8_chase 158 = .ok (.ireturn, 1) := by decide +kernel
theorem dX8_undo_0 : decode cX8_undo 0 = .ok (.aload_n 0, 1) := by decide +kernel
theorem dX8_undo_1 : decode cX8_undo 1 = .ok (.getfield 60, 3) := by decide +kernel
theorem dX8_undo_4 : decode cX8_undo 4 = .ok (.ifCond .ne 5, 3) := by decide +kernel
theorem dX8_undo_7 : decode cX8_undo 7 = .ok (.iconst (-1), 1) := by decide +kernel
theorem dX8_undo_8 : decode cX8_undo 8 = .ok (.ireturn, 1) := by decide +kernel
theorem dX8_undo_9 : decode cX8_undo 9 = .ok (.iconst 0, 1) := by decide +kernel
theorem dX8_undo_10 : decode cX8_undo 10 = .ok (.istore_n 1, 1) := by decide +kernel
theorem dX8_undo_11 : decode cX8_undo 11 = .ok (.iload_n 1, 1) := by decide +kernel
theorem dX8_undo_12 : decode cX8_undo 12 = .ok (.sipush 1516, 3) := by decide +kernel
theorem dX8_undo_15 : decode cX8_undo 15 = .ok (.if_icmp .ge 30, 3) := by decide +kernel
theorem dX8_undo_18 : decode cX8_undo 18 = .ok (.aload_n 0, 1) := by decide +kernel
theorem dX8_undo_19 : decode cX8_undo 19 = .ok (.getfield 9, 3) := by decide +kernel
theorem dX8_undo_22 : decode cX8_undo 22 = .ok (.iload_n 1, 1) := by decide +kernel
theorem dX8_undo_23 : decode cX8_undo 23 = .ok (.aload_n 0, 1) := by decide +kernel
theorem dX8_undo_24 : decode cX8_undo 24 = .ok (.getfield 17, 3) := by decide +kernel
theorem dX8_undo_27 : decode cX8_undo 27 = .ok (.aload_n 0, 1) := by decide +kernel
theorem dX8_undo_28 : decode cX8_undo 28 = .ok (.getfield 77, 3) := by decide +kernel
theorem dX8_undo_31 : decode cX8_undo 31 = .ok (.sipush 1516, 3) := by decide +kernel
theorem dX8_undo_34 : decode cX8_undo 34 = .ok (.imul, 1) := by decide +kernel
theorem dX8_undo_35 : decode cX8_undo 35 = .ok (.iload_n 1, 1) := by decide +kernel
theorem dX8_undo_36 : decode cX8_undo 36 = .ok (.iadd, 1) := by decide +kernel
theorem dX8_undo_37 : decode cX8_undo 37 = .ok (.iaload, 1) := by decide +kernel
theorem dX8_undo_38 : decode cX8_undo 38 = .ok (.iastore, 1) := by decide +kernel
theorem dX8_undo_39 : decode cX8_undo 39 = .ok (.iinc 1 1, 3) := by decide +kernel
theorem dX8_undo_42 : decode cX8_undo 42 = .ok (.goto (-31), 3) := by decide +kernel
theorem dX8_undo_45 : decode cX8_undo 45 = .ok (.aload_n 0, 1) := by decide +kernel
theorem dX8_undo_46 : decode cX8_undo 46 = .ok (.aload_n 0, 1) := by decide +kernel
theorem dX8_undo_47 : decode cX8_undo 47 = .ok (.getfield 77, 3) := by decide +kernel
theorem dX8_undo_50 : decode cX8_undo 50 = .ok (.bipush 60, 2) := by decide +kernel
theorem dX8_undo_52 : decode cX8_undo 52 = .ok (.iadd, 1) := by decide +kernel
theorem dX8_undo_53 : decode cX8_undo 53 = .ok (.iconst 1, 1) := by decide +kernel
theorem dX8_undo_54 : decode cX8_undo 54 = .ok (.isub, 1) := by decide +kernel
theorem dX8_undo_55 : decode cX8_undo 55 = .ok (.bipush 60, 2) := by decide +kernel
theorem dX8_undo_57 : decode cX8_undo 57 = .ok (.irem, 1) := by decide +kernel
theorem dX8_undo_58 : decode cX8_undo 58 = .ok (.putfield 77, 3) := by decide +kernel
theorem dX8_undo_61 : decode cX8_undo 61 = .ok (.aload_n 0, 1) := by decide +kernel
theorem dX8_undo_62 : decode cX8_undo 62 = .ok (.dup, 1) := by decide +kernel
theorem dX8_undo_63 : decode cX8_undo 63 = .ok (.getfield 60, 3) := by decide +kernel
theorem dX8_undo_66 : decode cX8_undo 66 = .ok (.iconst 1, 1) := by decide +kernel
theorem dX8_undo_67 : decode cX8_undo 67 = .ok (.isub, 1) := by decide +kernel
theorem dX8_undo_68 : decode cX8_undo 68 = .ok (.putfield 60, 3) := by decide +kernel
theorem dX8_undo_71 : decode cX8_undo 71 = .ok (.aload_n 0, 1) := by decide +kernel
theorem dX8_undo_72 : decode cX8_undo 72 = .ok (.iconst 0, 1) := by decide +kernel
theorem dX8_undo_73 : decode cX8_undo 73 = .ok (.putfield 63, 3) := by decide +kernel
theorem dX8_undo_76 : decode cX8_undo 76 = .ok (.aload_n 0, 1) := by decide +kernel
theorem dX8_undo_77 : decode cX8_undo 77 = .ok (.getfield 60, 3) := by decide +kernel
theorem dX8_undo_80 : decode cX8_undo 80 = .ok (.ireturn, 1) := by decide +kernel
theorem dX8_keep_0 : decode cX8_keep 0 = .ok (.iconst 0, 1) := by decide +kernel
theorem dX8_keep_1 : decode cX8_keep 1 = .ok (.istore_n 1, 1) := by decide +kernel
theorem dX8_keep_2 : decode cX8_keep 2 = .ok (.iload_n 1, 1) := by decide +kernel
theorem dX8_keep_3 : decode cX8_keep 3 = .ok (.sipush 1516, 3) := by decide +kernel
theorem dX8_keep_6 : decode cX8_keep 6 = .ok (.if_icmp .ge 21, 3) := by decide +kernel
theorem dX8_keep_9 : decode cX8_keep 9 = .ok (.aload_n 0, 1) := by decide +kernel
theorem dX8_keep_10 : decode cX8_keep 10 = .ok (.getfield 13, 3) := by decide +kernel
theorem dX8_keep_13 : decode cX8_keep 13 = .ok (.iload_n 1, 1) := by decide +kernel
theorem dX8_keep_14 : decode cX8_keep 14 = .ok (.aload_n 0, 1) := by decide +kernel
theorem dX8_keep_15 : decode cX8_keep 15 = .ok (.getfield 9, 3) := by decide +kernel
theorem dX8_keep_18 : decode cX8_keep 18 = .ok (.iload_n 1, 1) := by decide +kernel
theorem dX8_keep_19 : decode cX8_keep 19 = .ok (.iaload, 1) := by decide +kernel
theorem dX8_keep_20 : decode cX8_keep 20 = .ok (.iastore, 1) := by decide +kernel
theorem dX8_keep_21 : decode cX8_keep 21 = .ok (.iinc 1 1, 3) := by decide +kernel
theorem dX8_keep_24 : decode cX8_keep 24 = .ok (.goto (-22), 3) := by decide +kernel
theorem dX8_keep_27 : decode cX8_keep 27 = .ok (.aload_n 0, 1) := by decide +kernel
theorem dX8_keep_28 : decode cX8_keep 28 = .ok (.iconst 1, 1) := by decide +kernel
theorem dX8_keep_29 : decode cX8_keep 29 = .ok (.putfield 145, 3) := by decide +kernel
theorem dX8_keep_32 : decode cX8_keep 32 = .ok (.iconst 1, 1) := by decide +kernel
theorem dX8_keep_33 : decode cX8_keep 33 = .ok (.ireturn, 1) := by decide +kernel
theorem dX8_back_0 : decode cX8_back 0 = .ok (.aload_n 0, 1) := by decide +kernel
theorem dX8_back_1 : decode cX8_back 1 = .ok (.getfield 145, 3) := by decide +kernel
theorem dX8_back_4 : decode cX8_back 4 = .ok (.ifCond .ne 5, 3) := by decide +kernel
theorem dX8_back_7 : decode cX8_back 7 = .ok (.iconst 0, 1) := by decide +kernel
theorem dX8_back_8 : decode cX8_back 8 = .ok (.ireturn, 1) := by decide +kernel
theorem dX8_back_9 : decode cX8_back 9 = .ok (.iconst 0, 1) := by decide +kernel
theorem dX8_back_10 : decode cX8_back 10 = .ok (.istore_n 1, 1) := by decide +kernel
theorem dX8_back_11 : decode cX8_back 11 = .ok (.iload_n 1, 1) := by decide +kernel
theorem dX8_back_12 : decode cX8_back 12 = .ok (.sipush 1516, 3) := by decide +kernel
theorem dX8_back_15 : decode cX8_back 15 = .ok (.if_icmp .ge 21, 3) := by decide +kernel
theorem dX8_back_18 : decode cX8_back 18 = .ok (.aload_n 0, 1) := by decide +kernel
theorem dX8_back_19 : decode cX8_back 19 = .ok (.getfield 9, 3) := by decide +kernel
theorem dX8_back_22 : decode cX8_back 22 = .ok (.iload_n 1, 1) := by decide +kernel
theorem dX8_back_23 : decode cX8_back 23 = .ok (.aload_n 0, 1) := by decide +kernel
theorem dX8_back_24 : decode cX8_back 24 = .ok (.getfield 13, 3) := by decide +kernel
theorem dX8_back_27 : decode cX8_back 27 = .ok (.iload_n 1, 1) := by decide +kernel
theorem dX8_back_28 : decode cX8_back 28 = .ok (.iaload, 1) := by decide +kernel
theorem dX8_back_29 : decode cX8_back 29 = .ok (.iastore, 1) := by decide +kernel
theorem dX8_back_30 : decode cX8_back 30 = .ok (.iinc 1 1, 3) := by decide +kernel
theorem dX8_back_33 : decode cX8_back 33 = .ok (.goto (-22), 3) := by decide +kernel
theorem dX8_back_36 : decode cX8_back 36 = .ok (.aload_n 0, 1) := by decide +kernel
theorem dX8_back_37 : decode cX8_back 37 = .ok (.iconst 0, 1) := by decide +kernel
theorem dX8_back_38 : decode cX8_back 38 = .ok (.putfield 60, 3) := by decide +kernel
theorem dX8_back_41 : decode cX8_back 41 = .ok (.aload_n 0, 1) := by decide +kernel
theorem dX8_back_42 : decode cX8_back 42 = .ok (.iconst 0, 1) := by decide +kernel
theorem dX8_back_43 : decode cX8_back 43 = .ok (.putfield 63, 3) := by decide +kernel
theorem dX8_back_46 : decode cX8_back 46 = .ok (.iconst 1, 1) := by decide +kernel
theorem dX8_back_47 : decode cX8_back 47 = .ok (.ireturn, 1) := by decide +kernel
theorem dX8_count_0 : decode cX8_count 0 = .ok (.iconst 0, 1) := by decide +kernel
theorem dX8_count_1 : decode cX8_count 1 = .ok (.istore_n 2, 1) := by decide +kernel
theorem dX8_count_2 : decode cX8_count 2 = .ok (.iconst 0, 1) := by decide +kernel
theorem dX8_count_3 : decode cX8_count 3 = .ok (.istore_n 3, 1) := by decide +kernel
theorem dX8_count_4 : decode cX8_count 4 = .ok (.iconst 0, 1) := by decide +kernel
theorem dX8_count_5 : decode cX8_count 5 = .ok (.istore 4, 2) := by decide +kernel
theorem dX8_count_7 : decode cX8_count 7 = .ok (.iload 4, 2) := by decide +kernel
theorem dX8_count_9 : decode cX8_count 9 = .ok (.aload_n 0, 1) := by decide +kernel
theorem dX8_count_10 : decode cX8_count 10 = .ok (.invokevirtual 84, 3) := by decide +kernel
theorem dX8_count_13 : decode cX8_count 13 = .ok (.if_icmp .ge 41, 3) := by decide +kernel
theorem dX8_count_16 : decode cX8_count 16 = .ok (.iload_n 2, 1) := by decide +kernel
theorem dX8_count_17 : decode cX8_count 17 = .ok (.aload_n 0, 1) := by decide +kernel
theorem dX8_count_18 : decode cX8_count 18 = .ok (.getfield 9, 3) := by decide +kernel
theorem dX8_count_21 : decode cX8_count 21 = .ok (.iconst 4, 1) := by decide +kernel
theorem dX8_count_22 : decode cX8_count 22 = .ok (.iload 4, 2) := by decide +kernel
theorem dX8_count_24 : decode cX8_count 24 = .ok (.iadd, 1) := by decide +kernel
theorem dX8_count_25 : decode cX8_count 25 = .ok (.iaload, 1) := by decide +kernel
theorem dX8_count_26 : decode cX8_count 26 = .ok (.ifCond .eq 7, 3) := by decide +kernel
theorem dX8_count_29 : decode cX8_count 29 = .ok (.iconst 1, 1) := by decide +kernel
theorem dX8_count_30 : decode cX8_count 30 = .ok (.goto 4, 3) := by decide +kernel
theorem dX8_count_33 : decode cX8_count 33 = .ok (.iconst 0, 1) := by decide +kernel
theorem dX8_count_34 : decode cX8_count 34 = .ok (.iadd, 1) := by decide +kernel
theorem dX8_count_35 : decode cX8_count 35 = .ok (.istore_n 2, 1) := by decide +kernel
theorem dX8_count_36 : decode cX8_count 36 = .ok (.iload_n 3, 1) := by decide +kernel
theorem dX8_count_37 : decode cX8_count 37 = .ok (.aload_n 0, 1) := by decide +kernel
theorem dX8_count_38 : decode cX8_count 38 = .ok (.getfield 9, 3) := by decide +kernel
theorem dX8_count_41 : decode cX8_count 41 = .ok (.iconst 4, 1) := by decide +kernel
theorem dX8_count_42 : decode cX8_count 42 = .ok (.iload 4, 2) := by decide +kernel
theorem dX8_count_44 : decode cX8_count 44 = .ok (.iadd, 1) := by decide +kernel
theorem dX8_count_45 : decode cX8_count 45 = .ok (.iaload, 1) := by decide +kernel
theorem dX8_count_46 : decode cX8_count 46 = .ok (.iadd, 1) := by decide +kernel
theorem dX8_count_47 : decode cX8_count 47 = .ok (.istore_n 3, 1) := by decide +kernel
theorem dX8_count_48 : decode cX8_count 48 = .ok (.iinc 4 1, 3) := by decide +kernel
theorem dX8_count_51 : decode cX8_count 51 = .ok (.goto (-44), 3) := by decide +kernel
theorem dX8_count_54 : decode cX8_count 54 = .ok (.iload_n 1, 1) := by decide +kernel
theorem dX8_count_55 : decode cX8_count 55 = .ok (.tableswitch 90 0 7 #[45, 50, 55, 60, 65, 70, 72, 74], 45) := by decide +kernel
theorem dX8_count_100 : decode cX8_count 100 = .ok (.aload_n 0, 1) := by decide +kernel
theorem dX8_count_101 : decode cX8_count 101 = .ok (.invokevirtual 84, 3) := by decide +kernel
theorem dX8_count_104 : decode cX8_count 104 = .ok (.ireturn, 1) := by decide +kernel
theorem dX8_count_105 : decode cX8_count 105 = .ok (.aload_n 0, 1) := by decide +kernel
theorem dX8_count_106 : decode cX8_count 106 = .ok (.invokevirtual 96, 3) := by decide +kernel
theorem dX8_count_109 : decode cX8_count 109 = .ok (.ireturn, 1) := by decide +kernel
theorem dX8_count_110 : decode cX8_count 110 = .ok (.aload_n 0, 1) := by decide +kernel
theorem dX8_count_111 : decode cX8_count 111 = .ok (.invokevirtual 80, 3) := by decide +kernel
theorem dX8_count_114 : decode cX8_count 114 = .ok (.ireturn, 1) := by decide +kernel
theorem dX8_count_115 : decode cX8_count 115 = .ok (.aload_n 0, 1) := by decide +kernel
theorem dX8_count_116 : decode cX8_count 116 = .ok (.invokevirtual 89, 3) := by decide +kernel
theorem dX8_count_119 : decode cX8_count 119 = .ok (.ireturn, 1) := by decide +kernel
theorem dX8_count_120 : decode cX8_count 120 = .ok (.aload_n 0, 1) := by decide +kernel
theorem dX8_count_121 : decode cX8_count 121 = .ok (.getfield 60, 3) := by decide +kernel
theorem dX8_count_124 : decode cX8_count 124 = .ok (.ireturn, 1) := by decide +kernel
theorem dX8_count_125 : decode cX8_count 125 = .ok (.iload_n 2, 1) := by decide +kernel
theorem dX8_count_126 : decode cX8_count 126 = .ok (.ireturn, 1) := by decide +kernel
theorem dX8_count_127 : decode cX8_count 127 = .ok (.iload_n 3, 1) := by decide +kernel
theorem dX8_count_128 : decode cX8_count 128 = .ok (.ireturn, 1) := by decide +kernel
theorem dX8_count_129 : decode cX8_count 129 = .ok (.aload_n 0, 1) := by decide +kernel
theorem dX8_count_130 : decode cX8_count 130 = .ok (.getfield 20, 3) := by decide +kernel
theorem dX8_count_133 : decode cX8_count 133 = .ok (.ifCond .ge 7, 3) := by decide +kernel
theorem dX8_count_136 : decode cX8_count 136 = .ok (.iconst (-1), 1) := by decide +kernel
theorem dX8_count_137 : decode cX8_count 137 = .ok (.goto 7, 3) := by decide +kernel
theorem dX8_count_140 : decode cX8_count 140 = .ok (.aload_n 0, 1) := by decide +kernel
theorem dX8_count_141 : decode cX8_count 141 = .ok (.getfield 104, 3) := by decide +kernel
theorem dX8_count_144 : decode cX8_count 144 = .ok (.ireturn, 1) := by decide +kernel
theorem dX8_count_145 : decode cX8_count 145 = .ok (.iconst (-1), 1) := by decide +kernel
theorem dX8_count_146 : decode cX8_count 146 = .ok (.ireturn, 1) := by decide +kernel
theorem dX8_shown_0 : decode cX8_shown 0 = .ok (.iload_n 1, 1) := by decide +kernel
theorem dX8_shown_1 : decode cX8_shown 1 = .ok (.i2l, 1) := by decide +kernel
theorem dX8_shown_2 : decode cX8_shown 2 = .ok (.lconst 0, 1) := by decide +kernel
theorem dX8_shown_3 : decode cX8_shown 3 = .ok (.aload_n 0, 1) := by decide +kernel
theorem dX8_shown_4 : decode cX8_shown 4 = .ok (.invokevirtual 84, 3) := by decide +kernel
theorem dX8_shown_7 : decode cX8_shown 7 = .ok (.iconst 1, 1) := by decide +kernel
theorem dX8_shown_8 : decode cX8_shown 8 = .ok (.isub, 1) := by decide +kernel
theorem dX8_shown_9 : decode cX8_shown 9 = .ok (.i2l, 1) := by decide +kernel
theorem dX8_shown_10 : decode cX8_shown 10 = .ok (.invokestatic 69, 3) := by decide +kernel
theorem dX8_shown_13 : decode cX8_shown 13 = .ok (.ifCond .eq 14, 3) := by decide +kernel
theorem dX8_shown_16 : decode cX8_shown 16 = .ok (.aload_n 0, 1) := by decide +kernel
theorem dX8_shown_17 : decode cX8_shown 17 = .ok (.getfield 9, 3) := by decide +kernel
theorem dX8_shown_20 : decode cX8_shown 20 = .ok (.iconst 4, 1) := by decide +kernel
theorem dX8_shown_21 : decode cX8_shown 21 = .ok (.iload_n 1, 1) := by decide +kernel
theorem dX8_shown_22 : decode cX8_shown 22 = .ok (.iadd, 1) := by decide +kernel
theorem dX8_shown_23 : decode cX8_shown 23 = .ok (.iaload, 1) := by decide +kernel
theorem dX8_shown_24 : decode cX8_shown 24 = .ok (.goto 4, 3) := by decide +kernel
theorem dX8_shown_27 : decode cX8_shown 27 = .ok (.iconst (-1), 1) := by decide +kernel
theorem dX8_shown_28 : decode cX8_shown 28 = .ok (.ireturn, 1) := by decide +kernel
theorem dX8_step_0 : decode cX8_step 0 = .ok (.aload_n 0, 1) := by decide +kernel
theorem dX8_step_1 : decode cX8_step 1 = .ok (.iload_n 1, 1) := by decide +kernel
theorem dX8_step_2 : decode cX8_step 2 = .ok (.invokevirtual 115, 3) := by decide +kernel
theorem dX8_step_5 : decode cX8_step 5 = .ok (.ifCond .eq 28, 3) := by decide +kernel
theorem dX8_step_8 : decode cX8_step 8 = .ok (.iload_n 2, 1) := by decide +kernel
theorem dX8_step_9 : decode cX8_step 9 = .ok (.i2l, 1) := by decide +kernel
theorem dX8_step_10 : decode cX8_step 10 = .ok (.lconst 0, 1) := by decide +kernel
theorem dX8_step_11 : decode cX8_step 11 = .ok (.aload_n 0, 1) := by decide +kernel
theorem dX8_step_12 : decode cX8_step 12 = .ok (.invokevirtual 84, 3) := by decide +kernel
theorem dX8_step_15 : decode cX8_step 15 = .ok (.iconst 1, 1) := by decide +kernel
theorem dX8_step_16 : decode cX8_step 16 = .ok (.isub, 1) := by decide +kernel
theorem dX8_step_17 : decode cX8_step 17 = .ok (.i2l, 1) := by decide +kernel
theorem dX8_step_18 : decode cX8_step 18 = .ok (.invokestatic 69, 3) := by decide +kernel
theorem dX8_step_21 : decode cX8_step 21 = .ok (.ifCond .eq 12, 3) := by decide +kernel
theorem dX8_step_24 : decode cX8_step 24 = .ok (.aload_n 0, 1) := by decide +kernel
theorem dX8_step_25 : decode cX8_step 25 = .ok (.iload_n 1, 1) := by decide +kernel
theorem dX8_step_26 : decode cX8_step 26 = .ok (.iload_n 2, 1) := by decide +kernel
theorem dX8_step_27 : decode cX8_step 27 = .ok (.invokevirtual 134, 3) := by decide +kernel
theorem dX8_step_30 : decode cX8_step 30 = .ok (.goto 4, 3) := by decide +kernel
theorem dX8_step_33 : decode cX8_step 33 = .ok (.iconst (-1), 1) := by decide +kernel
theorem dX8_step_34 : decode cX8_step 34 = .ok (.ireturn, 1) := by decide +kernel
theorem dX8_whole_0 : decode cX8_whole 0 = .ok (.aload_n 0, 1) := by decide +kernel
theorem dX8_whole_1 : decode cX8_whole 1 = .ok (.iload_n 1, 1) := by decide +kernel
theorem dX8_whole_2 : decode cX8_whole 2 = .ok (.putfield 148, 3) := by decide +kernel
theorem dX8_whole_5 : decode cX8_whole 5 = .ok (.iconst 0, 1) := by decide +kernel
theorem dX8_whole_6 : decode cX8_whole 6 = .ok (.istore_n 2, 1) := by decide +kernel
theorem dX8_whole_7 : decode cX8_whole 7 = .ok (.iload_n 2, 1) := by decide +kernel
theorem dX8_whole_8 : decode cX8_whole 8 = .ok (.sipush 1369, 3) := by decide +kernel
theorem dX8_whole_11 : decode cX8_whole 11 = .ok (.if_icmp .ge 16, 3) := by decide +kernel
theorem dX8_whole_14 : decode cX8_whole 14 = .ok (.aload_n 0, 1) := by decide +kernel
theorem dX8_whole_15 : decode cX8_whole 15 = .ok (.getfield 28, 3) := by decide +kernel
theorem dX8_whole_18 : decode cX8_whole 18 = .ok (.iload_n 2, 1) := by decide +kernel
theorem dX8_whole_19 : decode cX8_whole 19 = .ok (.iconst 0, 1) := by decide +kernel
theorem dX8_whole_20 : decode cX8_whole 20 = .ok (.iastore, 1) := by decide +kernel
theorem dX8_whole_21 : decode cX8_whole 21 = .ok (.iinc 2 1, 3) := by decide +kernel
theorem dX8_whole_24 : decode cX8_whole 24 = .ok (.goto (-17), 3) := by decide +kernel
theorem dX8_whole_27 : decode cX8_whole 27 = .ok (.iconst 0, 1) := by decide +kernel
theorem dX8_whole_28 : decode cX8_whole 28 = .ok (.istore_n 2, 1) := by decide +kernel
theorem dX8_whole_29 : decode cX8_whole 29 = .ok (.iload_n 2, 1) := by decide +kernel
theorem dX8_whole_30 : decode cX8_whole 30 = .ok (.aload_n 0, 1) := by decide +kernel
theorem dX8_whole_31 : decode cX8_whole 31 = .ok (.getfield 148, 3) := by decide +kernel
theorem dX8_whole_34 : decode cX8_whole 34 = .ok (.if_icmp .ge 28, 3) := by decide +kernel
theorem dX8_whole_37 : decode cX8_whole 37 = .ok (.aload_n 0, 1) := by decide +kernel
theorem dX8_whole_38 : decode cX8_whole 38 = .ok (.getfield 28, 3) := by decide +kernel
theorem dX8_whole_41 : decode cX8_whole 41 = .ok (.bipush 37, 2) := by decide +kernel
theorem dX8_whole_43 : decode cX8_whole 43 = .ok (.iload_n 2, 1) := by decide +kernel
theorem dX8_whole_44 : decode cX8_whole 44 = .ok (.imul, 1) := by decide +kernel
theorem dX8_whole_45 : decode cX8_whole 45 = .ok (.iload_n 2, 1) := by decide +kernel
theorem dX8_whole_46 : decode cX8_whole 46 = .ok (.iadd, 1) := by decide +kernel
theorem dX8_whole_47 : decode cX8_whole 47 = .ok (.iconst 1, 1) := by decide +kernel
theorem dX8_whole_48 : decode cX8_whole 48 = .ok (.iastore, 1) := by decide +kernel
theorem dX8_whole_49 : decode cX8_whole 49 = .ok (.aload_n 0, 1) := by decide +kernel
theorem dX8_whole_50 : decode cX8_whole 50 = .ok (.getfield 31, 3) := by decide +kernel
theorem dX8_whole_53 : decode cX8_whole 53 = .ok (.iload_n 2, 1) := by decide +kernel
theorem dX8_whole_54 : decode cX8_whole 54 = .ok (.iconst 0, 1) := by decide +kernel
theorem dX8_whole_55 : decode cX8_whole 55 = .ok (.iastore, 1) := by decide +kernel
theorem dX8_whole_56 : decode cX8_whole 56 = .ok (.iinc 2 1, 3) := by decide +kernel
theorem dX8_whole_59 : decode cX8_whole 59 = .ok (.goto (-30), 3) := by decide +kernel
theorem dX8_whole_62 : decode cX8_whole 62 = .ok (.return_, 1) := by decide +kernel
theorem dX8_common_0 : decode cX8_common 0 = .ok (.iload_n 1, 1) := by decide +kernel
theorem dX8_common_1 : decode cX8_common 1 = .ok (.istore_n 3, 1) := by decide +kernel
theorem dX8_common_2 : decode cX8_common 2 = .ok (.iload_n 2, 1) := by decide +kernel
theorem dX8_common_3 : decode cX8_common 3 = .ok (.istore 4, 2) := by decide +kernel
theorem dX8_common_5 : decode cX8_common 5 = .ok (.iconst 1, 1) := by decide +kernel
theorem dX8_common_6 : decode cX8_common 6 = .ok (.istore 5, 2) := by decide +kernel
theorem dX8_common_8 : decode cX8_common 8 = .ok (.iconst 0, 1) := by decide +kernel
theorem dX8_common_9 : decode cX8_common 9 = .ok (.istore 6, 2) := by decide +kernel
theorem dX8_common_11 : decode cX8_common 11 = .ok (.iconst 0, 1) := by decide +kernel
theorem dX8_common_12 : decode cX8_common 12 = .ok (.istore 7, 2) := by decide +kernel
theorem dX8_common_14 : decode cX8_common 14 = .ok (.iconst 1, 1) := by decide +kernel
theorem dX8_common_15 : decode cX8_common 15 = .ok (.istore 8, 2) := by decide +kernel
theorem dX8_common_17 : decode cX8_common 17 = .ok (.iload 4, 2) := by decide +kernel
theorem dX8_common_19 : decode cX8_common 19 = .ok (.ifCond .eq 64, 3) := by decide +kernel
theorem dX8_common_22 : decode cX8_common 22 = .ok (.iload_n 3, 1) := by decide +kernel
theorem dX8_common_23 : decode cX8_common 23 = .ok (.iload 4, 2) := by decide +kernel
theorem dX8_common_25 : decode cX8_common 25 = .ok (.idiv, 1) := by decide +kernel
theorem dX8_common_26 : decode cX8_common 26 = .ok (.istore 9, 2) := by decide +kernel
theorem dX8_common_28 : decode cX8_common 28 = .ok (.iload_n 3, 1) := by decide +kernel
theorem dX8_common_29 : decode cX8_common 29 = .ok (.iload 9, 2) := by decide +kernel
theorem dX8_common_31 : decode cX8_common 31 = .ok (.iload 4, 2) := by decide +kernel
theorem dX8_common_33 : decode cX8_common 33 = .ok (.imul, 1) := by decide +kernel
theorem dX8_common_34 : decode cX8_common 34 = .ok (.isub, 1) := by decide +kernel
theorem dX8_common_35 : decode cX8_common 35 = .ok (.istore 10, 2) := by decide +kernel
theorem dX8_common_37 : decode cX8_common 37 = .ok (.iload 4, 2) := by decide +kernel
theorem dX8_common_39 : decode cX8_common 39 = .ok (.istore_n 3, 1) := by decide +kernel
theorem dX8_common_40 : decode cX8_common 40 = .ok (.iload 10, 2) := by decide +kernel
theorem dX8_common_42 : decode cX8_common 42 = .ok (.istore 4, 2) := by decide +kernel
theorem dX8_common_44 : decode cX8_common 44 = .ok (.iload 5, 2) := by decide +kernel
theorem dX8_common_46 : decode cX8_common 46 = .ok (.iload 9, 2) := by decide +kernel
theorem dX8_common_48 : decode cX8_common 48 = .ok (.iload 6, 2) := by decide +kernel
theorem dX8_common_50 : decode cX8_common 50 = .ok (.imul, 1) := by decide +kernel
theorem dX8_common_51 : decode cX8_common 51 = .ok (.isub, 1) := by decide +kernel
theorem dX8_common_52 : decode cX8_common 52 = .ok (.istore 11, 2) := by decide +kernel
theorem dX8_common_54 : decode cX8_common 54 = .ok (.iload 6, 2) := by decide +kernel
theorem dX8_common_56 : decode cX8_common 56 = .ok (.istore 5, 2) := by decide +kernel
theorem dX8_common_58 : decode cX8_common 58 = .ok (.iload 11, 2) := by decide +kernel
theorem dX8_common_60 : decode cX8_common 60 = .ok (.istore 6, 2) := by decide +kernel
theorem dX8_common_62 : decode cX8_common 62 = .ok (.iload 7, 2) := by decide +kernel
theorem dX8_common_64 : decode cX8_common 64 = .ok (.iload 9, 2) := by decide +kernel
theorem dX8_common_66 : decode cX8_common 66 = .ok (.iload 8, 2) := by decide +kernel
theorem dX8_common_68 : decode cX8_common 68 = .ok (.imul, 1) := by decide +kernel
theorem dX8_common_69 : decode cX8_common 69 = .ok (.isub, 1) := by decide +kernel
theorem dX8_common_70 : decode cX8_common 70 = .ok (.istore 12, 2) := by decide +kernel
theorem dX8_common_72 : decode cX8_common 72 = .ok (.iload 8, 2) := by decide +kernel
theorem dX8_common_74 : decode cX8_common 74 = .ok (.istore 7, 2) := by decide +kernel
theorem dX8_common_76 : decode cX8_common 76 = .ok (.iload 12, 2) := by decide +kernel
theorem dX8_common_78 : decode cX8_common 78 = .ok (.istore 8, 2) := by decide +kernel
theorem dX8_common_80 : decode cX8_common 80 = .ok (.goto (-63), 3) := by decide +kernel
theorem dX8_common_83 : decode cX8_common 83 = .ok (.aload_n 0, 1) := by decide +kernel
theorem dX8_common_84 : decode cX8_common 84 = .ok (.iload 5, 2) := by decide +kernel
theorem dX8_common_86 : decode cX8_common 86 = .ok (.putfield 151, 3) := by decide +kernel
theorem dX8_common_89 : decode cX8_common 89 = .ok (.aload_n 0, 1) := by decide +kernel
theorem dX8_common_90 : decode cX8_common 90 = .ok (.iload 7, 2) := by decide +kernel
theorem dX8_common_92 : decode cX8_common 92 = .ok (.putfield 154, 3) := by decide +kernel
theorem dX8_common_95 : decode cX8_common 95 = .ok (.iload_n 3, 1) := by decide +kernel
theorem dX8_common_96 : decode cX8_common 96 = .ok (.ireturn, 1) := by decide +kernel
theorem dX8_impose_0 : decode cX8_impose 0 = .ok (.aload_n 0, 1) := by decide +kernel
theorem dX8_impose_1 : decode cX8_impose 1 = .ok (.invokevirtual 96, 3) := by decide +kernel
theorem dX8_impose_4 : decode cX8_impose 4 = .ok (.istore_n 1, 1) := by decide +kernel
theorem dX8_impose_5 : decode cX8_impose 5 = .ok (.iload_n 1, 1) := by decide +kernel
theorem dX8_impose_6 : decode cX8_impose 6 = .ok (.istore_n 2, 1) := by decide +kernel
theorem dX8_impose_7 : decode cX8_impose 7 = .ok (.iconst 0, 1) := by decide +kernel
theorem dX8_impose_8 : decode cX8_impose 8 = .ok (.istore_n 3, 1) := by decide +kernel
theorem dX8_impose_9 : decode cX8_impose 9 = .ok (.iload_n 3, 1) := by decide +kernel
theorem dX8_impose_10 : decode cX8_impose 10 = .ok (.aload_n 0, 1) := by decide +kernel
theorem dX8_impose_11 : decode cX8_impose 11 = .ok (.getfield 148, 3) := by decide +kernel
theorem dX8_impose_14 : decode cX8_impose 14 = .ok (.if_icmp .ge 16, 3) := by decide +kernel
theorem dX8_impose_17 : decode cX8_impose 17 = .ok (.aload_n 0, 1) := by decide +kernel
theorem dX8_impose_18 : decode cX8_impose 18 = .ok (.getfield 34, 3) := by decide +kernel
theorem dX8_impose_21 : decode cX8_impose 21 = .ok (.iload_n 3, 1) := by decide +kernel
theorem dX8_impose_22 : decode cX8_impose 22 = .ok (.iconst 0, 1) := by decide +kernel
theorem dX8_impose_23 : decode cX8_impose 23 = .ok (.iastore, 1) := by decide +kernel
theorem dX8_impose_24 : decode cX8_impose 24 = .ok (.iinc 3 1, 3) := by decide +kernel
theorem dX8_impose_27 : decode cX8_impose 27 = .ok (.goto (-18), 3) := by decide +kernel
theorem dX8_impose_30 : decode cX8_impose 30 = .ok (.iconst 0, 1) := by decide +kernel
theorem dX8_impose_31 : decode cX8_impose 31 = .ok (.istore_n 3, 1) := by decide +kernel
theorem dX8_impose_32 : decode cX8_impose 32 = .ok (.iload_n 3, 1) := by decide +kernel
theorem dX8_impose_33 : decode cX8_impose 33 = .ok (.aload_n 0, 1) := by decide +kernel
theorem dX8_impose_34 : decode cX8_impose 34 = .ok (.getfield 148, 3) := by decide +kernel
theorem dX8_impose_37 : decode cX8_impose 37 = .ok (.if_icmp .ge 216, 3) := by decide +kernel
theorem dX8_impose_40 : decode cX8_impose 40 = .ok (.bipush 37, 2) := by decide +kernel
theorem dX8_impose_42 : decode cX8_impose 42 = .ok (.iload_n 3, 1) := by decide +kernel
theorem dX8_impose_43 : decode cX8_impose 43 = .ok (.imul, 1) := by decide +kernel
theorem dX8_impose_44 : decode cX8_impose 44 = .ok (.istore 4, 2) := by decide +kernel
theorem dX8_impose_46 : decode cX8_impose 46 = .ok (.iconst 0, 1) := by decide +kernel
theorem dX8_impose_47 : decode cX8_impose 47 = .ok (.istore 5, 2) := by decide +kernel
theorem dX8_impose_49 : decode cX8_impose 49 = .ok (.iconst 0, 1) := by decide +kernel
theorem dX8_impose_50 : decode cX8_impose 50 = .ok (.istore 6, 2) := by decide +kernel
theorem dX8_impose_52 : decode cX8_impose 52 = .ok (.iload 6, 2) := by decide +kernel
theorem dX8_impose_54 : decode cX8_impose 54 = .ok (.iload_n 3, 1) := by decide +kernel
theorem dX8_impose_55 : decode cX8_impose 55 = .ok (.if_icmp .gt 48, 3) := by decide +kernel
theorem dX8_impose_58 : decode cX8_impose 58 = .ok (.aload_n 0, 1) := by decide +kernel
theorem dX8_impose_59 : decode cX8_impose 59 = .ok (.getfield 37, 3) := by decide +kernel
theorem dX8_impose_62 : decode cX8_impose 62 = .ok (.iload 6, 2) := by decide +kernel
theorem dX8_impose_64 : decode cX8_impose 64 = .ok (.aload_n 0, 1) := by decide +kernel
theorem dX8_impose_65 : decode cX8_impose 65 = .ok (.getfield 28, 3) := by decide +kernel
theorem dX8_impose_68 : decode cX8_impose 68 = .ok (.iload 4, 2) := by decide +kernel
theorem dX8_impose_70 : decode cX8_impose 70 = .ok (.iload 6, 2) := by decide +kernel
theorem dX8_impose_72 : decode cX8_impose 72 = .ok (.iadd, 1) := by decide +kernel
theorem dX8_impose_73 : decode cX8_impose 73 = .ok (.iaload, 1) := by decide +kernel
theorem dX8_impose_74 : decode cX8_impose 74 = .ok (.iastore, 1) := by decide +kernel
theorem dX8_impose_75 : decode cX8_impose 75 = .ok (.iload 5, 2) := by decide +kernel
theorem dX8_impose_77 : decode cX8_impose 77 = .ok (.aload_n 0, 1) := by decide +kernel
theorem dX8_impose_78 : decode cX8_impose 78 = .ok (.getfield 31, 3) := by decide +kernel
theorem dX8_impose_81 : decode cX8_impose 81 = .ok (.iload 6, 2) := by decide +kernel
theorem dX8_impose_83 : decode cX8_impose 83 = .ok (.iaload, 1) := by decide +kernel
theorem dX8_impose_84 : decode cX8_impose 84 = .ok (.aload_n 0, 1) := by decide +kernel
theorem dX8_impose_85 : decode cX8_impose 85 = .ok (.getfield 37, 3) := by decide +kernel
theorem dX8_impose_88 : decode cX8_impose 88 = .ok (.iload 6, 2) := by decide +kernel
theorem dX8_impose_90 : decode cX8_impose 90 = .ok (.iaload, 1) := by decide +kernel
theorem dX8_impose_91 : decode cX8_impose 91 = .ok (.imul, 1) := by decide +kernel
theorem dX8_impose_92 : decode cX8_impose 92 = .ok (.iadd, 1) := by decide +kernel
theorem dX8_impose_93 : decode cX8_impose 93 = .ok (.iload_n 1, 1) := by decide +kernel
theorem dX8_impose_94 : decode cX8_impose 94 = .ok (.irem, 1) := by decide +kernel
theorem dX8_impose_95 : decode cX8_impose 95 = .ok (.istore 5, 2) := by decide +kernel
theorem dX8_impose_97 : decode cX8_impose 97 = .ok (.iinc 6 1, 3) := by decide +kernel
theorem dX8_impose_100 : decode cX8_impose 100 = .ok (.goto (-48), 3) := by decide +kernel
theorem dX8_impose_103 : decode cX8_impose 103 = .ok (.aload_n 0, 1) := by decide +kernel
theorem dX8_impose_104 : decode cX8_impose 104 = .ok (.iload_n 2, 1) := by decide +kernel
theorem dX8_impose_105 : decode cX8_impose 105 = .ok (.iload 5, 2) := by decide +kernel
theorem dX8_impose_107 : decode cX8_impose 107 = .ok (.invokevirtual 157, 3) := by decide +kernel
theorem dX8_impose_110 : decode cX8_impose 110 = .ok (.istore 6, 2) := by decide +kernel
theorem dX8_impose_112 : decode cX8_impose 112 = .ok (.iload_n 2, 1) := by decide +kernel
theorem dX8_impose_113 : decode cX8_impose 113 = .ok (.iload 6, 2) := by decide +kernel
theorem dX8_impose_115 : decode cX8_impose 115 = .ok (.idiv, 1) := by decide +kernel
theorem dX8_impose_116 : decode cX8_impose 116 = .ok (.istore 7, 2) := by decide +kernel
theorem dX8_impose_118 : decode cX8_impose 118 = .ok (.iload 5, 2) := by decide +kernel
theorem dX8_impose_120 : decode cX8_impose 120 = .ok (.iload 6, 2) := by decide +kernel
theorem dX8_impose_122 : decode cX8_impose 122 = .ok (.idiv, 1) := by decide +kernel
theorem dX8_impose_123 : decode cX8_impose 123 = .ok (.istore 8, 2) := by decide +kernel
theorem dX8_impose_125 : decode cX8_impose 125 = .ok (.iconst 0, 1) := by decide +kernel
