theorem dX0_init_0 : decode cX0_init 0 = .ok (.aload_n 0, 1) := by decide +kernel
theorem dX0_init_1 : decode cX0_init 1 = .ok (.invokespecial 1, 3) := by decide +kernel
theorem dX0_init_4 : decode cX0_init 4 = .ok (.aload_n 0, 1) := by decide +kernel
theorem dX0_init_5 : decode cX0_init 5 = .ok (.iconst (-1), 1) := by decide +kernel
theorem dX0_init_6 : decode cX0_init 6 = .ok (.putfield 9, 3) := by decide +kernel
theorem dX0_init_9 : decode cX0_init 9 = .ok (.aload_n 0, 1) := by decide +kernel
theorem dX0_init_10 : decode cX0_init 10 = .ok (.bipush 80, 2) := by decide +kernel
theorem dX0_init_12 : decode cX0_init 12 = .ok (.newarray .long, 2) := by decide +kernel
theorem dX0_init_14 : decode cX0_init 14 = .ok (.putfield 13, 3) := by decide +kernel
theorem dX0_init_17 : decode cX0_init 17 = .ok (.return_, 1) := by decide +kernel
theorem dX0_lay_0 : decode cX0_lay 0 = .ok (.aload_n 0, 1) := by decide +kernel
theorem dX0_lay_1 : decode cX0_lay 1 = .ok (.iload_n 1, 1) := by decide +kernel
theorem dX0_lay_2 : decode cX0_lay 2 = .ok (.putfield 9, 3) := by decide +kernel
theorem dX0_lay_5 : decode cX0_lay 5 = .ok (.aload_n 0, 1) := by decide +kernel
theorem dX0_lay_6 : decode cX0_lay 6 = .ok (.iload_n 2, 1) := by decide +kernel
theorem dX0_lay_7 : decode cX0_lay 7 = .ok (.putfield 17, 3) := by decide +kernel
theorem dX0_lay_10 : decode cX0_lay 10 = .ok (.aload_n 0, 1) := by decide +kernel
theorem dX0_lay_11 : decode cX0_lay 11 = .ok (.getfield 13, 3) := by decide +kernel
theorem dX0_lay_14 : decode cX0_lay 14 = .ok (.lconst 0, 1) := by decide +kernel
theorem dX0_lay_15 : decode cX0_lay 15 = .ok (.invokestatic 20, 3) := by decide +kernel
theorem dX0_lay_18 : decode cX0_lay 18 = .ok (.return_, 1) := by decide +kernel
theorem dX0_write_0 : decode cX0_write 0 = .ok (.aload_n 0, 1) := by decide +kernel
theorem dX0_write_1 : decode cX0_write 1 = .ok (.getfield 9, 3) := by decide +kernel
theorem dX0_write_4 : decode cX0_write 4 = .ok (.tableswitch 66 0 2 #[28, 41, 54], 28) := by decide +kernel
theorem dX0_write_32 : decode cX0_write 32 = .ok (.aload_n 0, 1) := by decide +kernel
theorem dX0_write_33 : decode cX0_write 33 = .ok (.getfield 13, 3) := by decide +kernel
theorem dX0_write_36 : decode cX0_write 36 = .ok (.iload_n 1, 1) := by decide +kernel
theorem dX0_write_37 : decode cX0_write 37 = .ok (.lload_n 2, 1) := by decide +kernel
theorem dX0_write_38 : decode cX0_write 38 = .ok (.l2i, 1) := by decide +kernel
theorem dX0_write_39 : decode cX0_write 39 = .ok (.i2b, 1) := by decide +kernel
theorem dX0_write_40 : decode cX0_write 40 = .ok (.i2l, 1) := by decide +kernel
theorem dX0_write_41 : decode cX0_write 41 = .ok (.lastore, 1) := by decide +kernel
theorem dX0_write_42 : decode cX0_write 42 = .ok (.goto 35, 3) := by decide +kernel
theorem dX0_write_45 : decode cX0_write 45 = .ok (.aload_n 0, 1) := by decide +kernel
theorem dX0_write_46 : decode cX0_write 46 = .ok (.getfield 13, 3) := by decide +kernel
theorem dX0_write_49 : decode cX0_write 49 = .ok (.iload_n 1, 1) := by decide +kernel
theorem dX0_write_50 : decode cX0_write 50 = .ok (.lload_n 2, 1) := by decide +kernel
theorem dX0_write_51 : decode cX0_write 51 = .ok (.l2i, 1) := by decide +kernel
theorem dX0_write_52 : decode cX0_write 52 = .ok (.i2s, 1) := by decide +kernel
theorem dX0_write_53 : decode cX0_write 53 = .ok (.i2l, 1) := by decide +kernel
theorem dX0_write_54 : decode cX0_write 54 = .ok (.lastore, 1) := by decide +kernel
theorem dX0_write_55 : decode cX0_write 55 = .ok (.goto 22, 3) := by decide +kernel
theorem dX0_write_58 : decode cX0_write 58 = .ok (.aload_n 0, 1) := by decide +kernel
theorem dX0_write_59 : decode cX0_write 59 = .ok (.getfield 13, 3) := by decide +kernel
theorem dX0_write_62 : decode cX0_write 62 = .ok (.iload_n 1, 1) := by decide +kernel
theorem dX0_write_63 : decode cX0_write 63 = .ok (.lload_n 2, 1) := by decide +kernel
theorem dX0_write_64 : decode cX0_write 64 = .ok (.l2i, 1) := by decide +kernel
theorem dX0_write_65 : decode cX0_write 65 = .ok (.i2l, 1) := by decide +kernel
theorem dX0_write_66 : decode cX0_write 66 = .ok (.lastore, 1) := by decide +kernel
theorem dX0_write_67 : decode cX0_write 67 = .ok (.goto 10, 3) := by decide +kernel
theorem dX0_write_70 : decode cX0_write 70 = .ok (.aload_n 0, 1) := by decide +kernel
theorem dX0_write_71 : decode cX0_write 71 = .ok (.getfield 13, 3) := by decide +kernel
theorem dX0_write_74 : decode cX0_write 74 = .ok (.iload_n 1, 1) := by decide +kernel
theorem dX0_write_75 : decode cX0_write 75 = .ok (.lload_n 2, 1) := by decide +kernel
theorem dX0_write_76 : decode cX0_write 76 = .ok (.lastore, 1) := by decide +kernel
theorem dX0_write_77 : decode cX0_write 77 = .ok (.return_, 1) := by decide +kernel
theorem dX0_stepsFor_0 : decode cX0_stepsFor 0 = .ok (.aload_n 0, 1) := by decide +kernel
theorem dX0_stepsFor_1 : decode cX0_stepsFor 1 = .ok (.getfield 9, 3) := by decide +kernel
theorem dX0_stepsFor_4 : decode cX0_stepsFor 4 = .ok (.tableswitch 72 0 3 #[32, 32, 56, 64], 32) := by decide +kernel
theorem dX0_stepsFor_36 : decode cX0_stepsFor 36 = .ok (.iload_n 1, 1) := by decide +kernel
theorem dX0_stepsFor_37 : decode cX0_stepsFor 37 = .ok (.aload_n 0, 1) := by decide +kernel
theorem dX0_stepsFor_38 : decode cX0_stepsFor 38 = .ok (.getfield 17, 3) := by decide +kernel
theorem dX0_stepsFor_41 : decode cX0_stepsFor 41 = .ok (.if_icmp .ge 17, 3) := by decide +kernel
theorem dX0_stepsFor_44 : decode cX0_stepsFor 44 = .ok (.aload_n 0, 1) := by decide +kernel
theorem dX0_stepsFor_45 : decode cX0_stepsFor 45 = .ok (.getfield 13, 3) := by decide +kernel
theorem dX0_stepsFor_48 : decode cX0_stepsFor 48 = .ok (.iload_n 1, 1) := by decide +kernel
theorem dX0_stepsFor_49 : decode cX0_stepsFor 49 = .ok (.laload, 1) := by decide +kernel
theorem dX0_stepsFor_50 : decode cX0_stepsFor 50 = .ok (.l2i, 1) := by decide +kernel
theorem dX0_stepsFor_51 : decode cX0_stepsFor 51 = .ok (.iload_n 2, 1) := by decide +kernel
theorem dX0_stepsFor_52 : decode cX0_stepsFor 52 = .ok (.invokestatic 26, 3) := by decide +kernel
theorem dX0_stepsFor_55 : decode cX0_stepsFor 55 = .ok (.goto 4, 3) := by decide +kernel
theorem dX0_stepsFor_58 : decode cX0_stepsFor 58 = .ok (.iconst 0, 1) := by decide +kernel
theorem dX0_stepsFor_59 : decode cX0_stepsFor 59 = .ok (.ireturn, 1) := by decide +kernel
theorem dX0_stepsFor_60 : decode cX0_stepsFor 60 = .ok (.aload_n 0, 1) := by decide +kernel
theorem dX0_stepsFor_61 : decode cX0_stepsFor 61 = .ok (.iload_n 1, 1) := by decide +kernel
theorem dX0_stepsFor_62 : decode cX0_stepsFor 62 = .ok (.bipush 32, 2) := by decide +kernel
theorem dX0_stepsFor_64 : decode cX0_stepsFor 64 = .ok (.invokevirtual 32, 3) := by decide +kernel
theorem dX0_stepsFor_67 : decode cX0_stepsFor 67 = .ok (.ireturn, 1) := by decide +kernel
theorem dX0_stepsFor_68 : decode cX0_stepsFor 68 = .ok (.aload_n 0, 1) := by decide +kernel
theorem dX0_stepsFor_69 : decode cX0_stepsFor 69 = .ok (.iload_n 1, 1) := by decide +kernel
theorem dX0_stepsFor_70 : decode cX0_stepsFor 70 = .ok (.bipush 64, 2) := by decide +kernel
theorem dX0_stepsFor_72 : decode cX0_stepsFor 72 = .ok (.invokevirtual 32, 3) := by decide +kernel
theorem dX0_stepsFor_75 : decode cX0_stepsFor 75 = .ok (.ireturn, 1) := by decide +kernel
theorem dX0_stepsFor_76 : decode cX0_stepsFor 76 = .ok (.iconst 0, 1) := by decide +kernel
theorem dX0_stepsFor_77 : decode cX0_stepsFor 77 = .ok (.ireturn, 1) := by decide +kernel
theorem dX0_bitFor_0 : decode cX0_bitFor 0 = .ok (.iload_n 1, 1) := by decide +kernel
theorem dX0_bitFor_1 : decode cX0_bitFor 1 = .ok (.iload_n 2, 1) := by decide +kernel
theorem dX0_bitFor_2 : decode cX0_bitFor 2 = .ok (.idiv, 1) := by decide +kernel
theorem dX0_bitFor_3 : decode cX0_bitFor 3 = .ok (.istore_n 3, 1) := by decide +kernel
theorem dX0_bitFor_4 : decode cX0_bitFor 4 = .ok (.iload_n 3, 1) := by decide +kernel
theorem dX0_bitFor_5 : decode cX0_bitFor 5 = .ok (.aload_n 0, 1) := by decide +kernel
theorem dX0_bitFor_6 : decode cX0_bitFor 6 = .ok (.getfield 17, 3) := by decide +kernel
theorem dX0_bitFor_9 : decode cX0_bitFor 9 = .ok (.if_icmp .ge 19, 3) := by decide +kernel
theorem dX0_bitFor_12 : decode cX0_bitFor 12 = .ok (.aload_n 0, 1) := by decide +kernel
theorem dX0_bitFor_13 : decode cX0_bitFor 13 = .ok (.getfield 13, 3) := by decide +kernel
theorem dX0_bitFor_16 : decode cX0_bitFor 16 = .ok (.iload_n 3, 1) := by decide +kernel
theorem dX0_bitFor_17 : decode cX0_bitFor 17 = .ok (.laload, 1) := by decide +kernel
theorem dX0_bitFor_18 : decode cX0_bitFor 18 = .ok (.iload_n 1, 1) := by decide +kernel
theorem dX0_bitFor_19 : decode cX0_bitFor 19 = .ok (.iload_n 2, 1) := by decide +kernel
theorem dX0_bitFor_20 : decode cX0_bitFor 20 = .ok (.irem, 1) := by decide +kernel
theorem dX0_bitFor_21 : decode cX0_bitFor 21 = .ok (.lushr, 1) := by decide +kernel
theorem dX0_bitFor_22 : decode cX0_bitFor 22 = .ok (.l2i, 1) := by decide +kernel
theorem dX0_bitFor_23 : decode cX0_bitFor 23 = .ok (.iconst 1, 1) := by decide +kernel
theorem dX0_bitFor_24 : decode cX0_bitFor 24 = .ok (.iand, 1) := by decide +kernel
theorem dX0_bitFor_25 : decode cX0_bitFor 25 = .ok (.goto 4, 3) := by decide +kernel
theorem dX0_bitFor_28 : decode cX0_bitFor 28 = .ok (.iconst 0, 1) := by decide +kernel
theorem dX0_bitFor_29 : decode cX0_bitFor 29 = .ok (.ireturn, 1) := by decide +kernel
theorem dX1_init_0 : decode cX1_init 0 = .ok (.aload_n 0, 1) := by decide +kernel
theorem dX1_init_1 : decode cX1_init 1 = .ok (.invokespecial 3, 3) := by decide +kernel
theorem dX1_init_4 : decode cX1_init 4 = .ok (.aload_n 0, 1) := by decide +kernel
theorem dX1_init_5 : decode cX1_init 5 = .ok (.iconst 2, 1) := by decide +kernel
theorem dX1_init_6 : decode cX1_init 6 = .ok (.putfield 9, 3) := by decide +kernel
theorem dX1_init_9 : decode cX1_init 9 = .ok (.aload_n 0, 1) := by decide +kernel
theorem dX1_init_10 : decode cX1_init 10 = .ok (.bipush 72, 2) := by decide +kernel
theorem dX1_init_12 : decode cX1_init 12 = .ok (.newarray .int, 2) := by decide +kernel
theorem dX1_init_14 : decode cX1_init 14 = .ok (.putfield 15, 3) := by decide +kernel
theorem dX1_init_17 : decode cX1_init 17 = .ok (.aload_n 0, 1) := by decide +kernel
theorem dX1_init_18 : decode cX1_init 18 = .ok (.sipush 5184, 3) := by decide +kernel
theorem dX1_init_21 : decode cX1_init 21 = .ok (.newarray .int, 2) := by decide +kernel
theorem dX1_init_23 : decode cX1_init 23 = .ok (.putfield 19, 3) := by decide +kernel
theorem dX1_init_26 : decode cX1_init 26 = .ok (.aload_n 0, 1) := by decide +kernel
theorem dX1_init_27 : decode cX1_init 27 = .ok (.bipush 12, 2) := by decide +kernel
theorem dX1_init_29 : decode cX1_init 29 = .ok (.newarray .int, 2) := by decide +kernel
theorem dX1_init_31 : decode cX1_init 31 = .ok (.putfield 22, 3) := by decide +kernel
theorem dX1_init_34 : decode cX1_init 34 = .ok (.aload_n 0, 1) := by decide +kernel
theorem dX1_init_35 : decode cX1_init 35 = .ok (.aload_n 1, 1) := by decide +kernel
theorem dX1_init_36 : decode cX1_init 36 = .ok (.putfield 25, 3) := by decide +kernel
theorem dX1_init_39 : decode cX1_init 39 = .ok (.return_, 1) := by decide +kernel
theorem dX1_begin_0 : decode cX1_begin 0 = .ok (.aload_n 0, 1) := by decide +kernel
theorem dX1_begin_1 : decode cX1_begin 1 = .ok (.iload_n 1, 1) := by decide +kernel
theorem dX1_begin_2 : decode cX1_begin 2 = .ok (.putfield 9, 3) := by decide +kernel
theorem dX1_begin_5 : decode cX1_begin 5 = .ok (.aload_n 0, 1) := by decide +kernel
theorem dX1_begin_6 : decode cX1_begin 6 = .ok (.iload_n 2, 1) := by decide +kernel
theorem dX1_begin_7 : decode cX1_begin 7 = .ok (.putfield 28, 3) := by decide +kernel
theorem dX1_begin_10 : decode cX1_begin 10 = .ok (.aload_n 0, 1) := by decide +kernel
theorem dX1_begin_11 : decode cX1_begin 11 = .ok (.iload_n 2, 1) := by decide +kernel
theorem dX1_begin_12 : decode cX1_begin 12 = .ok (.iload_n 3, 1) := by decide +kernel
theorem dX1_begin_13 : decode cX1_begin 13 = .ok (.iadd, 1) := by decide +kernel
theorem dX1_begin_14 : decode cX1_begin 14 = .ok (.putfield 31, 3) := by decide +kernel
theorem dX1_begin_17 : decode cX1_begin 17 = .ok (.aload_n 0, 1) := by decide +kernel
theorem dX1_begin_18 : decode cX1_begin 18 = .ok (.iload_n 3, 1) := by decide +kernel
theorem dX1_begin_19 : decode cX1_begin 19 = .ok (.putfield 34, 3) := by decide +kernel
theorem dX1_begin_22 : decode cX1_begin 22 = .ok (.aload_n 0, 1) := by decide +kernel
theorem dX1_begin_23 : decode cX1_begin 23 = .ok (.getfield 25, 3) := by decide +kernel
theorem dX1_begin_26 : decode cX1_begin 26 = .ok (.iconst 0, 1) := by decide +kernel
theorem dX1_begin_27 : decode cX1_begin 27 = .ok (.invokestatic 37, 3) := by decide +kernel
theorem dX1_begin_30 : decode cX1_begin 30 = .ok (.iconst 0, 1) := by decide +kernel
theorem dX1_begin_31 : decode cX1_begin 31 = .ok (.istore 4, 2) := by decide +kernel
theorem dX1_begin_33 : decode cX1_begin 33 = .ok (.iload 4, 2) := by decide +kernel
theorem dX1_begin_35 : decode cX1_begin 35 = .ok (.iload_n 3, 1) := by decide +kernel
theorem dX1_begin_36 : decode cX1_begin 36 = .ok (.if_icmp .ge 28, 3) := by decide +kernel
theorem dX1_begin_39 : decode cX1_begin 39 = .ok (.aload_n 0, 1) := by decide +kernel
theorem dX1_begin_40 : decode cX1_begin 40 = .ok (.getfield 25, 3) := by decide +kernel
theorem dX1_begin_43 : decode cX1_begin 43 = .ok (.iload 4, 2) := by decide +kernel
theorem dX1_begin_45 : decode cX1_begin 45 = .ok (.bipush 72, 2) := by decide +kernel
theorem dX1_begin_47 : decode cX1_begin 47 = .ok (.imul, 1) := by decide +kernel
theorem dX1_begin_48 : decode cX1_begin 48 = .ok (.aload_n 0, 1) := by decide +kernel
theorem dX1_begin_49 : decode cX1_begin 49 = .ok (.getfield 28, 3) := by decide +kernel
theorem dX1_begin_52 : decode cX1_begin 52 = .ok (.iadd, 1) := by decide +kernel
theorem dX1_begin_53 : decode cX1_begin 53 = .ok (.iload 4, 2) := by decide +kernel
theorem dX1_begin_55 : decode cX1_begin 55 = .ok (.iadd, 1) := by decide +kernel
theorem dX1_begin_56 : decode cX1_begin 56 = .ok (.iconst 1, 1) := by decide +kernel
theorem dX1_begin_57 : decode cX1_begin 57 = .ok (.iastore, 1) := by decide +kernel
theorem dX1_begin_58 : decode cX1_begin 58 = .ok (.iinc 4 1, 3) := by decide +kernel
theorem dX1_begin_61 : decode cX1_begin 61 = .ok (.goto (-28), 3) := by decide +kernel
theorem dX1_begin_64 : decode cX1_begin 64 = .ok (.iconst 1, 1) := by decide +kernel
theorem dX1_begin_65 : decode cX1_begin 65 = .ok (.istore 4, 2) := by decide +kernel
theorem dX1_begin_67 : decode cX1_begin 67 = .ok (.iload 4, 2) := by decide +kernel
theorem dX1_begin_69 : decode cX1_begin 69 = .ok (.aload_n 0, 1) := by decide +kernel
theorem dX1_begin_70 : decode cX1_begin 70 = .ok (.getfield 9, 3) := by decide +kernel
theorem dX1_begin_73 : decode cX1_begin 73 = .ok (.if_icmp .ge 25, 3) := by decide +kernel
theorem dX1_begin_76 : decode cX1_begin 76 = .ok (.aload_n 0, 1) := by decide +kernel
theorem dX1_begin_77 : decode cX1_begin 77 = .ok (.getfield 22, 3) := by decide +kernel
theorem dX1_begin_80 : decode cX1_begin 80 = .ok (.iload 4, 2) := by decide +kernel
theorem dX1_begin_82 : decode cX1_begin 82 = .ok (.iload 4, 2) := by decide +kernel
theorem dX1_begin_84 : decode cX1_begin 84 = .ok (.aload_n 0, 1) := by decide +kernel
theorem dX1_begin_85 : decode cX1_begin 85 = .ok (.getfield 9, 3) := by decide +kernel
theorem dX1_begin_88 : decode cX1_begin 88 = .ok (.invokestatic 43, 3) := by decide +kernel
theorem dX1_begin_91 : decode cX1_begin 91 = .ok (.iastore, 1) := by decide +kernel
theorem dX1_begin_92 : decode cX1_begin 92 = .ok (.iinc 4 1, 3) := by decide +kernel
theorem dX1_begin_95 : decode cX1_begin 95 = .ok (.goto (-28), 3) := by decide +kernel
theorem dX1_begin_98 : decode cX1_begin 98 = .ok (.return_, 1) := by decide +kernel
theorem dX1_unitFor_0 : decode cX1_unitFor 0 = .ok (.iload_n 0, 1) := by decide +kernel
theorem dX1_unitFor_1 : decode cX1_unitFor 1 = .ok (.iload_n 1, 1) := by decide +kernel
theorem dX1_unitFor_2 : decode cX1_unitFor 2 = .ok (.invokestatic 47, 3) := by decide +kernel
theorem dX1_unitFor_5 : decode cX1_unitFor 5 = .ok (.istore_n 2, 1) := by decide +kernel
theorem dX1_unitFor_6 : decode cX1_unitFor 6 = .ok (.iconst 1, 1) := by decide +kernel
theorem dX1_unitFor_7 : decode cX1_unitFor 7 = .ok (.istore_n 3, 1) := by decide +kernel
theorem dX1_unitFor_8 : decode cX1_unitFor 8 = .ok (.iload_n 3, 1) := by decide +kernel
theorem dX1_unitFor_9 : decode cX1_unitFor 9 = .ok (.iload_n 1, 1) := by decide +kernel
theorem dX1_unitFor_10 : decode cX1_unitFor 10 = .ok (.if_icmp .ge 29, 3) := by decide +kernel
theorem dX1_unitFor_13 : decode cX1_unitFor 13 = .ok (.iload_n 3, 1) := by decide +kernel
theorem dX1_unitFor_14 : decode cX1_unitFor 14 = .ok (.iload_n 0, 1) := by decide +kernel
theorem dX1_unitFor_15 : decode cX1_unitFor 15 = .ok (.imul, 1) := by decide +kernel
theorem dX1_unitFor_16 : decode cX1_unitFor 16 = .ok (.iload_n 1, 1) := by decide +kernel
theorem dX1_unitFor_17 : decode cX1_unitFor 17 = .ok (.irem, 1) := by decide +kernel
theorem dX1_unitFor_18 : decode cX1_unitFor 18 = .ok (.iload_n 2, 1) := by decide +kernel
theorem dX1_unitFor_19 : decode cX1_unitFor 19 = .ok (.if_icmp .ne 14, 3) := by decide +kernel
theorem dX1_unitFor_22 : decode cX1_unitFor 22 = .ok (.iload_n 3, 1) := by decide +kernel
theorem dX1_unitFor_23 : decode cX1_unitFor 23 = .ok (.iload_n 1, 1) := by decide +kernel
theorem dX1_unitFor_24 : decode cX1_unitFor 24 = .ok (.invokestatic 47, 3) := by decide +kernel
theorem dX1_unitFor_27 : decode cX1_unitFor 27 = .ok (.iconst 1, 1) := by decide +kernel
theorem dX1_unitFor_28 : decode cX1_unitFor 28 = .ok (.if_icmp .ne 5, 3) := by decide +kernel
theorem dX1_unitFor_31 : decode cX1_unitFor 31 = .ok (.iload_n 3, 1) := by decide +kernel
theorem dX1_unitFor_32 : decode cX1_unitFor 32 = .ok (.ireturn, 1) := by decide +kernel
theorem dX1_unitFor_33 : decode cX1_unitFor 33 = .ok (.iinc 3 1, 3) := by decide +kernel
theorem dX1_unitFor_36 : decode cX1_unitFor 36 = .ok (.goto (-28), 3) := by decide +kernel
theorem dX1_unitFor_39 : decode cX1_unitFor 39 = .ok (.iconst 1, 1) := by decide +kernel
theorem dX1_unitFor_40 : decode cX1_unitFor 40 = .ok (.ireturn, 1) := by decide +kernel
theorem dX1_gcd_0 : decode cX1_gcd 0 = .ok (.iload_n 0, 1) := by decide +kernel
theorem dX1_gcd_1 : decode cX1_gcd 1 = .ok (.istore_n 2, 1) := by decide +kernel
theorem dX1_gcd_2 : decode cX1_gcd 2 = .ok (.iload_n 2, 1) := by decide +kernel
theorem dX1_gcd_3 : decode cX1_gcd 3 = .ok (.iconst 1, 1) := by decide +kernel
theorem dX1_gcd_4 : decode cX1_gcd 4 = .ok (.if_icmp .le 23, 3) := by decide +kernel
theorem dX1_gcd_7 : decode cX1_gcd 7 = .ok (.iload_n 0, 1) := by decide +kernel
theorem dX1_gcd_8 : decode cX1_gcd 8 = .ok (.iload_n 2, 1) := by decide +kernel
theorem dX1_gcd_9 : decode cX1_gcd 9 = .ok (.irem, 1) := by decide +kernel
theorem dX1_gcd_10 : decode cX1_gcd 10 = .ok (.ifCond .ne 11, 3) := by decide +kernel
theorem dX1_gcd_13 : decode cX1_gcd 13 = .ok (.iload_n 1, 1) := by decide +kernel
theorem dX1_gcd_14 : decode cX1_gcd 14 = .ok (.iload_n 2, 1) := by decide +kernel
theorem dX1_gcd_15 : decode cX1_gcd 15 = .ok (.irem, 1) := by decide +kernel
theorem dX1_gcd_16 : decode cX1_gcd 16 = .ok (.ifCond .ne 5, 3) := by decide +kernel
theorem dX1_gcd_19 : decode cX1_gcd 19 = .ok (.iload_n 2, 1) := by decide +kernel
theorem dX1_gcd_20 : decode cX1_gcd 20 = .ok (.ireturn, 1) := by decide +kernel
theorem dX1_gcd_21 : decode cX1_gcd 21 = .ok (.iinc 2 (-1), 3) := by decide +kernel
theorem dX1_gcd_24 : decode cX1_gcd 24 = .ok (.goto (-22), 3) := by decide +kernel
theorem dX1_gcd_27 : decode cX1_gcd 27 = .ok (.iconst 1, 1) := by decide +kernel
theorem dX1_gcd_28 : decode cX1_gcd 28 = .ok (.ireturn, 1) := by decide +kernel
theorem dX1_putHead_0 : decode cX1_putHead 0 = .ok (.aload_n 0, 1) := by decide +kernel
theorem dX1_putHead_1 : decode cX1_putHead 1 = .ok (.getfield 25, 3) := by decide +kernel
theorem dX1_putHead_4 : decode cX1_putHead 4 = .ok (.iload_n 1, 1) := by decide +kernel
theorem dX1_putHead_5 : decode cX1_putHead 5 = .ok (.bipush 72, 2) := by decide +kernel
theorem dX1_putHead_7 : decode cX1_putHead 7 = .ok (.imul, 1) := by decide +kernel
theorem dX1_putHead_8 : decode cX1_putHead 8 = .ok (.iload_n 2, 1) := by decide +kernel
theorem dX1_putHead_9 : decode cX1_putHead 9 = .ok (.iadd, 1) := by decide +kernel
theorem dX1_putHead_10 : decode cX1_putHead 10 = .ok (.iload_n 3, 1) := by decide +kernel
theorem dX1_putHead_11 : decode cX1_putHead 11 = .ok (.iastore, 1) := by decide +kernel
theorem dX1_putHead_12 : decode cX1_putHead 12 = .ok (.return_, 1) := by decide +kernel
theorem dX1_build_0 : decode cX1_build 0 = .ok (.iconst 0, 1) := by decide +kernel
theorem dX1_build_1 : decode cX1_build 1 = .ok (.istore_n 1, 1) := by decide +kernel
theorem dX1_build_2 : decode cX1_build 2 = .ok (.iload_n 1, 1) := by decide +kernel
theorem dX1_build_3 : decode cX1_build 3 = .ok (.aload_n 0, 1) := by decide +kernel
theorem dX1_build_4 : decode cX1_build 4 = .ok (.getfield 31, 3) := by decide +kernel
theorem dX1_build_7 : decode cX1_build 7 = .ok (.if_icmp .ge 32, 3) := by decide +kernel
theorem dX1_build_10 : decode cX1_build 10 = .ok (.aload_n 0, 1) := by decide +kernel
theorem dX1_build_11 : decode cX1_build 11 = .ok (.iload_n 1, 1) := by decide +kernel
theorem dX1_build_12 : decode cX1_build 12 = .ok (.invokevirtual 50, 3) := by decide +kernel
theorem dX1_build_15 : decode cX1_build 15 = .ok (.istore_n 2, 1) := by decide +kernel
theorem dX1_build_16 : decode cX1_build 16 = .ok (.aload_n 0, 1) := by decide +kernel
theorem dX1_build_17 : decode cX1_build 17 = .ok (.getfield 15, 3) := by decide +kernel
theorem dX1_build_20 : decode cX1_build 20 = .ok (.iload_n 1, 1) := by decide +kernel
theorem dX1_build_21 : decode cX1_build 21 = .ok (.iconst 0, 1) := by decide +kernel
theorem dX1_build_22 : decode cX1_build 22 = .ok (.iastore, 1) := by decide +kernel
theorem dX1_build_23 : decode cX1_build 23 = .ok (.iload_n 2, 1) := by decide +kernel
theorem dX1_build_24 : decode cX1_build 24 = .ok (.ifCond .lt 9, 3) := by decide +kernel
theorem dX1_build_27 : decode cX1_build 27 = .ok (.aload_n 0, 1) := by decide +kernel
theorem dX1_build_28 : decode cX1_build 28 = .ok (.iload_n 2, 1) := by decide +kernel
theorem dX1_build_29 : decode cX1_build 29 = .ok (.iload_n 1, 1) := by decide +kernel
theorem dX1_build_30 : decode cX1_build 30 = .ok (.invokevirtual 54, 3) := by decide +kernel
theorem dX1_build_33 : decode cX1_build 33 = .ok (.iinc 1 1, 3) := by decide +kernel
theorem dX1_build_36 : decode cX1_build 36 = .ok (.goto (-34), 3) := by decide +kernel
theorem dX1_build_39 : decode cX1_build 39 = .ok (.aload_n 0, 1) := by decide +kernel
theorem dX1_build_40 : decode cX1_build 40 = .ok (.getfield 28, 3) := by decide +kernel
theorem dX1_build_43 : decode cX1_build 43 = .ok (.istore_n 1, 1) := by decide +kernel
theorem dX1_build_44 : decode cX1_build 44 = .ok (.iload_n 1, 1) := by decide +kernel
theorem dX1_build_45 : decode cX1_build 45 = .ok (.aload_n 0, 1) := by decide +kernel
theorem dX1_build_46 : decode cX1_build 46 = .ok (.getfield 31, 3) := by decide +kernel
theorem dX1_build_49 : decode cX1_build 49 = .ok (.if_icmp .ge 37, 3) := by decide +kernel
theorem dX1_build_52 : decode cX1_build 52 = .ok (.aload_n 0, 1) := by decide +kernel
theorem dX1_build_53 : decode cX1_build 53 = .ok (.getfield 15, 3) := by decide +kernel
theorem dX1_build_56 : decode cX1_build 56 = .ok (.iload_n 1, 1) := by decide +kernel
theorem dX1_build_57 : decode cX1_build 57 = .ok (.iaload, 1) := by decide +kernel
theorem dX1_build_58 : decode cX1_build 58 = .ok (.ifCond .eq 22, 3) := by decide +kernel
theorem dX1_build_61 : decode cX1_build 61 = .ok (.aload_n 0, 1) := by decide +kernel
theorem dX1_build_62 : decode cX1_build 62 = .ok (.aload_n 0, 1) := by decide +kernel
theorem dX1_build_63 : decode cX1_build 63 = .ok (.getfield 19, 3) := by decide +kernel
theorem dX1_build_66 : decode cX1_build 66 = .ok (.iload_n 1, 1) := by decide +kernel
theorem dX1_build_67 : decode cX1_build 67 = .ok (.bipush 72, 2) := by decide +kernel
theorem dX1_build_69 : decode cX1_build 69 = .ok (.imul, 1) := by decide +kernel
theorem dX1_build_70 : decode cX1_build 70 = .ok (.iload_n 1, 1) := by decide +kernel
theorem dX1_build_71 : decode cX1_build 71 = .ok (.iconst 1, 1) := by decide +kernel
theorem dX1_build_72 : decode cX1_build 72 = .ok (.iadd, 1) := by decide +kernel
theorem dX1_build_73 : decode cX1_build 73 = .ok (.aload_n 0, 1) := by decide +kernel
theorem dX1_build_74 : decode cX1_build 74 = .ok (.getfield 31, 3) := by decide +kernel
theorem dX1_build_77 : decode cX1_build 77 = .ok (.invokevirtual 58, 3) := by decide +kernel
theorem dX1_build_80 : decode cX1_build 80 = .ok (.iinc 1 1, 3) := by decide +kernel
theorem dX1_build_83 : decode cX1_build 83 = .ok (.goto (-39), 3) := by decide +kernel
theorem dX1_build_86 : decode cX1_build 86 = .ok (.return_, 1) := by decide +kernel
theorem dX1_clearColumn_0 : decode cX1_clearColumn 0 = .ok (.iconst (-1), 1) := by decide +kernel
theorem dX1_clearColumn_1 : decode cX1_clearColumn 1 = .ok (.istore_n 2, 1) := by decide +kernel
theorem dX1_clearColumn_2 : decode cX1_clearColumn 2 = .ok (.iconst 0, 1) := by decide +kernel
theorem dX1_clearColumn_3 : decode cX1_clearColumn 3 = .ok (.istore_n 3, 1) := by decide +kernel
theorem dX1_clearColumn_4 : decode cX1_clearColumn 4 = .ok (.iload_n 3, 1) := by decide +kernel
theorem dX1_clearColumn_5 : decode cX1_clearColumn 5 = .ok (.aload_n 0, 1) := by decide +kernel
theorem dX1_clearColumn_6 : decode cX1_clearColumn 6 = .ok (.getfield 34, 3) := by decide +kernel
theorem dX1_clearColumn_9 : decode cX1_clearColumn 9 = .ok (.if_icmp .ge 66, 3) := by decide +kernel
theorem dX1_clearColumn_12 : decode cX1_clearColumn 12 = .ok (.aload_n 0, 1) := by decide +kernel
theorem dX1_clearColumn_13 : decode cX1_clearColumn 13 = .ok (.getfield 25, 3) := by decide +kernel
theorem dX1_clearColumn_16 : decode cX1_clearColumn 16 = .ok (.iload_n 3, 1) := by decide +kernel
theorem dX1_clearColumn_17 : decode cX1_clearColumn 17 = .ok (.bipush 72, 2) := by decide +kernel
theorem dX1_clearColumn_19 : decode cX1_clearColumn 19 = .ok (.imul, 1) := by decide +kernel
theorem dX1_clearColumn_20 : decode cX1_clearColumn 20 = .ok (.iload_n 1, 1) := by decide +kernel
theorem dX1_clearColumn_21 : decode cX1_clearColumn 21 = .ok (.iadd, 1) := by decide +kernel
theorem dX1_clearColumn_22 : decode cX1_clearColumn 22 = .ok (.iaload, 1) := by decide +kernel
theorem dX1_clearColumn_23 : decode cX1_clearColumn 23 = .ok (.ifCond .ne 6, 3) := by decide +kernel
theorem dX1_clearColumn_26 : decode cX1_clearColumn 26 = .ok (.goto 43, 3) := by decide +kernel
theorem dX1_clearColumn_29 : decode cX1_clearColumn 29 = .ok (.iload_n 2, 1) := by decide +kernel
theorem dX1_clearColumn_30 : decode cX1_clearColumn 30 = .ok (.ifCond .ge 31, 3) := by decide +kernel
theorem dX1_clearColumn_33 : decode cX1_clearColumn 33 = .ok (.iload_n 3, 1) := by decide +kernel
theorem dX1_clearColumn_34 : decode cX1_clearColumn 34 = .ok (.istore_n 2, 1) := by decide +kernel
theorem dX1_clearColumn_35 : decode cX1_clearColumn 35 = .ok (.aload_n 0, 1) := by decide +kernel
theorem dX1_clearColumn_36 : decode cX1_clearColumn 36 = .ok (.iload_n 3, 1) := by decide +kernel
theorem dX1_clearColumn_37 : decode cX1_clearColumn 37 = .ok (.iload_n 1, 1) := by decide +kernel
theorem dX1_clearColumn_38 : decode cX1_clearColumn 38 = .ok (.aload_n 0, 1) := by decide +kernel
theorem dX1_clearColumn_39 : decode cX1_clearColumn 39 = .ok (.getfield 22, 3) := by decide +kernel
theorem dX1_clearColumn_42 : decode cX1_clearColumn 42 = .ok (.aload_n 0, 1) := by decide +kernel
theorem dX1_clearColumn_43 : decode cX1_clearColumn 43 = .ok (.getfield 25, 3) := by decide +kernel
theorem dX1_clearColumn_46 : decode cX1_clearColumn 46 = .ok (.iload_n 3, 1) := by decide +kernel
theorem dX1_clearColumn_47 : decode cX1_clearColumn 47 = .ok (.bipush 72, 2) := by decide +kernel
theorem dX1_clearColumn_49 : decode cX1_clearColumn 49 = .ok (.imul, 1) := by decide +kernel
theorem dX1_clearColumn_50 : decode cX1_clearColumn 50 = .ok (.iload_n 1, 1) := by decide +kernel
theorem dX1_clearColumn_51 : decode cX1_clearColumn 51 = .ok (.iadd, 1) := by decide +kernel
theorem dX1_clearColumn_52 : decode cX1_clearColumn 52 = .ok (.iaload, 1) := by decide +kernel
theorem dX1_clearColumn_53 : decode cX1_clearColumn 53 = .ok (.iaload, 1) := by decide +kernel
theorem dX1_clearColumn_54 : decode cX1_clearColumn 54 = .ok (.invokevirtual 62, 3) := by decide +kernel
theorem dX1_clearColumn_57 : decode cX1_clearColumn 57 = .ok (.pop, 1) := by decide +kernel
theorem dX1_clearColumn_58 : decode cX1_clearColumn 58 = .ok (.goto 11, 3) := by decide +kernel
theorem dX1_clearColumn_61 : decode cX1_clearColumn 61 = .ok (.aload_n 0, 1) := by decide +kernel
theorem dX1_clearColumn_62 : decode cX1_clearColumn 62 = .ok (.iload_n 2, 1) := by decide +kernel
theorem dX1_clearColumn_63 : decode cX1_clearColumn 63 = .ok (.iload_n 3, 1) := by decide +kernel
theorem dX1_clearColumn_64 : decode cX1_clearColumn 64 = .ok (.iload_n 1, 1) := by decide +kernel
theorem dX1_clearColumn_65 : decode cX1_clearColumn 65 = .ok (.invokevirtual 66, 3) := by decide +kernel
theorem dX1_clearColumn_68 : decode cX1_clearColumn 68 = .ok (.istore_n 2, 1) := by decide +kernel
theorem dX1_clearColumn_69 : decode cX1_clearColumn 69 = .ok (.iinc 3 1, 3) := by decide +kernel
theorem dX1_clearColumn_72 : decode cX1_clearColumn 72 = .ok (.goto (-68), 3) := by decide +kernel
theorem dX1_clearColumn_75 : decode cX1_clearColumn 75 = .ok (.iload_n 2, 1) := by decide +kernel
theorem dX1_clearColumn_76 : decode cX1_clearColumn 76 = .ok (.ireturn, 1) := by decide +kernel
theorem dX1_clearOne_0 : decode cX1_clearOne 0 = .ok (.iload_n 1, 1) := by decide +kernel
theorem dX1_clearOne_1 : decode cX1_clearOne 1 = .ok (.istore 4, 2) := by decide +kernel
theorem dX1_clearOne_3 : decode cX1_clearOne 3 = .ok (.iload_n 2, 1) := by decide +kernel
theorem dX1_clearOne_4 : decode cX1_clearOne 4 = .ok (.istore 5, 2) := by decide +kernel
theorem dX1_clearOne_6 : decode cX1_clearOne 6 = .ok (.iconst 0, 1) := by decide +kernel
theorem dX1_clearOne_7 : decode cX1_clearOne 7 = .ok (.istore 6, 2) := by decide +kernel
theorem dX1_clearOne_9 : decode cX1_clearOne 9 = .ok (.iload 6, 2) := by decide +kernel
theorem dX1_clearOne_11 : decode cX1_clearOne 11 = .ok (.bipush 12, 2) := by decide +kernel
theorem dX1_clearOne_13 : decode cX1_clearOne 13 = .ok (.if_icmp .ge 121, 3) := by decide +kernel
theorem dX1_clearOne_16 : decode cX1_clearOne 16 = .ok (.aload_n 0, 1) := by decide +kernel
theorem dX1_clearOne_17 : decode cX1_clearOne 17 = .ok (.getfield 25, 3) := by decide +kernel
theorem dX1_clearOne_20 : decode cX1_clearOne 20 = .ok (.iload 5, 2) := by decide +kernel
theorem dX1_clearOne_22 : decode cX1_clearOne 22 = .ok (.bipush 72, 2) := by decide +kernel
theorem dX1_clearOne_24 : decode cX1_clearOne 24 = .ok (.imul, 1) := by decide +kernel
theorem dX1_clearOne_25 : decode cX1_clearOne 25 = .ok (.iload_n 3, 1) := by decide +kernel
theorem dX1_clearOne_26 : decode cX1_clearOne 26 = .ok (.iadd, 1) := by decide +kernel
theorem dX1_clearOne_27 : decode cX1_clearOne 27 = .ok (.iaload, 1) := by decide +kernel
theorem dX1_clearOne_28 : decode cX1_clearOne 28 = .ok (.ifCond .eq 106, 3) := by decide +kernel
theorem dX1_clearOne_31 : decode cX1_clearOne 31 = .ok (.iconst 1, 1) := by decide +kernel
theorem dX1_clearOne_32 : decode cX1_clearOne 32 = .ok (.aload_n 0, 1) := by decide +kernel
theorem dX1_clearOne_33 : decode cX1_clearOne 33 = .ok (.getfield 25, 3) := by decide +kernel
theorem dX1_clearOne_36 : decode cX1_clearOne 36 = .ok (.iload 4, 2) := by decide +kernel
theorem dX1_clearOne_38 : decode cX1_clearOne 38 = .ok (.bipush 72, 2) := by decide +kernel
theorem dX1_clearOne_40 : decode cX1_clearOne 40 = .ok (.imul, 1) := by decide +kernel
theorem dX1_clearOne_41 : decode cX1_clearOne 41 = .ok (.iload_n 3, 1) := by decide +kernel
theorem dX1_clearOne_42 : decode cX1_clearOne 42 = .ok (.iadd, 1) := by decide +kernel
theorem dX1_clearOne_43 : decode cX1_clearOne 43 = .ok (.iaload, 1) := by decide +kernel
theorem dX1_clearOne_44 : decode cX1_clearOne 44 = .ok (.invokestatic 70, 3) := by decide +kernel
theorem dX1_clearOne_47 : decode cX1_clearOne 47 = .ok (.istore 7, 2) := by decide +kernel
theorem dX1_clearOne_49 : decode cX1_clearOne 49 = .ok (.aload_n 0, 1) := by decide +kernel
theorem dX1_clearOne_50 : decode cX1_clearOne 50 = .ok (.getfield 25, 3) := by decide +kernel
theorem dX1_clearOne_53 : decode cX1_clearOne 53 = .ok (.iload 5, 2) := by decide +kernel
theorem dX1_clearOne_55 : decode cX1_clearOne 55 = .ok (.bipush 72, 2) := by decide +kernel
theorem dX1_clearOne_57 : decode cX1_clearOne 57 = .ok (.imul, 1) := by decide +kernel
theorem dX1_clearOne_58 : decode cX1_clearOne 58 = .ok (.iload_n 3, 1) := by decide +kernel
theorem dX1_clearOne_59 : decode cX1_clearOne 59 = .ok (.iadd, 1) := by decide +kernel
theorem dX1_clearOne_60 : decode cX1_clearOne 60 = .ok (.iaload, 1) := by decide +kernel
theorem dX1_clearOne_61 : decode cX1_clearOne 61 = .ok (.iload 7, 2) := by decide +kernel
theorem dX1_clearOne_63 : decode cX1_clearOne 63 = .ok (.idiv, 1) := by decide +kernel
theorem dX1_clearOne_64 : decode cX1_clearOne 64 = .ok (.istore 8, 2) := by decide +kernel
theorem dX1_clearOne_66 : decode cX1_clearOne 66 = .ok (.iload 8, 2) := by decide +kernel
theorem dX1_clearOne_68 : decode cX1_clearOne 68 = .ok (.ifCond .eq 33, 3) := by decide +kernel
theorem dX1_clearOne_71 : decode cX1_clearOne 71 = .ok (.aload_n 0, 1) := by decide +kernel
theorem dX1_clearOne_72 : decode cX1_clearOne 72 = .ok (.aload_n 0, 1) := by decide +kernel
theorem dX1_clearOne_73 : decode cX1_clearOne 73 = .ok (.getfield 25, 3) := by decide +kernel
theorem dX1_clearOne_76 : decode cX1_clearOne 76 = .ok (.iload 5, 2) := by decide +kernel
theorem dX1_clearOne_78 : decode cX1_clearOne 78 = .ok (.bipush 72, 2) := by decide +kernel
theorem dX1_clearOne_80 : decode cX1_clearOne 80 = .ok (.imul, 1) := by decide +kernel
theorem dX1_clearOne_81 : decode cX1_clearOne 81 = .ok (.aload_n 0, 1) := by decide +kernel
theorem dX1_clearOne_82 : decode cX1_clearOne 82 = .ok (.getfield 25, 3) := by decide +kernel
theorem dX1_clearOne_85 : decode cX1_clearOne 85 = .ok (.iload 4, 2) := by decide +kernel
theorem dX1_clearOne_87 : decode cX1_clearOne 87 = .ok (.bipush 72, 2) := by decide +kernel
theorem dX1_clearOne_89 : decode cX1_clearOne 89 = .ok (.imul, 1) := by decide +kernel
theorem dX1_clearOne_90 : decode cX1_clearOne 90 = .ok (.iload_n 3, 1) := by decide +kernel
theorem dX1_clearOne_91 : decode cX1_clearOne 91 = .ok (.aload_n 0, 1) := by decide +kernel
theorem dX1_clearOne_92 : decode cX1_clearOne 92 = .ok (.getfield 9, 3) := by decide +kernel
theorem dX1_clearOne_95 : decode cX1_clearOne 95 = .ok (.iload 8, 2) := by decide +kernel
theorem dX1_clearOne_97 : decode cX1_clearOne 97 = .ok (.isub, 1) := by decide +kernel
theorem dX1_clearOne_98 : decode cX1_clearOne 98 = .ok (.invokevirtual 75, 3) := by decide +kernel
theorem dX1_clearOne_101 : decode cX1_clearOne 101 = .ok (.aload_n 0, 1) := by decide +kernel
theorem dX1_clearOne_102 : decode cX1_clearOne 102 = .ok (.getfield 25, 3) := by decide +kernel
theorem dX1_clearOne_105 : decode cX1_clearOne 105 = .ok (.iload 5, 2) := by decide +kernel
theorem dX1_clearOne_107 : decode cX1_clearOne 107 = .ok (.bipush 72, 2) := by decide +kernel
theorem dX1_clearOne_109 : decode cX1_clearOne 109 = .ok (.imul, 1) := by decide +kernel
theorem dX1_clearOne_110 : decode cX1_clearOne 110 = .ok (.iload_n 3, 1) := by decide +kernel
theorem dX1_clearOne_111 : decode cX1_clearOne 111 = .ok (.iadd, 1) := by decide +kernel
theorem dX1_clearOne_112 : decode cX1_clearOne 112 = .ok (.iaload, 1) := by decide +kernel
theorem dX1_clearOne_113 : decode cX1_clearOne 113 = .ok (.ifCond .eq 15, 3) := by decide +kernel
theorem dX1_clearOne_116 : decode cX1_clearOne 116 = .ok (.iload 4, 2) := by decide +kernel
theorem dX1_clearOne_118 : decode cX1_clearOne 118 = .ok (.istore 9, 2) := by decide +kernel
theorem dX1_clearOne_120 : decode cX1_clearOne 120 = .ok (.iload 5, 2) := by decide +kernel
theorem dX1_clearOne_122 : decode cX1_clearOne 122 = .ok (.istore 4, 2) := by decide +kernel
theorem dX1_clearOne_124 : decode cX1_clearOne 124 = .ok (.iload 9, 2) := by decide +kernel
theorem dX1_clearOne_126 : decode cX1_clearOne 126 = .ok (.istore 5, 2) := by decide +kernel
theorem dX1_clearOne_128 : decode cX1_clearOne 128 = .ok (.iinc 6 1, 3) := by decide +kernel
theorem dX1_clearOne_131 : decode cX1_clearOne 131 = .ok (.goto (-122), 3) := by decide +kernel
theorem dX1_clearOne_134 : decode cX1_clearOne 134 = .ok (.iload 4, 2) := by decide +kernel
theorem dX1_clearOne_136 : decode cX1_clearOne 136 = .ok (.ireturn, 1) := by decide +kernel
theorem dX1_multiply_0 : decode cX1_multiply 0 = .ok (.iconst 1, 1) := by decide +kernel
theorem dX1_multiply_1 : decode cX1_multiply 1 = .ok (.istore 4, 2) := by decide +kernel
theorem dX1_multiply_3 : decode cX1_multiply 3 = .ok (.iload_n 1, 1) := by decide +kernel
theorem dX1_multiply_4 : decode cX1_multiply 4 = .ok (.bipush 72, 2) := by decide +kernel
theorem dX1_multiply_6 : decode cX1_multiply 6 = .ok (.imul, 1) := by decide +kernel
theorem dX1_multiply_7 : decode cX1_multiply 7 = .ok (.iload_n 2, 1) := by decide +kernel
theorem dX1_multiply_8 : decode cX1_multiply 8 = .ok (.iadd, 1) := by decide +kernel
theorem dX1_multiply_9 : decode cX1_multiply 9 = .ok (.istore 5, 2) := by decide +kernel
theorem dX1_multiply_11 : decode cX1_multiply 11 = .ok (.iload 5, 2) := by decide +kernel
theorem dX1_multiply_13 : decode cX1_multiply 13 = .ok (.iload_n 1, 1) := by decide +kernel
theorem dX1_multiply_14 : decode cX1_multiply 14 = .ok (.bipush 72, 2) := by decide +kernel
theorem dX1_multiply_16 : decode cX1_multiply 16 = .ok (.imul, 1) := by decide +kernel
theorem dX1_multiply_17 : decode cX1_multiply 17 = .ok (.aload_n 0, 1) := by decide +kernel
theorem dX1_multiply_18 : decode cX1_multiply 18 = .ok (.getfield 31, 3) := by decide +kernel
theorem dX1_multiply_21 : decode cX1_multiply 21 = .ok (.iadd, 1) := by decide +kernel
theorem dX1_multiply_22 : decode cX1_multiply 22 = .ok (.if_icmp .ge 52, 3) := by decide +kernel
theorem dX1_multiply_25 : decode cX1_multiply 25 = .ok (.aload_n 0, 1) := by decide +kernel
theorem dX1_multiply_26 : decode cX1_multiply 26 = .ok (.getfield 25, 3) := by decide +kernel
theorem dX1_multiply_29 : decode cX1_multiply 29 = .ok (.iload 5, 2) := by decide +kernel
theorem dX1_multiply_31 : decode cX1_multiply 31 = .ok (.aload_n 0, 1) := by decide +kernel
theorem dX1_multiply_32 : decode cX1_multiply 32 = .ok (.getfield 25, 3) := by decide +kernel
theorem dX1_multiply_35 : decode cX1_multiply 35 = .ok (.iload 5, 2) := by decide +kernel
theorem dX1_multiply_37 : decode cX1_multiply 37 = .ok (.iaload, 1) := by decide +kernel
theorem dX1_multiply_38 : decode cX1_multiply 38 = .ok (.iload_n 3, 1) := by decide +kernel
theorem dX1_multiply_39 : decode cX1_multiply 39 = .ok (.imul, 1) := by decide +kernel
theorem dX1_multiply_40 : decode cX1_multiply 40 = .ok (.aload_n 0, 1) := by decide +kernel
theorem dX1_multiply_41 : decode cX1_multiply 41 = .ok (.getfield 9, 3) := by decide +kernel
theorem dX1_multiply_44 : decode cX1_multiply 44 = .ok (.irem, 1) := by decide +kernel
theorem dX1_multiply_45 : decode cX1_multiply 45 = .ok (.iastore, 1) := by decide +kernel
theorem dX1_multiply_46 : decode cX1_multiply 46 = .ok (.iload 4, 2) := by decide +kernel
theorem dX1_multiply_48 : decode cX1_multiply 48 = .ok (.ifCond .eq 17, 3) := by decide +kernel
theorem dX1_multiply_51 : decode cX1_multiply 51 = .ok (.aload_n 0, 1) := by decide +kernel
theorem dX1_multiply_52 : decode cX1_multiply 52 = .ok (.getfield 25, 3) := by decide +kernel
theorem dX1_multiply_55 : decode cX1_multiply 55 = .ok (.iload 5, 2) := by decide +kernel
theorem dX1_multiply_57 : decode cX1_multiply 57 = .ok (.iaload, 1) := by decide +kernel
theorem dX1_multiply_58 : decode cX1_multiply 58 = .ok (.ifCond .ne 7, 3) := by decide +kernel
theorem dX1_multiply_61 : decode cX1_multiply 61 = .ok (.iconst 1, 1) := by decide +kernel
theorem dX1_multiply_62 : decode cX1_multiply 62 = .ok (.goto 4, 3) := by decide +kernel
theorem dX1_multiply_65 : decode cX1_multiply 65 = .ok (.iconst 0, 1) := by decide +kernel
theorem dX1_multiply_66 : decode cX1_multiply 66 = .ok (.istore 4, 2) := by decide +kernel
theorem dX1_multiply_68 : decode cX1_multiply 68 = .ok (.iinc 5 1, 3) := by decide +kernel
theorem dX1_multiply_71 : decode cX1_multiply 71 = .ok (.goto (-60), 3) := by decide +kernel
theorem dX1_multiply_74 : decode cX1_multiply 74 = .ok (.iload 4, 2) := by decide +kernel
theorem dX1_multiply_76 : decode cX1_multiply 76 = .ok (.ireturn, 1) := by decide +kernel
theorem dX1_settle_0 : decode cX1_settle 0 = .ok (.aload_n 0, 1) := by decide +kernel
theorem dX1_settle_1 : decode cX1_settle 1 = .ok (.getfield 25, 3) := by decide +kernel
theorem dX1_settle_4 : decode cX1_settle 4 = .ok (.iload_n 1, 1) := by decide +kernel
theorem dX1_settle_5 : decode cX1_settle 5 = .ok (.bipush 72, 2) := by decide +kernel
theorem dX1_settle_7 : decode cX1_settle 7 = .ok (.imul, 1) := by decide +kernel
theorem dX1_settle_8 : decode cX1_settle 8 = .ok (.iload_n 2, 1) := by decide +kernel
theorem dX1_settle_9 : decode cX1_settle 9 = .ok (.iadd, 1) := by decide +kernel
theorem dX1_settle_10 : decode cX1_settle 10 = .ok (.aload_n 0, 1) := by decide +kernel
theorem dX1_settle_11 : decode cX1_settle 11 = .ok (.getfield 19, 3) := by decide +kernel
theorem dX1_settle_14 : decode cX1_settle 14 = .ok (.iload_n 2, 1) := by decide +kernel
theorem dX1_settle_15 : decode cX1_settle 15 = .ok (.bipush 72, 2) := by decide +kernel
theorem dX1_settle_17 : decode cX1_settle 17 = .ok (.imul, 1) := by decide +kernel
theorem dX1_settle_18 : decode cX1_settle 18 = .ok (.iload_n 2, 1) := by decide +kernel
theorem dX1_settle_19 : decode cX1_settle 19 = .ok (.iadd, 1) := by decide +kernel
theorem dX1_settle_20 : decode cX1_settle 20 = .ok (.aload_n 0, 1) := by decide +kernel
theorem dX1_settle_21 : decode cX1_settle 21 = .ok (.getfield 31, 3) := by decide +kernel
theorem dX1_settle_24 : decode cX1_settle 24 = .ok (.iload_n 2, 1) := by decide +kernel
theorem dX1_settle_25 : decode cX1_settle 25 = .ok (.isub, 1) := by decide +kernel
theorem dX1_settle_26 : decode cX1_settle 26 = .ok (.invokestatic 79, 3) := by decide +kernel
theorem dX1_settle_29 : decode cX1_settle 29 = .ok (.aload_n 0, 1) := by decide +kernel
theorem dX1_settle_30 : decode cX1_settle 30 = .ok (.getfield 15, 3) := by decide +kernel
theorem dX1_settle_33 : decode cX1_settle 33 = .ok (.iload_n 2, 1) := by decide +kernel
theorem dX1_settle_34 : decode cX1_settle 34 = .ok (.aload_n 0, 1) := by decide +kernel
theorem dX1_settle_35 : decode cX1_settle 35 = .ok (.getfield 25, 3) := by decide +kernel
theorem dX1_settle_38 : decode cX1_settle 38 = .ok (.iload_n 1, 1) := by decide +kernel
theorem dX1_settle_39 : decode cX1_settle 39 = .ok (.bipush 72, 2) := by decide +kernel
theorem dX1_settle_41 : decode cX1_settle 41 = .ok (.imul, 1) := by decide +kernel
theorem dX1_settle_42 : decode cX1_settle 42 = .ok (.iload_n 2, 1) := by decide +kernel
theorem dX1_settle_43 : decode cX1_settle 43 = .ok (.iadd, 1) := by decide +kernel
theorem dX1_settle_44 : decode cX1_settle 44 = .ok (.iaload, 1) := by decide +kernel
theorem dX1_settle_45 : decode cX1_settle 45 = .ok (.iastore, 1) := by decide +kernel
theorem dX1_settle_46 : decode cX1_settle 46 = .ok (.aload_n 0, 1) := by decide +kernel
theorem dX1_settle_47 : decode cX1_settle 47 = .ok (.getfield 9, 3) := by decide +kernel
theorem dX1_settle_50 : decode cX1_settle 50 = .ok (.iconst 1, 1) := by decide +kernel
theorem dX1_settle_51 : decode cX1_settle 51 = .ok (.aload_n 0, 1) := by decide +kernel
theorem dX1_settle_52 : decode cX1_settle 52 = .ok (.getfield 15, 3) := by decide +kernel
theorem dX1_settle_55 : decode cX1_settle 55 = .ok (.iload_n 2, 1) := by decide +kernel
theorem dX1_settle_56 : decode cX1_settle 56 = .ok (.iaload, 1) := by decide +kernel
theorem dX1_settle_57 : decode cX1_settle 57 = .ok (.invokestatic 70, 3) := by decide +kernel
theorem dX1_settle_60 : decode cX1_settle 60 = .ok (.idiv, 1) := by decide +kernel
theorem dX1_settle_61 : decode cX1_settle 61 = .ok (.istore_n 3, 1) := by decide +kernel
theorem dX1_settle_62 : decode cX1_settle 62 = .ok (.iload_n 3, 1) := by decide +kernel
theorem dX1_settle_63 : decode cX1_settle 63 = .ok (.aload_n 0, 1) := by decide +kernel
theorem dX1_settle_64 : decode cX1_settle 64 = .ok (.getfield 9, 3) := by decide +kernel
theorem dX1_settle_67 : decode cX1_settle 67 = .ok (.if_icmp .eq 13, 3) := by decide +kernel
theorem dX1_settle_70 : decode cX1_settle 70 = .ok (.aload_n 0, 1) := by decide +kernel
theorem dX1_settle_71 : decode cX1_settle 71 = .ok (.iload_n 1, 1) := by decide +kernel
theorem dX1_settle_72 : decode cX1_settle 72 = .ok (.iload_n 2, 1) := by decide +kernel
theorem dX1_settle_73 : decode cX1_settle 73 = .ok (.iload_n 3, 1) := by decide +kernel
theorem dX1_settle_74 : decode cX1_settle 74 = .ok (.invokevirtual 62, 3) := by decide +kernel
theorem dX1_settle_77 : decode cX1_settle 77 = .ok (.ifCond .eq 47, 3) := by decide +kernel
theorem dX1_settle_80 : decode cX1_settle 80 = .ok (.aload_n 0, 1) := by decide +kernel
theorem dX1_settle_81 : decode cX1_settle 81 = .ok (.dup, 1) := by decide +kernel
theorem dX1_settle_82 : decode cX1_settle 82 = .ok (.getfield 34, 3) := by decide +kernel
theorem dX1_settle_85 : decode cX1_settle 85 = .ok (.iconst 1, 1) := by decide +kernel
theorem dX1_settle_86 : decode cX1_settle 86 = .ok (.isub, 1) := by decide +kernel
theorem dX1_settle_87 : decode cX1_settle 87 = .ok (.putfield 34, 3) := by decide +kernel
theorem dX1_settle_90 : decode cX1_settle 90 = .ok (.iload_n 1, 1) := by decide +kernel
theorem dX1_settle_91 : decode cX1_settle 91 = .ok (.aload_n 0, 1) := by decide +kernel
theorem dX1_settle_92 : decode cX1_settle 92 = .ok (.getfield 34, 3) := by decide +kernel
theorem dX1_settle_95 : decode cX1_settle 95 = .ok (.if_icmp .eq 29, 3) := by decide +kernel
theorem dX1_settle_98 : decode cX1_settle 98 = .ok (.aload_n 0, 1) := by decide +kernel
theorem dX1_settle_99 : decode cX1_settle 99 = .ok (.getfield 25, 3) := by decide +kernel
theorem dX1_settle_102 : decode cX1_settle 102 = .ok (.aload_n 0, 1) := by decide +kernel
theorem dX1_settle_103 : decode cX1_settle 103 = .ok (.getfield 34, 3) := by decide +kernel
theorem dX1_settle_106 : decode cX1_settle 106 = .ok (.bipush 72, 2) := by decide +kernel
theorem dX1_settle_108 : decode cX1_settle 108 = .ok (.imul, 1) := by decide +kernel
theorem dX1_settle_109 : decode cX1_settle 109 = .ok (.aload_n 0, 1) := by decide +kernel
theorem dX1_settle_110 : decode cX1_settle 110 = .ok (.getfield 25, 3) := by decide +kernel
theorem dX1_settle_113 : decode cX1_settle 113 = .ok (.iload_n 1, 1) := by decide +kernel
theorem dX1_settle_114 : decode cX1_settle 114 = .ok (.bipush 72, 2) := by decide +kernel
theorem dX1_settle_116 : decode cX1_settle 116 = .ok (.imul, 1) := by decide +kernel
theorem dX1_settle_117 : decode cX1_settle 117 = .ok (.aload_n 0, 1) := by decide +kernel
theorem dX1_settle_118 : decode cX1_settle 118 = .ok (.getfield 31, 3) := by decide +kernel
theorem dX1_settle_121 : decode cX1_settle 121 = .ok (.invokestatic 79, 3) := by decide +kernel
theorem dX1_settle_124 : decode cX1_settle 124 = .ok (.return_, 1) := by decide +kernel
theorem dX1_addTimes_0 : decode cX1_addTimes 0 = .ok (.iload 5, 2) := by decide +kernel
theorem dX1_addTimes_2 : decode cX1_addTimes 2 = .ok (.istore 7, 2) := by decide +kernel
theorem dX1_addTimes_4 : decode cX1_addTimes 4 = .ok (.iload 7, 2) := by decide +kernel
theorem dX1_addTimes_6 : decode cX1_addTimes 6 = .ok (.aload_n 0, 1) := by decide +kernel
theorem dX1_addTimes_7 : decode cX1_addTimes 7 = .ok (.getfield 31, 3) := by decide +kernel
theorem dX1_addTimes_10 : decode cX1_addTimes 10 = .ok (.if_icmp .ge 46, 3) := by decide +kernel
theorem dX1_addTimes_13 : decode cX1_addTimes 13 = .ok (.aload_n 3, 1) := by decide +kernel
theorem dX1_addTimes_14 : decode cX1_addTimes 14 = .ok (.iload 4, 2) := by decide +kernel
theorem dX1_addTimes_16 : decode cX1_addTimes 16 = .ok (.iload 7, 2) := by decide +kernel
theorem dX1_addTimes_18 : decode cX1_addTimes 18 = .ok (.iadd, 1) := by decide +kernel
theorem dX1_addTimes_19 : decode cX1_addTimes 19 = .ok (.iaload, 1) := by decide +kernel
theorem dX1_addTimes_20 : decode cX1_addTimes 20 = .ok (.istore 8, 2) := by decide +kernel
theorem dX1_addTimes_22 : decode cX1_addTimes 22 = .ok (.iload 8, 2) := by decide +kernel
theorem dX1_addTimes_24 : decode cX1_addTimes 24 = .ok (.ifCond .eq 26, 3) := by decide +kernel
theorem dX1_addTimes_27 : decode cX1_addTimes 27 = .ok (.aload_n 1, 1) := by decide +kernel
theorem dX1_addTimes_28 : decode cX1_addTimes 28 = .ok (.iload_n 2, 1) := by decide +kernel
theorem dX1_addTimes_29 : decode cX1_addTimes 29 = .ok (.iload 7, 2) := by decide +kernel
theorem dX1_addTimes_31 : decode cX1_addTimes 31 = .ok (.iadd, 1) := by decide +kernel
theorem dX1_addTimes_32 : decode cX1_addTimes 32 = .ok (.aload_n 1, 1) := by decide +kernel
theorem dX1_addTimes_33 : decode cX1_addTimes 33 = .ok (.iload_n 2, 1) := by decide +kernel
theorem dX1_addTimes_34 : decode cX1_addTimes 34 = .ok (.iload 7, 2) := by decide +kernel
theorem dX1_addTimes_36 : decode cX1_addTimes 36 = .ok (.iadd, 1) := by decide +kernel
theorem dX1_addTimes_37 : decode cX1_addTimes 37 = .ok (.iaload, 1) := by decide +kernel
theorem dX1_addTimes_38 : decode cX1_addTimes 38 = .ok (.iload 6, 2) := by decide +kernel
theorem dX1_addTimes_40 : decode cX1_addTimes 40 = .ok (.iload 8, 2) := by decide +kernel
theorem dX1_addTimes_42 : decode cX1_addTimes 42 = .ok (.imul, 1) := by decide +kernel
theorem dX1_addTimes_43 : decode cX1_addTimes 43 = .ok (.iadd, 1) := by decide +kernel
theorem dX1_addTimes_44 : decode cX1_addTimes 44 = .ok (.aload_n 0, 1) := by decide +kernel
theorem dX1_addTimes_45 : decode cX1_addTimes 45 = .ok (.getfield 9, 3) := by decide +kernel
theorem dX1_addTimes_48 : decode cX1_addTimes 48 = .ok (.irem, 1) := by decide +kernel
theorem dX1_addTimes_49 : decode cX1_addTimes 49 = .ok (.iastore, 1) := by decide +kernel
theorem dX1_addTimes_50 : decode cX1_addTimes 50 = .ok (.iinc 7 1, 3) := by decide +kernel
theorem dX1_addTimes_53 : decode cX1_addTimes 53 = .ok (.goto (-49), 3) := by decide +kernel
theorem dX1_addTimes_56 : decode cX1_addTimes 56 = .ok (.return_, 1) := by decide +kernel
theorem dX1_reduce_0 : decode cX1_reduce 0 = .ok (.iload_n 3, 1) := by decide +kernel
theorem dX1_reduce_1 : decode cX1_reduce 1 = .ok (.istore 5, 2) := by decide +kernel
theorem dX1_reduce_3 : decode cX1_reduce 3 = .ok (.iload 5, 2) := by decide +kernel
theorem dX1_reduce_5 : decode cX1_reduce 5 = .ok (.iload 4, 2) := by decide +kernel
theorem dX1_reduce_7 : decode cX1_reduce 7 = .ok (.if_icmp .ge 69, 3) := by decide +kernel
theorem dX1_reduce_10 : decode cX1_reduce 10 = .ok (.aload_n 0, 1) := by decide +kernel
theorem dX1_reduce_11 : decode cX1_reduce 11 = .ok (.getfield 15, 3) := by decide +kernel
theorem dX1_reduce_14 : decode cX1_reduce 14 = .ok (.iload 5, 2) := by decide +kernel
theorem dX1_reduce_16 : decode cX1_reduce 16 = .ok (.iaload, 1) := by decide +kernel
theorem dX1_reduce_17 : decode cX1_reduce 17 = .ok (.istore 6, 2) := by decide +kernel
theorem dX1_reduce_19 : decode cX1_reduce 19 = .ok (.iload 6, 2) := by decide +kernel
theorem dX1_reduce_21 : decode cX1_reduce 21 = .ok (.ifCond .eq 49, 3) := by decide +kernel
theorem dX1_reduce_24 : decode cX1_reduce 24 = .ok (.aload_n 1, 1) := by decide +kernel
theorem dX1_reduce_25 : decode cX1_reduce 25 = .ok (.iload_n 2, 1) := by decide +kernel
theorem dX1_reduce_26 : decode cX1_reduce 26 = .ok (.iload 5, 2) := by decide +kernel
theorem dX1_reduce_28 : decode cX1_reduce 28 = .ok (.iadd, 1) := by decide +kernel
theorem dX1_reduce_29 : decode cX1_reduce 29 = .ok (.iaload, 1) := by decide +kernel
theorem dX1_reduce_30 : decode cX1_reduce 30 = .ok (.iload 6, 2) := by decide +kernel
theorem dX1_reduce_32 : decode cX1_reduce 32 = .ok (.if_icmp .lt 38, 3) := by decide +kernel
theorem dX1_reduce_35 : decode cX1_reduce 35 = .ok (.aload_n 1, 1) := by decide +kernel
theorem dX1_reduce_36 : decode cX1_reduce 36 = .ok (.iload_n 2, 1) := by decide +kernel
theorem dX1_reduce_37 : decode cX1_reduce 37 = .ok (.iload 5, 2) := by decide +kernel
theorem dX1_reduce_39 : decode cX1_reduce 39 = .ok (.iadd, 1) := by decide +kernel
theorem dX1_reduce_40 : decode cX1_reduce 40 = .ok (.iaload, 1) := by decide +kernel
theorem dX1_reduce_41 : decode cX1_reduce 41 = .ok (.iload 6, 2) := by decide +kernel
theorem dX1_reduce_43 : decode cX1_reduce 43 = .ok (.idiv, 1) := by decide +kernel
theorem dX1_reduce_44 : decode cX1_reduce 44 = .ok (.istore 7, 2) := by decide +kernel
theorem dX1_reduce_46 : decode cX1_reduce 46 = .ok (.aload_n 0, 1) := by decide +kernel
theorem dX1_reduce_47 : decode cX1_reduce 47 = .ok (.aload_n 1, 1) := by decide +kernel
theorem dX1_reduce_48 : decode cX1_reduce 48 = .ok (.iload_n 2, 1) := by decide +kernel
theorem dX1_reduce_49 : decode cX1_reduce 49 = .ok (.aload_n 0, 1) := by decide +kernel
theorem dX1_reduce_50 : decode cX1_reduce 50 = .ok (.getfield 19, 3) := by decide +kernel
theorem dX1_reduce_53 : decode cX1_reduce 53 = .ok (.iload 5, 2) := by decide +kernel
theorem dX1_reduce_55 : decode cX1_reduce 55 = .ok (.bipush 72, 2) := by decide +kernel
theorem dX1_reduce_57 : decode cX1_reduce 57 = .ok (.imul, 1) := by decide +kernel
theorem dX1_reduce_58 : decode cX1_reduce 58 = .ok (.iload 5, 2) := by decide +kernel
theorem dX1_reduce_60 : decode cX1_reduce 60 = .ok (.aload_n 0, 1) := by decide +kernel
theorem dX1_reduce_61 : decode cX1_reduce 61 = .ok (.getfield 9, 3) := by decide +kernel
theorem dX1_reduce_64 : decode cX1_reduce 64 = .ok (.iload 7, 2) := by decide +kernel
theorem dX1_reduce_66 : decode cX1_reduce 66 = .ok (.isub, 1) := by decide +kernel
theorem dX1_reduce_67 : decode cX1_reduce 67 = .ok (.invokevirtual 75, 3) := by decide +kernel
theorem dX1_reduce_70 : decode cX1_reduce 70 = .ok (.iinc 5 1, 3) := by decide +kernel
theorem dX1_reduce_73 : decode cX1_reduce 73 = .ok (.goto (-70), 3) := by decide +kernel
theorem dX1_reduce_76 : decode cX1_reduce 76 = .ok (.return_, 1) := by decide +kernel
theorem dX1_tailOf_0 : decode cX1_tailOf 0 = .ok (.iload_n 1, 1) := by decide +kernel
theorem dX1_tailOf_1 : decode cX1_tailOf 1 = .ok (.bipush 72, 2) := by decide +kernel
theorem dX1_tailOf_3 : decode cX1_tailOf 3 = .ok (.imul, 1) := by decide +kernel
theorem dX1_tailOf_4 : decode cX1_tailOf 4 = .ok (.aload_n 0, 1) := by decide +kernel
theorem dX1_tailOf_5 : decode cX1_tailOf 5 = .ok (.getfield 28, 3) := by decide +kernel
theorem dX1_tailOf_8 : decode cX1_tailOf 8 = .ok (.iadd, 1) := by decide +kernel
theorem dX1_tailOf_9 : decode cX1_tailOf 9 = .ok (.ireturn, 1) := by decide +kernel
theorem dX1_orderAt_0 : decode cX1_orderAt 0 = .ok (.aload_n 0, 1) := by decide +kernel
theorem dX1_orderAt_1 : decode cX1_orderAt 1 = .ok (.getfield 15, 3) := by decide +kernel
theorem dX1_orderAt_4 : decode cX1_orderAt 4 = .ok (.iload_n 1, 1) := by decide +kernel
theorem dX1_orderAt_5 : decode cX1_orderAt 5 = .ok (.iaload, 1) := by decide +kernel
theorem dX1_orderAt_6 : decode cX1_orderAt 6 = .ok (.ifCond .ne 7, 3) := by decide +kernel
theorem dX1_orderAt_9 : decode cX1_orderAt 9 = .ok (.iconst 1, 1) := by decide +kernel
theorem dX1_orderAt_10 : decode cX1_orderAt 10 = .ok (.goto 14, 3) := by decide +kernel
theorem dX1_orderAt_13 : decode cX1_orderAt 13 = .ok (.aload_n 0, 1) := by decide +kernel
theorem dX1_orderAt_14 : decode cX1_orderAt 14 = .ok (.getfield 9, 3) := by decide +kernel
theorem dX1_orderAt_17 : decode cX1_orderAt 17 = .ok (.aload_n 0, 1) := by decide +kernel
theorem dX1_orderAt_18 : decode cX1_orderAt 18 = .ok (.getfield 15, 3) := by decide +kernel
theorem dX1_orderAt_21 : decode cX1_orderAt 21 = .ok (.iload_n 1, 1) := by decide +kernel
theorem dX1_orderAt_22 : decode cX1_orderAt 22 = .ok (.iaload, 1) := by decide +kernel
theorem dX1_orderAt_23 : decode cX1_orderAt 23 = .ok (.idiv, 1) := by decide +kernel
theorem dX1_orderAt_24 : decode cX1_orderAt 24 = .ok (.ireturn, 1) := by decide +kernel
theorem dX1_addRow_0 : decode cX1_addRow 0 = .ok (.aload_n 0, 1) := by decide +kernel
theorem dX1_addRow_1 : decode cX1_addRow 1 = .ok (.aload_n 1, 1) := by decide +kernel
theorem dX1_addRow_2 : decode cX1_addRow 2 = .ok (.iconst 0, 1) := by decide +kernel
theorem dX1_addRow_3 : decode cX1_addRow 3 = .ok (.aload_n 0, 1) := by decide +kernel
theorem dX1_addRow_4 : decode cX1_addRow 4 = .ok (.getfield 19, 3) := by decide +kernel
theorem dX1_addRow_7 : decode cX1_addRow 7 = .ok (.iload_n 2, 1) := by decide +kernel
theorem dX1_addRow_8 : decode cX1_addRow 8 = .ok (.bipush 72, 2) := by decide +kernel
theorem dX1_addRow_10 : decode cX1_addRow 10 = .ok (.imul, 1) := by decide +kernel
theorem dX1_addRow_11 : decode cX1_addRow 11 = .ok (.iload_n 2, 1) := by decide +kernel
theorem dX1_addRow_12 : decode cX1_addRow 12 = .ok (.iconst 1, 1) := by decide +kernel
theorem dX1_addRow_13 : decode cX1_addRow 13 = .ok (.invokevirtual 75, 3) := by decide +kernel
theorem dX1_addRow_16 : decode cX1_addRow 16 = .ok (.return_, 1) := by decide +kernel
theorem dX1_reduceHead_0 : decode cX1_reduceHead 0 = .ok (.iconst 0, 1) := by decide +kernel
theorem dX1_reduceHead_1 : decode cX1_reduceHead 1 = .ok (.istore_n 2, 1) := by decide +kernel
theorem dX1_reduceHead_2 : decode cX1_reduceHead 2 = .ok (.iload_n 2, 1) := by decide +kernel
theorem dX1_reduceHead_3 : decode cX1_reduceHead 3 = .ok (.aload_n 0, 1) := by decide +kernel
theorem dX1_reduceHead_4 : decode cX1_reduceHead 4 = .ok (.getfield 28, 3) := by decide +kernel
theorem dX1_reduceHead_7 : decode cX1_reduceHead 7 = .ok (.if_icmp .ge 33, 3) := by decide +kernel
theorem dX1_reduceHead_10 : decode cX1_reduceHead 10 = .ok (.aload_n 1, 1) := by decide +kernel
theorem dX1_reduceHead_11 : decode cX1_reduceHead 11 = .ok (.iload_n 2, 1) := by decide +kernel
theorem dX1_reduceHead_12 : decode cX1_reduceHead 12 = .ok (.iaload, 1) := by decide +kernel
theorem dX1_reduceHead_13 : decode cX1_reduceHead 13 = .ok (.ifCond .eq 21, 3) := by decide +kernel
theorem dX1_reduceHead_16 : decode cX1_reduceHead 16 = .ok (.aload_n 0, 1) := by decide +kernel
theorem dX1_reduceHead_17 : decode cX1_reduceHead 17 = .ok (.aload_n 1, 1) := by decide +kernel
theorem dX1_reduceHead_18 : decode cX1_reduceHead 18 = .ok (.iconst 0, 1) := by decide +kernel
theorem dX1_reduceHead_19 : decode cX1_reduceHead 19 = .ok (.iload_n 2, 1) := by decide +kernel
theorem dX1_reduceHead_20 : decode cX1_reduceHead 20 = .ok (.iload_n 2, 1) := by decide +kernel
theorem dX1_reduceHead_21 : decode cX1_reduceHead 21 = .ok (.iconst 1, 1) := by decide +kernel
theorem dX1_reduceHead_22 : decode cX1_reduceHead 22 = .ok (.iadd, 1) := by decide +kernel
theorem dX1_reduceHead_23 : decode cX1_reduceHead 23 = .ok (.invokevirtual 58, 3) := by decide +kernel
theorem dX1_reduceHead_26 : decode cX1_reduceHead 26 = .ok (.aload_n 1, 1) := by decide +kernel
theorem dX1_reduceHead_27 : decode cX1_reduceHead 27 = .ok (.iload_n 2, 1) := by decide +kernel
theorem dX1_reduceHead_28 : decode cX1_reduceHead 28 = .ok (.iaload, 1) := by decide +kernel
theorem dX1_reduceHead_29 : decode cX1_reduceHead 29 = .ok (.ifCond .eq 5, 3) := by decide +kernel
theorem dX1_reduceHead_32 : decode cX1_reduceHead 32 = .ok (.iconst 0, 1) := by decide +kernel
theorem dX1_reduceHead_33 : decode cX1_reduceHead 33 = .ok (.ireturn, 1) := by decide +kernel
theorem dX1_reduceHead_34 : decode cX1_reduceHead 34 = .ok (.iinc 2 1, 3) := by decide +kernel
theorem dX1_reduceHead_37 : decode cX1_reduceHead 37 = .ok (.goto (-35), 3) := by decide +kernel
theorem dX1_reduceHead_40 : decode cX1_reduceHead 40 = .ok (.iconst 1, 1) := by decide +kernel
theorem dX1_reduceHead_41 : decode cX1_reduceHead 41 = .ok (.ireturn, 1) := by decide +kernel
theorem dX1_stepTail_0 : decode cX1_stepTail 0 = .ok (.aload_n 0, 1) := by decide +kernel
theorem dX1_stepTail_1 : decode cX1_stepTail 1 = .ok (.getfield 31, 3) := by decide +kernel
theorem dX1_stepTail_4 : decode cX1_stepTail 4 = .ok (.iconst 1, 1) := by decide +kernel
theorem dX1_stepTail_5 : decode cX1_stepTail 5 = .ok (.isub, 1) := by decide +kernel
theorem dX1_stepTail_6 : decode cX1_stepTail 6 = .ok (.istore_n 2, 1) := by decide +kernel
theorem dX1_stepTail_7 : decode cX1_stepTail 7 = .ok (.iload_n 2, 1) := by decide +kernel
theorem dX1_stepTail_8 : decode cX1_stepTail 8 = .ok (.aload_n 0, 1) := by decide +kernel
theorem dX1_stepTail_9 : decode cX1_stepTail 9 = .ok (.getfield 28, 3) := by decide +kernel
theorem dX1_stepTail_12 : decode cX1_stepTail 12 = .ok (.if_icmp .lt 56, 3) := by decide +kernel
theorem dX1_stepTail_15 : decode cX1_stepTail 15 = .ok (.aload_n 0, 1) := by decide +kernel
theorem dX1_stepTail_16 : decode cX1_stepTail 16 = .ok (.getfield 15, 3) := by decide +kernel
theorem dX1_stepTail_19 : decode cX1_stepTail 19 = .ok (.iload_n 2, 1) := by decide +kernel
theorem dX1_stepTail_20 : decode cX1_stepTail 20 = .ok (.iaload, 1) := by decide +kernel
theorem dX1_stepTail_21 : decode cX1_stepTail 21 = .ok (.ifCond .eq 41, 3) := by decide +kernel
theorem dX1_stepTail_24 : decode cX1_stepTail 24 = .ok (.aload_n 1, 1) := by decide +kernel
theorem dX1_stepTail_25 : decode cX1_stepTail 25 = .ok (.iload_n 2, 1) := by decide +kernel
theorem dX1_stepTail_26 : decode cX1_stepTail 26 = .ok (.iaload, 1) := by decide +kernel
theorem dX1_stepTail_27 : decode cX1_stepTail 27 = .ok (.aload_n 0, 1) := by decide +kernel
theorem dX1_stepTail_28 : decode cX1_stepTail 28 = .ok (.getfield 15, 3) := by decide +kernel
theorem dX1_stepTail_31 : decode cX1_stepTail 31 = .ok (.iload_n 2, 1) := by decide +kernel
theorem dX1_stepTail_32 : decode cX1_stepTail 32 = .ok (.iaload, 1) := by decide +kernel
theorem dX1_stepTail_33 : decode cX1_stepTail 33 = .ok (.iadd, 1) := by decide +kernel
theorem dX1_stepTail_34 : decode cX1_stepTail 34 = .ok (.aload_n 0, 1) := by decide +kernel
theorem dX1_stepTail_35 : decode cX1_stepTail 35 = .ok (.getfield 9, 3) := by decide +kernel
theorem dX1_stepTail_38 : decode cX1_stepTail 38 = .ok (.if_icmp .ge 24, 3) := by decide +kernel
theorem dX1_stepTail_41 : decode cX1_stepTail 41 = .ok (.aload_n 0, 1) := by decide +kernel
theorem dX1_stepTail_42 : decode cX1_stepTail 42 = .ok (.aload_n 1, 1) := by decide +kernel
theorem dX1_stepTail_43 : decode cX1_stepTail 43 = .ok (.iload_n 2, 1) := by decide +kernel
theorem dX1_stepTail_44 : decode cX1_stepTail 44 = .ok (.invokevirtual 85, 3) := by decide +kernel
theorem dX1_stepTail_47 : decode cX1_stepTail 47 = .ok (.aload_n 0, 1) := by decide +kernel
theorem dX1_stepTail_48 : decode cX1_stepTail 48 = .ok (.aload_n 1, 1) := by decide +kernel
theorem dX1_stepTail_49 : decode cX1_stepTail 49 = .ok (.iconst 0, 1) := by decide +kernel
theorem dX1_stepTail_50 : decode cX1_stepTail 50 = .ok (.iload_n 2, 1) := by decide +kernel
theorem dX1_stepTail_51 : decode cX1_stepTail 51 = .ok (.iconst 1, 1) := by decide +kernel
theorem dX1_stepTail_52 : decode cX1_stepTail 52 = .ok (.iadd, 1) := by decide +kernel
theorem dX1_stepTail_53 : decode cX1_stepTail 53 = .ok (.aload_n 0, 1) := by decide +kernel
theorem dX1_stepTail_54 : decode cX1_stepTail 54 = .ok (.getfield 31, 3) := by decide +kernel
theorem dX1_stepTail_57 : decode cX1_stepTail 57 = .ok (.invokevirtual 58, 3) := by decide +kernel
theorem dX1_stepTail_60 : decode cX1_stepTail 60 = .ok (.iconst 1, 1) := by decide +kernel
theorem dX1_stepTail_61 : decode cX1_stepTail 61 = .ok (.ireturn, 1) := by decide +kernel
theorem dX1_stepTail_62 : decode cX1_stepTail 62 = .ok (.iinc 2 (-1), 3) := by decide +kernel
theorem dX1_stepTail_65 : decode cX1_stepTail 65 = .ok (.goto (-58), 3) := by decide +kernel
theorem dX1_stepTail_68 : decode cX1_stepTail 68 = .ok (.iconst 0, 1) := by decide +kernel
theorem dX1_stepTail_69 : decode cX1_stepTail 69 = .ok (.ireturn, 1) := by decide +kernel
theorem dX1_countElements_0 : decode cX1_countElements 0 = .ok (.iconst 0, 1) := by decide +kernel
theorem dX1_countElements_1 : decode cX1_countElements 1 = .ok (.istore_n 1, 1) := by decide +kernel
theorem dX1_countElements_2 : decode cX1_countElements 2 = .ok (.aload_n 0, 1) := by decide +kernel
theorem dX1_countElements_3 : decode cX1_countElements 3 = .ok (.getfield 28, 3) := by decide +kernel
theorem dX1_countElements_6 : decode cX1_countElements 6 = .ok (.istore_n 2, 1) := by decide +kernel
theorem dX1_countElements_7 : decode cX1_countElements 7 = .ok (.iload_n 2, 1) := by decide +kernel
theorem dX1_countElements_8 : decode cX1_countElements 8 = .ok (.aload_n 0, 1) := by decide +kernel
theorem dX1_countElements_9 : decode cX1_countElements 9 = .ok (.getfield 31, 3) := by decide +kernel
theorem dX1_countElements_12 : decode cX1_countElements 12 = .ok (.if_icmp .ge 21, 3) := by decide +kernel
theorem dX1_countElements_15 : decode cX1_countElements 15 = .ok (.aload_n 0, 1) := by decide +kernel
theorem dX1_countElements_16 : decode cX1_countElements 16 = .ok (.getfield 15, 3) := by decide +kernel
theorem dX1_countElements_19 : decode cX1_countElements 19 = .ok (.iload_n 2, 1) := by decide +kernel
theorem dX1_countElements_20 : decode cX1_countElements 20 = .ok (.iaload, 1) := by decide +kernel
theorem dX1_countElements_21 : decode cX1_countElements 21 = .ok (.ifCond .eq 6, 3) := by decide +kernel
theorem dX1_countElements_24 : decode cX1_countElements 24 = .ok (.iinc 1 1, 3) := by decide +kernel
theorem dX1_countElements_27 : decode cX1_countElements 27 = .ok (.iinc 2 1, 3) := by decide +kernel
theorem dX1_countElements_30 : decode cX1_countElements 30 = .ok (.goto (-23), 3) := by decide +kernel
theorem dX1_countElements_33 : decode cX1_countElements 33 = .ok (.iload_n 1, 1) := by decide +kernel
theorem dX1_countElements_34 : decode cX1_countElements 34 = .ok (.ireturn, 1) := by decide +kernel
theorem dX1_columnOfElement_0 : decode cX1_columnOfElement 0 = .ok (.iconst 0, 1) := by decide +kernel
theorem dX1_columnOfElement_1 : decode cX1_columnOfElement 1 = .ok (.istore_n 2, 1) := by decide +kernel
theorem dX1_columnOfElement_2 : decode cX1_columnOfElement 2 = .ok (.aload_n 0, 1) := by decide +kernel
theorem dX1_columnOfElement_3 : decode cX1_columnOfElement 3 = .ok (.getfield 28, 3) := by decide +kernel
theorem dX1_columnOfElement_6 : decode cX1_columnOfElement 6 = .ok (.istore_n 3, 1) := by decide +kernel
theorem dX1_columnOfElement_7 : decode cX1_columnOfElement 7 = .ok (.iload_n 3, 1) := by decide +kernel
theorem dX1_columnOfElement_8 : decode cX1_columnOfElement 8 = .ok (.aload_n 0, 1) := by decide +kernel
theorem dX1_columnOfElement_9 : decode cX1_columnOfElement 9 = .ok (.getfield 31, 3) := by decide +kernel
theorem dX1_columnOfElement_12 : decode cX1_columnOfElement 12 = .ok (.if_icmp .ge 28, 3) := by decide +kernel
theorem dX1_columnOfElement_15 : decode cX1_columnOfElement 15 = .ok (.aload_n 0, 1) := by decide +kernel
theorem dX1_columnOfElement_16 : decode cX1_columnOfElement 16 = .ok (.getfield 15, 3) := by decide +kernel
theorem dX1_columnOfElement_19 : decode cX1_columnOfElement 19 = .ok (.iload_n 3, 1) := by decide +kernel
theorem dX1_columnOfElement_20 : decode cX1_columnOfElement 20 = .ok (.iaload, 1) := by decide +kernel
theorem dX1_columnOfElement_21 : decode cX1_columnOfElement 21 = .ok (.ifCond .eq 13, 3) := by decide +kernel
theorem dX1_columnOfElement_24 : decode cX1_columnOfElement 24 = .ok (.iload_n 2, 1) := by decide +kernel
theorem dX1_columnOfElement_25 : decode cX1_columnOfElement 25 = .ok (.iload_n 1, 1) := by decide +kernel
theorem dX1_columnOfElement_26 : decode cX1_columnOfElement 26 = .ok (.if_icmp .ne 5, 3) := by decide +kernel
theorem dX1_columnOfElement_29 : decode cX1_columnOfElement 29 = .ok (.iload_n 3, 1) := by decide +kernel
theorem dX1_columnOfElement_30 : decode cX1_columnOfElement 30 = .ok (.ireturn, 1) := by decide +kernel
theorem dX1_columnOfElement_31 : decode cX1_columnOfElement 31 = .ok (.iinc 2 1, 3) := by decide +kernel
theorem dX1_columnOfElement_34 : decode cX1_columnOfElement 34 = .ok (.iinc 3 1, 3) := by decide +kernel
theorem dX1_columnOfElement_37 : decode cX1_columnOfElement 37 = .ok (.goto (-30), 3) := by decide +kernel
theorem dX1_columnOfElement_40 : decode cX1_columnOfElement 40 = .ok (.iconst (-1), 1) := by decide +kernel
theorem dX1_columnOfElement_41 : decode cX1_columnOfElement 41 = .ok (.ireturn, 1) := by decide +kernel
theorem dX2_init_0 : decode cX2_init 0 = .ok (.aload_n 0, 1) := by decide +kernel
theorem dX2_init_1 : decode cX2_init 1 = .ok (.invokespecial 3, 3) := by decide +kernel
theorem dX2_init_4 : decode cX2_init 4 = .ok (.aload_n 0, 1) := by decide +kernel
theorem dX2_init_5 : decode cX2_init 5 = .ok (.bipush 60, 2) := by decide +kernel
theorem dX2_init_7 : decode cX2_init 7 = .ok (.newarray .int, 2) := by decide +kernel
theorem dX2_init_9 : decode cX2_init 9 = .ok (.putfield 11, 3) := by decide +kernel
theorem dX2_init_12 : decode cX2_init 12 = .ok (.aload_n 0, 1) := by decide +kernel
theorem dX2_init_13 : decode cX2_init 13 = .ok (.bipush 60, 2) := by decide +kernel
theorem dX2_init_15 : decode cX2_init 15 = .ok (.newarray .int, 2) := by decide +kernel
theorem dX2_init_17 : decode cX2_init 17 = .ok (.putfield 15, 3) := by decide +kernel
theorem dX2_init_20 : decode cX2_init 20 = .ok (.aload_n 0, 1) := by decide +kernel
theorem dX2_init_21 : decode cX2_init 21 = .ok (.sipush 2160, 3) := by decide +kernel
theorem dX2_init_24 : decode cX2_init 24 = .ok (.newarray .int, 2) := by decide +kernel
theorem dX2_init_26 : decode cX2_init 26 = .ok (.putfield 18, 3) := by decide +kernel
theorem dX2_init_29 : decode cX2_init 29 = .ok (.return_, 1) := by decide +kernel
theorem dX2_note_0 : decode cX2_note 0 = .ok (.aload_n 0, 1) := by decide +kernel
theorem dX2_note_1 : decode cX2_note 1 = .ok (.getfield 11, 3) := by decide +kernel
theorem dX2_note_4 : decode cX2_note 4 = .ok (.aload_n 0, 1) := by decide +kernel
theorem dX2_note_5 : decode cX2_note 5 = .ok (.getfield 21, 3) := by decide +kernel
theorem dX2_note_8 : decode cX2_note 8 = .ok (.iload_n 2, 1) := by decide +kernel
theorem dX2_note_9 : decode cX2_note 9 = .ok (.iastore, 1) := by decide +kernel
theorem dX2_note_10 : decode cX2_note 10 = .ok (.aload_n 0, 1) := by decide +kernel
theorem dX2_note_11 : decode cX2_note 11 = .ok (.getfield 15, 3) := by decide +kernel
theorem dX2_note_14 : decode cX2_note 14 = .ok (.aload_n 0, 1) := by decide +kernel
theorem dX2_note_15 : decode cX2_note 15 = .ok (.getfield 21, 3) := by decide +kernel
theorem dX2_note_18 : decode cX2_note 18 = .ok (.iload_n 3, 1) := by decide +kernel
theorem dX2_note_19 : decode cX2_note 19 = .ok (.iastore, 1) := by decide +kernel
theorem dX2_note_20 : decode cX2_note 20 = .ok (.iload_n 2, 1) := by decide +kernel
theorem dX2_note_21 : decode cX2_note 21 = .ok (.iconst 3, 1) := by decide +kernel
theorem dX2_note_22 : decode cX2_note 22 = .ok (.if_icmp .ne 27, 3) := by decide +kernel
theorem dX2_note_25 : decode cX2_note 25 = .ok (.aload_n 1, 1) := by decide +kernel
theorem dX2_note_26 : decode cX2_note 26 = .ok (.getfield 25, 3) := by decide +kernel
theorem dX2_note_29 : decode cX2_note 29 = .ok (.iconst 0, 1) := by decide +kernel
theorem dX2_note_30 : decode cX2_note 30 = .ok (.aload_n 0, 1) := by decide +kernel
theorem dX2_note_31 : decode cX2_note 31 = .ok (.getfield 18, 3) := by decide +kernel
theorem dX2_note_34 : decode cX2_note 34 = .ok (.aload_n 0, 1) := by decide +kernel
theorem dX2_note_35 : decode cX2_note 35 = .ok (.getfield 21, 3) := by decide +kernel
theorem dX2_note_38 : decode cX2_note 38 = .ok (.bipush 36, 2) := by decide +kernel
theorem dX2_note_40 : decode cX2_note 40 = .ok (.imul, 1) := by decide +kernel
theorem dX2_note_41 : decode cX2_note 41 = .ok (.bipush 36, 2) := by decide +kernel
theorem dX2_note_43 : decode cX2_note 43 = .ok (.invokestatic 30, 3) := by decide +kernel
theorem dX2_note_46 : decode cX2_note 46 = .ok (.goto 58, 3) := by decide +kernel
theorem dX2_note_49 : decode cX2_note 49 = .ok (.iload_n 2, 1) := by decide +kernel
theorem dX2_note_50 : decode cX2_note 50 = .ok (.iconst 1, 1) := by decide +kernel
theorem dX2_note_51 : decode cX2_note 51 = .ok (.if_icmp .ne 30, 3) := by decide +kernel
theorem dX2_note_54 : decode cX2_note 54 = .ok (.aload_n 1, 1) := by decide +kernel
theorem dX2_note_55 : decode cX2_note 55 = .ok (.getfield 36, 3) := by decide +kernel
theorem dX2_note_58 : decode cX2_note 58 = .ok (.iload_n 3, 1) := by decide +kernel
theorem dX2_note_59 : decode cX2_note 59 = .ok (.bipush 36, 2) := by decide +kernel
theorem dX2_note_61 : decode cX2_note 61 = .ok (.imul, 1) := by decide +kernel
theorem dX2_note_62 : decode cX2_note 62 = .ok (.aload_n 0, 1) := by decide +kernel
theorem dX2_note_63 : decode cX2_note 63 = .ok (.getfield 18, 3) := by decide +kernel
theorem dX2_note_66 : decode cX2_note 66 = .ok (.aload_n 0, 1) := by decide +kernel
theorem dX2_note_67 : decode cX2_note 67 = .ok (.getfield 21, 3) := by decide +kernel
theorem dX2_note_70 : decode cX2_note 70 = .ok (.bipush 36, 2) := by decide +kernel
theorem dX2_note_72 : decode cX2_note 72 = .ok (.imul, 1) := by decide +kernel
theorem dX2_note_73 : decode cX2_note 73 = .ok (.bipush 36, 2) := by decide +kernel
theorem dX2_note_75 : decode cX2_note 75 = .ok (.invokestatic 30, 3) := by decide +kernel
theorem dX2_note_78 : decode cX2_note 78 = .ok (.goto 26, 3) := by decide +kernel
theorem dX2_note_81 : decode cX2_note 81 = .ok (.iload_n 2, 1) := by decide +kernel
theorem dX2_note_82 : decode cX2_note 82 = .ok (.iconst 2, 1) := by decide +kernel
theorem dX2_note_83 : decode cX2_note 83 = .ok (.if_icmp .ne 21, 3) := by decide +kernel
theorem dX2_note_86 : decode cX2_note 86 = .ok (.aload_n 0, 1) := by decide +kernel
theorem dX2_note_87 : decode cX2_note 87 = .ok (.getfield 18, 3) := by decide +kernel
theorem dX2_note_90 : decode cX2_note 90 = .ok (.aload_n 0, 1) := by decide +kernel
theorem dX2_note_91 : decode cX2_note 91 = .ok (.getfield 21, 3) := by decide +kernel
theorem dX2_note_94 : decode cX2_note 94 = .ok (.bipush 36, 2) := by decide +kernel
theorem dX2_note_96 : decode cX2_note 96 = .ok (.imul, 1) := by decide +kernel
theorem dX2_note_97 : decode cX2_note 97 = .ok (.aload_n 1, 1) := by decide +kernel
theorem dX2_note_98 : decode cX2_note 98 = .ok (.getfield 39, 3) := by decide +kernel
theorem dX2_note_101 : decode cX2_note 101 = .ok (.iload_n 3, 1) := by decide +kernel
theorem dX2_note_102 : decode cX2_note 102 = .ok (.iaload, 1) := by decide +kernel
theorem dX2_note_103 : decode cX2_note 103 = .ok (.iastore, 1) := by decide +kernel
theorem dX2_note_104 : decode cX2_note 104 = .ok (.aload_n 0, 1) := by decide +kernel
theorem dX2_note_105 : decode cX2_note 105 = .ok (.aload_n 0, 1) := by decide +kernel
theorem dX2_note_106 : decode cX2_note 106 = .ok (.getfield 21, 3) := by decide +kernel
theorem dX2_note_109 : decode cX2_note 109 = .ok (.iconst 1, 1) := by decide +kernel
theorem dX2_note_110 : decode cX2_note 110 = .ok (.iadd, 1) := by decide +kernel
theorem dX2_note_111 : decode cX2_note 111 = .ok (.bipush 60, 2) := by decide +kernel
theorem dX2_note_113 : decode cX2_note 113 = .ok (.irem, 1) := by decide +kernel
theorem dX2_note_114 : decode cX2_note 114 = .ok (.putfield 21, 3) := by decide +kernel
theorem dX2_note_117 : decode cX2_note 117 = .ok (.aload_n 0, 1) := by decide +kernel
theorem dX2_note_118 : decode cX2_note 118 = .ok (.aload_n 0, 1) := by decide +kernel
theorem dX2_note_119 : decode cX2_note 119 = .ok (.getfield 42, 3) := by decide +kernel
theorem dX2_note_122 : decode cX2_note 122 = .ok (.iconst 1, 1) := by decide +kernel
theorem dX2_note_123 : decode cX2_note 123 = .ok (.iadd, 1) := by decide +kernel
theorem dX2_note_124 : decode cX2_note 124 = .ok (.bipush 60, 2) := by decide +kernel
theorem dX2_note_126 : decode cX2_note 126 = .ok (.invokestatic 45, 3) := by decide +kernel
theorem dX2_note_129 : decode cX2_note 129 = .ok (.putfield 42, 3) := by decide +kernel
theorem dX2_note_132 : decode cX2_note 132 = .ok (.return_, 1) := by decide +kernel
theorem dX2_takeBack_0 : decode cX2_takeBack 0 = .ok (.aload_n 0, 1) := by decide +kernel
theorem dX2_takeBack_1 : decode cX2_takeBack 1 = .ok (.aload_n 0, 1) := by decide +kernel
theorem dX2_takeBack_2 : decode cX2_takeBack 2 = .ok (.getfield 21, 3) := by decide +kernel
theorem dX2_takeBack_5 : decode cX2_takeBack 5 = .ok (.bipush 60, 2) := by decide +kernel
theorem dX2_takeBack_7 : decode cX2_takeBack 7 = .ok (.iadd, 1) := by decide +kernel
theorem dX2_takeBack_8 : decode cX2_takeBack 8 = .ok (.iconst 1, 1) := by decide +kernel
theorem dX2_takeBack_9 : decode cX2_takeBack 9 = .ok (.isub, 1) := by decide +kernel
theorem dX2_takeBack_10 : decode cX2_takeBack 10 = .ok (.bipush 60, 2) := by decide +kernel
theorem dX2_takeBack_12 : decode cX2_takeBack 12 = .ok (.irem, 1) := by decide +kernel
theorem dX2_takeBack_13 : decode cX2_takeBack 13 = .ok (.putfield 21, 3) := by decide +kernel
theorem dX2_takeBack_16 : decode cX2_takeBack 16 = .ok (.aload_n 0, 1) := by decide +kernel
theorem dX2_takeBack_17 : decode cX2_takeBack 17 = .ok (.dup, 1) := by decide +kernel
theorem dX2_takeBack_18 : decode cX2_takeBack 18 = .ok (.getfield 42, 3) := by decide +kernel
theorem dX2_takeBack_21 : decode cX2_takeBack 21 = .ok (.iconst 1, 1) := by decide +kernel
theorem dX2_takeBack_22 : decode cX2_takeBack 22 = .ok (.isub, 1) := by decide +kernel
theorem dX2_takeBack_23 : decode cX2_takeBack 23 = .ok (.putfield 42, 3) := by decide +kernel
theorem dX2_takeBack_26 : decode cX2_takeBack 26 = .ok (.aload_n 0, 1) := by decide +kernel
theorem dX2_takeBack_27 : decode cX2_takeBack 27 = .ok (.getfield 11, 3) := by decide +kernel
theorem dX2_takeBack_30 : decode cX2_takeBack 30 = .ok (.aload_n 0, 1) := by decide +kernel
theorem dX2_takeBack_31 : decode cX2_takeBack 31 = .ok (.getfield 21, 3) := by decide +kernel
theorem dX2_takeBack_34 : decode cX2_takeBack 34 = .ok (.iaload, 1) := by decide +kernel
theorem dX2_takeBack_35 : decode cX2_takeBack 35 = .ok (.iconst 3, 1) := by decide +kernel
theorem dX2_takeBack_36 : decode cX2_takeBack 36 = .ok (.if_icmp .ne 27, 3) := by decide +kernel
theorem dX2_takeBack_39 : decode cX2_takeBack 39 = .ok (.aload_n 0, 1) := by decide +kernel
theorem dX2_takeBack_40 : decode cX2_takeBack 40 = .ok (.getfield 18, 3) := by decide +kernel
theorem dX2_takeBack_43 : decode cX2_takeBack 43 = .ok (.aload_n 0, 1) := by decide +kernel
theorem dX2_takeBack_44 : decode cX2_takeBack 44 = .ok (.getfield 21, 3) := by decide +kernel
theorem dX2_takeBack_47 : decode cX2_takeBack 47 = .ok (.bipush 36, 2) := by decide +kernel
theorem dX2_takeBack_49 : decode cX2_takeBack 49 = .ok (.imul, 1) := by decide +kernel
theorem dX2_takeBack_50 : decode cX2_takeBack 50 = .ok (.aload_n 1, 1) := by decide +kernel
theorem dX2_takeBack_51 : decode cX2_takeBack 51 = .ok (.getfield 25, 3) := by decide +kernel
theorem dX2_takeBack_54 : decode cX2_takeBack 54 = .ok (.iconst 0, 1) := by decide +kernel
theorem dX2_takeBack_55 : decode cX2_takeBack 55 = .ok (.bipush 36, 2) := by decide +kernel
theorem dX2_takeBack_57 : decode cX2_takeBack 57 = .ok (.invokestatic 30, 3) := by decide +kernel
theorem dX2_takeBack_60 : decode cX2_takeBack 60 = .ok (.goto 107, 3) := by decide +kernel
theorem dX2_takeBack_63 : decode cX2_takeBack 63 = .ok (.aload_n 0, 1) := by decide +kernel
theorem dX2_takeBack_64 : decode cX2_takeBack 64 = .ok (.getfield 11, 3) := by decide +kernel
theorem dX2_takeBack_67 : decode cX2_takeBack 67 = .ok (.aload_n 0, 1) := by decide +kernel
theorem dX2_takeBack_68 : decode cX2_takeBack 68 = .ok (.getfield 21, 3) := by decide +kernel
theorem dX2_takeBack_71 : decode cX2_takeBack 71 = .ok (.iaload, 1) := by decide +kernel
theorem dX2_takeBack_72 : decode cX2_takeBack 72 = .ok (.iconst 1, 1) := by decide +kernel
theorem dX2_takeBack_73 : decode cX2_takeBack 73 = .ok (.if_icmp .ne 48, 3) := by decide +kernel
theorem dX2_takeBack_76 : decode cX2_takeBack 76 = .ok (.aload_n 0, 1) := by decide +kernel
theorem dX2_takeBack_77 : decode cX2_takeBack 77 = .ok (.getfield 18, 3) := by decide +kernel
theorem dX2_takeBack_80 : decode cX2_takeBack 80 = .ok (.aload_n 0, 1) := by decide +kernel
theorem dX2_takeBack_81 : decode cX2_takeBack 81 = .ok (.getfield 21, 3) := by decide +kernel
theorem dX2_takeBack_84 : decode cX2_takeBack 84 = .ok (.bipush 36, 2) := by decide +kernel
theorem dX2_takeBack_86 : decode cX2_takeBack 86 = .ok (.imul, 1) := by decide +kernel
theorem dX2_takeBack_87 : decode cX2_takeBack 87 = .ok (.aload_n 1, 1) := by decide +kernel
theorem dX2_takeBack_88 : decode cX2_takeBack 88 = .ok (.getfield 36, 3) := by decide +kernel
theorem dX2_takeBack_91 : decode cX2_takeBack 91 = .ok (.aload_n 0, 1) := by decide +kernel
theorem dX2_takeBack_92 : decode cX2_takeBack 92 = .ok (.getfield 15, 3) := by decide +kernel
theorem dX2_takeBack_95 : decode cX2_takeBack 95 = .ok (.aload_n 0, 1) := by decide +kernel
theorem dX2_takeBack_96 : decode cX2_takeBack 96 = .ok (.getfield 21, 3) := by decide +kernel
theorem dX2_takeBack_99 : decode cX2_takeBack 99 = .ok (.iaload, 1) := by decide +kernel
theorem dX2_takeBack_100 : decode cX2_takeBack 100 = .ok (.bipush 36, 2) := by decide +kernel
theorem dX2_takeBack_102 : decode cX2_takeBack 102 = .ok (.imul, 1) := by decide +kernel
theorem dX2_takeBack_103 : decode cX2_takeBack 103 = .ok (.bipush 36, 2) := by decide +kernel
theorem dX2_takeBack_105 : decode cX2_takeBack 105 = .ok (.invokestatic 30, 3) := by decide +kernel
theorem dX2_takeBack_108 : decode cX2_takeBack 108 = .ok (.aload_n 1, 1) := by decide +kernel
theorem dX2_takeBack_109 : decode cX2_takeBack 109 = .ok (.dup, 1) := by decide +kernel
theorem dX2_takeBack_110 : decode cX2_takeBack 110 = .ok (.getfield 51, 3) := by decide +kernel
theorem dX2_takeBack_113 : decode cX2_takeBack 113 = .ok (.iconst 1, 1) := by decide +kernel
theorem dX2_takeBack_114 : decode cX2_takeBack 114 = .ok (.iadd, 1) := by decide +kernel
theorem dX2_takeBack_115 : decode cX2_takeBack 115 = .ok (.putfield 51, 3) := by decide +kernel
theorem dX2_takeBack_118 : decode cX2_takeBack 118 = .ok (.goto 49, 3) := by decide +kernel
theorem dX2_takeBack_121 : decode cX2_takeBack 121 = .ok (.aload_n 0, 1) := by decide +kernel
theorem dX2_takeBack_122 : decode cX2_takeBack 122 = .ok (.getfield 11, 3) := by decide +kernel
theorem dX2_takeBack_125 : decode cX2_takeBack 125 = .ok (.aload_n 0, 1) := by decide +kernel
theorem dX2_takeBack_126 : decode cX2_takeBack 126 = .ok (.getfield 21, 3) := by decide +kernel
theorem dX2_takeBack_129 : decode cX2_takeBack 129 = .ok (.iaload, 1) := by decide +kernel
theorem dX2_takeBack_130 : decode cX2_takeBack 130 = .ok (.iconst 2, 1) := by decide +kernel
theorem dX2_takeBack_131 : decode cX2_takeBack 131 = .ok (.if_icmp .ne 32, 3) := by decide +kernel
theorem dX2_takeBack_134 : decode cX2_takeBack 134 = .ok (.aload_n 1, 1) := by decide +kernel
theorem dX2_takeBack_135 : decode cX2_takeBack 135 = .ok (.getfield 39, 3) := by decide +kernel
theorem dX2_takeBack_138 : decode cX2_takeBack 138 = .ok (.aload_n 0, 1) := by decide +kernel
theorem dX2_takeBack_139 : decode cX2_takeBack 139 = .ok (.getfield 15, 3) := by decide +kernel
theorem dX2_takeBack_142 : decode cX2_takeBack 142 = .ok (.aload_n 0, 1) := by decide +kernel
theorem dX2_takeBack_143 : decode cX2_takeBack 143 = .ok (.getfield 21, 3) := by decide +kernel
theorem dX2_takeBack_146 : decode cX2_takeBack 146 = .ok (.iaload, 1) := by decide +kernel
theorem dX2_takeBack_147 : decode cX2_takeBack 147 = .ok (.aload_n 0, 1) := by decide +kernel
theorem dX2_takeBack_148 : decode cX2_takeBack 148 = .ok (.getfield 18, 3) := by decide +kernel
theorem dX2_takeBack_151 : decode cX2_takeBack 151 = .ok (.aload_n 0, 1) := by decide +kernel
theorem dX2_takeBack_152 : decode cX2_takeBack 152 = .ok (.getfield 21, 3) := by decide +kernel
theorem dX2_takeBack_155 : decode cX2_takeBack 155 = .ok (.bipush 36, 2) := by decide +kernel
theorem dX2_takeBack_157 : decode cX2_takeBack 157 = .ok (.imul, 1) := by decide +kernel
theorem dX2_takeBack_158 : decode cX2_takeBack 158 = .ok (.iaload, 1) := by decide +kernel
theorem dX2_takeBack_159 : decode cX2_takeBack 159 = .ok (.iastore, 1) := by decide +kernel
theorem dX2_takeBack_160 : decode cX2_takeBack 160 = .ok (.goto 7, 3) := by decide +kernel
theorem dX2_takeBack_163 : decode cX2_takeBack 163 = .ok (.aload_n 1, 1) := by decide +kernel
theorem dX2_takeBack_164 : decode cX2_takeBack 164 = .ok (.invokevirtual 54, 3) := by decide +kernel
theorem dX2_takeBack_167 : decode cX2_takeBack 167 = .ok (.return_, 1) := by decide +kernel
theorem dX3_init_0 : decode cX3_init 0 = .ok (.aload_n 0, 1) := by decide +kernel
theorem dX3_init_1 : decode cX3_init 1 = .ok (.invokespecial 3, 3) := by decide +kernel
theorem dX3_init_4 : decode cX3_init 4 = .ok (.aload_n 0, 1) := by decide +kernel
theorem dX3_init_5 : decode cX3_init 5 = .ok (.iconst 1, 1) := by decide +kernel
theorem dX3_init_6 : decode cX3_init 6 = .ok (.putfield 9, 3) := by decide +kernel
theorem dX3_init_9 : decode cX3_init 9 = .ok (.aload_n 0, 1) := by decide +kernel
theorem dX3_init_10 : decode cX3_init 10 = .ok (.iconst 2, 1) := by decide +kernel
theorem dX3_init_11 : decode cX3_init 11 = .ok (.putfield 15, 3) := by decide +kernel
theorem dX3_init_14 : decode cX3_init 14 = .ok (.aload_n 0, 1) := by decide +kernel
theorem dX3_init_15 : decode cX3_init 15 = .ok (.iconst 1, 1) := by decide +kernel
theorem dX3_init_16 : decode cX3_init 16 = .ok (.putfield 18, 3) := by decide +kernel
theorem dX3_init_19 : decode cX3_init 19 = .ok (.aload_n 0, 1) := by decide +kernel
theorem dX3_init_20 : decode cX3_init 20 = .ok (.bipush 36, 2) := by decide +kernel
theorem dX3_init_22 : decode cX3_init 22 = .ok (.newarray .int, 2) := by decide +kernel
theorem dX3_init_24 : decode cX3_init 24 = .ok (.putfield 21, 3) := by decide +kernel
theorem dX3_init_27 : decode cX3_init 27 = .ok (.aload_n 0, 1) := by decide +kernel
theorem dX3_init_28 : decode cX3_init 28 = .ok (.bipush 36, 2) := by decide +kernel
theorem dX3_init_30 : decode cX3_init 30 = .ok (.newarray .int, 2) := by decide +kernel
theorem dX3_init_32 : decode cX3_init 32 = .ok (.putfield 25, 3) := by decide +kernel
theorem dX3_init_35 : decode cX3_init 35 = .ok (.aload_n 0, 1) := by decide +kernel
theorem dX3_init_36 : decode cX3_init 36 = .ok (.bipush 36, 2) := by decide +kernel
theorem dX3_init_38 : decode cX3_init 38 = .ok (.newarray .int, 2) := by decide +kernel
theorem dX3_init_40 : decode cX3_init 40 = .ok (.putfield 28, 3) := by decide +kernel
theorem dX3_init_43 : decode cX3_init 43 = .ok (.aload_n 0, 1) := by decide +kernel
theorem dX3_init_44 : decode cX3_init 44 = .ok (.bipush 36, 2) := by decide +kernel
theorem dX3_init_46 : decode cX3_init 46 = .ok (.newarray .int, 2) := by decide +kernel
theorem dX3_init_48 : decode cX3_init 48 = .ok (.putfield 31, 3) := by decide +kernel
theorem dX3_init_51 : decode cX3_init 51 = .ok (.aload_n 0, 1) := by decide +kernel
theorem dX3_init_52 : decode cX3_init 52 = .ok (.bipush 36, 2) := by decide +kernel
theorem dX3_init_54 : decode cX3_init 54 = .ok (.newarray .int, 2) := by decide +kernel
theorem dX3_init_56 : decode cX3_init 56 = .ok (.putfield 34, 3) := by decide +kernel
theorem dX3_init_59 : decode cX3_init 59 = .ok (.aload_n 0, 1) := by decide +kernel
theorem dX3_init_60 : decode cX3_init 60 = .ok (.bipush 36, 2) := by decide +kernel
theorem dX3_init_62 : decode cX3_init 62 = .ok (.newarray .int, 2) := by decide +kernel
theorem dX3_init_64 : decode cX3_init 64 = .ok (.putfield 37, 3) := by decide +kernel
theorem dX3_init_67 : decode cX3_init 67 = .ok (.aload_n 0, 1) := by decide +kernel
theorem dX3_init_68 : decode cX3_init 68 = .ok (.sipush 1296, 3) := by decide +kernel
theorem dX3_init_71 : decode cX3_init 71 = .ok (.newarray .int, 2) := by decide +kernel
theorem dX3_init_73 : decode cX3_init 73 = .ok (.putfield 40, 3) := by decide +kernel
theorem dX3_init_76 : decode cX3_init 76 = .ok (.return_, 1) := by decide +kernel
theorem dX3_makeNew_0 : decode cX3_makeNew 0 = .ok (.aload_n 0, 1) := by decide +kernel
theorem dX3_makeNew_1 : decode cX3_makeNew 1 = .ok (.iload_n 1, 1) := by decide +kernel
theorem dX3_makeNew_2 : decode cX3_makeNew 2 = .ok (.putfield 9, 3) := by decide +kernel
theorem dX3_makeNew_5 : decode cX3_makeNew 5 = .ok (.aload_n 0, 1) := by decide +kernel
theorem dX3_makeNew_6 : decode cX3_makeNew 6 = .ok (.iload_n 2, 1) := by decide +kernel
theorem dX3_makeNew_7 : decode cX3_makeNew 7 = .ok (.putfield 15, 3) := by decide +kernel
theorem dX3_makeNew_10 : decode cX3_makeNew 10 = .ok (.aload_n 0, 1) := by decide +kernel
theorem dX3_makeNew_11 : decode cX3_makeNew 11 = .ok (.iload_n 3, 1) := by decide +kernel
theorem dX3_makeNew_12 : decode cX3_makeNew 12 = .ok (.putfield 18, 3) := by decide +kernel
theorem dX3_makeNew_15 : decode cX3_makeNew 15 = .ok (.aload_n 0, 1) := by decide +kernel
theorem dX3_makeNew_16 : decode cX3_makeNew 16 = .ok (.iconst 0, 1) := by decide +kernel
theorem dX3_makeNew_17 : decode cX3_makeNew 17 = .ok (.putfield 43, 3) := by decide +kernel
theorem dX3_makeNew_20 : decode cX3_makeNew 20 = .ok (.aload_n 0, 1) := by decide +kernel
theorem dX3_makeNew_21 : decode cX3_makeNew 21 = .ok (.dup, 1) := by decide +kernel
theorem dX3_makeNew_22 : decode cX3_makeNew 22 = .ok (.getfield 46, 3) := by decide +kernel
theorem dX3_makeNew_25 : decode cX3_makeNew 25 = .ok (.iconst 1, 1) := by decide +kernel
