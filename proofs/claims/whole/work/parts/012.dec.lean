theorem dX4_explore_150 : decode cX4_explore 150 = .ok (.goto (-83), 3) := by decide +kernel
theorem dX4_explore_153 : decode cX4_explore 153 = .ok (.return_, 1) := by decide +kernel
theorem dX4_takeFound_0 : decode cX4_takeFound 0 = .ok (.iload_n 1, 1) := by decide +kernel
theorem dX4_takeFound_1 : decode cX4_takeFound 1 = .ok (.aload_n 0, 1) := by decide +kernel
theorem dX4_takeFound_2 : decode cX4_takeFound 2 = .ok (.getfield 65, 3) := by decide +kernel
theorem dX4_takeFound_5 : decode cX4_takeFound 5 = .ok (.if_icmp .lt 4, 3) := by decide +kernel
theorem dX4_takeFound_8 : decode cX4_takeFound 8 = .ok (.return_, 1) := by decide +kernel
theorem dX4_takeFound_9 : decode cX4_takeFound 9 = .ok (.aload_n 0, 1) := by decide +kernel
theorem dX4_takeFound_10 : decode cX4_takeFound 10 = .ok (.iload_n 1, 1) := by decide +kernel
theorem dX4_takeFound_11 : decode cX4_takeFound 11 = .ok (.aload_n 0, 1) := by decide +kernel
theorem dX4_takeFound_12 : decode cX4_takeFound 12 = .ok (.getfield 46, 3) := by decide +kernel
theorem dX4_takeFound_15 : decode cX4_takeFound 15 = .ok (.if_icmp .ge 7, 3) := by decide +kernel
theorem dX4_takeFound_18 : decode cX4_takeFound 18 = .ok (.iconst 0, 1) := by decide +kernel
theorem dX4_takeFound_19 : decode cX4_takeFound 19 = .ok (.goto 4, 3) := by decide +kernel
theorem dX4_takeFound_22 : decode cX4_takeFound 22 = .ok (.iload_n 1, 1) := by decide +kernel
theorem dX4_takeFound_23 : decode cX4_takeFound 23 = .ok (.putfield 65, 3) := by decide +kernel
theorem dX4_takeFound_26 : decode cX4_takeFound 26 = .ok (.aload_n 0, 1) := by decide +kernel
theorem dX4_takeFound_27 : decode cX4_takeFound 27 = .ok (.getfield 20, 3) := by decide +kernel
theorem dX4_takeFound_30 : decode cX4_takeFound 30 = .ok (.aload_n 0, 1) := by decide +kernel
theorem dX4_takeFound_31 : decode cX4_takeFound 31 = .ok (.getfield 32, 3) := by decide +kernel
theorem dX4_takeFound_34 : decode cX4_takeFound 34 = .ok (.getfield 49, 3) := by decide +kernel
theorem dX4_takeFound_37 : decode cX4_takeFound 37 = .ok (.aload_n 0, 1) := by decide +kernel
theorem dX4_takeFound_38 : decode cX4_takeFound 38 = .ok (.getfield 23, 3) := by decide +kernel
theorem dX4_takeFound_41 : decode cX4_takeFound 41 = .ok (.aload_n 0, 1) := by decide +kernel
theorem dX4_takeFound_42 : decode cX4_takeFound 42 = .ok (.getfield 32, 3) := by decide +kernel
theorem dX4_takeFound_45 : decode cX4_takeFound 45 = .ok (.getfield 49, 3) := by decide +kernel
theorem dX4_takeFound_48 : decode cX4_takeFound 48 = .ok (.aload_n 0, 1) := by decide +kernel
theorem dX4_takeFound_49 : decode cX4_takeFound 49 = .ok (.getfield 32, 3) := by decide +kernel
theorem dX4_takeFound_52 : decode cX4_takeFound 52 = .ok (.getfield 52, 3) := by decide +kernel
theorem dX4_takeFound_55 : decode cX4_takeFound 55 = .ok (.aload_n 0, 1) := by decide +kernel
theorem dX4_takeFound_56 : decode cX4_takeFound 56 = .ok (.getfield 32, 3) := by decide +kernel
theorem dX4_takeFound_59 : decode cX4_takeFound 59 = .ok (.getfield 49, 3) := by decide +kernel
theorem dX4_takeFound_62 : decode cX4_takeFound 62 = .ok (.isub, 1) := by decide +kernel
theorem dX4_takeFound_63 : decode cX4_takeFound 63 = .ok (.invokestatic 58, 3) := by decide +kernel
theorem dX4_takeFound_66 : decode cX4_takeFound 66 = .ok (.return_, 1) := by decide +kernel
theorem dX4_findHardest_0 : decode cX4_findHardest 0 = .ok (.aload_n 0, 1) := by decide +kernel
theorem dX4_findHardest_1 : decode cX4_findHardest 1 = .ok (.aload_n 0, 1) := by decide +kernel
theorem dX4_findHardest_2 : decode cX4_findHardest 2 = .ok (.getfield 32, 3) := by decide +kernel
theorem dX4_findHardest_5 : decode cX4_findHardest 5 = .ok (.getfield 49, 3) := by decide +kernel
theorem dX4_findHardest_8 : decode cX4_findHardest 8 = .ok (.iconst 0, 1) := by decide +kernel
theorem dX4_findHardest_9 : decode cX4_findHardest 9 = .ok (.invokestatic 105, 3) := by decide +kernel
theorem dX4_findHardest_12 : decode cX4_findHardest 12 = .ok (.return_, 1) := by decide +kernel
theorem dX4_pickFrom_0 : decode cX4_pickFrom 0 = .ok (.iload_n 1, 1) := by decide +kernel
theorem dX4_pickFrom_1 : decode cX4_pickFrom 1 = .ok (.aload_n 0, 1) := by decide +kernel
theorem dX4_pickFrom_2 : decode cX4_pickFrom 2 = .ok (.getfield 32, 3) := by decide +kernel
theorem dX4_pickFrom_5 : decode cX4_pickFrom 5 = .ok (.getfield 52, 3) := by decide +kernel
theorem dX4_pickFrom_8 : decode cX4_pickFrom 8 = .ok (.if_icmp .lt 17, 3) := by decide +kernel
theorem dX4_pickFrom_11 : decode cX4_pickFrom 11 = .ok (.aload_n 0, 1) := by decide +kernel
theorem dX4_pickFrom_12 : decode cX4_pickFrom 12 = .ok (.aload_n 0, 1) := by decide +kernel
theorem dX4_pickFrom_13 : decode cX4_pickFrom 13 = .ok (.aload_n 0, 1) := by decide +kernel
theorem dX4_pickFrom_14 : decode cX4_pickFrom 14 = .ok (.getfield 26, 3) := by decide +kernel
theorem dX4_pickFrom_17 : decode cX4_pickFrom 17 = .ok (.iload_n 2, 1) := by decide +kernel
theorem dX4_pickFrom_18 : decode cX4_pickFrom 18 = .ok (.invokevirtual 80, 3) := by decide +kernel
theorem dX4_pickFrom_21 : decode cX4_pickFrom 21 = .ok (.invokevirtual 108, 3) := by decide +kernel
theorem dX4_pickFrom_24 : decode cX4_pickFrom 24 = .ok (.return_, 1) := by decide +kernel
theorem dX4_pickFrom_25 : decode cX4_pickFrom 25 = .ok (.aload_n 0, 1) := by decide +kernel
theorem dX4_pickFrom_26 : decode cX4_pickFrom 26 = .ok (.getfield 32, 3) := by decide +kernel
theorem dX4_pickFrom_29 : decode cX4_pickFrom 29 = .ok (.getfield 55, 3) := by decide +kernel
theorem dX4_pickFrom_32 : decode cX4_pickFrom 32 = .ok (.iload_n 1, 1) := by decide +kernel
theorem dX4_pickFrom_33 : decode cX4_pickFrom 33 = .ok (.iaload, 1) := by decide +kernel
theorem dX4_pickFrom_34 : decode cX4_pickFrom 34 = .ok (.ifCond .ne 13, 3) := by decide +kernel
theorem dX4_pickFrom_37 : decode cX4_pickFrom 37 = .ok (.aload_n 0, 1) := by decide +kernel
theorem dX4_pickFrom_38 : decode cX4_pickFrom 38 = .ok (.getfield 32, 3) := by decide +kernel
theorem dX4_pickFrom_41 : decode cX4_pickFrom 41 = .ok (.getfield 98, 3) := by decide +kernel
theorem dX4_pickFrom_44 : decode cX4_pickFrom 44 = .ok (.goto 12, 3) := by decide +kernel
theorem dX4_pickFrom_47 : decode cX4_pickFrom 47 = .ok (.aload_n 0, 1) := by decide +kernel
theorem dX4_pickFrom_48 : decode cX4_pickFrom 48 = .ok (.getfield 32, 3) := by decide +kernel
theorem dX4_pickFrom_51 : decode cX4_pickFrom 51 = .ok (.getfield 55, 3) := by decide +kernel
theorem dX4_pickFrom_54 : decode cX4_pickFrom 54 = .ok (.iload_n 1, 1) := by decide +kernel
theorem dX4_pickFrom_55 : decode cX4_pickFrom 55 = .ok (.iaload, 1) := by decide +kernel
theorem dX4_pickFrom_56 : decode cX4_pickFrom 56 = .ok (.istore_n 3, 1) := by decide +kernel
theorem dX4_pickFrom_57 : decode cX4_pickFrom 57 = .ok (.iload_n 1, 1) := by decide +kernel
theorem dX4_pickFrom_58 : decode cX4_pickFrom 58 = .ok (.aload_n 0, 1) := by decide +kernel
theorem dX4_pickFrom_59 : decode cX4_pickFrom 59 = .ok (.iconst (-1), 1) := by decide +kernel
theorem dX4_pickFrom_60 : decode cX4_pickFrom 60 = .ok (.invokevirtual 72, 3) := by decide +kernel
theorem dX4_pickFrom_63 : decode cX4_pickFrom 63 = .ok (.if_icmp .ge 12, 3) := by decide +kernel
theorem dX4_pickFrom_66 : decode cX4_pickFrom 66 = .ok (.aload_n 0, 1) := by decide +kernel
theorem dX4_pickFrom_67 : decode cX4_pickFrom 67 = .ok (.getfield 17, 3) := by decide +kernel
theorem dX4_pickFrom_70 : decode cX4_pickFrom 70 = .ok (.iload_n 1, 1) := by decide +kernel
theorem dX4_pickFrom_71 : decode cX4_pickFrom 71 = .ok (.iaload, 1) := by decide +kernel
theorem dX4_pickFrom_72 : decode cX4_pickFrom 72 = .ok (.goto 4, 3) := by decide +kernel
theorem dX4_pickFrom_75 : decode cX4_pickFrom 75 = .ok (.iconst 0, 1) := by decide +kernel
theorem dX4_pickFrom_76 : decode cX4_pickFrom 76 = .ok (.istore 4, 2) := by decide +kernel
theorem dX4_pickFrom_78 : decode cX4_pickFrom 78 = .ok (.iconst 0, 1) := by decide +kernel
theorem dX4_pickFrom_79 : decode cX4_pickFrom 79 = .ok (.istore 5, 2) := by decide +kernel
theorem dX4_pickFrom_81 : decode cX4_pickFrom 81 = .ok (.iload 5, 2) := by decide +kernel
theorem dX4_pickFrom_83 : decode cX4_pickFrom 83 = .ok (.iload_n 3, 1) := by decide +kernel
theorem dX4_pickFrom_84 : decode cX4_pickFrom 84 = .ok (.if_icmp .ge 31, 3) := by decide +kernel
theorem dX4_pickFrom_87 : decode cX4_pickFrom 87 = .ok (.aload_n 0, 1) := by decide +kernel
theorem dX4_pickFrom_88 : decode cX4_pickFrom 88 = .ok (.getfield 26, 3) := by decide +kernel
theorem dX4_pickFrom_91 : decode cX4_pickFrom 91 = .ok (.iload_n 1, 1) := by decide +kernel
theorem dX4_pickFrom_92 : decode cX4_pickFrom 92 = .ok (.iload 5, 2) := by decide +kernel
theorem dX4_pickFrom_94 : decode cX4_pickFrom 94 = .ok (.iastore, 1) := by decide +kernel
theorem dX4_pickFrom_95 : decode cX4_pickFrom 95 = .ok (.aload_n 0, 1) := by decide +kernel
theorem dX4_pickFrom_96 : decode cX4_pickFrom 96 = .ok (.iload_n 1, 1) := by decide +kernel
theorem dX4_pickFrom_97 : decode cX4_pickFrom 97 = .ok (.iconst 1, 1) := by decide +kernel
theorem dX4_pickFrom_98 : decode cX4_pickFrom 98 = .ok (.iadd, 1) := by decide +kernel
theorem dX4_pickFrom_99 : decode cX4_pickFrom 99 = .ok (.iload_n 2, 1) := by decide +kernel
theorem dX4_pickFrom_100 : decode cX4_pickFrom 100 = .ok (.iload 5, 2) := by decide +kernel
theorem dX4_pickFrom_102 : decode cX4_pickFrom 102 = .ok (.iload 4, 2) := by decide +kernel
theorem dX4_pickFrom_104 : decode cX4_pickFrom 104 = .ok (.imul, 1) := by decide +kernel
theorem dX4_pickFrom_105 : decode cX4_pickFrom 105 = .ok (.iadd, 1) := by decide +kernel
theorem dX4_pickFrom_106 : decode cX4_pickFrom 106 = .ok (.invokestatic 105, 3) := by decide +kernel
theorem dX4_pickFrom_109 : decode cX4_pickFrom 109 = .ok (.iinc 5 1, 3) := by decide +kernel
theorem dX4_pickFrom_112 : decode cX4_pickFrom 112 = .ok (.goto (-31), 3) := by decide +kernel
theorem dX4_pickFrom_115 : decode cX4_pickFrom 115 = .ok (.return_, 1) := by decide +kernel
theorem dX4_takePicked_0 : decode cX4_takePicked 0 = .ok (.iload_n 1, 1) := by decide +kernel
theorem dX4_takePicked_1 : decode cX4_takePicked 1 = .ok (.aload_n 0, 1) := by decide +kernel
theorem dX4_takePicked_2 : decode cX4_takePicked 2 = .ok (.getfield 46, 3) := by decide +kernel
theorem dX4_takePicked_5 : decode cX4_takePicked 5 = .ok (.if_icmp .gt 18, 3) := by decide +kernel
theorem dX4_takePicked_8 : decode cX4_takePicked 8 = .ok (.iload_n 1, 1) := by decide +kernel
theorem dX4_takePicked_9 : decode cX4_takePicked 9 = .ok (.aload_n 0, 1) := by decide +kernel
theorem dX4_takePicked_10 : decode cX4_takePicked 10 = .ok (.getfield 46, 3) := by decide +kernel
theorem dX4_takePicked_13 : decode cX4_takePicked 13 = .ok (.if_icmp .ne 42, 3) := by decide +kernel
theorem dX4_takePicked_16 : decode cX4_takePicked 16 = .ok (.aload_n 0, 1) := by decide +kernel
theorem dX4_takePicked_17 : decode cX4_takePicked 17 = .ok (.invokevirtual 111, 3) := by decide +kernel
theorem dX4_takePicked_20 : decode cX4_takePicked 20 = .ok (.ifCond .eq 35, 3) := by decide +kernel
theorem dX4_takePicked_23 : decode cX4_takePicked 23 = .ok (.aload_n 0, 1) := by decide +kernel
theorem dX4_takePicked_24 : decode cX4_takePicked 24 = .ok (.iload_n 1, 1) := by decide +kernel
theorem dX4_takePicked_25 : decode cX4_takePicked 25 = .ok (.putfield 46, 3) := by decide +kernel
theorem dX4_takePicked_28 : decode cX4_takePicked 28 = .ok (.iconst 0, 1) := by decide +kernel
theorem dX4_takePicked_29 : decode cX4_takePicked 29 = .ok (.istore_n 2, 1) := by decide +kernel
theorem dX4_takePicked_30 : decode cX4_takePicked 30 = .ok (.iload_n 2, 1) := by decide +kernel
theorem dX4_takePicked_31 : decode cX4_takePicked 31 = .ok (.aload_n 0, 1) := by decide +kernel
theorem dX4_takePicked_32 : decode cX4_takePicked 32 = .ok (.getfield 39, 3) := by decide +kernel
theorem dX4_takePicked_35 : decode cX4_takePicked 35 = .ok (.if_icmp .ge 20, 3) := by decide +kernel
theorem dX4_takePicked_38 : decode cX4_takePicked 38 = .ok (.aload_n 0, 1) := by decide +kernel
theorem dX4_takePicked_39 : decode cX4_takePicked 39 = .ok (.getfield 29, 3) := by decide +kernel
theorem dX4_takePicked_42 : decode cX4_takePicked 42 = .ok (.iload_n 2, 1) := by decide +kernel
theorem dX4_takePicked_43 : decode cX4_takePicked 43 = .ok (.aload_n 0, 1) := by decide +kernel
theorem dX4_takePicked_44 : decode cX4_takePicked 44 = .ok (.iload_n 2, 1) := by decide +kernel
theorem dX4_takePicked_45 : decode cX4_takePicked 45 = .ok (.invokevirtual 115, 3) := by decide +kernel
theorem dX4_takePicked_48 : decode cX4_takePicked 48 = .ok (.iastore, 1) := by decide +kernel
theorem dX4_takePicked_49 : decode cX4_takePicked 49 = .ok (.iinc 2 1, 3) := by decide +kernel
theorem dX4_takePicked_52 : decode cX4_takePicked 52 = .ok (.goto (-22), 3) := by decide +kernel
theorem dX4_takePicked_55 : decode cX4_takePicked 55 = .ok (.return_, 1) := by decide +kernel
theorem dX4_isPickedAhead_0 : decode cX4_isPickedAhead 0 = .ok (.iconst 0, 1) := by decide +kernel
theorem dX4_isPickedAhead_1 : decode cX4_isPickedAhead 1 = .ok (.istore_n 1, 1) := by decide +kernel
theorem dX4_isPickedAhead_2 : decode cX4_isPickedAhead 2 = .ok (.iload_n 1, 1) := by decide +kernel
theorem dX4_isPickedAhead_3 : decode cX4_isPickedAhead 3 = .ok (.aload_n 0, 1) := by decide +kernel
theorem dX4_isPickedAhead_4 : decode cX4_isPickedAhead 4 = .ok (.getfield 39, 3) := by decide +kernel
theorem dX4_isPickedAhead_7 : decode cX4_isPickedAhead 7 = .ok (.if_icmp .ge 41, 3) := by decide +kernel
theorem dX4_isPickedAhead_10 : decode cX4_isPickedAhead 10 = .ok (.aload_n 0, 1) := by decide +kernel
theorem dX4_isPickedAhead_11 : decode cX4_isPickedAhead 11 = .ok (.iload_n 1, 1) := by decide +kernel
theorem dX4_isPickedAhead_12 : decode cX4_isPickedAhead 12 = .ok (.invokevirtual 115, 3) := by decide +kernel
theorem dX4_isPickedAhead_15 : decode cX4_isPickedAhead 15 = .ok (.istore_n 2, 1) := by decide +kernel
theorem dX4_isPickedAhead_16 : decode cX4_isPickedAhead 16 = .ok (.iload_n 2, 1) := by decide +kernel
theorem dX4_isPickedAhead_17 : decode cX4_isPickedAhead 17 = .ok (.aload_n 0, 1) := by decide +kernel
theorem dX4_isPickedAhead_18 : decode cX4_isPickedAhead 18 = .ok (.getfield 29, 3) := by decide +kernel
theorem dX4_isPickedAhead_21 : decode cX4_isPickedAhead 21 = .ok (.iload_n 1, 1) := by decide +kernel
theorem dX4_isPickedAhead_22 : decode cX4_isPickedAhead 22 = .ok (.iaload, 1) := by decide +kernel
theorem dX4_isPickedAhead_23 : decode cX4_isPickedAhead 23 = .ok (.if_icmp .eq 19, 3) := by decide +kernel
theorem dX4_isPickedAhead_26 : decode cX4_isPickedAhead 26 = .ok (.iload_n 2, 1) := by decide +kernel
theorem dX4_isPickedAhead_27 : decode cX4_isPickedAhead 27 = .ok (.aload_n 0, 1) := by decide +kernel
theorem dX4_isPickedAhead_28 : decode cX4_isPickedAhead 28 = .ok (.getfield 29, 3) := by decide +kernel
theorem dX4_isPickedAhead_31 : decode cX4_isPickedAhead 31 = .ok (.iload_n 1, 1) := by decide +kernel
theorem dX4_isPickedAhead_32 : decode cX4_isPickedAhead 32 = .ok (.iaload, 1) := by decide +kernel
theorem dX4_isPickedAhead_33 : decode cX4_isPickedAhead 33 = .ok (.if_icmp .ge 7, 3) := by decide +kernel
theorem dX4_isPickedAhead_36 : decode cX4_isPickedAhead 36 = .ok (.iconst 1, 1) := by decide +kernel
theorem dX4_isPickedAhead_37 : decode cX4_isPickedAhead 37 = .ok (.goto 4, 3) := by decide +kernel
theorem dX4_isPickedAhead_40 : decode cX4_isPickedAhead 40 = .ok (.iconst 0, 1) := by decide +kernel
theorem dX4_isPickedAhead_41 : decode cX4_isPickedAhead 41 = .ok (.ireturn, 1) := by decide +kernel
theorem dX4_isPickedAhead_42 : decode cX4_isPickedAhead 42 = .ok (.iinc 1 1, 3) := by decide +kernel
theorem dX4_isPickedAhead_45 : decode cX4_isPickedAhead 45 = .ok (.goto (-43), 3) := by decide +kernel
theorem dX4_isPickedAhead_48 : decode cX4_isPickedAhead 48 = .ok (.iconst 0, 1) := by decide +kernel
theorem dX4_isPickedAhead_49 : decode cX4_isPickedAhead 49 = .ok (.ireturn, 1) := by decide +kernel
theorem dX4_pickedAt_0 : decode cX4_pickedAt 0 = .ok (.iconst 0, 1) := by decide +kernel
theorem dX4_pickedAt_1 : decode cX4_pickedAt 1 = .ok (.istore_n 2, 1) := by decide +kernel
theorem dX4_pickedAt_2 : decode cX4_pickedAt 2 = .ok (.aload_n 0, 1) := by decide +kernel
theorem dX4_pickedAt_3 : decode cX4_pickedAt 3 = .ok (.getfield 32, 3) := by decide +kernel
theorem dX4_pickedAt_6 : decode cX4_pickedAt 6 = .ok (.getfield 49, 3) := by decide +kernel
theorem dX4_pickedAt_9 : decode cX4_pickedAt 9 = .ok (.istore_n 3, 1) := by decide +kernel
theorem dX4_pickedAt_10 : decode cX4_pickedAt 10 = .ok (.iload_n 3, 1) := by decide +kernel
theorem dX4_pickedAt_11 : decode cX4_pickedAt 11 = .ok (.aload_n 0, 1) := by decide +kernel
theorem dX4_pickedAt_12 : decode cX4_pickedAt 12 = .ok (.getfield 32, 3) := by decide +kernel
theorem dX4_pickedAt_15 : decode cX4_pickedAt 15 = .ok (.getfield 52, 3) := by decide +kernel
theorem dX4_pickedAt_18 : decode cX4_pickedAt 18 = .ok (.if_icmp .ge 38, 3) := by decide +kernel
theorem dX4_pickedAt_21 : decode cX4_pickedAt 21 = .ok (.iload_n 2, 1) := by decide +kernel
theorem dX4_pickedAt_22 : decode cX4_pickedAt 22 = .ok (.aload_n 0, 1) := by decide +kernel
theorem dX4_pickedAt_23 : decode cX4_pickedAt 23 = .ok (.getfield 26, 3) := by decide +kernel
theorem dX4_pickedAt_26 : decode cX4_pickedAt 26 = .ok (.iload_n 3, 1) := by decide +kernel
theorem dX4_pickedAt_27 : decode cX4_pickedAt 27 = .ok (.iaload, 1) := by decide +kernel
theorem dX4_pickedAt_28 : decode cX4_pickedAt 28 = .ok (.aload_n 0, 1) := by decide +kernel
theorem dX4_pickedAt_29 : decode cX4_pickedAt 29 = .ok (.getfield 36, 3) := by decide +kernel
theorem dX4_pickedAt_32 : decode cX4_pickedAt 32 = .ok (.iload_n 3, 1) := by decide +kernel
theorem dX4_pickedAt_33 : decode cX4_pickedAt 33 = .ok (.aload_n 0, 1) := by decide +kernel
theorem dX4_pickedAt_34 : decode cX4_pickedAt 34 = .ok (.getfield 32, 3) := by decide +kernel
theorem dX4_pickedAt_37 : decode cX4_pickedAt 37 = .ok (.getfield 49, 3) := by decide +kernel
theorem dX4_pickedAt_40 : decode cX4_pickedAt 40 = .ok (.isub, 1) := by decide +kernel
theorem dX4_pickedAt_41 : decode cX4_pickedAt 41 = .ok (.bipush 36, 2) := by decide +kernel
theorem dX4_pickedAt_43 : decode cX4_pickedAt 43 = .ok (.imul, 1) := by decide +kernel
theorem dX4_pickedAt_44 : decode cX4_pickedAt 44 = .ok (.iload_n 1, 1) := by decide +kernel
theorem dX4_pickedAt_45 : decode cX4_pickedAt 45 = .ok (.iadd, 1) := by decide +kernel
theorem dX4_pickedAt_46 : decode cX4_pickedAt 46 = .ok (.iaload, 1) := by decide +kernel
theorem dX4_pickedAt_47 : decode cX4_pickedAt 47 = .ok (.imul, 1) := by decide +kernel
theorem dX4_pickedAt_48 : decode cX4_pickedAt 48 = .ok (.iadd, 1) := by decide +kernel
theorem dX4_pickedAt_49 : decode cX4_pickedAt 49 = .ok (.istore_n 2, 1) := by decide +kernel
theorem dX4_pickedAt_50 : decode cX4_pickedAt 50 = .ok (.iinc 3 1, 3) := by decide +kernel
theorem dX4_pickedAt_53 : decode cX4_pickedAt 53 = .ok (.goto (-43), 3) := by decide +kernel
theorem dX4_pickedAt_56 : decode cX4_pickedAt 56 = .ok (.iload_n 2, 1) := by decide +kernel
theorem dX4_pickedAt_57 : decode cX4_pickedAt 57 = .ok (.aload_n 0, 1) := by decide +kernel
theorem dX4_pickedAt_58 : decode cX4_pickedAt 58 = .ok (.getfield 32, 3) := by decide +kernel
theorem dX4_pickedAt_61 : decode cX4_pickedAt 61 = .ok (.getfield 98, 3) := by decide +kernel
theorem dX4_pickedAt_64 : decode cX4_pickedAt 64 = .ok (.irem, 1) := by decide +kernel
theorem dX4_pickedAt_65 : decode cX4_pickedAt 65 = .ok (.ireturn, 1) := by decide +kernel
theorem dX5_init_0 : decode cX5_init 0 = .ok (.aload_n 0, 1) := by decide +kernel
theorem dX5_init_1 : decode cX5_init 1 = .ok (.invokespecial 3, 3) := by decide +kernel
theorem dX5_init_4 : decode cX5_init 4 = .ok (.aload_n 0, 1) := by decide +kernel
theorem dX5_init_5 : decode cX5_init 5 = .ok (.iconst (-1), 1) := by decide +kernel
theorem dX5_init_6 : decode cX5_init 6 = .ok (.putfield 9, 3) := by decide +kernel
theorem dX5_init_9 : decode cX5_init 9 = .ok (.aload_n 0, 1) := by decide +kernel
theorem dX5_init_10 : decode cX5_init 10 = .ok (.iconst (-1), 1) := by decide +kernel
theorem dX5_init_11 : decode cX5_init 11 = .ok (.putfield 15, 3) := by decide +kernel
theorem dX5_init_14 : decode cX5_init 14 = .ok (.aload_n 0, 1) := by decide +kernel
theorem dX5_init_15 : decode cX5_init 15 = .ok (.bipush 36, 2) := by decide +kernel
theorem dX5_init_17 : decode cX5_init 17 = .ok (.newarray .int, 2) := by decide +kernel
theorem dX5_init_19 : decode cX5_init 19 = .ok (.putfield 18, 3) := by decide +kernel
theorem dX5_init_22 : decode cX5_init 22 = .ok (.aload_n 0, 1) := by decide +kernel
theorem dX5_init_23 : decode cX5_init 23 = .ok (.sipush 1296, 3) := by decide +kernel
theorem dX5_init_26 : decode cX5_init 26 = .ok (.newarray .int, 2) := by decide +kernel
theorem dX5_init_28 : decode cX5_init 28 = .ok (.putfield 22, 3) := by decide +kernel
theorem dX5_init_31 : decode cX5_init 31 = .ok (.aload_n 0, 1) := by decide +kernel
theorem dX5_init_32 : decode cX5_init 32 = .ok (.bipush 72, 2) := by decide +kernel
theorem dX5_init_34 : decode cX5_init 34 = .ok (.newarray .int, 2) := by decide +kernel
theorem dX5_init_36 : decode cX5_init 36 = .ok (.putfield 27, 3) := by decide +kernel
theorem dX5_init_39 : decode cX5_init 39 = .ok (.aload_n 0, 1) := by decide +kernel
theorem dX5_init_40 : decode cX5_init 40 = .ok (.aload_n 1, 1) := by decide +kernel
theorem dX5_init_41 : decode cX5_init 41 = .ok (.putfield 30, 3) := by decide +kernel
theorem dX5_init_44 : decode cX5_init 44 = .ok (.aload_n 0, 1) := by decide +kernel
theorem dX5_init_45 : decode cX5_init 45 = .ok (.new 25, 3) := by decide +kernel
theorem dX5_init_48 : decode cX5_init 48 = .ok (.dup, 1) := by decide +kernel
theorem dX5_init_49 : decode cX5_init 49 = .ok (.sipush 2592, 3) := by decide +kernel
theorem dX5_init_52 : decode cX5_init 52 = .ok (.newarray .int, 2) := by decide +kernel
theorem dX5_init_54 : decode cX5_init 54 = .ok (.invokespecial 34, 3) := by decide +kernel
theorem dX5_init_57 : decode cX5_init 57 = .ok (.putfield 37, 3) := by decide +kernel
theorem dX5_init_60 : decode cX5_init 60 = .ok (.return_, 1) := by decide +kernel
theorem dX5_refresh_0 : decode cX5_refresh 0 = .ok (.aload_n 0, 1) := by decide +kernel
theorem dX5_refresh_1 : decode cX5_refresh 1 = .ok (.getfield 9, 3) := by decide +kernel
theorem dX5_refresh_4 : decode cX5_refresh 4 = .ok (.aload_n 0, 1) := by decide +kernel
theorem dX5_refresh_5 : decode cX5_refresh 5 = .ok (.getfield 30, 3) := by decide +kernel
theorem dX5_refresh_8 : decode cX5_refresh 8 = .ok (.getfield 41, 3) := by decide +kernel
theorem dX5_refresh_11 : decode cX5_refresh 11 = .ok (.if_icmp .ne 4, 3) := by decide +kernel
theorem dX5_refresh_14 : decode cX5_refresh 14 = .ok (.return_, 1) := by decide +kernel
theorem dX5_refresh_15 : decode cX5_refresh 15 = .ok (.aload_n 0, 1) := by decide +kernel
theorem dX5_refresh_16 : decode cX5_refresh 16 = .ok (.aload_n 0, 1) := by decide +kernel
theorem dX5_refresh_17 : decode cX5_refresh 17 = .ok (.getfield 30, 3) := by decide +kernel
theorem dX5_refresh_20 : decode cX5_refresh 20 = .ok (.getfield 41, 3) := by decide +kernel
theorem dX5_refresh_23 : decode cX5_refresh 23 = .ok (.putfield 9, 3) := by decide +kernel
theorem dX5_refresh_26 : decode cX5_refresh 26 = .ok (.aload_n 0, 1) := by decide +kernel
theorem dX5_refresh_27 : decode cX5_refresh 27 = .ok (.iconst 0, 1) := by decide +kernel
theorem dX5_refresh_28 : decode cX5_refresh 28 = .ok (.putfield 46, 3) := by decide +kernel
theorem dX5_refresh_31 : decode cX5_refresh 31 = .ok (.aload_n 0, 1) := by decide +kernel
theorem dX5_refresh_32 : decode cX5_refresh 32 = .ok (.getfield 30, 3) := by decide +kernel
theorem dX5_refresh_35 : decode cX5_refresh 35 = .ok (.getfield 49, 3) := by decide +kernel
theorem dX5_refresh_38 : decode cX5_refresh 38 = .ok (.iconst 1, 1) := by decide +kernel
theorem dX5_refresh_39 : decode cX5_refresh 39 = .ok (.isub, 1) := by decide +kernel
theorem dX5_refresh_40 : decode cX5_refresh 40 = .ok (.istore_n 1, 1) := by decide +kernel
theorem dX5_refresh_41 : decode cX5_refresh 41 = .ok (.iload_n 1, 1) := by decide +kernel
theorem dX5_refresh_42 : decode cX5_refresh 42 = .ok (.ifCond .lt 42, 3) := by decide +kernel
theorem dX5_refresh_45 : decode cX5_refresh 45 = .ok (.aload_n 0, 1) := by decide +kernel
theorem dX5_refresh_46 : decode cX5_refresh 46 = .ok (.getfield 30, 3) := by decide +kernel
theorem dX5_refresh_49 : decode cX5_refresh 49 = .ok (.getfield 52, 3) := by decide +kernel
theorem dX5_refresh_52 : decode cX5_refresh 52 = .ok (.iload_n 1, 1) := by decide +kernel
theorem dX5_refresh_53 : decode cX5_refresh 53 = .ok (.iaload, 1) := by decide +kernel
theorem dX5_refresh_54 : decode cX5_refresh 54 = .ok (.iconst 3, 1) := by decide +kernel
theorem dX5_refresh_55 : decode cX5_refresh 55 = .ok (.if_icmp .eq 23, 3) := by decide +kernel
theorem dX5_refresh_58 : decode cX5_refresh 58 = .ok (.aload_n 0, 1) := by decide +kernel
theorem dX5_refresh_59 : decode cX5_refresh 59 = .ok (.getfield 18, 3) := by decide +kernel
theorem dX5_refresh_62 : decode cX5_refresh 62 = .ok (.aload_n 0, 1) := by decide +kernel
theorem dX5_refresh_63 : decode cX5_refresh 63 = .ok (.getfield 46, 3) := by decide +kernel
theorem dX5_refresh_66 : decode cX5_refresh 66 = .ok (.iload_n 1, 1) := by decide +kernel
theorem dX5_refresh_67 : decode cX5_refresh 67 = .ok (.iastore, 1) := by decide +kernel
theorem dX5_refresh_68 : decode cX5_refresh 68 = .ok (.aload_n 0, 1) := by decide +kernel
theorem dX5_refresh_69 : decode cX5_refresh 69 = .ok (.dup, 1) := by decide +kernel
theorem dX5_refresh_70 : decode cX5_refresh 70 = .ok (.getfield 46, 3) := by decide +kernel
theorem dX5_refresh_73 : decode cX5_refresh 73 = .ok (.iconst 1, 1) := by decide +kernel
theorem dX5_refresh_74 : decode cX5_refresh 74 = .ok (.iadd, 1) := by decide +kernel
theorem dX5_refresh_75 : decode cX5_refresh 75 = .ok (.putfield 46, 3) := by decide +kernel
theorem dX5_refresh_78 : decode cX5_refresh 78 = .ok (.iinc 1 (-1), 3) := by decide +kernel
theorem dX5_refresh_81 : decode cX5_refresh 81 = .ok (.goto (-40), 3) := by decide +kernel
theorem dX5_refresh_84 : decode cX5_refresh 84 = .ok (.aload_n 0, 1) := by decide +kernel
theorem dX5_refresh_85 : decode cX5_refresh 85 = .ok (.getfield 37, 3) := by decide +kernel
theorem dX5_refresh_88 : decode cX5_refresh 88 = .ok (.aload_n 0, 1) := by decide +kernel
theorem dX5_refresh_89 : decode cX5_refresh 89 = .ok (.getfield 30, 3) := by decide +kernel
theorem dX5_refresh_92 : decode cX5_refresh 92 = .ok (.getfield 55, 3) := by decide +kernel
theorem dX5_refresh_95 : decode cX5_refresh 95 = .ok (.aload_n 0, 1) := by decide +kernel
theorem dX5_refresh_96 : decode cX5_refresh 96 = .ok (.getfield 30, 3) := by decide +kernel
theorem dX5_refresh_99 : decode cX5_refresh 99 = .ok (.getfield 58, 3) := by decide +kernel
theorem dX5_refresh_102 : decode cX5_refresh 102 = .ok (.aload_n 0, 1) := by decide +kernel
theorem dX5_refresh_103 : decode cX5_refresh 103 = .ok (.getfield 46, 3) := by decide +kernel
theorem dX5_refresh_106 : decode cX5_refresh 106 = .ok (.invokevirtual 61, 3) := by decide +kernel
theorem dX5_refresh_109 : decode cX5_refresh 109 = .ok (.iconst 0, 1) := by decide +kernel
theorem dX5_refresh_110 : decode cX5_refresh 110 = .ok (.istore_n 1, 1) := by decide +kernel
theorem dX5_refresh_111 : decode cX5_refresh 111 = .ok (.iload_n 1, 1) := by decide +kernel
theorem dX5_refresh_112 : decode cX5_refresh 112 = .ok (.aload_n 0, 1) := by decide +kernel
theorem dX5_refresh_113 : decode cX5_refresh 113 = .ok (.getfield 46, 3) := by decide +kernel
theorem dX5_refresh_116 : decode cX5_refresh 116 = .ok (.if_icmp .ge 65, 3) := by decide +kernel
theorem dX5_refresh_119 : decode cX5_refresh 119 = .ok (.iconst 0, 1) := by decide +kernel
theorem dX5_refresh_120 : decode cX5_refresh 120 = .ok (.istore_n 2, 1) := by decide +kernel
theorem dX5_refresh_121 : decode cX5_refresh 121 = .ok (.iload_n 2, 1) := by decide +kernel
theorem dX5_refresh_122 : decode cX5_refresh 122 = .ok (.aload_n 0, 1) := by decide +kernel
theorem dX5_refresh_123 : decode cX5_refresh 123 = .ok (.getfield 30, 3) := by decide +kernel
theorem dX5_refresh_126 : decode cX5_refresh 126 = .ok (.getfield 58, 3) := by decide +kernel
theorem dX5_refresh_129 : decode cX5_refresh 129 = .ok (.if_icmp .ge 46, 3) := by decide +kernel
theorem dX5_refresh_132 : decode cX5_refresh 132 = .ok (.aload_n 0, 1) := by decide +kernel
theorem dX5_refresh_133 : decode cX5_refresh 133 = .ok (.getfield 30, 3) := by decide +kernel
theorem dX5_refresh_136 : decode cX5_refresh 136 = .ok (.aload_n 0, 1) := by decide +kernel
theorem dX5_refresh_137 : decode cX5_refresh 137 = .ok (.getfield 18, 3) := by decide +kernel
theorem dX5_refresh_140 : decode cX5_refresh 140 = .ok (.iload_n 1, 1) := by decide +kernel
theorem dX5_refresh_141 : decode cX5_refresh 141 = .ok (.iaload, 1) := by decide +kernel
theorem dX5_refresh_142 : decode cX5_refresh 142 = .ok (.iload_n 2, 1) := by decide +kernel
theorem dX5_refresh_143 : decode cX5_refresh 143 = .ok (.invokevirtual 65, 3) := by decide +kernel
theorem dX5_refresh_146 : decode cX5_refresh 146 = .ok (.istore_n 3, 1) := by decide +kernel
theorem dX5_refresh_147 : decode cX5_refresh 147 = .ok (.aload_n 0, 1) := by decide +kernel
theorem dX5_refresh_148 : decode cX5_refresh 148 = .ok (.getfield 22, 3) := by decide +kernel
theorem dX5_refresh_151 : decode cX5_refresh 151 = .ok (.iload_n 1, 1) := by decide +kernel
theorem dX5_refresh_152 : decode cX5_refresh 152 = .ok (.bipush 36, 2) := by decide +kernel
theorem dX5_refresh_154 : decode cX5_refresh 154 = .ok (.imul, 1) := by decide +kernel
theorem dX5_refresh_155 : decode cX5_refresh 155 = .ok (.iload_n 2, 1) := by decide +kernel
theorem dX5_refresh_156 : decode cX5_refresh 156 = .ok (.iadd, 1) := by decide +kernel
theorem dX5_refresh_157 : decode cX5_refresh 157 = .ok (.iload_n 3, 1) := by decide +kernel
theorem dX5_refresh_158 : decode cX5_refresh 158 = .ok (.iastore, 1) := by decide +kernel
theorem dX5_refresh_159 : decode cX5_refresh 159 = .ok (.aload_n 0, 1) := by decide +kernel
theorem dX5_refresh_160 : decode cX5_refresh 160 = .ok (.getfield 37, 3) := by decide +kernel
theorem dX5_refresh_163 : decode cX5_refresh 163 = .ok (.iload_n 1, 1) := by decide +kernel
theorem dX5_refresh_164 : decode cX5_refresh 164 = .ok (.iload_n 2, 1) := by decide +kernel
theorem dX5_refresh_165 : decode cX5_refresh 165 = .ok (.iload_n 3, 1) := by decide +kernel
theorem dX5_refresh_166 : decode cX5_refresh 166 = .ok (.invokevirtual 69, 3) := by decide +kernel
theorem dX5_refresh_169 : decode cX5_refresh 169 = .ok (.iinc 2 1, 3) := by decide +kernel
theorem dX5_refresh_172 : decode cX5_refresh 172 = .ok (.goto (-51), 3) := by decide +kernel
theorem dX5_refresh_175 : decode cX5_refresh 175 = .ok (.iinc 1 1, 3) := by decide +kernel
theorem dX5_refresh_178 : decode cX5_refresh 178 = .ok (.goto (-67), 3) := by decide +kernel
theorem dX5_refresh_181 : decode cX5_refresh 181 = .ok (.aload_n 0, 1) := by decide +kernel
theorem dX5_refresh_182 : decode cX5_refresh 182 = .ok (.getfield 37, 3) := by decide +kernel
theorem dX5_refresh_185 : decode cX5_refresh 185 = .ok (.invokevirtual 72, 3) := by decide +kernel
theorem dX5_refresh_188 : decode cX5_refresh 188 = .ok (.return_, 1) := by decide +kernel
theorem dX5_freshWeights_0 : decode cX5_freshWeights 0 = .ok (.aload_n 0, 1) := by decide +kernel
theorem dX5_freshWeights_1 : decode cX5_freshWeights 1 = .ok (.getfield 75, 3) := by decide +kernel
theorem dX5_freshWeights_4 : decode cX5_freshWeights 4 = .ok (.ifnonnull 21, 3) := by decide +kernel
theorem dX5_freshWeights_7 : decode cX5_freshWeights 7 = .ok (.aload_n 0, 1) := by decide +kernel
theorem dX5_freshWeights_8 : decode cX5_freshWeights 8 = .ok (.new 25, 3) := by decide +kernel
theorem dX5_freshWeights_11 : decode cX5_freshWeights 11 = .ok (.dup, 1) := by decide +kernel
theorem dX5_freshWeights_12 : decode cX5_freshWeights 12 = .ok (.aload_n 0, 1) := by decide +kernel
theorem dX5_freshWeights_13 : decode cX5_freshWeights 13 = .ok (.getfield 37, 3) := by decide +kernel
theorem dX5_freshWeights_16 : decode cX5_freshWeights 16 = .ok (.getfield 78, 3) := by decide +kernel
theorem dX5_freshWeights_19 : decode cX5_freshWeights 19 = .ok (.invokespecial 34, 3) := by decide +kernel
theorem dX5_freshWeights_22 : decode cX5_freshWeights 22 = .ok (.putfield 75, 3) := by decide +kernel
theorem dX5_freshWeights_25 : decode cX5_freshWeights 25 = .ok (.aload_n 0, 1) := by decide +kernel
theorem dX5_freshWeights_26 : decode cX5_freshWeights 26 = .ok (.getfield 15, 3) := by decide +kernel
theorem dX5_freshWeights_29 : decode cX5_freshWeights 29 = .ok (.aload_n 0, 1) := by decide +kernel
theorem dX5_freshWeights_30 : decode cX5_freshWeights 30 = .ok (.getfield 9, 3) := by decide +kernel
theorem dX5_freshWeights_33 : decode cX5_freshWeights 33 = .ok (.if_icmp .eq 98, 3) := by decide +kernel
theorem dX5_freshWeights_36 : decode cX5_freshWeights 36 = .ok (.aload_n 0, 1) := by decide +kernel
theorem dX5_freshWeights_37 : decode cX5_freshWeights 37 = .ok (.aload_n 0, 1) := by decide +kernel
theorem dX5_freshWeights_38 : decode cX5_freshWeights 38 = .ok (.getfield 9, 3) := by decide +kernel
theorem dX5_freshWeights_41 : decode cX5_freshWeights 41 = .ok (.putfield 15, 3) := by decide +kernel
theorem dX5_freshWeights_44 : decode cX5_freshWeights 44 = .ok (.aload_n 0, 1) := by decide +kernel
theorem dX5_freshWeights_45 : decode cX5_freshWeights 45 = .ok (.getfield 75, 3) := by decide +kernel
theorem dX5_freshWeights_48 : decode cX5_freshWeights 48 = .ok (.aload_n 0, 1) := by decide +kernel
theorem dX5_freshWeights_49 : decode cX5_freshWeights 49 = .ok (.getfield 30, 3) := by decide +kernel
theorem dX5_freshWeights_52 : decode cX5_freshWeights 52 = .ok (.getfield 55, 3) := by decide +kernel
theorem dX5_freshWeights_55 : decode cX5_freshWeights 55 = .ok (.aload_n 0, 1) := by decide +kernel
theorem dX5_freshWeights_56 : decode cX5_freshWeights 56 = .ok (.getfield 46, 3) := by decide +kernel
theorem dX5_freshWeights_59 : decode cX5_freshWeights 59 = .ok (.aload_n 0, 1) := by decide +kernel
theorem dX5_freshWeights_60 : decode cX5_freshWeights 60 = .ok (.getfield 30, 3) := by decide +kernel
theorem dX5_freshWeights_63 : decode cX5_freshWeights 63 = .ok (.getfield 58, 3) := by decide +kernel
theorem dX5_freshWeights_66 : decode cX5_freshWeights 66 = .ok (.invokevirtual 61, 3) := by decide +kernel
theorem dX5_freshWeights_69 : decode cX5_freshWeights 69 = .ok (.iconst 0, 1) := by decide +kernel
theorem dX5_freshWeights_70 : decode cX5_freshWeights 70 = .ok (.istore_n 1, 1) := by decide +kernel
theorem dX5_freshWeights_71 : decode cX5_freshWeights 71 = .ok (.iload_n 1, 1) := by decide +kernel
theorem dX5_freshWeights_72 : decode cX5_freshWeights 72 = .ok (.aload_n 0, 1) := by decide +kernel
theorem dX5_freshWeights_73 : decode cX5_freshWeights 73 = .ok (.getfield 30, 3) := by decide +kernel
theorem dX5_freshWeights_76 : decode cX5_freshWeights 76 = .ok (.getfield 58, 3) := by decide +kernel
theorem dX5_freshWeights_79 : decode cX5_freshWeights 79 = .ok (.if_icmp .ge 45, 3) := by decide +kernel
theorem dX5_freshWeights_82 : decode cX5_freshWeights 82 = .ok (.iconst 0, 1) := by decide +kernel
theorem dX5_freshWeights_83 : decode cX5_freshWeights 83 = .ok (.istore_n 2, 1) := by decide +kernel
theorem dX5_freshWeights_84 : decode cX5_freshWeights 84 = .ok (.iload_n 2, 1) := by decide +kernel
theorem dX5_freshWeights_85 : decode cX5_freshWeights 85 = .ok (.aload_n 0, 1) := by decide +kernel
theorem dX5_freshWeights_86 : decode cX5_freshWeights 86 = .ok (.getfield 46, 3) := by decide +kernel
theorem dX5_freshWeights_89 : decode cX5_freshWeights 89 = .ok (.if_icmp .ge 29, 3) := by decide +kernel
theorem dX5_freshWeights_92 : decode cX5_freshWeights 92 = .ok (.aload_n 0, 1) := by decide +kernel
theorem dX5_freshWeights_93 : decode cX5_freshWeights 93 = .ok (.getfield 75, 3) := by decide +kernel
theorem dX5_freshWeights_96 : decode cX5_freshWeights 96 = .ok (.iload_n 1, 1) := by decide +kernel
theorem dX5_freshWeights_97 : decode cX5_freshWeights 97 = .ok (.iload_n 2, 1) := by decide +kernel
theorem dX5_freshWeights_98 : decode cX5_freshWeights 98 = .ok (.aload_n 0, 1) := by decide +kernel
theorem dX5_freshWeights_99 : decode cX5_freshWeights 99 = .ok (.getfield 22, 3) := by decide +kernel
theorem dX5_freshWeights_102 : decode cX5_freshWeights 102 = .ok (.iload_n 2, 1) := by decide +kernel
theorem dX5_freshWeights_103 : decode cX5_freshWeights 103 = .ok (.bipush 36, 2) := by decide +kernel
theorem dX5_freshWeights_105 : decode cX5_freshWeights 105 = .ok (.imul, 1) := by decide +kernel
theorem dX5_freshWeights_106 : decode cX5_freshWeights 106 = .ok (.iload_n 1, 1) := by decide +kernel
theorem dX5_freshWeights_107 : decode cX5_freshWeights 107 = .ok (.iadd, 1) := by decide +kernel
theorem dX5_freshWeights_108 : decode cX5_freshWeights 108 = .ok (.iaload, 1) := by decide +kernel
theorem dX5_freshWeights_109 : decode cX5_freshWeights 109 = .ok (.invokevirtual 69, 3) := by decide +kernel
theorem dX5_freshWeights_112 : decode cX5_freshWeights 112 = .ok (.iinc 2 1, 3) := by decide +kernel
theorem dX5_freshWeights_115 : decode cX5_freshWeights 115 = .ok (.goto (-31), 3) := by decide +kernel
theorem dX5_freshWeights_118 : decode cX5_freshWeights 118 = .ok (.iinc 1 1, 3) := by decide +kernel
theorem dX5_freshWeights_121 : decode cX5_freshWeights 121 = .ok (.goto (-50), 3) := by decide +kernel
theorem dX5_freshWeights_124 : decode cX5_freshWeights 124 = .ok (.aload_n 0, 1) := by decide +kernel
theorem dX5_freshWeights_125 : decode cX5_freshWeights 125 = .ok (.getfield 75, 3) := by decide +kernel
theorem dX5_freshWeights_128 : decode cX5_freshWeights 128 = .ok (.invokevirtual 72, 3) := by decide +kernel
theorem dX5_freshWeights_131 : decode cX5_freshWeights 131 = .ok (.aload_n 0, 1) := by decide +kernel
theorem dX5_freshWeights_132 : decode cX5_freshWeights 132 = .ok (.getfield 75, 3) := by decide +kernel
theorem dX5_freshWeights_135 : decode cX5_freshWeights 135 = .ok (.areturn, 1) := by decide +kernel
theorem dX5_countQuiet_0 : decode cX5_countQuiet 0 = .ok (.aload_n 0, 1) := by decide +kernel
theorem dX5_countQuiet_1 : decode cX5_countQuiet 1 = .ok (.getfield 37, 3) := by decide +kernel
theorem dX5_countQuiet_4 : decode cX5_countQuiet 4 = .ok (.invokevirtual 81, 3) := by decide +kernel
theorem dX5_countQuiet_7 : decode cX5_countQuiet 7 = .ok (.ireturn, 1) := by decide +kernel
theorem dX5_countWeights_0 : decode cX5_countWeights 0 = .ok (.aload_n 0, 1) := by decide +kernel
theorem dX5_countWeights_1 : decode cX5_countWeights 1 = .ok (.invokevirtual 85, 3) := by decide +kernel
theorem dX5_countWeights_4 : decode cX5_countWeights 4 = .ok (.invokevirtual 81, 3) := by decide +kernel
theorem dX5_countWeights_7 : decode cX5_countWeights 7 = .ok (.ireturn, 1) := by decide +kernel
theorem dX5_solve_0 : decode cX5_solve 0 = .ok (.aload_n 0, 1) := by decide +kernel
theorem dX5_solve_1 : decode cX5_solve 1 = .ok (.getfield 27, 3) := by decide +kernel
theorem dX5_solve_4 : decode cX5_solve 4 = .ok (.iconst 0, 1) := by decide +kernel
theorem dX5_solve_5 : decode cX5_solve 5 = .ok (.invokestatic 89, 3) := by decide +kernel
theorem dX5_solve_8 : decode cX5_solve 8 = .ok (.iconst 0, 1) := by decide +kernel
theorem dX5_solve_9 : decode cX5_solve 9 = .ok (.istore_n 1, 1) := by decide +kernel
theorem dX5_solve_10 : decode cX5_solve 10 = .ok (.iload_n 1, 1) := by decide +kernel
theorem dX5_solve_11 : decode cX5_solve 11 = .ok (.aload_n 0, 1) := by decide +kernel
theorem dX5_solve_12 : decode cX5_solve 12 = .ok (.getfield 30, 3) := by decide +kernel
theorem dX5_solve_15 : decode cX5_solve 15 = .ok (.getfield 58, 3) := by decide +kernel
theorem dX5_solve_18 : decode cX5_solve 18 = .ok (.if_icmp .ge 40, 3) := by decide +kernel
theorem dX5_solve_21 : decode cX5_solve 21 = .ok (.aload_n 0, 1) := by decide +kernel
theorem dX5_solve_22 : decode cX5_solve 22 = .ok (.getfield 27, 3) := by decide +kernel
theorem dX5_solve_25 : decode cX5_solve 25 = .ok (.iload_n 1, 1) := by decide +kernel
theorem dX5_solve_26 : decode cX5_solve 26 = .ok (.aload_n 0, 1) := by decide +kernel
theorem dX5_solve_27 : decode cX5_solve 27 = .ok (.getfield 30, 3) := by decide +kernel
theorem dX5_solve_30 : decode cX5_solve 30 = .ok (.getfield 55, 3) := by decide +kernel
theorem dX5_solve_33 : decode cX5_solve 33 = .ok (.aload_n 0, 1) := by decide +kernel
theorem dX5_solve_34 : decode cX5_solve 34 = .ok (.getfield 30, 3) := by decide +kernel
theorem dX5_solve_37 : decode cX5_solve 37 = .ok (.getfield 95, 3) := by decide +kernel
theorem dX5_solve_40 : decode cX5_solve 40 = .ok (.iload_n 1, 1) := by decide +kernel
theorem dX5_solve_41 : decode cX5_solve 41 = .ok (.iaload, 1) := by decide +kernel
theorem dX5_solve_42 : decode cX5_solve 42 = .ok (.isub, 1) := by decide +kernel
theorem dX5_solve_43 : decode cX5_solve 43 = .ok (.aload_n 0, 1) := by decide +kernel
theorem dX5_solve_44 : decode cX5_solve 44 = .ok (.getfield 30, 3) := by decide +kernel
theorem dX5_solve_47 : decode cX5_solve 47 = .ok (.getfield 55, 3) := by decide +kernel
theorem dX5_solve_50 : decode cX5_solve 50 = .ok (.irem, 1) := by decide +kernel
theorem dX5_solve_51 : decode cX5_solve 51 = .ok (.iastore, 1) := by decide +kernel
theorem dX5_solve_52 : decode cX5_solve 52 = .ok (.iinc 1 1, 3) := by decide +kernel
theorem dX5_solve_55 : decode cX5_solve 55 = .ok (.goto (-45), 3) := by decide +kernel
theorem dX5_solve_58 : decode cX5_solve 58 = .ok (.aload_n 0, 1) := by decide +kernel
theorem dX5_solve_59 : decode cX5_solve 59 = .ok (.getfield 37, 3) := by decide +kernel
theorem dX5_solve_62 : decode cX5_solve 62 = .ok (.aload_n 0, 1) := by decide +kernel
theorem dX5_solve_63 : decode cX5_solve 63 = .ok (.getfield 27, 3) := by decide +kernel
theorem dX5_solve_66 : decode cX5_solve 66 = .ok (.invokevirtual 98, 3) := by decide +kernel
theorem dX5_solve_69 : decode cX5_solve 69 = .ok (.ifCond .ne 5, 3) := by decide +kernel
theorem dX5_solve_72 : decode cX5_solve 72 = .ok (.iconst 0, 1) := by decide +kernel
theorem dX5_solve_73 : decode cX5_solve 73 = .ok (.ireturn, 1) := by decide +kernel
theorem dX5_solve_74 : decode cX5_solve 74 = .ok (.aload_n 0, 1) := by decide +kernel
theorem dX5_solve_75 : decode cX5_solve 75 = .ok (.getfield 37, 3) := by decide +kernel
theorem dX5_solve_78 : decode cX5_solve 78 = .ok (.aload_n 0, 1) := by decide +kernel
theorem dX5_solve_79 : decode cX5_solve 79 = .ok (.getfield 27, 3) := by decide +kernel
theorem dX5_solve_82 : decode cX5_solve 82 = .ok (.iconst 0, 1) := by decide +kernel
theorem dX5_solve_83 : decode cX5_solve 83 = .ok (.aload_n 0, 1) := by decide +kernel
theorem dX5_solve_84 : decode cX5_solve 84 = .ok (.getfield 37, 3) := by decide +kernel
theorem dX5_solve_87 : decode cX5_solve 87 = .ok (.getfield 102, 3) := by decide +kernel
theorem dX5_solve_90 : decode cX5_solve 90 = .ok (.aload_n 0, 1) := by decide +kernel
theorem dX5_solve_91 : decode cX5_solve 91 = .ok (.getfield 37, 3) := by decide +kernel
theorem dX5_solve_94 : decode cX5_solve 94 = .ok (.getfield 105, 3) := by decide +kernel
theorem dX5_solve_97 : decode cX5_solve 97 = .ok (.invokevirtual 108, 3) := by decide +kernel
theorem dX5_solve_100 : decode cX5_solve 100 = .ok (.iconst 1, 1) := by decide +kernel
theorem dX5_solve_101 : decode cX5_solve 101 = .ok (.ireturn, 1) := by decide +kernel
theorem dX5_tellPushing_0 : decode cX5_tellPushing 0 = .ok (.aload_n 0, 1) := by decide +kernel
theorem dX5_tellPushing_1 : decode cX5_tellPushing 1 = .ok (.aload_n 0, 1) := by decide +kernel
theorem dX5_tellPushing_2 : decode cX5_tellPushing 2 = .ok (.getfield 27, 3) := by decide +kernel
theorem dX5_tellPushing_5 : decode cX5_tellPushing 5 = .ok (.aload_n 1, 1) := by decide +kernel
theorem dX5_tellPushing_6 : decode cX5_tellPushing 6 = .ok (.invokevirtual 112, 3) := by decide +kernel
theorem dX5_tellPushing_9 : decode cX5_tellPushing 9 = .ok (.return_, 1) := by decide +kernel
theorem dX5_tellTail_0 : decode cX5_tellTail 0 = .ok (.aload_n 2, 1) := by decide +kernel
theorem dX5_tellTail_1 : decode cX5_tellTail 1 = .ok (.iconst 1, 1) := by decide +kernel
theorem dX5_tellTail_2 : decode cX5_tellTail 2 = .ok (.aload_n 0, 1) := by decide +kernel
theorem dX5_tellTail_3 : decode cX5_tellTail 3 = .ok (.getfield 30, 3) := by decide +kernel
theorem dX5_tellTail_6 : decode cX5_tellTail 6 = .ok (.getfield 49, 3) := by decide +kernel
theorem dX5_tellTail_9 : decode cX5_tellTail 9 = .ok (.invokevirtual 118, 3) := by decide +kernel
theorem dX5_tellTail_12 : decode cX5_tellTail 12 = .ok (.iconst 0, 1) := by decide +kernel
theorem dX5_tellTail_13 : decode cX5_tellTail 13 = .ok (.istore_n 3, 1) := by decide +kernel
theorem dX5_tellTail_14 : decode cX5_tellTail 14 = .ok (.iload_n 3, 1) := by decide +kernel
theorem dX5_tellTail_15 : decode cX5_tellTail 15 = .ok (.aload_n 0, 1) := by decide +kernel
theorem dX5_tellTail_16 : decode cX5_tellTail 16 = .ok (.getfield 46, 3) := by decide +kernel
theorem dX5_tellTail_19 : decode cX5_tellTail 19 = .ok (.if_icmp .ge 31, 3) := by decide +kernel
theorem dX5_tellTail_22 : decode cX5_tellTail 22 = .ok (.aload_n 2, 1) := by decide +kernel
theorem dX5_tellTail_23 : decode cX5_tellTail 23 = .ok (.getfield 121, 3) := by decide +kernel
theorem dX5_tellTail_26 : decode cX5_tellTail 26 = .ok (.aload_n 0, 1) := by decide +kernel
theorem dX5_tellTail_27 : decode cX5_tellTail 27 = .ok (.getfield 18, 3) := by decide +kernel
theorem dX5_tellTail_30 : decode cX5_tellTail 30 = .ok (.iload_n 3, 1) := by decide +kernel
theorem dX5_tellTail_31 : decode cX5_tellTail 31 = .ok (.iaload, 1) := by decide +kernel
theorem dX5_tellTail_32 : decode cX5_tellTail 32 = .ok (.aload_n 1, 1) := by decide +kernel
theorem dX5_tellTail_33 : decode cX5_tellTail 33 = .ok (.aload_n 0, 1) := by decide +kernel
theorem dX5_tellTail_34 : decode cX5_tellTail 34 = .ok (.getfield 30, 3) := by decide +kernel
theorem dX5_tellTail_37 : decode cX5_tellTail 37 = .ok (.getfield 58, 3) := by decide +kernel
theorem dX5_tellTail_40 : decode cX5_tellTail 40 = .ok (.iload_n 3, 1) := by decide +kernel
theorem dX5_tellTail_41 : decode cX5_tellTail 41 = .ok (.iadd, 1) := by decide +kernel
theorem dX5_tellTail_42 : decode cX5_tellTail 42 = .ok (.iaload, 1) := by decide +kernel
theorem dX5_tellTail_43 : decode cX5_tellTail 43 = .ok (.iastore, 1) := by decide +kernel
theorem dX5_tellTail_44 : decode cX5_tellTail 44 = .ok (.iinc 3 1, 3) := by decide +kernel
theorem dX5_tellTail_47 : decode cX5_tellTail 47 = .ok (.goto (-33), 3) := by decide +kernel
theorem dX5_tellTail_50 : decode cX5_tellTail 50 = .ok (.return_, 1) := by decide +kernel
theorem dX5_goOn_0 : decode cX5_goOn 0 = .ok (.iconst 0, 1) := by decide +kernel
theorem dX5_goOn_1 : decode cX5_goOn 1 = .ok (.istore_n 2, 1) := by decide +kernel
theorem dX5_goOn_2 : decode cX5_goOn 2 = .ok (.iload_n 2, 1) := by decide +kernel
theorem dX5_goOn_3 : decode cX5_goOn 3 = .ok (.aload_n 0, 1) := by decide +kernel
theorem dX5_goOn_4 : decode cX5_goOn 4 = .ok (.getfield 46, 3) := by decide +kernel
theorem dX5_goOn_7 : decode cX5_goOn 7 = .ok (.if_icmp .ge 34, 3) := by decide +kernel
theorem dX5_goOn_10 : decode cX5_goOn 10 = .ok (.aload_n 0, 1) := by decide +kernel
theorem dX5_goOn_11 : decode cX5_goOn 11 = .ok (.getfield 27, 3) := by decide +kernel
theorem dX5_goOn_14 : decode cX5_goOn 14 = .ok (.aload_n 0, 1) := by decide +kernel
theorem dX5_goOn_15 : decode cX5_goOn 15 = .ok (.getfield 37, 3) := by decide +kernel
theorem dX5_goOn_18 : decode cX5_goOn 18 = .ok (.getfield 102, 3) := by decide +kernel
theorem dX5_goOn_21 : decode cX5_goOn 21 = .ok (.iload_n 2, 1) := by decide +kernel
theorem dX5_goOn_22 : decode cX5_goOn 22 = .ok (.iadd, 1) := by decide +kernel
theorem dX5_goOn_23 : decode cX5_goOn 23 = .ok (.aload_n 1, 1) := by decide +kernel
theorem dX5_goOn_24 : decode cX5_goOn 24 = .ok (.getfield 121, 3) := by decide +kernel
theorem dX5_goOn_27 : decode cX5_goOn 27 = .ok (.aload_n 0, 1) := by decide +kernel
theorem dX5_goOn_28 : decode cX5_goOn 28 = .ok (.getfield 18, 3) := by decide +kernel
theorem dX5_goOn_31 : decode cX5_goOn 31 = .ok (.iload_n 2, 1) := by decide +kernel
theorem dX5_goOn_32 : decode cX5_goOn 32 = .ok (.iaload, 1) := by decide +kernel
theorem dX5_goOn_33 : decode cX5_goOn 33 = .ok (.iaload, 1) := by decide +kernel
theorem dX5_goOn_34 : decode cX5_goOn 34 = .ok (.iastore, 1) := by decide +kernel
theorem dX5_goOn_35 : decode cX5_goOn 35 = .ok (.iinc 2 1, 3) := by decide +kernel
theorem dX5_goOn_38 : decode cX5_goOn 38 = .ok (.goto (-36), 3) := by decide +kernel
theorem dX5_goOn_41 : decode cX5_goOn 41 = .ok (.aload_n 0, 1) := by decide +kernel
theorem dX5_goOn_42 : decode cX5_goOn 42 = .ok (.getfield 37, 3) := by decide +kernel
theorem dX5_goOn_45 : decode cX5_goOn 45 = .ok (.aload_n 0, 1) := by decide +kernel
theorem dX5_goOn_46 : decode cX5_goOn 46 = .ok (.getfield 27, 3) := by decide +kernel
theorem dX5_goOn_49 : decode cX5_goOn 49 = .ok (.invokevirtual 124, 3) := by decide +kernel
theorem dX5_goOn_52 : decode cX5_goOn 52 = .ok (.ifCond .ne 5, 3) := by decide +kernel
theorem dX5_goOn_55 : decode cX5_goOn 55 = .ok (.iconst 0, 1) := by decide +kernel
theorem dX5_goOn_56 : decode cX5_goOn 56 = .ok (.ireturn, 1) := by decide +kernel
theorem dX5_goOn_57 : decode cX5_goOn 57 = .ok (.aload_n 0, 1) := by decide +kernel
theorem dX5_goOn_58 : decode cX5_goOn 58 = .ok (.aload_n 1, 1) := by decide +kernel
theorem dX5_goOn_59 : decode cX5_goOn 59 = .ok (.invokevirtual 127, 3) := by decide +kernel
theorem dX5_goOn_62 : decode cX5_goOn 62 = .ok (.aload_n 1, 1) := by decide +kernel
theorem dX5_goOn_63 : decode cX5_goOn 63 = .ok (.iconst 1, 1) := by decide +kernel
theorem dX5_goOn_64 : decode cX5_goOn 64 = .ok (.putfield 131, 3) := by decide +kernel
theorem dX5_goOn_67 : decode cX5_goOn 67 = .ok (.iconst 1, 1) := by decide +kernel
theorem dX5_goOn_68 : decode cX5_goOn 68 = .ok (.ireturn, 1) := by decide +kernel
theorem dX5_tellWhy_0 : decode cX5_tellWhy 0 = .ok (.aload_n 0, 1) := by decide +kernel
theorem dX5_tellWhy_1 : decode cX5_tellWhy 1 = .ok (.invokevirtual 85, 3) := by decide +kernel
theorem dX5_tellWhy_4 : decode cX5_tellWhy 4 = .ok (.astore_n 2, 1) := by decide +kernel
theorem dX5_tellWhy_5 : decode cX5_tellWhy 5 = .ok (.aload_n 2, 1) := by decide +kernel
theorem dX5_tellWhy_6 : decode cX5_tellWhy 6 = .ok (.getfield 102, 3) := by decide +kernel
theorem dX5_tellWhy_9 : decode cX5_tellWhy 9 = .ok (.istore_n 3, 1) := by decide +kernel
theorem dX5_tellWhy_10 : decode cX5_tellWhy 10 = .ok (.iload_n 3, 1) := by decide +kernel
theorem dX5_tellWhy_11 : decode cX5_tellWhy 11 = .ok (.aload_n 2, 1) := by decide +kernel
theorem dX5_tellWhy_12 : decode cX5_tellWhy 12 = .ok (.getfield 105, 3) := by decide +kernel
theorem dX5_tellWhy_15 : decode cX5_tellWhy 15 = .ok (.if_icmp .ge 53, 3) := by decide +kernel
theorem dX5_tellWhy_18 : decode cX5_tellWhy 18 = .ok (.aload_n 2, 1) := by decide +kernel
theorem dX5_tellWhy_19 : decode cX5_tellWhy 19 = .ok (.iload_n 3, 1) := by decide +kernel
theorem dX5_tellWhy_20 : decode cX5_tellWhy 20 = .ok (.invokevirtual 135, 3) := by decide +kernel
theorem dX5_tellWhy_23 : decode cX5_tellWhy 23 = .ok (.istore 4, 2) := by decide +kernel
theorem dX5_tellWhy_25 : decode cX5_tellWhy 25 = .ok (.aload_n 2, 1) := by decide +kernel
theorem dX5_tellWhy_26 : decode cX5_tellWhy 26 = .ok (.getfield 139, 3) := by decide +kernel
theorem dX5_tellWhy_29 : decode cX5_tellWhy 29 = .ok (.iload_n 3, 1) := by decide +kernel
theorem dX5_tellWhy_30 : decode cX5_tellWhy 30 = .ok (.iaload, 1) := by decide +kernel
theorem dX5_tellWhy_31 : decode cX5_tellWhy 31 = .ok (.ifCond .eq 31, 3) := by decide +kernel
theorem dX5_tellWhy_34 : decode cX5_tellWhy 34 = .ok (.aload_n 0, 1) := by decide +kernel
theorem dX5_tellWhy_35 : decode cX5_tellWhy 35 = .ok (.getfield 30, 3) := by decide +kernel
theorem dX5_tellWhy_38 : decode cX5_tellWhy 38 = .ok (.aload_n 2, 1) := by decide +kernel
theorem dX5_tellWhy_39 : decode cX5_tellWhy 39 = .ok (.getfield 142, 3) := by decide +kernel
theorem dX5_tellWhy_42 : decode cX5_tellWhy 42 = .ok (.iload 4, 2) := by decide +kernel
theorem dX5_tellWhy_44 : decode cX5_tellWhy 44 = .ok (.invokevirtual 145, 3) := by decide +kernel
theorem dX5_tellWhy_47 : decode cX5_tellWhy 47 = .ok (.ifCond .eq 15, 3) := by decide +kernel
theorem dX5_tellWhy_50 : decode cX5_tellWhy 50 = .ok (.aload_n 0, 1) := by decide +kernel
theorem dX5_tellWhy_51 : decode cX5_tellWhy 51 = .ok (.aload_n 2, 1) := by decide +kernel
theorem dX5_tellWhy_52 : decode cX5_tellWhy 52 = .ok (.getfield 142, 3) := by decide +kernel
theorem dX5_tellWhy_55 : decode cX5_tellWhy 55 = .ok (.iload 4, 2) := by decide +kernel
theorem dX5_tellWhy_57 : decode cX5_tellWhy 57 = .ok (.aload_n 1, 1) := by decide +kernel
theorem dX5_tellWhy_58 : decode cX5_tellWhy 58 = .ok (.invokevirtual 149, 3) := by decide +kernel
theorem dX5_tellWhy_61 : decode cX5_tellWhy 61 = .ok (.return_, 1) := by decide +kernel
theorem dX5_tellWhy_62 : decode cX5_tellWhy 62 = .ok (.iinc 3 1, 3) := by decide +kernel
theorem dX5_tellWhy_65 : decode cX5_tellWhy 65 = .ok (.goto (-55), 3) := by decide +kernel
theorem dX5_tellWhy_68 : decode cX5_tellWhy 68 = .ok (.return_, 1) := by decide +kernel
theorem dX5_tellByLamps_0 : decode cX5_tellByLamps 0 = .ok (.aload_n 3, 1) := by decide +kernel
theorem dX5_tellByLamps_1 : decode cX5_tellByLamps 1 = .ok (.iconst 2, 1) := by decide +kernel
theorem dX5_tellByLamps_2 : decode cX5_tellByLamps 2 = .ok (.aload_n 0, 1) := by decide +kernel
theorem dX5_tellByLamps_3 : decode cX5_tellByLamps 3 = .ok (.getfield 30, 3) := by decide +kernel
theorem dX5_tellByLamps_6 : decode cX5_tellByLamps 6 = .ok (.getfield 58, 3) := by decide +kernel
theorem dX5_tellByLamps_9 : decode cX5_tellByLamps 9 = .ok (.invokevirtual 118, 3) := by decide +kernel
theorem dX5_tellByLamps_12 : decode cX5_tellByLamps 12 = .ok (.aload_n 1, 1) := by decide +kernel
theorem dX5_tellByLamps_13 : decode cX5_tellByLamps 13 = .ok (.iload_n 2, 1) := by decide +kernel
theorem dX5_tellByLamps_14 : decode cX5_tellByLamps 14 = .ok (.aload_n 3, 1) := by decide +kernel
theorem dX5_tellByLamps_15 : decode cX5_tellByLamps 15 = .ok (.getfield 121, 3) := by decide +kernel
theorem dX5_tellByLamps_18 : decode cX5_tellByLamps 18 = .ok (.iconst 0, 1) := by decide +kernel
theorem dX5_tellByLamps_19 : decode cX5_tellByLamps 19 = .ok (.aload_n 0, 1) := by decide +kernel
theorem dX5_tellByLamps_20 : decode cX5_tellByLamps 20 = .ok (.getfield 30, 3) := by decide +kernel
theorem dX5_tellByLamps_23 : decode cX5_tellByLamps 23 = .ok (.getfield 58, 3) := by decide +kernel
theorem dX5_tellByLamps_26 : decode cX5_tellByLamps 26 = .ok (.invokestatic 153, 3) := by decide +kernel
theorem dX5_tellByLamps_29 : decode cX5_tellByLamps 29 = .ok (.return_, 1) := by decide +kernel
theorem dX5_tellQuiet_0 : decode cX5_tellQuiet 0 = .ok (.aload_n 0, 1) := by decide +kernel
theorem dX5_tellQuiet_1 : decode cX5_tellQuiet 1 = .ok (.getfield 37, 3) := by decide +kernel
theorem dX5_tellQuiet_4 : decode cX5_tellQuiet 4 = .ok (.iload_n 1, 1) := by decide +kernel
theorem dX5_tellQuiet_5 : decode cX5_tellQuiet 5 = .ok (.invokevirtual 159, 3) := by decide +kernel
theorem dX5_tellQuiet_8 : decode cX5_tellQuiet 8 = .ok (.istore_n 3, 1) := by decide +kernel
theorem dX5_tellQuiet_9 : decode cX5_tellQuiet 9 = .ok (.iload_n 3, 1) := by decide +kernel
theorem dX5_tellQuiet_10 : decode cX5_tellQuiet 10 = .ok (.iconst (-1), 1) := by decide +kernel
theorem dX5_tellQuiet_11 : decode cX5_tellQuiet 11 = .ok (.if_icmp .ne 5, 3) := by decide +kernel
theorem dX5_tellQuiet_14 : decode cX5_tellQuiet 14 = .ok (.iconst 0, 1) := by decide +kernel
theorem dX5_tellQuiet_15 : decode cX5_tellQuiet 15 = .ok (.ireturn, 1) := by decide +kernel
theorem dX5_tellQuiet_16 : decode cX5_tellQuiet 16 = .ok (.aload_n 0, 1) := by decide +kernel
theorem dX5_tellQuiet_17 : decode cX5_tellQuiet 17 = .ok (.getfield 37, 3) := by decide +kernel
theorem dX5_tellQuiet_20 : decode cX5_tellQuiet 20 = .ok (.getfield 142, 3) := by decide +kernel
theorem dX5_tellQuiet_23 : decode cX5_tellQuiet 23 = .ok (.aload_n 0, 1) := by decide +kernel
theorem dX5_tellQuiet_24 : decode cX5_tellQuiet 24 = .ok (.getfield 37, 3) := by decide +kernel
theorem dX5_tellQuiet_27 : decode cX5_tellQuiet 27 = .ok (.iload_n 3, 1) := by decide +kernel
theorem dX5_tellQuiet_28 : decode cX5_tellQuiet 28 = .ok (.invokevirtual 135, 3) := by decide +kernel
theorem dX5_tellQuiet_31 : decode cX5_tellQuiet 31 = .ok (.aload_n 0, 1) := by decide +kernel
theorem dX5_tellQuiet_32 : decode cX5_tellQuiet 32 = .ok (.getfield 27, 3) := by decide +kernel
theorem dX5_tellQuiet_35 : decode cX5_tellQuiet 35 = .ok (.aload_n 0, 1) := by decide +kernel
theorem dX5_tellQuiet_36 : decode cX5_tellQuiet 36 = .ok (.getfield 37, 3) := by decide +kernel
theorem dX5_tellQuiet_39 : decode cX5_tellQuiet 39 = .ok (.getfield 102, 3) := by decide +kernel
theorem dX5_tellQuiet_42 : decode cX5_tellQuiet 42 = .ok (.aload_n 0, 1) := by decide +kernel
theorem dX5_tellQuiet_43 : decode cX5_tellQuiet 43 = .ok (.getfield 46, 3) := by decide +kernel
theorem dX5_tellQuiet_46 : decode cX5_tellQuiet 46 = .ok (.invokestatic 153, 3) := by decide +kernel
theorem dX5_tellQuiet_49 : decode cX5_tellQuiet 49 = .ok (.aload_n 0, 1) := by decide +kernel
theorem dX5_tellQuiet_50 : decode cX5_tellQuiet 50 = .ok (.aload_n 2, 1) := by decide +kernel
theorem dX5_tellQuiet_51 : decode cX5_tellQuiet 51 = .ok (.invokevirtual 127, 3) := by decide +kernel
theorem dX5_tellQuiet_54 : decode cX5_tellQuiet 54 = .ok (.iconst 1, 1) := by decide +kernel
theorem dX5_tellQuiet_55 : decode cX5_tellQuiet 55 = .ok (.ireturn, 1) := by decide +kernel
theorem dX5_tellWeights_0 : decode cX5_tellWeights 0 = .ok (.aload_n 0, 1) := by decide +kernel
theorem dX5_tellWeights_1 : decode cX5_tellWeights 1 = .ok (.invokevirtual 85, 3) := by decide +kernel
theorem dX5_tellWeights_4 : decode cX5_tellWeights 4 = .ok (.astore_n 3, 1) := by decide +kernel
theorem dX5_tellWeights_5 : decode cX5_tellWeights 5 = .ok (.aload_n 3, 1) := by decide +kernel
theorem dX5_tellWeights_6 : decode cX5_tellWeights 6 = .ok (.iload_n 1, 1) := by decide +kernel
theorem dX5_tellWeights_7 : decode cX5_tellWeights 7 = .ok (.invokevirtual 159, 3) := by decide +kernel
theorem dX5_tellWeights_10 : decode cX5_tellWeights 10 = .ok (.istore 4, 2) := by decide +kernel
theorem dX5_tellWeights_12 : decode cX5_tellWeights 12 = .ok (.iload 4, 2) := by decide +kernel
theorem dX5_tellWeights_14 : decode cX5_tellWeights 14 = .ok (.iconst (-1), 1) := by decide +kernel
theorem dX5_tellWeights_15 : decode cX5_tellWeights 15 = .ok (.if_icmp .ne 5, 3) := by decide +kernel
theorem dX5_tellWeights_18 : decode cX5_tellWeights 18 = .ok (.iconst 0, 1) := by decide +kernel
theorem dX5_tellWeights_19 : decode cX5_tellWeights 19 = .ok (.ireturn, 1) := by decide +kernel
theorem dX5_tellWeights_20 : decode cX5_tellWeights 20 = .ok (.aload_n 0, 1) := by decide +kernel
theorem dX5_tellWeights_21 : decode cX5_tellWeights 21 = .ok (.aload_n 3, 1) := by decide +kernel
theorem dX5_tellWeights_22 : decode cX5_tellWeights 22 = .ok (.getfield 142, 3) := by decide +kernel
theorem dX5_tellWeights_25 : decode cX5_tellWeights 25 = .ok (.aload_n 3, 1) := by decide +kernel
theorem dX5_tellWeights_26 : decode cX5_tellWeights 26 = .ok (.iload 4, 2) := by decide +kernel
theorem dX5_tellWeights_28 : decode cX5_tellWeights 28 = .ok (.invokevirtual 135, 3) := by decide +kernel
theorem dX5_tellWeights_31 : decode cX5_tellWeights 31 = .ok (.aload_n 2, 1) := by decide +kernel
theorem dX5_tellWeights_32 : decode cX5_tellWeights 32 = .ok (.invokevirtual 149, 3) := by decide +kernel
theorem dX5_tellWeights_35 : decode cX5_tellWeights 35 = .ok (.iconst 1, 1) := by decide +kernel
theorem dX5_tellWeights_36 : decode cX5_tellWeights 36 = .ok (.ireturn, 1) := by decide +kernel
theorem dX5_primesOfAll_0 : decode cX5_primesOfAll 0 = .ok (.aload_n 0, 1) := by decide +kernel
theorem dX5_primesOfAll_1 : decode cX5_primesOfAll 1 = .ok (.getfield 46, 3) := by decide +kernel
theorem dX5_primesOfAll_4 : decode cX5_primesOfAll 4 = .ok (.iload_n 1, 1) := by decide +kernel
theorem dX5_primesOfAll_5 : decode cX5_primesOfAll 5 = .ok (.aload_n 0, 1) := by decide +kernel
theorem dX5_primesOfAll_6 : decode cX5_primesOfAll 6 = .ok (.getfield 30, 3) := by decide +kernel
theorem dX5_primesOfAll_9 : decode cX5_primesOfAll 9 = .ok (.getfield 55, 3) := by decide +kernel
theorem dX5_primesOfAll_12 : decode cX5_primesOfAll 12 = .ok (.invokestatic 162, 3) := by decide +kernel
theorem dX5_primesOfAll_15 : decode cX5_primesOfAll 15 = .ok (.imul, 1) := by decide +kernel
theorem dX5_primesOfAll_16 : decode cX5_primesOfAll 16 = .ok (.ireturn, 1) := by decide +kernel
theorem dX5_primesOfQuiet_0 : decode cX5_primesOfQuiet 0 = .ok (.iconst 0, 1) := by decide +kernel
theorem dX5_primesOfQuiet_1 : decode cX5_primesOfQuiet 1 = .ok (.istore_n 2, 1) := by decide +kernel
theorem dX5_primesOfQuiet_2 : decode cX5_primesOfQuiet 2 = .ok (.aload_n 0, 1) := by decide +kernel
theorem dX5_primesOfQuiet_3 : decode cX5_primesOfQuiet 3 = .ok (.getfield 37, 3) := by decide +kernel
theorem dX5_primesOfQuiet_6 : decode cX5_primesOfQuiet 6 = .ok (.getfield 102, 3) := by decide +kernel
theorem dX5_primesOfQuiet_9 : decode cX5_primesOfQuiet 9 = .ok (.istore_n 3, 1) := by decide +kernel
theorem dX5_primesOfQuiet_10 : decode cX5_primesOfQuiet 10 = .ok (.iload_n 3, 1) := by decide +kernel
theorem dX5_primesOfQuiet_11 : decode cX5_primesOfQuiet 11 = .ok (.aload_n 0, 1) := by decide +kernel
theorem dX5_primesOfQuiet_12 : decode cX5_primesOfQuiet 12 = .ok (.getfield 37, 3) := by decide +kernel
theorem dX5_primesOfQuiet_15 : decode cX5_primesOfQuiet 15 = .ok (.getfield 105, 3) := by decide +kernel
theorem dX5_primesOfQuiet_18 : decode cX5_primesOfQuiet 18 = .ok (.if_icmp .ge 24, 3) := by decide +kernel
theorem dX5_primesOfQuiet_21 : decode cX5_primesOfQuiet 21 = .ok (.iload_n 2, 1) := by decide +kernel
theorem dX5_primesOfQuiet_22 : decode cX5_primesOfQuiet 22 = .ok (.iload_n 1, 1) := by decide +kernel
theorem dX5_primesOfQuiet_23 : decode cX5_primesOfQuiet 23 = .ok (.aload_n 0, 1) := by decide +kernel
theorem dX5_primesOfQuiet_24 : decode cX5_primesOfQuiet 24 = .ok (.getfield 37, 3) := by decide +kernel
theorem dX5_primesOfQuiet_27 : decode cX5_primesOfQuiet 27 = .ok (.iload_n 3, 1) := by decide +kernel
theorem dX5_primesOfQuiet_28 : decode cX5_primesOfQuiet 28 = .ok (.invokevirtual 165, 3) := by decide +kernel
theorem dX5_primesOfQuiet_31 : decode cX5_primesOfQuiet 31 = .ok (.invokestatic 162, 3) := by decide +kernel
theorem dX5_primesOfQuiet_34 : decode cX5_primesOfQuiet 34 = .ok (.iadd, 1) := by decide +kernel
theorem dX5_primesOfQuiet_35 : decode cX5_primesOfQuiet 35 = .ok (.istore_n 2, 1) := by decide +kernel
theorem dX5_primesOfQuiet_36 : decode cX5_primesOfQuiet 36 = .ok (.iinc 3 1, 3) := by decide +kernel
theorem dX5_primesOfQuiet_39 : decode cX5_primesOfQuiet 39 = .ok (.goto (-29), 3) := by decide +kernel
theorem dX5_primesOfQuiet_42 : decode cX5_primesOfQuiet 42 = .ok (.iload_n 2, 1) := by decide +kernel
theorem dX5_primesOfQuiet_43 : decode cX5_primesOfQuiet 43 = .ok (.ireturn, 1) := by decide +kernel
theorem dX5_primesOfPatterns_0 : decode cX5_primesOfPatterns 0 = .ok (.aload_n 0, 1) := by decide +kernel
theorem dX5_primesOfPatterns_1 : decode cX5_primesOfPatterns 1 = .ok (.iload_n 1, 1) := by decide +kernel
theorem dX5_primesOfPatterns_2 : decode cX5_primesOfPatterns 2 = .ok (.invokevirtual 168, 3) := by decide +kernel
theorem dX5_primesOfPatterns_5 : decode cX5_primesOfPatterns 5 = .ok (.aload_n 0, 1) := by decide +kernel
theorem dX5_primesOfPatterns_6 : decode cX5_primesOfPatterns 6 = .ok (.iload_n 1, 1) := by decide +kernel
theorem dX5_primesOfPatterns_7 : decode cX5_primesOfPatterns 7 = .ok (.invokevirtual 171, 3) := by decide +kernel
theorem dX5_primesOfPatterns_10 : decode cX5_primesOfPatterns 10 = .ok (.isub, 1) := by decide +kernel
theorem dX5_primesOfPatterns_11 : decode cX5_primesOfPatterns 11 = .ok (.ireturn, 1) := by decide +kernel
theorem dX5_primesOfWeights_0 : decode cX5_primesOfWeights 0 = .ok (.aload_n 0, 1) := by decide +kernel
theorem dX5_primesOfWeights_1 : decode cX5_primesOfWeights 1 = .ok (.getfield 30, 3) := by decide +kernel
theorem dX5_primesOfWeights_4 : decode cX5_primesOfWeights 4 = .ok (.getfield 58, 3) := by decide +kernel
theorem dX5_primesOfWeights_7 : decode cX5_primesOfWeights 7 = .ok (.iload_n 1, 1) := by decide +kernel
theorem dX5_primesOfWeights_8 : decode cX5_primesOfWeights 8 = .ok (.aload_n 0, 1) := by decide +kernel
theorem dX5_primesOfWeights_9 : decode cX5_primesOfWeights 9 = .ok (.getfield 30, 3) := by decide +kernel
theorem dX5_primesOfWeights_12 : decode cX5_primesOfWeights 12 = .ok (.getfield 55, 3) := by decide +kernel
theorem dX5_primesOfWeights_15 : decode cX5_primesOfWeights 15 = .ok (.invokestatic 162, 3) := by decide +kernel
theorem dX5_primesOfWeights_18 : decode cX5_primesOfWeights 18 = .ok (.imul, 1) := by decide +kernel
theorem dX5_primesOfWeights_19 : decode cX5_primesOfWeights 19 = .ok (.aload_n 0, 1) := by decide +kernel
theorem dX5_primesOfWeights_20 : decode cX5_primesOfWeights 20 = .ok (.iload_n 1, 1) := by decide +kernel
theorem dX5_primesOfWeights_21 : decode cX5_primesOfWeights 21 = .ok (.invokevirtual 174, 3) := by decide +kernel
theorem dX5_primesOfWeights_24 : decode cX5_primesOfWeights 24 = .ok (.isub, 1) := by decide +kernel
theorem dX5_primesOfWeights_25 : decode cX5_primesOfWeights 25 = .ok (.ireturn, 1) := by decide +kernel
theorem dX5_howOften_0 : decode cX5_howOften 0 = .ok (.iload_n 1, 1) := by decide +kernel
theorem dX5_howOften_1 : decode cX5_howOften 1 = .ok (.istore_n 2, 1) := by decide +kernel
theorem dX5_howOften_2 : decode cX5_howOften 2 = .ok (.iconst 0, 1) := by decide +kernel
theorem dX5_howOften_3 : decode cX5_howOften 3 = .ok (.istore_n 3, 1) := by decide +kernel
theorem dX5_howOften_4 : decode cX5_howOften 4 = .ok (.iload_n 3, 1) := by decide +kernel
theorem dX5_howOften_5 : decode cX5_howOften 5 = .ok (.iconst 3, 1) := by decide +kernel
theorem dX5_howOften_6 : decode cX5_howOften 6 = .ok (.if_icmp .ge 19, 3) := by decide +kernel
theorem dX5_howOften_9 : decode cX5_howOften 9 = .ok (.iload_n 2, 1) := by decide +kernel
theorem dX5_howOften_10 : decode cX5_howOften 10 = .ok (.iload_n 0, 1) := by decide +kernel
theorem dX5_howOften_11 : decode cX5_howOften 11 = .ok (.irem, 1) := by decide +kernel
theorem dX5_howOften_12 : decode cX5_howOften 12 = .ok (.ifCond .ne 13, 3) := by decide +kernel
theorem dX5_howOften_15 : decode cX5_howOften 15 = .ok (.iload_n 2, 1) := by decide +kernel
theorem dX5_howOften_16 : decode cX5_howOften 16 = .ok (.iload_n 0, 1) := by decide +kernel
theorem dX5_howOften_17 : decode cX5_howOften 17 = .ok (.idiv, 1) := by decide +kernel
theorem dX5_howOften_18 : decode cX5_howOften 18 = .ok (.istore_n 2, 1) := by decide +kernel
theorem dX5_howOften_19 : decode cX5_howOften 19 = .ok (.iinc 3 1, 3) := by decide +kernel
theorem dX5_howOften_22 : decode cX5_howOften 22 = .ok (.goto (-18), 3) := by decide +kernel
theorem dX5_howOften_25 : decode cX5_howOften 25 = .ok (.iload_n 3, 1) := by decide +kernel
theorem dX5_howOften_26 : decode cX5_howOften 26 = .ok (.ireturn, 1) := by decide +kernel
theorem dX5_hasManyQuiet_0 : decode cX5_hasManyQuiet 0 = .ok (.iconst 1, 1) := by decide +kernel
theorem dX5_hasManyQuiet_1 : decode cX5_hasManyQuiet 1 = .ok (.istore_n 1, 1) := by decide +kernel
theorem dX5_hasManyQuiet_2 : decode cX5_hasManyQuiet 2 = .ok (.aload_n 0, 1) := by decide +kernel
theorem dX5_hasManyQuiet_3 : decode cX5_hasManyQuiet 3 = .ok (.getfield 37, 3) := by decide +kernel
theorem dX5_hasManyQuiet_6 : decode cX5_hasManyQuiet 6 = .ok (.getfield 102, 3) := by decide +kernel
theorem dX5_hasManyQuiet_9 : decode cX5_hasManyQuiet 9 = .ok (.istore_n 2, 1) := by decide +kernel
theorem dX5_hasManyQuiet_10 : decode cX5_hasManyQuiet 10 = .ok (.iload_n 2, 1) := by decide +kernel
theorem dX5_hasManyQuiet_11 : decode cX5_hasManyQuiet 11 = .ok (.aload_n 0, 1) := by decide +kernel
theorem dX5_hasManyQuiet_12 : decode cX5_hasManyQuiet 12 = .ok (.getfield 37, 3) := by decide +kernel
theorem dX5_hasManyQuiet_15 : decode cX5_hasManyQuiet 15 = .ok (.getfield 105, 3) := by decide +kernel
theorem dX5_hasManyQuiet_18 : decode cX5_hasManyQuiet 18 = .ok (.if_icmp .ge 26, 3) := by decide +kernel
theorem dX5_hasManyQuiet_21 : decode cX5_hasManyQuiet 21 = .ok (.iload_n 1, 1) := by decide +kernel
theorem dX5_hasManyQuiet_22 : decode cX5_hasManyQuiet 22 = .ok (.ldc 177, 2) := by decide +kernel
theorem dX5_hasManyQuiet_24 : decode cX5_hasManyQuiet 24 = .ok (.if_icmp .gt 20, 3) := by decide +kernel
theorem dX5_hasManyQuiet_27 : decode cX5_hasManyQuiet 27 = .ok (.iload_n 1, 1) := by decide +kernel
theorem dX5_hasManyQuiet_28 : decode cX5_hasManyQuiet 28 = .ok (.aload_n 0, 1) := by decide +kernel
theorem dX5_hasManyQuiet_29 : decode cX5_hasManyQuiet 29 = .ok (.getfield 37, 3) := by decide +kernel
theorem dX5_hasManyQuiet_32 : decode cX5_hasManyQuiet 32 = .ok (.iload_n 2, 1) := by decide +kernel
theorem dX5_hasManyQuiet_33 : decode cX5_hasManyQuiet 33 = .ok (.invokevirtual 165, 3) := by decide +kernel
theorem dX5_hasManyQuiet_36 : decode cX5_hasManyQuiet 36 = .ok (.imul, 1) := by decide +kernel
theorem dX5_hasManyQuiet_37 : decode cX5_hasManyQuiet 37 = .ok (.istore_n 1, 1) := by decide +kernel
theorem dX5_hasManyQuiet_38 : decode cX5_hasManyQuiet 38 = .ok (.iinc 2 1, 3) := by decide +kernel
theorem dX5_hasManyQuiet_41 : decode cX5_hasManyQuiet 41 = .ok (.goto (-31), 3) := by decide +kernel
theorem dX5_hasManyQuiet_44 : decode cX5_hasManyQuiet 44 = .ok (.iload_n 1, 1) := by decide +kernel
theorem dX5_hasManyQuiet_45 : decode cX5_hasManyQuiet 45 = .ok (.ldc 177, 2) := by decide +kernel
theorem dX5_hasManyQuiet_47 : decode cX5_hasManyQuiet 47 = .ok (.if_icmp .le 7, 3) := by decide +kernel
theorem dX5_hasManyQuiet_50 : decode cX5_hasManyQuiet 50 = .ok (.iconst 1, 1) := by decide +kernel
theorem dX5_hasManyQuiet_51 : decode cX5_hasManyQuiet 51 = .ok (.goto 4, 3) := by decide +kernel
theorem dX5_hasManyQuiet_54 : decode cX5_hasManyQuiet 54 = .ok (.iconst 0, 1) := by decide +kernel
theorem dX5_hasManyQuiet_55 : decode cX5_hasManyQuiet 55 = .ok (.ireturn, 1) := by decide +kernel
theorem dX5_hasManyPushings_0 : decode cX5_hasManyPushings 0 = .ok (.iconst 1, 1) := by decide +kernel
theorem dX5_hasManyPushings_1 : decode cX5_hasManyPushings 1 = .ok (.istore_n 1, 1) := by decide +kernel
theorem dX5_hasManyPushings_2 : decode cX5_hasManyPushings 2 = .ok (.iconst 0, 1) := by decide +kernel
theorem dX5_hasManyPushings_3 : decode cX5_hasManyPushings 3 = .ok (.istore_n 2, 1) := by decide +kernel
theorem dX5_hasManyPushings_4 : decode cX5_hasManyPushings 4 = .ok (.iload_n 2, 1) := by decide +kernel
theorem dX5_hasManyPushings_5 : decode cX5_hasManyPushings 5 = .ok (.aload_n 0, 1) := by decide +kernel
theorem dX5_hasManyPushings_6 : decode cX5_hasManyPushings 6 = .ok (.getfield 46, 3) := by decide +kernel
theorem dX5_hasManyPushings_9 : decode cX5_hasManyPushings 9 = .ok (.if_icmp .ge 25, 3) := by decide +kernel
theorem dX5_hasManyPushings_12 : decode cX5_hasManyPushings 12 = .ok (.iload_n 1, 1) := by decide +kernel
theorem dX5_hasManyPushings_13 : decode cX5_hasManyPushings 13 = .ok (.ldc 177, 2) := by decide +kernel
theorem dX5_hasManyPushings_15 : decode cX5_hasManyPushings 15 = .ok (.if_icmp .gt 19, 3) := by decide +kernel
theorem dX5_hasManyPushings_18 : decode cX5_hasManyPushings 18 = .ok (.iload_n 1, 1) := by decide +kernel
theorem dX5_hasManyPushings_19 : decode cX5_hasManyPushings 19 = .ok (.aload_n 0, 1) := by decide +kernel
theorem dX5_hasManyPushings_20 : decode cX5_hasManyPushings 20 = .ok (.getfield 30, 3) := by decide +kernel
theorem dX5_hasManyPushings_23 : decode cX5_hasManyPushings 23 = .ok (.getfield 55, 3) := by decide +kernel
theorem dX5_hasManyPushings_26 : decode cX5_hasManyPushings 26 = .ok (.imul, 1) := by decide +kernel
theorem dX5_hasManyPushings_27 : decode cX5_hasManyPushings 27 = .ok (.istore_n 1, 1) := by decide +kernel
theorem dX5_hasManyPushings_28 : decode cX5_hasManyPushings 28 = .ok (.iinc 2 1, 3) := by decide +kernel
theorem dX5_hasManyPushings_31 : decode cX5_hasManyPushings 31 = .ok (.goto (-27), 3) := by decide +kernel
theorem dX5_hasManyPushings_34 : decode cX5_hasManyPushings 34 = .ok (.iload_n 1, 1) := by decide +kernel
theorem dX5_hasManyPushings_35 : decode cX5_hasManyPushings 35 = .ok (.ldc 177, 2) := by decide +kernel
theorem dX5_hasManyPushings_37 : decode cX5_hasManyPushings 37 = .ok (.if_icmp .le 7, 3) := by decide +kernel
theorem dX5_hasManyPushings_40 : decode cX5_hasManyPushings 40 = .ok (.iconst 1, 1) := by decide +kernel
theorem dX5_hasManyPushings_41 : decode cX5_hasManyPushings 41 = .ok (.goto 4, 3) := by decide +kernel
theorem dX5_hasManyPushings_44 : decode cX5_hasManyPushings 44 = .ok (.iconst 0, 1) := by decide +kernel
theorem dX5_hasManyPushings_45 : decode cX5_hasManyPushings 45 = .ok (.ireturn, 1) := by decide +kernel
theorem dX5_freshSearch_0 : decode cX5_freshSearch 0 = .ok (.aload_n 0, 1) := by decide +kernel
theorem dX5_freshSearch_1 : decode cX5_freshSearch 1 = .ok (.getfield 178, 3) := by decide +kernel
theorem dX5_freshSearch_4 : decode cX5_freshSearch 4 = .ok (.ifnonnull 22, 3) := by decide +kernel
theorem dX5_freshSearch_7 : decode cX5_freshSearch 7 = .ok (.aload_n 0, 1) := by decide +kernel
theorem dX5_freshSearch_8 : decode cX5_freshSearch 8 = .ok (.new 182, 3) := by decide +kernel
theorem dX5_freshSearch_11 : decode cX5_freshSearch 11 = .ok (.dup, 1) := by decide +kernel
theorem dX5_freshSearch_12 : decode cX5_freshSearch 12 = .ok (.aload_n 0, 1) := by decide +kernel
theorem dX5_freshSearch_13 : decode cX5_freshSearch 13 = .ok (.getfield 37, 3) := by decide +kernel
theorem dX5_freshSearch_16 : decode cX5_freshSearch 16 = .ok (.aload_n 0, 1) := by decide +kernel
theorem dX5_freshSearch_17 : decode cX5_freshSearch 17 = .ok (.getfield 22, 3) := by decide +kernel
theorem dX5_freshSearch_20 : decode cX5_freshSearch 20 = .ok (.invokespecial 184, 3) := by decide +kernel
theorem dX5_freshSearch_23 : decode cX5_freshSearch 23 = .ok (.putfield 178, 3) := by decide +kernel
theorem dX5_freshSearch_26 : decode cX5_freshSearch 26 = .ok (.aload_n 0, 1) := by decide +kernel
theorem dX5_freshSearch_27 : decode cX5_freshSearch 27 = .ok (.getfield 178, 3) := by decide +kernel
theorem dX5_freshSearch_30 : decode cX5_freshSearch 30 = .ok (.aload_n 0, 1) := by decide +kernel
theorem dX5_freshSearch_31 : decode cX5_freshSearch 31 = .ok (.getfield 30, 3) := by decide +kernel
theorem dX5_freshSearch_34 : decode cX5_freshSearch 34 = .ok (.getfield 58, 3) := by decide +kernel
theorem dX5_freshSearch_37 : decode cX5_freshSearch 37 = .ok (.invokevirtual 187, 3) := by decide +kernel
theorem dX5_freshSearch_40 : decode cX5_freshSearch 40 = .ok (.iconst 0, 1) := by decide +kernel
theorem dX5_freshSearch_41 : decode cX5_freshSearch 41 = .ok (.istore_n 1, 1) := by decide +kernel
theorem dX5_freshSearch_42 : decode cX5_freshSearch 42 = .ok (.iload_n 1, 1) := by decide +kernel
theorem dX5_freshSearch_43 : decode cX5_freshSearch 43 = .ok (.aload_n 0, 1) := by decide +kernel
theorem dX5_freshSearch_44 : decode cX5_freshSearch 44 = .ok (.getfield 46, 3) := by decide +kernel
theorem dX5_freshSearch_47 : decode cX5_freshSearch 47 = .ok (.if_icmp .ge 31, 3) := by decide +kernel
theorem dX5_freshSearch_50 : decode cX5_freshSearch 50 = .ok (.aload_n 0, 1) := by decide +kernel
theorem dX5_freshSearch_51 : decode cX5_freshSearch 51 = .ok (.getfield 178, 3) := by decide +kernel
theorem dX5_freshSearch_54 : decode cX5_freshSearch 54 = .ok (.iload_n 1, 1) := by decide +kernel
theorem dX5_freshSearch_55 : decode cX5_freshSearch 55 = .ok (.aload_n 0, 1) := by decide +kernel
theorem dX5_freshSearch_56 : decode cX5_freshSearch 56 = .ok (.getfield 30, 3) := by decide +kernel
theorem dX5_freshSearch_59 : decode cX5_freshSearch 59 = .ok (.getfield 190, 3) := by decide +kernel
theorem dX5_freshSearch_62 : decode cX5_freshSearch 62 = .ok (.aload_n 0, 1) := by decide +kernel
theorem dX5_freshSearch_63 : decode cX5_freshSearch 63 = .ok (.getfield 18, 3) := by decide +kernel
theorem dX5_freshSearch_66 : decode cX5_freshSearch 66 = .ok (.iload_n 1, 1) := by decide +kernel
theorem dX5_freshSearch_67 : decode cX5_freshSearch 67 = .ok (.iaload, 1) := by decide +kernel
theorem dX5_freshSearch_68 : decode cX5_freshSearch 68 = .ok (.iaload, 1) := by decide +kernel
theorem dX5_freshSearch_69 : decode cX5_freshSearch 69 = .ok (.invokevirtual 193, 3) := by decide +kernel
theorem dX5_freshSearch_72 : decode cX5_freshSearch 72 = .ok (.iinc 1 1, 3) := by decide +kernel
theorem dX5_freshSearch_75 : decode cX5_freshSearch 75 = .ok (.goto (-33), 3) := by decide +kernel
theorem dX5_freshSearch_78 : decode cX5_freshSearch 78 = .ok (.aload_n 0, 1) := by decide +kernel
theorem dX5_freshSearch_79 : decode cX5_freshSearch 79 = .ok (.getfield 178, 3) := by decide +kernel
theorem dX5_freshSearch_82 : decode cX5_freshSearch 82 = .ok (.areturn, 1) := by decide +kernel
theorem dX5_tellLeast_0 : decode cX5_tellLeast 0 = .ok (.aload_n 0, 1) := by decide +kernel
theorem dX5_tellLeast_1 : decode cX5_tellLeast 1 = .ok (.invokevirtual 196, 3) := by decide +kernel
theorem dX5_tellLeast_4 : decode cX5_tellLeast 4 = .ok (.astore_n 2, 1) := by decide +kernel
theorem dX5_tellLeast_5 : decode cX5_tellLeast 5 = .ok (.aload_n 2, 1) := by decide +kernel
theorem dX5_tellLeast_6 : decode cX5_tellLeast 6 = .ok (.aload_n 0, 1) := by decide +kernel
theorem dX5_tellLeast_7 : decode cX5_tellLeast 7 = .ok (.getfield 27, 3) := by decide +kernel
theorem dX5_tellLeast_10 : decode cX5_tellLeast 10 = .ok (.invokevirtual 200, 3) := by decide +kernel
theorem dX5_tellLeast_13 : decode cX5_tellLeast 13 = .ok (.istore_n 3, 1) := by decide +kernel
theorem dX5_tellLeast_14 : decode cX5_tellLeast 14 = .ok (.aload_n 0, 1) := by decide +kernel
theorem dX5_tellLeast_15 : decode cX5_tellLeast 15 = .ok (.aload_n 2, 1) := by decide +kernel
theorem dX5_tellLeast_16 : decode cX5_tellLeast 16 = .ok (.getfield 204, 3) := by decide +kernel
theorem dX5_tellLeast_19 : decode cX5_tellLeast 19 = .ok (.aload_n 1, 1) := by decide +kernel
theorem dX5_tellLeast_20 : decode cX5_tellLeast 20 = .ok (.invokevirtual 112, 3) := by decide +kernel
theorem dX5_tellLeast_23 : decode cX5_tellLeast 23 = .ok (.iload_n 3, 1) := by decide +kernel
theorem dX5_tellLeast_24 : decode cX5_tellLeast 24 = .ok (.ireturn, 1) := by decide +kernel
theorem dX5_tellWorst_0 : decode cX5_tellWorst 0 = .ok (.aload_n 0, 1) := by decide +kernel
theorem dX5_tellWorst_1 : decode cX5_tellWorst 1 = .ok (.invokevirtual 196, 3) := by decide +kernel
theorem dX5_tellWorst_4 : decode cX5_tellWorst 4 = .ok (.astore_n 2, 1) := by decide +kernel
theorem dX5_tellWorst_5 : decode cX5_tellWorst 5 = .ok (.aload_n 2, 1) := by decide +kernel
theorem dX5_tellWorst_6 : decode cX5_tellWorst 6 = .ok (.invokevirtual 207, 3) := by decide +kernel
theorem dX5_tellWorst_9 : decode cX5_tellWorst 9 = .ok (.aload_n 0, 1) := by decide +kernel
theorem dX5_tellWorst_10 : decode cX5_tellWorst 10 = .ok (.aload_n 2, 1) := by decide +kernel
theorem dX5_tellWorst_11 : decode cX5_tellWorst 11 = .ok (.getfield 210, 3) := by decide +kernel
theorem dX5_tellWorst_14 : decode cX5_tellWorst 14 = .ok (.iconst 0, 1) := by decide +kernel
theorem dX5_tellWorst_15 : decode cX5_tellWorst 15 = .ok (.aload_n 1, 1) := by decide +kernel
theorem dX5_tellWorst_16 : decode cX5_tellWorst 16 = .ok (.invokevirtual 149, 3) := by decide +kernel
theorem dX5_tellWorst_19 : decode cX5_tellWorst 19 = .ok (.aload_n 2, 1) := by decide +kernel
theorem dX5_tellWorst_20 : decode cX5_tellWorst 20 = .ok (.getfield 213, 3) := by decide +kernel
theorem dX5_tellWorst_23 : decode cX5_tellWorst 23 = .ok (.ireturn, 1) := by decide +kernel
theorem dX6_init_0 : decode cX6_init 0 = .ok (.aload_n 0, 1) := by decide +kernel
theorem dX6_init_1 : decode cX6_init 1 = .ok (.invokespecial 3, 3) := by decide +kernel
theorem dX6_init_4 : decode cX6_init 4 = .ok (.aload_n 0, 1) := by decide +kernel
theorem dX6_init_5 : decode cX6_init 5 = .ok (.iconst 0, 1) := by decide +kernel
theorem dX6_init_6 : decode cX6_init 6 = .ok (.putfield 11, 3) := by decide +kernel
theorem dX6_init_9 : decode cX6_init 9 = .ok (.aload_n 0, 1) := by decide +kernel
theorem dX6_init_10 : decode cX6_init 10 = .ok (.bipush 36, 2) := by decide +kernel
theorem dX6_init_12 : decode cX6_init 12 = .ok (.newarray .int, 2) := by decide +kernel
theorem dX6_init_14 : decode cX6_init 14 = .ok (.putfield 15, 3) := by decide +kernel
theorem dX6_init_17 : decode cX6_init 17 = .ok (.return_, 1) := by decide +kernel
theorem dX6_begin_0 : decode cX6_begin 0 = .ok (.aload_n 0, 1) := by decide +kernel
theorem dX6_begin_1 : decode cX6_begin 1 = .ok (.iload_n 1, 1) := by decide +kernel
theorem dX6_begin_2 : decode cX6_begin 2 = .ok (.putfield 11, 3) := by decide +kernel
theorem dX6_begin_5 : decode cX6_begin 5 = .ok (.aload_n 0, 1) := by decide +kernel
theorem dX6_begin_6 : decode cX6_begin 6 = .ok (.iload_n 2, 1) := by decide +kernel
theorem dX6_begin_7 : decode cX6_begin 7 = .ok (.putfield 19, 3) := by decide +kernel
theorem dX6_begin_10 : decode cX6_begin 10 = .ok (.aload_n 0, 1) := by decide +kernel
theorem dX6_begin_11 : decode cX6_begin 11 = .ok (.iconst 0, 1) := by decide +kernel
theorem dX6_begin_12 : decode cX6_begin 12 = .ok (.putfield 22, 3) := by decide +kernel
theorem dX6_begin_15 : decode cX6_begin 15 = .ok (.aload_n 0, 1) := by decide +kernel
theorem dX6_begin_16 : decode cX6_begin 16 = .ok (.getfield 15, 3) := by decide +kernel
theorem dX6_begin_19 : decode cX6_begin 19 = .ok (.iconst 0, 1) := by decide +kernel
theorem dX6_begin_20 : decode cX6_begin 20 = .ok (.invokestatic 26, 3) := by decide +kernel
theorem dX6_begin_23 : decode cX6_begin 23 = .ok (.return_, 1) := by decide +kernel
theorem dX7_init_0 : decode cX7_init 0 = .ok (.aload_n 0, 1) := by decide +kernel
theorem dX7_init_1 : decode cX7_init 1 = .ok (.invokespecial 3, 3) := by decide +kernel
theorem dX7_init_4 : decode cX7_init 4 = .ok (.aload_n 0, 1) := by decide +kernel
theorem dX7_init_5 : decode cX7_init 5 = .ok (.new 9, 3) := by decide +kernel
theorem dX7_init_8 : decode cX7_init 8 = .ok (.dup, 1) := by decide +kernel
theorem dX7_init_9 : decode cX7_init 9 = .ok (.invokespecial 11, 3) := by decide +kernel
theorem dX7_init_12 : decode cX7_init 12 = .ok (.putfield 12, 3) := by decide +kernel
theorem dX7_init_15 : decode cX7_init 15 = .ok (.aload_n 0, 1) := by decide +kernel
theorem dX7_init_16 : decode cX7_init 16 = .ok (.new 16, 3) := by decide +kernel
theorem dX7_init_19 : decode cX7_init 19 = .ok (.dup, 1) := by decide +kernel
theorem dX7_init_20 : decode cX7_init 20 = .ok (.invokespecial 18, 3) := by decide +kernel
theorem dX7_init_23 : decode cX7_init 23 = .ok (.putfield 19, 3) := by decide +kernel
theorem dX7_init_26 : decode cX7_init 26 = .ok (.aload_n 0, 1) := by decide +kernel
theorem dX7_init_27 : decode cX7_init 27 = .ok (.new 23, 3) := by decide +kernel
theorem dX7_init_30 : decode cX7_init 30 = .ok (.dup, 1) := by decide +kernel
theorem dX7_init_31 : decode cX7_init 31 = .ok (.invokespecial 25, 3) := by decide +kernel
theorem dX7_init_34 : decode cX7_init 34 = .ok (.putfield 26, 3) := by decide +kernel
theorem dX7_init_37 : decode cX7_init 37 = .ok (.aload_n 0, 1) := by decide +kernel
theorem dX7_init_38 : decode cX7_init 38 = .ok (.new 30, 3) := by decide +kernel
theorem dX7_init_41 : decode cX7_init 41 = .ok (.dup, 1) := by decide +kernel
theorem dX7_init_42 : decode cX7_init 42 = .ok (.invokespecial 32, 3) := by decide +kernel
theorem dX7_init_45 : decode cX7_init 45 = .ok (.putfield 33, 3) := by decide +kernel
theorem dX7_init_48 : decode cX7_init 48 = .ok (.aload_n 0, 1) := by decide +kernel
theorem dX7_init_49 : decode cX7_init 49 = .ok (.bipush 36, 2) := by decide +kernel
theorem dX7_init_51 : decode cX7_init 51 = .ok (.newarray .int, 2) := by decide +kernel
theorem dX7_init_53 : decode cX7_init 53 = .ok (.putfield 37, 3) := by decide +kernel
theorem dX7_init_56 : decode cX7_init 56 = .ok (.return_, 1) := by decide +kernel
theorem dX7_plate_0 : decode cX7_plate 0 = .ok (.iload_n 1, 1) := by decide +kernel
theorem dX7_plate_1 : decode cX7_plate 1 = .ok (.iconst 1, 1) := by decide +kernel
theorem dX7_plate_2 : decode cX7_plate 2 = .ok (.if_icmp .lt 30, 3) := by decide +kernel
theorem dX7_plate_5 : decode cX7_plate 5 = .ok (.iload_n 1, 1) := by decide +kernel
theorem dX7_plate_6 : decode cX7_plate 6 = .ok (.bipush 36, 2) := by decide +kernel
theorem dX7_plate_8 : decode cX7_plate 8 = .ok (.if_icmp .gt 24, 3) := by decide +kernel
theorem dX7_plate_11 : decode cX7_plate 11 = .ok (.iload_n 2, 1) := by decide +kernel
theorem dX7_plate_12 : decode cX7_plate 12 = .ok (.iconst 2, 1) := by decide +kernel
theorem dX7_plate_13 : decode cX7_plate 13 = .ok (.if_icmp .lt 19, 3) := by decide +kernel
theorem dX7_plate_16 : decode cX7_plate 16 = .ok (.iload_n 2, 1) := by decide +kernel
theorem dX7_plate_17 : decode cX7_plate 17 = .ok (.bipush 12, 2) := by decide +kernel
theorem dX7_plate_19 : decode cX7_plate 19 = .ok (.if_icmp .gt 13, 3) := by decide +kernel
theorem dX7_plate_22 : decode cX7_plate 22 = .ok (.iload_n 3, 1) := by decide +kernel
theorem dX7_plate_23 : decode cX7_plate 23 = .ok (.iconst 1, 1) := by decide +kernel
theorem dX7_plate_24 : decode cX7_plate 24 = .ok (.if_icmp .lt 8, 3) := by decide +kernel
theorem dX7_plate_27 : decode cX7_plate 27 = .ok (.iload_n 3, 1) := by decide +kernel
theorem dX7_plate_28 : decode cX7_plate 28 = .ok (.iload_n 1, 1) := by decide +kernel
theorem dX7_plate_29 : decode cX7_plate 29 = .ok (.if_icmp .le 5, 3) := by decide +kernel
theorem dX7_plate_32 : decode cX7_plate 32 = .ok (.iconst 0, 1) := by decide +kernel
theorem dX7_plate_33 : decode cX7_plate 33 = .ok (.ireturn, 1) := by decide +kernel
theorem dX7_plate_34 : decode cX7_plate 34 = .ok (.aload_n 0, 1) := by decide +kernel
theorem dX7_plate_35 : decode cX7_plate 35 = .ok (.getfield 12, 3) := by decide +kernel
theorem dX7_plate_38 : decode cX7_plate 38 = .ok (.iload_n 1, 1) := by decide +kernel
theorem dX7_plate_39 : decode cX7_plate 39 = .ok (.iload_n 2, 1) := by decide +kernel
theorem dX7_plate_40 : decode cX7_plate 40 = .ok (.iload_n 3, 1) := by decide +kernel
theorem dX7_plate_41 : decode cX7_plate 41 = .ok (.invokevirtual 41, 3) := by decide +kernel
theorem dX7_plate_44 : decode cX7_plate 44 = .ok (.aload_n 0, 1) := by decide +kernel
theorem dX7_plate_45 : decode cX7_plate 45 = .ok (.invokevirtual 45, 3) := by decide +kernel
theorem dX7_plate_48 : decode cX7_plate 48 = .ok (.iconst 1, 1) := by decide +kernel
theorem dX7_plate_49 : decode cX7_plate 49 = .ok (.ireturn, 1) := by decide +kernel
theorem dX7_button_0 : decode cX7_button 0 = .ok (.aload_n 0, 1) := by decide +kernel
theorem dX7_button_1 : decode cX7_button 1 = .ok (.getfield 12, 3) := by decide +kernel
theorem dX7_button_4 : decode cX7_button 4 = .ok (.getfield 48, 3) := by decide +kernel
theorem dX7_button_7 : decode cX7_button 7 = .ok (.bipush 36, 2) := by decide +kernel
theorem dX7_button_9 : decode cX7_button 9 = .ok (.if_icmp .ge 18, 3) := by decide +kernel
theorem dX7_button_12 : decode cX7_button 12 = .ok (.aload_n 0, 1) := by decide +kernel
theorem dX7_button_13 : decode cX7_button 13 = .ok (.getfield 12, 3) := by decide +kernel
theorem dX7_button_16 : decode cX7_button 16 = .ok (.iload_n 1, 1) := by decide +kernel
theorem dX7_button_17 : decode cX7_button 17 = .ok (.iload_n 2, 1) := by decide +kernel
theorem dX7_button_18 : decode cX7_button 18 = .ok (.iload_n 3, 1) := by decide +kernel
theorem dX7_button_19 : decode cX7_button 19 = .ok (.iload 4, 2) := by decide +kernel
theorem dX7_button_21 : decode cX7_button 21 = .ok (.invokevirtual 52, 3) := by decide +kernel
theorem dX7_button_24 : decode cX7_button 24 = .ok (.ifCond .ne 5, 3) := by decide +kernel
theorem dX7_button_27 : decode cX7_button 27 = .ok (.iconst (-1), 1) := by decide +kernel
theorem dX7_button_28 : decode cX7_button 28 = .ok (.ireturn, 1) := by decide +kernel
theorem dX7_button_29 : decode cX7_button 29 = .ok (.aload_n 0, 1) := by decide +kernel
theorem dX7_button_30 : decode cX7_button 30 = .ok (.iconst 0, 1) := by decide +kernel
theorem dX7_button_31 : decode cX7_button 31 = .ok (.iconst 0, 1) := by decide +kernel
theorem dX7_button_32 : decode cX7_button 32 = .ok (.invokevirtual 56, 3) := by decide +kernel
theorem dX7_button_35 : decode cX7_button 35 = .ok (.aload_n 0, 1) := by decide +kernel
theorem dX7_button_36 : decode cX7_button 36 = .ok (.getfield 12, 3) := by decide +kernel
theorem dX7_button_39 : decode cX7_button 39 = .ok (.iload_n 1, 1) := by decide +kernel
theorem dX7_button_40 : decode cX7_button 40 = .ok (.iload_n 2, 1) := by decide +kernel
theorem dX7_button_41 : decode cX7_button 41 = .ok (.iload_n 3, 1) := by decide +kernel
theorem dX7_button_42 : decode cX7_button 42 = .ok (.iload 4, 2) := by decide +kernel
theorem dX7_button_44 : decode cX7_button 44 = .ok (.invokevirtual 60, 3) := by decide +kernel
theorem dX7_button_47 : decode cX7_button 47 = .ok (.ireturn, 1) := by decide +kernel
theorem dX7_board_0 : decode cX7_board 0 = .ok (.iload_n 1, 1) := by decide +kernel
theorem dX7_board_1 : decode cX7_board 1 = .ok (.iconst 4, 1) := by decide +kernel
theorem dX7_board_2 : decode cX7_board 2 = .ok (.if_icmp .ne 14, 3) := by decide +kernel
theorem dX7_board_5 : decode cX7_board 5 = .ok (.aload_n 0, 1) := by decide +kernel
theorem dX7_board_6 : decode cX7_board 6 = .ok (.getfield 19, 3) := by decide +kernel
theorem dX7_board_9 : decode cX7_board 9 = .ok (.iload_n 1, 1) := by decide +kernel
theorem dX7_board_10 : decode cX7_board 10 = .ok (.iconst 0, 1) := by decide +kernel
theorem dX7_board_11 : decode cX7_board 11 = .ok (.invokevirtual 64, 3) := by decide +kernel
theorem dX7_board_14 : decode cX7_board 14 = .ok (.iconst 1, 1) := by decide +kernel
theorem dX7_board_15 : decode cX7_board 15 = .ok (.ireturn, 1) := by decide +kernel
theorem dX7_board_16 : decode cX7_board 16 = .ok (.iload_n 1, 1) := by decide +kernel
theorem dX7_board_17 : decode cX7_board 17 = .ok (.ifCond .lt 18, 3) := by decide +kernel
theorem dX7_board_20 : decode cX7_board 20 = .ok (.iload_n 1, 1) := by decide +kernel
theorem dX7_board_21 : decode cX7_board 21 = .ok (.iconst 3, 1) := by decide +kernel
theorem dX7_board_22 : decode cX7_board 22 = .ok (.if_icmp .gt 13, 3) := by decide +kernel
theorem dX7_board_25 : decode cX7_board 25 = .ok (.iload_n 2, 1) := by decide +kernel
theorem dX7_board_26 : decode cX7_board 26 = .ok (.ifCond .lt 9, 3) := by decide +kernel
theorem dX7_board_29 : decode cX7_board 29 = .ok (.iload_n 2, 1) := by decide +kernel
theorem dX7_board_30 : decode cX7_board 30 = .ok (.bipush 80, 2) := by decide +kernel
theorem dX7_board_32 : decode cX7_board 32 = .ok (.if_icmp .le 5, 3) := by decide +kernel
theorem dX7_board_35 : decode cX7_board 35 = .ok (.iconst 0, 1) := by decide +kernel
theorem dX7_board_36 : decode cX7_board 36 = .ok (.ireturn, 1) := by decide +kernel
theorem dX7_board_37 : decode cX7_board 37 = .ok (.aload_n 0, 1) := by decide +kernel
theorem dX7_board_38 : decode cX7_board 38 = .ok (.getfield 19, 3) := by decide +kernel
theorem dX7_board_41 : decode cX7_board 41 = .ok (.iload_n 1, 1) := by decide +kernel
theorem dX7_board_42 : decode cX7_board 42 = .ok (.iload_n 2, 1) := by decide +kernel
theorem dX7_board_43 : decode cX7_board 43 = .ok (.invokevirtual 64, 3) := by decide +kernel
theorem dX7_board_46 : decode cX7_board 46 = .ok (.iconst 1, 1) := by decide +kernel
theorem dX7_board_47 : decode cX7_board 47 = .ok (.ireturn, 1) := by decide +kernel
theorem dX7_entry_0 : decode cX7_entry 0 = .ok (.iload_n 1, 1) := by decide +kernel
theorem dX7_entry_1 : decode cX7_entry 1 = .ok (.ifCond .lt 14, 3) := by decide +kernel
theorem dX7_entry_4 : decode cX7_entry 4 = .ok (.iload_n 1, 1) := by decide +kernel
theorem dX7_entry_5 : decode cX7_entry 5 = .ok (.aload_n 0, 1) := by decide +kernel
theorem dX7_entry_6 : decode cX7_entry 6 = .ok (.getfield 19, 3) := by decide +kernel
theorem dX7_entry_9 : decode cX7_entry 9 = .ok (.getfield 67, 3) := by decide +kernel
theorem dX7_entry_12 : decode cX7_entry 12 = .ok (.if_icmp .lt 5, 3) := by decide +kernel
theorem dX7_entry_15 : decode cX7_entry 15 = .ok (.iconst 0, 1) := by decide +kernel
theorem dX7_entry_16 : decode cX7_entry 16 = .ok (.ireturn, 1) := by decide +kernel
theorem dX7_entry_17 : decode cX7_entry 17 = .ok (.aload_n 0, 1) := by decide +kernel
theorem dX7_entry_18 : decode cX7_entry 18 = .ok (.getfield 19, 3) := by decide +kernel
theorem dX7_entry_21 : decode cX7_entry 21 = .ok (.iload_n 1, 1) := by decide +kernel
theorem dX7_entry_22 : decode cX7_entry 22 = .ok (.lload_n 2, 1) := by decide +kernel
theorem dX7_entry_23 : decode cX7_entry 23 = .ok (.invokevirtual 70, 3) := by decide +kernel
theorem dX7_entry_26 : decode cX7_entry 26 = .ok (.iconst 1, 1) := by decide +kernel
theorem dX7_entry_27 : decode cX7_entry 27 = .ok (.ireturn, 1) := by decide +kernel
theorem dX7_wire_0 : decode cX7_wire 0 = .ok (.aload_n 0, 1) := by decide +kernel
theorem dX7_wire_1 : decode cX7_wire 1 = .ok (.getfield 19, 3) := by decide +kernel
theorem dX7_wire_4 : decode cX7_wire 4 = .ok (.getfield 74, 3) := by decide +kernel
theorem dX7_wire_7 : decode cX7_wire 7 = .ok (.iconst (-1), 1) := by decide +kernel
theorem dX7_wire_8 : decode cX7_wire 8 = .ok (.if_icmp .eq 26, 3) := by decide +kernel
theorem dX7_wire_11 : decode cX7_wire 11 = .ok (.aload_n 0, 1) := by decide +kernel
