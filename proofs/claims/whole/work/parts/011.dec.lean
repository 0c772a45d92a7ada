theorem dX3_makeNew_26 : decode cX3_makeNew 26 = .ok (.iadd, 1) := by decide +kernel
theorem dX3_makeNew_27 : decode cX3_makeNew 27 = .ok (.putfield 46, 3) := by decide +kernel
theorem dX3_makeNew_30 : decode cX3_makeNew 30 = .ok (.aload_n 0, 1) := by decide +kernel
theorem dX3_makeNew_31 : decode cX3_makeNew 31 = .ok (.getfield 21, 3) := by decide +kernel
theorem dX3_makeNew_34 : decode cX3_makeNew 34 = .ok (.iconst 0, 1) := by decide +kernel
theorem dX3_makeNew_35 : decode cX3_makeNew 35 = .ok (.invokestatic 49, 3) := by decide +kernel
theorem dX3_makeNew_38 : decode cX3_makeNew 38 = .ok (.return_, 1) := by decide +kernel
theorem dX3_copyFrom_0 : decode cX3_copyFrom 0 = .ok (.aload_n 0, 1) := by decide +kernel
theorem dX3_copyFrom_1 : decode cX3_copyFrom 1 = .ok (.aload_n 1, 1) := by decide +kernel
theorem dX3_copyFrom_2 : decode cX3_copyFrom 2 = .ok (.getfield 9, 3) := by decide +kernel
theorem dX3_copyFrom_5 : decode cX3_copyFrom 5 = .ok (.putfield 9, 3) := by decide +kernel
theorem dX3_copyFrom_8 : decode cX3_copyFrom 8 = .ok (.aload_n 0, 1) := by decide +kernel
theorem dX3_copyFrom_9 : decode cX3_copyFrom 9 = .ok (.aload_n 1, 1) := by decide +kernel
theorem dX3_copyFrom_10 : decode cX3_copyFrom 10 = .ok (.getfield 15, 3) := by decide +kernel
theorem dX3_copyFrom_13 : decode cX3_copyFrom 13 = .ok (.putfield 15, 3) := by decide +kernel
theorem dX3_copyFrom_16 : decode cX3_copyFrom 16 = .ok (.aload_n 0, 1) := by decide +kernel
theorem dX3_copyFrom_17 : decode cX3_copyFrom 17 = .ok (.aload_n 1, 1) := by decide +kernel
theorem dX3_copyFrom_18 : decode cX3_copyFrom 18 = .ok (.getfield 18, 3) := by decide +kernel
theorem dX3_copyFrom_21 : decode cX3_copyFrom 21 = .ok (.putfield 18, 3) := by decide +kernel
theorem dX3_copyFrom_24 : decode cX3_copyFrom 24 = .ok (.aload_n 0, 1) := by decide +kernel
theorem dX3_copyFrom_25 : decode cX3_copyFrom 25 = .ok (.aload_n 1, 1) := by decide +kernel
theorem dX3_copyFrom_26 : decode cX3_copyFrom 26 = .ok (.getfield 43, 3) := by decide +kernel
theorem dX3_copyFrom_29 : decode cX3_copyFrom 29 = .ok (.putfield 43, 3) := by decide +kernel
theorem dX3_copyFrom_32 : decode cX3_copyFrom 32 = .ok (.aload_n 0, 1) := by decide +kernel
theorem dX3_copyFrom_33 : decode cX3_copyFrom 33 = .ok (.dup, 1) := by decide +kernel
theorem dX3_copyFrom_34 : decode cX3_copyFrom 34 = .ok (.getfield 46, 3) := by decide +kernel
theorem dX3_copyFrom_37 : decode cX3_copyFrom 37 = .ok (.iconst 1, 1) := by decide +kernel
theorem dX3_copyFrom_38 : decode cX3_copyFrom 38 = .ok (.iadd, 1) := by decide +kernel
theorem dX3_copyFrom_39 : decode cX3_copyFrom 39 = .ok (.putfield 46, 3) := by decide +kernel
theorem dX3_copyFrom_42 : decode cX3_copyFrom 42 = .ok (.aload_n 1, 1) := by decide +kernel
theorem dX3_copyFrom_43 : decode cX3_copyFrom 43 = .ok (.getfield 21, 3) := by decide +kernel
theorem dX3_copyFrom_46 : decode cX3_copyFrom 46 = .ok (.iconst 0, 1) := by decide +kernel
theorem dX3_copyFrom_47 : decode cX3_copyFrom 47 = .ok (.aload_n 0, 1) := by decide +kernel
theorem dX3_copyFrom_48 : decode cX3_copyFrom 48 = .ok (.getfield 21, 3) := by decide +kernel
theorem dX3_copyFrom_51 : decode cX3_copyFrom 51 = .ok (.iconst 0, 1) := by decide +kernel
theorem dX3_copyFrom_52 : decode cX3_copyFrom 52 = .ok (.bipush 36, 2) := by decide +kernel
theorem dX3_copyFrom_54 : decode cX3_copyFrom 54 = .ok (.invokestatic 55, 3) := by decide +kernel
theorem dX3_copyFrom_57 : decode cX3_copyFrom 57 = .ok (.aload_n 1, 1) := by decide +kernel
theorem dX3_copyFrom_58 : decode cX3_copyFrom 58 = .ok (.getfield 25, 3) := by decide +kernel
theorem dX3_copyFrom_61 : decode cX3_copyFrom 61 = .ok (.iconst 0, 1) := by decide +kernel
theorem dX3_copyFrom_62 : decode cX3_copyFrom 62 = .ok (.aload_n 0, 1) := by decide +kernel
theorem dX3_copyFrom_63 : decode cX3_copyFrom 63 = .ok (.getfield 25, 3) := by decide +kernel
theorem dX3_copyFrom_66 : decode cX3_copyFrom 66 = .ok (.iconst 0, 1) := by decide +kernel
theorem dX3_copyFrom_67 : decode cX3_copyFrom 67 = .ok (.bipush 36, 2) := by decide +kernel
theorem dX3_copyFrom_69 : decode cX3_copyFrom 69 = .ok (.invokestatic 55, 3) := by decide +kernel
theorem dX3_copyFrom_72 : decode cX3_copyFrom 72 = .ok (.aload_n 1, 1) := by decide +kernel
theorem dX3_copyFrom_73 : decode cX3_copyFrom 73 = .ok (.getfield 28, 3) := by decide +kernel
theorem dX3_copyFrom_76 : decode cX3_copyFrom 76 = .ok (.iconst 0, 1) := by decide +kernel
theorem dX3_copyFrom_77 : decode cX3_copyFrom 77 = .ok (.aload_n 0, 1) := by decide +kernel
theorem dX3_copyFrom_78 : decode cX3_copyFrom 78 = .ok (.getfield 28, 3) := by decide +kernel
theorem dX3_copyFrom_81 : decode cX3_copyFrom 81 = .ok (.iconst 0, 1) := by decide +kernel
theorem dX3_copyFrom_82 : decode cX3_copyFrom 82 = .ok (.bipush 36, 2) := by decide +kernel
theorem dX3_copyFrom_84 : decode cX3_copyFrom 84 = .ok (.invokestatic 55, 3) := by decide +kernel
theorem dX3_copyFrom_87 : decode cX3_copyFrom 87 = .ok (.aload_n 1, 1) := by decide +kernel
theorem dX3_copyFrom_88 : decode cX3_copyFrom 88 = .ok (.getfield 31, 3) := by decide +kernel
theorem dX3_copyFrom_91 : decode cX3_copyFrom 91 = .ok (.iconst 0, 1) := by decide +kernel
theorem dX3_copyFrom_92 : decode cX3_copyFrom 92 = .ok (.aload_n 0, 1) := by decide +kernel
theorem dX3_copyFrom_93 : decode cX3_copyFrom 93 = .ok (.getfield 31, 3) := by decide +kernel
theorem dX3_copyFrom_96 : decode cX3_copyFrom 96 = .ok (.iconst 0, 1) := by decide +kernel
theorem dX3_copyFrom_97 : decode cX3_copyFrom 97 = .ok (.bipush 36, 2) := by decide +kernel
theorem dX3_copyFrom_99 : decode cX3_copyFrom 99 = .ok (.invokestatic 55, 3) := by decide +kernel
theorem dX3_copyFrom_102 : decode cX3_copyFrom 102 = .ok (.aload_n 1, 1) := by decide +kernel
theorem dX3_copyFrom_103 : decode cX3_copyFrom 103 = .ok (.getfield 34, 3) := by decide +kernel
theorem dX3_copyFrom_106 : decode cX3_copyFrom 106 = .ok (.iconst 0, 1) := by decide +kernel
theorem dX3_copyFrom_107 : decode cX3_copyFrom 107 = .ok (.aload_n 0, 1) := by decide +kernel
theorem dX3_copyFrom_108 : decode cX3_copyFrom 108 = .ok (.getfield 34, 3) := by decide +kernel
theorem dX3_copyFrom_111 : decode cX3_copyFrom 111 = .ok (.iconst 0, 1) := by decide +kernel
theorem dX3_copyFrom_112 : decode cX3_copyFrom 112 = .ok (.bipush 36, 2) := by decide +kernel
theorem dX3_copyFrom_114 : decode cX3_copyFrom 114 = .ok (.invokestatic 55, 3) := by decide +kernel
theorem dX3_copyFrom_117 : decode cX3_copyFrom 117 = .ok (.aload_n 1, 1) := by decide +kernel
theorem dX3_copyFrom_118 : decode cX3_copyFrom 118 = .ok (.getfield 37, 3) := by decide +kernel
theorem dX3_copyFrom_121 : decode cX3_copyFrom 121 = .ok (.iconst 0, 1) := by decide +kernel
theorem dX3_copyFrom_122 : decode cX3_copyFrom 122 = .ok (.aload_n 0, 1) := by decide +kernel
theorem dX3_copyFrom_123 : decode cX3_copyFrom 123 = .ok (.getfield 37, 3) := by decide +kernel
theorem dX3_copyFrom_126 : decode cX3_copyFrom 126 = .ok (.iconst 0, 1) := by decide +kernel
theorem dX3_copyFrom_127 : decode cX3_copyFrom 127 = .ok (.bipush 36, 2) := by decide +kernel
theorem dX3_copyFrom_129 : decode cX3_copyFrom 129 = .ok (.invokestatic 55, 3) := by decide +kernel
theorem dX3_copyFrom_132 : decode cX3_copyFrom 132 = .ok (.aload_n 1, 1) := by decide +kernel
theorem dX3_copyFrom_133 : decode cX3_copyFrom 133 = .ok (.getfield 40, 3) := by decide +kernel
theorem dX3_copyFrom_136 : decode cX3_copyFrom 136 = .ok (.iconst 0, 1) := by decide +kernel
theorem dX3_copyFrom_137 : decode cX3_copyFrom 137 = .ok (.aload_n 0, 1) := by decide +kernel
theorem dX3_copyFrom_138 : decode cX3_copyFrom 138 = .ok (.getfield 40, 3) := by decide +kernel
theorem dX3_copyFrom_141 : decode cX3_copyFrom 141 = .ok (.iconst 0, 1) := by decide +kernel
theorem dX3_copyFrom_142 : decode cX3_copyFrom 142 = .ok (.sipush 1296, 3) := by decide +kernel
theorem dX3_copyFrom_145 : decode cX3_copyFrom 145 = .ok (.invokestatic 55, 3) := by decide +kernel
theorem dX3_copyFrom_148 : decode cX3_copyFrom 148 = .ok (.return_, 1) := by decide +kernel
theorem dX3_hasLamp_0 : decode cX3_hasLamp 0 = .ok (.iload_n 1, 1) := by decide +kernel
theorem dX3_hasLamp_1 : decode cX3_hasLamp 1 = .ok (.ifCond .lt 15, 3) := by decide +kernel
theorem dX3_hasLamp_4 : decode cX3_hasLamp 4 = .ok (.iload_n 1, 1) := by decide +kernel
theorem dX3_hasLamp_5 : decode cX3_hasLamp 5 = .ok (.aload_n 0, 1) := by decide +kernel
theorem dX3_hasLamp_6 : decode cX3_hasLamp 6 = .ok (.getfield 9, 3) := by decide +kernel
theorem dX3_hasLamp_9 : decode cX3_hasLamp 9 = .ok (.if_icmp .ge 7, 3) := by decide +kernel
theorem dX3_hasLamp_12 : decode cX3_hasLamp 12 = .ok (.iconst 1, 1) := by decide +kernel
theorem dX3_hasLamp_13 : decode cX3_hasLamp 13 = .ok (.goto 4, 3) := by decide +kernel
theorem dX3_hasLamp_16 : decode cX3_hasLamp 16 = .ok (.iconst 0, 1) := by decide +kernel
theorem dX3_hasLamp_17 : decode cX3_hasLamp 17 = .ok (.ireturn, 1) := by decide +kernel
theorem dX3_hasButton_0 : decode cX3_hasButton 0 = .ok (.iload_n 1, 1) := by decide +kernel
theorem dX3_hasButton_1 : decode cX3_hasButton 1 = .ok (.ifCond .lt 15, 3) := by decide +kernel
theorem dX3_hasButton_4 : decode cX3_hasButton 4 = .ok (.iload_n 1, 1) := by decide +kernel
theorem dX3_hasButton_5 : decode cX3_hasButton 5 = .ok (.aload_n 0, 1) := by decide +kernel
theorem dX3_hasButton_6 : decode cX3_hasButton 6 = .ok (.getfield 43, 3) := by decide +kernel
theorem dX3_hasButton_9 : decode cX3_hasButton 9 = .ok (.if_icmp .ge 7, 3) := by decide +kernel
theorem dX3_hasButton_12 : decode cX3_hasButton 12 = .ok (.iconst 1, 1) := by decide +kernel
theorem dX3_hasButton_13 : decode cX3_hasButton 13 = .ok (.goto 4, 3) := by decide +kernel
theorem dX3_hasButton_16 : decode cX3_hasButton 16 = .ok (.iconst 0, 1) := by decide +kernel
theorem dX3_hasButton_17 : decode cX3_hasButton 17 = .ok (.ireturn, 1) := by decide +kernel
theorem dX3_takesButton_0 : decode cX3_takesButton 0 = .ok (.iload_n 1, 1) := by decide +kernel
theorem dX3_takesButton_1 : decode cX3_takesButton 1 = .ok (.ifCond .ne 5, 3) := by decide +kernel
theorem dX3_takesButton_4 : decode cX3_takesButton 4 = .ok (.iconst 1, 1) := by decide +kernel
theorem dX3_takesButton_5 : decode cX3_takesButton 5 = .ok (.ireturn, 1) := by decide +kernel
theorem dX3_takesButton_6 : decode cX3_takesButton 6 = .ok (.iload_n 3, 1) := by decide +kernel
theorem dX3_takesButton_7 : decode cX3_takesButton 7 = .ok (.ifCond .lt 11, 3) := by decide +kernel
theorem dX3_takesButton_10 : decode cX3_takesButton 10 = .ok (.iload_n 3, 1) := by decide +kernel
theorem dX3_takesButton_11 : decode cX3_takesButton 11 = .ok (.aload_n 0, 1) := by decide +kernel
theorem dX3_takesButton_12 : decode cX3_takesButton 12 = .ok (.getfield 15, 3) := by decide +kernel
theorem dX3_takesButton_15 : decode cX3_takesButton 15 = .ok (.if_icmp .lt 5, 3) := by decide +kernel
theorem dX3_takesButton_18 : decode cX3_takesButton 18 = .ok (.iconst 0, 1) := by decide +kernel
theorem dX3_takesButton_19 : decode cX3_takesButton 19 = .ok (.ireturn, 1) := by decide +kernel
theorem dX3_takesButton_20 : decode cX3_takesButton 20 = .ok (.iload_n 1, 1) := by decide +kernel
theorem dX3_takesButton_21 : decode cX3_takesButton 21 = .ok (.tableswitch 66 1 4 #[31, 37, 37, 43], 31) := by decide +kernel
theorem dX3_takesButton_52 : decode cX3_takesButton 52 = .ok (.aload_n 0, 1) := by decide +kernel
theorem dX3_takesButton_53 : decode cX3_takesButton 53 = .ok (.iload_n 2, 1) := by decide +kernel
theorem dX3_takesButton_54 : decode cX3_takesButton 54 = .ok (.invokevirtual 61, 3) := by decide +kernel
theorem dX3_takesButton_57 : decode cX3_takesButton 57 = .ok (.ireturn, 1) := by decide +kernel
theorem dX3_takesButton_58 : decode cX3_takesButton 58 = .ok (.aload_n 0, 1) := by decide +kernel
theorem dX3_takesButton_59 : decode cX3_takesButton 59 = .ok (.iload_n 2, 1) := by decide +kernel
theorem dX3_takesButton_60 : decode cX3_takesButton 60 = .ok (.invokevirtual 65, 3) := by decide +kernel
theorem dX3_takesButton_63 : decode cX3_takesButton 63 = .ok (.ireturn, 1) := by decide +kernel
theorem dX3_takesButton_64 : decode cX3_takesButton 64 = .ok (.aload_n 0, 1) := by decide +kernel
theorem dX3_takesButton_65 : decode cX3_takesButton 65 = .ok (.iload_n 2, 1) := by decide +kernel
theorem dX3_takesButton_66 : decode cX3_takesButton 66 = .ok (.invokevirtual 61, 3) := by decide +kernel
theorem dX3_takesButton_69 : decode cX3_takesButton 69 = .ok (.ifCond .eq 16, 3) := by decide +kernel
theorem dX3_takesButton_72 : decode cX3_takesButton 72 = .ok (.aload_n 0, 1) := by decide +kernel
theorem dX3_takesButton_73 : decode cX3_takesButton 73 = .ok (.iload 4, 2) := by decide +kernel
theorem dX3_takesButton_75 : decode cX3_takesButton 75 = .ok (.invokevirtual 68, 3) := by decide +kernel
theorem dX3_takesButton_78 : decode cX3_takesButton 78 = .ok (.ifCond .eq 7, 3) := by decide +kernel
theorem dX3_takesButton_81 : decode cX3_takesButton 81 = .ok (.iconst 1, 1) := by decide +kernel
theorem dX3_takesButton_82 : decode cX3_takesButton 82 = .ok (.goto 4, 3) := by decide +kernel
theorem dX3_takesButton_85 : decode cX3_takesButton 85 = .ok (.iconst 0, 1) := by decide +kernel
theorem dX3_takesButton_86 : decode cX3_takesButton 86 = .ok (.ireturn, 1) := by decide +kernel
theorem dX3_takesButton_87 : decode cX3_takesButton 87 = .ok (.iconst 0, 1) := by decide +kernel
theorem dX3_takesButton_88 : decode cX3_takesButton 88 = .ok (.ireturn, 1) := by decide +kernel
theorem dX3_hasLine_0 : decode cX3_hasLine 0 = .ok (.aload_n 0, 1) := by decide +kernel
theorem dX3_hasLine_1 : decode cX3_hasLine 1 = .ok (.getfield 9, 3) := by decide +kernel
theorem dX3_hasLine_4 : decode cX3_hasLine 4 = .ok (.aload_n 0, 1) := by decide +kernel
theorem dX3_hasLine_5 : decode cX3_hasLine 5 = .ok (.getfield 18, 3) := by decide +kernel
theorem dX3_hasLine_8 : decode cX3_hasLine 8 = .ok (.iadd, 1) := by decide +kernel
theorem dX3_hasLine_9 : decode cX3_hasLine 9 = .ok (.iconst 1, 1) := by decide +kernel
theorem dX3_hasLine_10 : decode cX3_hasLine 10 = .ok (.isub, 1) := by decide +kernel
theorem dX3_hasLine_11 : decode cX3_hasLine 11 = .ok (.aload_n 0, 1) := by decide +kernel
theorem dX3_hasLine_12 : decode cX3_hasLine 12 = .ok (.getfield 18, 3) := by decide +kernel
theorem dX3_hasLine_15 : decode cX3_hasLine 15 = .ok (.idiv, 1) := by decide +kernel
theorem dX3_hasLine_16 : decode cX3_hasLine 16 = .ok (.istore_n 2, 1) := by decide +kernel
theorem dX3_hasLine_17 : decode cX3_hasLine 17 = .ok (.iload_n 1, 1) := by decide +kernel
theorem dX3_hasLine_18 : decode cX3_hasLine 18 = .ok (.bipush 100, 2) := by decide +kernel
theorem dX3_hasLine_20 : decode cX3_hasLine 20 = .ok (.if_icmp .lt 20, 3) := by decide +kernel
theorem dX3_hasLine_23 : decode cX3_hasLine 23 = .ok (.iload_n 1, 1) := by decide +kernel
theorem dX3_hasLine_24 : decode cX3_hasLine 24 = .ok (.bipush 100, 2) := by decide +kernel
theorem dX3_hasLine_26 : decode cX3_hasLine 26 = .ok (.isub, 1) := by decide +kernel
theorem dX3_hasLine_27 : decode cX3_hasLine 27 = .ok (.aload_n 0, 1) := by decide +kernel
theorem dX3_hasLine_28 : decode cX3_hasLine 28 = .ok (.getfield 18, 3) := by decide +kernel
theorem dX3_hasLine_31 : decode cX3_hasLine 31 = .ok (.if_icmp .ge 7, 3) := by decide +kernel
theorem dX3_hasLine_34 : decode cX3_hasLine 34 = .ok (.iconst 1, 1) := by decide +kernel
theorem dX3_hasLine_35 : decode cX3_hasLine 35 = .ok (.goto 4, 3) := by decide +kernel
theorem dX3_hasLine_38 : decode cX3_hasLine 38 = .ok (.iconst 0, 1) := by decide +kernel
theorem dX3_hasLine_39 : decode cX3_hasLine 39 = .ok (.ireturn, 1) := by decide +kernel
theorem dX3_hasLine_40 : decode cX3_hasLine 40 = .ok (.iload_n 1, 1) := by decide +kernel
theorem dX3_hasLine_41 : decode cX3_hasLine 41 = .ok (.ifCond .lt 12, 3) := by decide +kernel
theorem dX3_hasLine_44 : decode cX3_hasLine 44 = .ok (.iload_n 1, 1) := by decide +kernel
theorem dX3_hasLine_45 : decode cX3_hasLine 45 = .ok (.iload_n 2, 1) := by decide +kernel
theorem dX3_hasLine_46 : decode cX3_hasLine 46 = .ok (.if_icmp .ge 7, 3) := by decide +kernel
theorem dX3_hasLine_49 : decode cX3_hasLine 49 = .ok (.iconst 1, 1) := by decide +kernel
theorem dX3_hasLine_50 : decode cX3_hasLine 50 = .ok (.goto 4, 3) := by decide +kernel
theorem dX3_hasLine_53 : decode cX3_hasLine 53 = .ok (.iconst 0, 1) := by decide +kernel
theorem dX3_hasLine_54 : decode cX3_hasLine 54 = .ok (.ireturn, 1) := by decide +kernel
theorem dX3_addButton_0 : decode cX3_addButton 0 = .ok (.aload_n 0, 1) := by decide +kernel
theorem dX3_addButton_1 : decode cX3_addButton 1 = .ok (.getfield 43, 3) := by decide +kernel
theorem dX3_addButton_4 : decode cX3_addButton 4 = .ok (.istore 5, 2) := by decide +kernel
theorem dX3_addButton_6 : decode cX3_addButton 6 = .ok (.aload_n 0, 1) := by decide +kernel
theorem dX3_addButton_7 : decode cX3_addButton 7 = .ok (.getfield 25, 3) := by decide +kernel
theorem dX3_addButton_10 : decode cX3_addButton 10 = .ok (.iload 5, 2) := by decide +kernel
theorem dX3_addButton_12 : decode cX3_addButton 12 = .ok (.iload_n 1, 1) := by decide +kernel
theorem dX3_addButton_13 : decode cX3_addButton 13 = .ok (.iastore, 1) := by decide +kernel
theorem dX3_addButton_14 : decode cX3_addButton 14 = .ok (.aload_n 0, 1) := by decide +kernel
theorem dX3_addButton_15 : decode cX3_addButton 15 = .ok (.getfield 28, 3) := by decide +kernel
theorem dX3_addButton_18 : decode cX3_addButton 18 = .ok (.iload 5, 2) := by decide +kernel
theorem dX3_addButton_20 : decode cX3_addButton 20 = .ok (.iload_n 2, 1) := by decide +kernel
theorem dX3_addButton_21 : decode cX3_addButton 21 = .ok (.iastore, 1) := by decide +kernel
theorem dX3_addButton_22 : decode cX3_addButton 22 = .ok (.aload_n 0, 1) := by decide +kernel
theorem dX3_addButton_23 : decode cX3_addButton 23 = .ok (.getfield 31, 3) := by decide +kernel
theorem dX3_addButton_26 : decode cX3_addButton 26 = .ok (.iload 5, 2) := by decide +kernel
theorem dX3_addButton_28 : decode cX3_addButton 28 = .ok (.iload_n 3, 1) := by decide +kernel
theorem dX3_addButton_29 : decode cX3_addButton 29 = .ok (.iastore, 1) := by decide +kernel
theorem dX3_addButton_30 : decode cX3_addButton 30 = .ok (.aload_n 0, 1) := by decide +kernel
theorem dX3_addButton_31 : decode cX3_addButton 31 = .ok (.getfield 34, 3) := by decide +kernel
theorem dX3_addButton_34 : decode cX3_addButton 34 = .ok (.iload 5, 2) := by decide +kernel
theorem dX3_addButton_36 : decode cX3_addButton 36 = .ok (.iload 4, 2) := by decide +kernel
theorem dX3_addButton_38 : decode cX3_addButton 38 = .ok (.iastore, 1) := by decide +kernel
theorem dX3_addButton_39 : decode cX3_addButton 39 = .ok (.aload_n 0, 1) := by decide +kernel
theorem dX3_addButton_40 : decode cX3_addButton 40 = .ok (.getfield 37, 3) := by decide +kernel
theorem dX3_addButton_43 : decode cX3_addButton 43 = .ok (.iload 5, 2) := by decide +kernel
theorem dX3_addButton_45 : decode cX3_addButton 45 = .ok (.iconst 1, 1) := by decide +kernel
theorem dX3_addButton_46 : decode cX3_addButton 46 = .ok (.iastore, 1) := by decide +kernel
theorem dX3_addButton_47 : decode cX3_addButton 47 = .ok (.iconst 0, 1) := by decide +kernel
theorem dX3_addButton_48 : decode cX3_addButton 48 = .ok (.istore 6, 2) := by decide +kernel
theorem dX3_addButton_50 : decode cX3_addButton 50 = .ok (.iload 6, 2) := by decide +kernel
theorem dX3_addButton_52 : decode cX3_addButton 52 = .ok (.bipush 36, 2) := by decide +kernel
theorem dX3_addButton_54 : decode cX3_addButton 54 = .ok (.if_icmp .ge 23, 3) := by decide +kernel
theorem dX3_addButton_57 : decode cX3_addButton 57 = .ok (.aload_n 0, 1) := by decide +kernel
theorem dX3_addButton_58 : decode cX3_addButton 58 = .ok (.getfield 40, 3) := by decide +kernel
theorem dX3_addButton_61 : decode cX3_addButton 61 = .ok (.iload 5, 2) := by decide +kernel
theorem dX3_addButton_63 : decode cX3_addButton 63 = .ok (.bipush 36, 2) := by decide +kernel
theorem dX3_addButton_65 : decode cX3_addButton 65 = .ok (.imul, 1) := by decide +kernel
theorem dX3_addButton_66 : decode cX3_addButton 66 = .ok (.iload 6, 2) := by decide +kernel
theorem dX3_addButton_68 : decode cX3_addButton 68 = .ok (.iadd, 1) := by decide +kernel
theorem dX3_addButton_69 : decode cX3_addButton 69 = .ok (.iconst 0, 1) := by decide +kernel
theorem dX3_addButton_70 : decode cX3_addButton 70 = .ok (.iastore, 1) := by decide +kernel
theorem dX3_addButton_71 : decode cX3_addButton 71 = .ok (.iinc 6 1, 3) := by decide +kernel
theorem dX3_addButton_74 : decode cX3_addButton 74 = .ok (.goto (-24), 3) := by decide +kernel
theorem dX3_addButton_77 : decode cX3_addButton 77 = .ok (.aload_n 0, 1) := by decide +kernel
theorem dX3_addButton_78 : decode cX3_addButton 78 = .ok (.dup, 1) := by decide +kernel
theorem dX3_addButton_79 : decode cX3_addButton 79 = .ok (.getfield 43, 3) := by decide +kernel
theorem dX3_addButton_82 : decode cX3_addButton 82 = .ok (.iconst 1, 1) := by decide +kernel
theorem dX3_addButton_83 : decode cX3_addButton 83 = .ok (.iadd, 1) := by decide +kernel
theorem dX3_addButton_84 : decode cX3_addButton 84 = .ok (.putfield 43, 3) := by decide +kernel
theorem dX3_addButton_87 : decode cX3_addButton 87 = .ok (.aload_n 0, 1) := by decide +kernel
theorem dX3_addButton_88 : decode cX3_addButton 88 = .ok (.dup, 1) := by decide +kernel
theorem dX3_addButton_89 : decode cX3_addButton 89 = .ok (.getfield 46, 3) := by decide +kernel
theorem dX3_addButton_92 : decode cX3_addButton 92 = .ok (.iconst 1, 1) := by decide +kernel
theorem dX3_addButton_93 : decode cX3_addButton 93 = .ok (.iadd, 1) := by decide +kernel
theorem dX3_addButton_94 : decode cX3_addButton 94 = .ok (.putfield 46, 3) := by decide +kernel
theorem dX3_addButton_97 : decode cX3_addButton 97 = .ok (.iload 5, 2) := by decide +kernel
theorem dX3_addButton_99 : decode cX3_addButton 99 = .ok (.ireturn, 1) := by decide +kernel
theorem dX3_removeLastButton_0 : decode cX3_removeLastButton 0 = .ok (.aload_n 0, 1) := by decide +kernel
theorem dX3_removeLastButton_1 : decode cX3_removeLastButton 1 = .ok (.getfield 43, 3) := by decide +kernel
theorem dX3_removeLastButton_4 : decode cX3_removeLastButton 4 = .ok (.ifCond .le 23, 3) := by decide +kernel
theorem dX3_removeLastButton_7 : decode cX3_removeLastButton 7 = .ok (.aload_n 0, 1) := by decide +kernel
theorem dX3_removeLastButton_8 : decode cX3_removeLastButton 8 = .ok (.dup, 1) := by decide +kernel
theorem dX3_removeLastButton_9 : decode cX3_removeLastButton 9 = .ok (.getfield 43, 3) := by decide +kernel
theorem dX3_removeLastButton_12 : decode cX3_removeLastButton 12 = .ok (.iconst 1, 1) := by decide +kernel
theorem dX3_removeLastButton_13 : decode cX3_removeLastButton 13 = .ok (.isub, 1) := by decide +kernel
theorem dX3_removeLastButton_14 : decode cX3_removeLastButton 14 = .ok (.putfield 43, 3) := by decide +kernel
theorem dX3_removeLastButton_17 : decode cX3_removeLastButton 17 = .ok (.aload_n 0, 1) := by decide +kernel
theorem dX3_removeLastButton_18 : decode cX3_removeLastButton 18 = .ok (.dup, 1) := by decide +kernel
theorem dX3_removeLastButton_19 : decode cX3_removeLastButton 19 = .ok (.getfield 46, 3) := by decide +kernel
theorem dX3_removeLastButton_22 : decode cX3_removeLastButton 22 = .ok (.iconst 1, 1) := by decide +kernel
theorem dX3_removeLastButton_23 : decode cX3_removeLastButton 23 = .ok (.iadd, 1) := by decide +kernel
theorem dX3_removeLastButton_24 : decode cX3_removeLastButton 24 = .ok (.putfield 46, 3) := by decide +kernel
theorem dX3_removeLastButton_27 : decode cX3_removeLastButton 27 = .ok (.return_, 1) := by decide +kernel
theorem dX3_wireTo_0 : decode cX3_wireTo 0 = .ok (.iconst 0, 1) := by decide +kernel
theorem dX3_wireTo_1 : decode cX3_wireTo 1 = .ok (.istore_n 3, 1) := by decide +kernel
theorem dX3_wireTo_2 : decode cX3_wireTo 2 = .ok (.iconst 0, 1) := by decide +kernel
theorem dX3_wireTo_3 : decode cX3_wireTo 3 = .ok (.istore 4, 2) := by decide +kernel
theorem dX3_wireTo_5 : decode cX3_wireTo 5 = .ok (.iload 4, 2) := by decide +kernel
theorem dX3_wireTo_7 : decode cX3_wireTo 7 = .ok (.aload_n 0, 1) := by decide +kernel
theorem dX3_wireTo_8 : decode cX3_wireTo 8 = .ok (.getfield 9, 3) := by decide +kernel
theorem dX3_wireTo_11 : decode cX3_wireTo 11 = .ok (.if_icmp .ge 43, 3) := by decide +kernel
theorem dX3_wireTo_14 : decode cX3_wireTo 14 = .ok (.aload_n 2, 1) := by decide +kernel
theorem dX3_wireTo_15 : decode cX3_wireTo 15 = .ok (.iload 4, 2) := by decide +kernel
theorem dX3_wireTo_17 : decode cX3_wireTo 17 = .ok (.aload_n 0, 1) := by decide +kernel
theorem dX3_wireTo_18 : decode cX3_wireTo 18 = .ok (.getfield 15, 3) := by decide +kernel
theorem dX3_wireTo_21 : decode cX3_wireTo 21 = .ok (.invokevirtual 71, 3) := by decide +kernel
theorem dX3_wireTo_24 : decode cX3_wireTo 24 = .ok (.istore 5, 2) := by decide +kernel
theorem dX3_wireTo_26 : decode cX3_wireTo 26 = .ok (.aload_n 0, 1) := by decide +kernel
theorem dX3_wireTo_27 : decode cX3_wireTo 27 = .ok (.getfield 40, 3) := by decide +kernel
theorem dX3_wireTo_30 : decode cX3_wireTo 30 = .ok (.iload_n 1, 1) := by decide +kernel
theorem dX3_wireTo_31 : decode cX3_wireTo 31 = .ok (.bipush 36, 2) := by decide +kernel
theorem dX3_wireTo_33 : decode cX3_wireTo 33 = .ok (.imul, 1) := by decide +kernel
theorem dX3_wireTo_34 : decode cX3_wireTo 34 = .ok (.iload 4, 2) := by decide +kernel
theorem dX3_wireTo_36 : decode cX3_wireTo 36 = .ok (.iadd, 1) := by decide +kernel
theorem dX3_wireTo_37 : decode cX3_wireTo 37 = .ok (.iload 5, 2) := by decide +kernel
theorem dX3_wireTo_39 : decode cX3_wireTo 39 = .ok (.iastore, 1) := by decide +kernel
theorem dX3_wireTo_40 : decode cX3_wireTo 40 = .ok (.iload 5, 2) := by decide +kernel
theorem dX3_wireTo_42 : decode cX3_wireTo 42 = .ok (.ifCond .eq 6, 3) := by decide +kernel
theorem dX3_wireTo_45 : decode cX3_wireTo 45 = .ok (.iinc 3 1, 3) := by decide +kernel
theorem dX3_wireTo_48 : decode cX3_wireTo 48 = .ok (.iinc 4 1, 3) := by decide +kernel
theorem dX3_wireTo_51 : decode cX3_wireTo 51 = .ok (.goto (-46), 3) := by decide +kernel
theorem dX3_wireTo_54 : decode cX3_wireTo 54 = .ok (.aload_n 0, 1) := by decide +kernel
theorem dX3_wireTo_55 : decode cX3_wireTo 55 = .ok (.dup, 1) := by decide +kernel
theorem dX3_wireTo_56 : decode cX3_wireTo 56 = .ok (.getfield 46, 3) := by decide +kernel
theorem dX3_wireTo_59 : decode cX3_wireTo 59 = .ok (.iconst 1, 1) := by decide +kernel
theorem dX3_wireTo_60 : decode cX3_wireTo 60 = .ok (.iadd, 1) := by decide +kernel
theorem dX3_wireTo_61 : decode cX3_wireTo 61 = .ok (.putfield 46, 3) := by decide +kernel
theorem dX3_wireTo_64 : decode cX3_wireTo 64 = .ok (.iload_n 3, 1) := by decide +kernel
theorem dX3_wireTo_65 : decode cX3_wireTo 65 = .ok (.ireturn, 1) := by decide +kernel
theorem dX3_stepAt_0 : decode cX3_stepAt 0 = .ok (.aload_n 0, 1) := by decide +kernel
theorem dX3_stepAt_1 : decode cX3_stepAt 1 = .ok (.iload_n 1, 1) := by decide +kernel
theorem dX3_stepAt_2 : decode cX3_stepAt 2 = .ok (.iload_n 2, 1) := by decide +kernel
theorem dX3_stepAt_3 : decode cX3_stepAt 3 = .ok (.invokevirtual 77, 3) := by decide +kernel
theorem dX3_stepAt_6 : decode cX3_stepAt 6 = .ok (.istore_n 3, 1) := by decide +kernel
theorem dX3_stepAt_7 : decode cX3_stepAt 7 = .ok (.aload_n 0, 1) := by decide +kernel
theorem dX3_stepAt_8 : decode cX3_stepAt 8 = .ok (.getfield 25, 3) := by decide +kernel
theorem dX3_stepAt_11 : decode cX3_stepAt 11 = .ok (.iload_n 1, 1) := by decide +kernel
theorem dX3_stepAt_12 : decode cX3_stepAt 12 = .ok (.iaload, 1) := by decide +kernel
theorem dX3_stepAt_13 : decode cX3_stepAt 13 = .ok (.iconst 4, 1) := by decide +kernel
theorem dX3_stepAt_14 : decode cX3_stepAt 14 = .ok (.if_icmp .ne 30, 3) := by decide +kernel
theorem dX3_stepAt_17 : decode cX3_stepAt 17 = .ok (.aload_n 0, 1) := by decide +kernel
theorem dX3_stepAt_18 : decode cX3_stepAt 18 = .ok (.aload_n 0, 1) := by decide +kernel
theorem dX3_stepAt_19 : decode cX3_stepAt 19 = .ok (.getfield 34, 3) := by decide +kernel
theorem dX3_stepAt_22 : decode cX3_stepAt 22 = .ok (.iload_n 1, 1) := by decide +kernel
theorem dX3_stepAt_23 : decode cX3_stepAt 23 = .ok (.iaload, 1) := by decide +kernel
theorem dX3_stepAt_24 : decode cX3_stepAt 24 = .ok (.invokevirtual 68, 3) := by decide +kernel
theorem dX3_stepAt_27 : decode cX3_stepAt 27 = .ok (.ifCond .eq 17, 3) := by decide +kernel
theorem dX3_stepAt_30 : decode cX3_stepAt 30 = .ok (.iload_n 3, 1) := by decide +kernel
theorem dX3_stepAt_31 : decode cX3_stepAt 31 = .ok (.aload_n 0, 1) := by decide +kernel
theorem dX3_stepAt_32 : decode cX3_stepAt 32 = .ok (.aload_n 0, 1) := by decide +kernel
theorem dX3_stepAt_33 : decode cX3_stepAt 33 = .ok (.getfield 34, 3) := by decide +kernel
theorem dX3_stepAt_36 : decode cX3_stepAt 36 = .ok (.iload_n 1, 1) := by decide +kernel
theorem dX3_stepAt_37 : decode cX3_stepAt 37 = .ok (.iaload, 1) := by decide +kernel
theorem dX3_stepAt_38 : decode cX3_stepAt 38 = .ok (.iload_n 2, 1) := by decide +kernel
theorem dX3_stepAt_39 : decode cX3_stepAt 39 = .ok (.invokevirtual 77, 3) := by decide +kernel
theorem dX3_stepAt_42 : decode cX3_stepAt 42 = .ok (.iadd, 1) := by decide +kernel
theorem dX3_stepAt_43 : decode cX3_stepAt 43 = .ok (.istore_n 3, 1) := by decide +kernel
theorem dX3_stepAt_44 : decode cX3_stepAt 44 = .ok (.iload_n 3, 1) := by decide +kernel
theorem dX3_stepAt_45 : decode cX3_stepAt 45 = .ok (.aload_n 0, 1) := by decide +kernel
theorem dX3_stepAt_46 : decode cX3_stepAt 46 = .ok (.getfield 15, 3) := by decide +kernel
theorem dX3_stepAt_49 : decode cX3_stepAt 49 = .ok (.irem, 1) := by decide +kernel
theorem dX3_stepAt_50 : decode cX3_stepAt 50 = .ok (.ireturn, 1) := by decide +kernel
theorem dX3_ownStepAt_0 : decode cX3_ownStepAt 0 = .ok (.aload_n 0, 1) := by decide +kernel
theorem dX3_ownStepAt_1 : decode cX3_ownStepAt 1 = .ok (.getfield 25, 3) := by decide +kernel
theorem dX3_ownStepAt_4 : decode cX3_ownStepAt 4 = .ok (.iload_n 1, 1) := by decide +kernel
theorem dX3_ownStepAt_5 : decode cX3_ownStepAt 5 = .ok (.iaload, 1) := by decide +kernel
theorem dX3_ownStepAt_6 : decode cX3_ownStepAt 6 = .ok (.tableswitch 67 0 3 #[30, 67, 42, 42], 30) := by decide +kernel
theorem dX3_ownStepAt_36 : decode cX3_ownStepAt 36 = .ok (.aload_n 0, 1) := by decide +kernel
theorem dX3_ownStepAt_37 : decode cX3_ownStepAt 37 = .ok (.getfield 40, 3) := by decide +kernel
theorem dX3_ownStepAt_40 : decode cX3_ownStepAt 40 = .ok (.iload_n 1, 1) := by decide +kernel
theorem dX3_ownStepAt_41 : decode cX3_ownStepAt 41 = .ok (.bipush 36, 2) := by decide +kernel
theorem dX3_ownStepAt_43 : decode cX3_ownStepAt 43 = .ok (.imul, 1) := by decide +kernel
theorem dX3_ownStepAt_44 : decode cX3_ownStepAt 44 = .ok (.iload_n 2, 1) := by decide +kernel
theorem dX3_ownStepAt_45 : decode cX3_ownStepAt 45 = .ok (.iadd, 1) := by decide +kernel
theorem dX3_ownStepAt_46 : decode cX3_ownStepAt 46 = .ok (.iaload, 1) := by decide +kernel
theorem dX3_ownStepAt_47 : decode cX3_ownStepAt 47 = .ok (.ireturn, 1) := by decide +kernel
theorem dX3_ownStepAt_48 : decode cX3_ownStepAt 48 = .ok (.aload_n 0, 1) := by decide +kernel
theorem dX3_ownStepAt_49 : decode cX3_ownStepAt 49 = .ok (.aload_n 0, 1) := by decide +kernel
theorem dX3_ownStepAt_50 : decode cX3_ownStepAt 50 = .ok (.getfield 28, 3) := by decide +kernel
theorem dX3_ownStepAt_53 : decode cX3_ownStepAt 53 = .ok (.iload_n 1, 1) := by decide +kernel
theorem dX3_ownStepAt_54 : decode cX3_ownStepAt 54 = .ok (.iaload, 1) := by decide +kernel
theorem dX3_ownStepAt_55 : decode cX3_ownStepAt 55 = .ok (.iload_n 2, 1) := by decide +kernel
theorem dX3_ownStepAt_56 : decode cX3_ownStepAt 56 = .ok (.invokevirtual 80, 3) := by decide +kernel
theorem dX3_ownStepAt_59 : decode cX3_ownStepAt 59 = .ok (.ifCond .eq 12, 3) := by decide +kernel
theorem dX3_ownStepAt_62 : decode cX3_ownStepAt 62 = .ok (.aload_n 0, 1) := by decide +kernel
theorem dX3_ownStepAt_63 : decode cX3_ownStepAt 63 = .ok (.getfield 31, 3) := by decide +kernel
theorem dX3_ownStepAt_66 : decode cX3_ownStepAt 66 = .ok (.iload_n 1, 1) := by decide +kernel
theorem dX3_ownStepAt_67 : decode cX3_ownStepAt 67 = .ok (.iaload, 1) := by decide +kernel
theorem dX3_ownStepAt_68 : decode cX3_ownStepAt 68 = .ok (.goto 4, 3) := by decide +kernel
theorem dX3_ownStepAt_71 : decode cX3_ownStepAt 71 = .ok (.iconst 0, 1) := by decide +kernel
theorem dX3_ownStepAt_72 : decode cX3_ownStepAt 72 = .ok (.ireturn, 1) := by decide +kernel
theorem dX3_ownStepAt_73 : decode cX3_ownStepAt 73 = .ok (.aload_n 0, 1) := by decide +kernel
theorem dX3_ownStepAt_74 : decode cX3_ownStepAt 74 = .ok (.aload_n 0, 1) := by decide +kernel
theorem dX3_ownStepAt_75 : decode cX3_ownStepAt 75 = .ok (.getfield 28, 3) := by decide +kernel
theorem dX3_ownStepAt_78 : decode cX3_ownStepAt 78 = .ok (.iload_n 1, 1) := by decide +kernel
theorem dX3_ownStepAt_79 : decode cX3_ownStepAt 79 = .ok (.iaload, 1) := by decide +kernel
theorem dX3_ownStepAt_80 : decode cX3_ownStepAt 80 = .ok (.iload_n 2, 1) := by decide +kernel
theorem dX3_ownStepAt_81 : decode cX3_ownStepAt 81 = .ok (.invokevirtual 84, 3) := by decide +kernel
theorem dX3_ownStepAt_84 : decode cX3_ownStepAt 84 = .ok (.ifCond .eq 12, 3) := by decide +kernel
theorem dX3_ownStepAt_87 : decode cX3_ownStepAt 87 = .ok (.aload_n 0, 1) := by decide +kernel
theorem dX3_ownStepAt_88 : decode cX3_ownStepAt 88 = .ok (.getfield 31, 3) := by decide +kernel
theorem dX3_ownStepAt_91 : decode cX3_ownStepAt 91 = .ok (.iload_n 1, 1) := by decide +kernel
theorem dX3_ownStepAt_92 : decode cX3_ownStepAt 92 = .ok (.iaload, 1) := by decide +kernel
theorem dX3_ownStepAt_93 : decode cX3_ownStepAt 93 = .ok (.goto 4, 3) := by decide +kernel
theorem dX3_ownStepAt_96 : decode cX3_ownStepAt 96 = .ok (.iconst 0, 1) := by decide +kernel
theorem dX3_ownStepAt_97 : decode cX3_ownStepAt 97 = .ok (.ireturn, 1) := by decide +kernel
theorem dX3_isOnLine_0 : decode cX3_isOnLine 0 = .ok (.iload_n 1, 1) := by decide +kernel
theorem dX3_isOnLine_1 : decode cX3_isOnLine 1 = .ok (.bipush 100, 2) := by decide +kernel
theorem dX3_isOnLine_3 : decode cX3_isOnLine 3 = .ok (.if_icmp .lt 22, 3) := by decide +kernel
theorem dX3_isOnLine_6 : decode cX3_isOnLine 6 = .ok (.iload_n 2, 1) := by decide +kernel
theorem dX3_isOnLine_7 : decode cX3_isOnLine 7 = .ok (.aload_n 0, 1) := by decide +kernel
theorem dX3_isOnLine_8 : decode cX3_isOnLine 8 = .ok (.getfield 18, 3) := by decide +kernel
theorem dX3_isOnLine_11 : decode cX3_isOnLine 11 = .ok (.irem, 1) := by decide +kernel
theorem dX3_isOnLine_12 : decode cX3_isOnLine 12 = .ok (.iload_n 1, 1) := by decide +kernel
theorem dX3_isOnLine_13 : decode cX3_isOnLine 13 = .ok (.bipush 100, 2) := by decide +kernel
theorem dX3_isOnLine_15 : decode cX3_isOnLine 15 = .ok (.isub, 1) := by decide +kernel
theorem dX3_isOnLine_16 : decode cX3_isOnLine 16 = .ok (.if_icmp .ne 7, 3) := by decide +kernel
theorem dX3_isOnLine_19 : decode cX3_isOnLine 19 = .ok (.iconst 1, 1) := by decide +kernel
theorem dX3_isOnLine_20 : decode cX3_isOnLine 20 = .ok (.goto 4, 3) := by decide +kernel
theorem dX3_isOnLine_23 : decode cX3_isOnLine 23 = .ok (.iconst 0, 1) := by decide +kernel
theorem dX3_isOnLine_24 : decode cX3_isOnLine 24 = .ok (.ireturn, 1) := by decide +kernel
theorem dX3_isOnLine_25 : decode cX3_isOnLine 25 = .ok (.iload_n 2, 1) := by decide +kernel
theorem dX3_isOnLine_26 : decode cX3_isOnLine 26 = .ok (.aload_n 0, 1) := by decide +kernel
theorem dX3_isOnLine_27 : decode cX3_isOnLine 27 = .ok (.getfield 18, 3) := by decide +kernel
theorem dX3_isOnLine_30 : decode cX3_isOnLine 30 = .ok (.idiv, 1) := by decide +kernel
theorem dX3_isOnLine_31 : decode cX3_isOnLine 31 = .ok (.iload_n 1, 1) := by decide +kernel
theorem dX3_isOnLine_32 : decode cX3_isOnLine 32 = .ok (.if_icmp .ne 7, 3) := by decide +kernel
theorem dX3_isOnLine_35 : decode cX3_isOnLine 35 = .ok (.iconst 1, 1) := by decide +kernel
theorem dX3_isOnLine_36 : decode cX3_isOnLine 36 = .ok (.goto 4, 3) := by decide +kernel
theorem dX3_isOnLine_39 : decode cX3_isOnLine 39 = .ok (.iconst 0, 1) := by decide +kernel
theorem dX3_isOnLine_40 : decode cX3_isOnLine 40 = .ok (.ireturn, 1) := by decide +kernel
theorem dX3_isInCross_0 : decode cX3_isInCross 0 = .ok (.iload_n 2, 1) := by decide +kernel
theorem dX3_isInCross_1 : decode cX3_isInCross 1 = .ok (.aload_n 0, 1) := by decide +kernel
theorem dX3_isInCross_2 : decode cX3_isInCross 2 = .ok (.getfield 18, 3) := by decide +kernel
theorem dX3_isInCross_5 : decode cX3_isInCross 5 = .ok (.idiv, 1) := by decide +kernel
theorem dX3_isInCross_6 : decode cX3_isInCross 6 = .ok (.iload_n 1, 1) := by decide +kernel
theorem dX3_isInCross_7 : decode cX3_isInCross 7 = .ok (.aload_n 0, 1) := by decide +kernel
theorem dX3_isInCross_8 : decode cX3_isInCross 8 = .ok (.getfield 18, 3) := by decide +kernel
theorem dX3_isInCross_11 : decode cX3_isInCross 11 = .ok (.idiv, 1) := by decide +kernel
theorem dX3_isInCross_12 : decode cX3_isInCross 12 = .ok (.isub, 1) := by decide +kernel
theorem dX3_isInCross_13 : decode cX3_isInCross 13 = .ok (.invokestatic 87, 3) := by decide +kernel
theorem dX3_isInCross_16 : decode cX3_isInCross 16 = .ok (.istore_n 3, 1) := by decide +kernel
theorem dX3_isInCross_17 : decode cX3_isInCross 17 = .ok (.iload_n 2, 1) := by decide +kernel
theorem dX3_isInCross_18 : decode cX3_isInCross 18 = .ok (.aload_n 0, 1) := by decide +kernel
theorem dX3_isInCross_19 : decode cX3_isInCross 19 = .ok (.getfield 18, 3) := by decide +kernel
theorem dX3_isInCross_22 : decode cX3_isInCross 22 = .ok (.irem, 1) := by decide +kernel
theorem dX3_isInCross_23 : decode cX3_isInCross 23 = .ok (.iload_n 1, 1) := by decide +kernel
theorem dX3_isInCross_24 : decode cX3_isInCross 24 = .ok (.aload_n 0, 1) := by decide +kernel
theorem dX3_isInCross_25 : decode cX3_isInCross 25 = .ok (.getfield 18, 3) := by decide +kernel
theorem dX3_isInCross_28 : decode cX3_isInCross 28 = .ok (.irem, 1) := by decide +kernel
theorem dX3_isInCross_29 : decode cX3_isInCross 29 = .ok (.isub, 1) := by decide +kernel
theorem dX3_isInCross_30 : decode cX3_isInCross 30 = .ok (.invokestatic 87, 3) := by decide +kernel
theorem dX3_isInCross_33 : decode cX3_isInCross 33 = .ok (.istore 4, 2) := by decide +kernel
theorem dX3_isInCross_35 : decode cX3_isInCross 35 = .ok (.iload_n 3, 1) := by decide +kernel
theorem dX3_isInCross_36 : decode cX3_isInCross 36 = .ok (.iload 4, 2) := by decide +kernel
theorem dX3_isInCross_38 : decode cX3_isInCross 38 = .ok (.iadd, 1) := by decide +kernel
theorem dX3_isInCross_39 : decode cX3_isInCross 39 = .ok (.iconst 1, 1) := by decide +kernel
theorem dX3_isInCross_40 : decode cX3_isInCross 40 = .ok (.if_icmp .gt 7, 3) := by decide +kernel
theorem dX3_isInCross_43 : decode cX3_isInCross 43 = .ok (.iconst 1, 1) := by decide +kernel
theorem dX3_isInCross_44 : decode cX3_isInCross 44 = .ok (.goto 4, 3) := by decide +kernel
theorem dX3_isInCross_47 : decode cX3_isInCross 47 = .ok (.iconst 0, 1) := by decide +kernel
theorem dX3_isInCross_48 : decode cX3_isInCross 48 = .ok (.ireturn, 1) := by decide +kernel
theorem dX3_pushOne_0 : decode cX3_pushOne 0 = .ok (.iconst 0, 1) := by decide +kernel
theorem dX3_pushOne_1 : decode cX3_pushOne 1 = .ok (.istore_n 3, 1) := by decide +kernel
theorem dX3_pushOne_2 : decode cX3_pushOne 2 = .ok (.iconst 0, 1) := by decide +kernel
theorem dX3_pushOne_3 : decode cX3_pushOne 3 = .ok (.istore 4, 2) := by decide +kernel
theorem dX3_pushOne_5 : decode cX3_pushOne 5 = .ok (.iload 4, 2) := by decide +kernel
theorem dX3_pushOne_7 : decode cX3_pushOne 7 = .ok (.aload_n 0, 1) := by decide +kernel
theorem dX3_pushOne_8 : decode cX3_pushOne 8 = .ok (.getfield 9, 3) := by decide +kernel
theorem dX3_pushOne_11 : decode cX3_pushOne 11 = .ok (.if_icmp .ge 32, 3) := by decide +kernel
theorem dX3_pushOne_14 : decode cX3_pushOne 14 = .ok (.iload_n 3, 1) := by decide +kernel
theorem dX3_pushOne_15 : decode cX3_pushOne 15 = .ok (.aload_n 0, 1) := by decide +kernel
theorem dX3_pushOne_16 : decode cX3_pushOne 16 = .ok (.iload 4, 2) := by decide +kernel
theorem dX3_pushOne_18 : decode cX3_pushOne 18 = .ok (.iload_n 2, 1) := by decide +kernel
theorem dX3_pushOne_19 : decode cX3_pushOne 19 = .ok (.aload_n 0, 1) := by decide +kernel
theorem dX3_pushOne_20 : decode cX3_pushOne 20 = .ok (.getfield 15, 3) := by decide +kernel
theorem dX3_pushOne_23 : decode cX3_pushOne 23 = .ok (.irem, 1) := by decide +kernel
theorem dX3_pushOne_24 : decode cX3_pushOne 24 = .ok (.aload_n 0, 1) := by decide +kernel
theorem dX3_pushOne_25 : decode cX3_pushOne 25 = .ok (.iload_n 1, 1) := by decide +kernel
theorem dX3_pushOne_26 : decode cX3_pushOne 26 = .ok (.iload 4, 2) := by decide +kernel
theorem dX3_pushOne_28 : decode cX3_pushOne 28 = .ok (.invokevirtual 93, 3) := by decide +kernel
theorem dX3_pushOne_31 : decode cX3_pushOne 31 = .ok (.imul, 1) := by decide +kernel
theorem dX3_pushOne_32 : decode cX3_pushOne 32 = .ok (.invokevirtual 96, 3) := by decide +kernel
theorem dX3_pushOne_35 : decode cX3_pushOne 35 = .ok (.iadd, 1) := by decide +kernel
theorem dX3_pushOne_36 : decode cX3_pushOne 36 = .ok (.istore_n 3, 1) := by decide +kernel
theorem dX3_pushOne_37 : decode cX3_pushOne 37 = .ok (.iinc 4 1, 3) := by decide +kernel
theorem dX3_pushOne_40 : decode cX3_pushOne 40 = .ok (.goto (-35), 3) := by decide +kernel
theorem dX3_pushOne_43 : decode cX3_pushOne 43 = .ok (.iload_n 3, 1) := by decide +kernel
theorem dX3_pushOne_44 : decode cX3_pushOne 44 = .ok (.ireturn, 1) := by decide +kernel
theorem dX3_pushAll_0 : decode cX3_pushAll 0 = .ok (.iconst 0, 1) := by decide +kernel
theorem dX3_pushAll_1 : decode cX3_pushAll 1 = .ok (.istore_n 2, 1) := by decide +kernel
theorem dX3_pushAll_2 : decode cX3_pushAll 2 = .ok (.iconst 0, 1) := by decide +kernel
theorem dX3_pushAll_3 : decode cX3_pushAll 3 = .ok (.istore_n 3, 1) := by decide +kernel
theorem dX3_pushAll_4 : decode cX3_pushAll 4 = .ok (.iload_n 3, 1) := by decide +kernel
theorem dX3_pushAll_5 : decode cX3_pushAll 5 = .ok (.aload_n 0, 1) := by decide +kernel
theorem dX3_pushAll_6 : decode cX3_pushAll 6 = .ok (.getfield 9, 3) := by decide +kernel
theorem dX3_pushAll_9 : decode cX3_pushAll 9 = .ok (.if_icmp .ge 23, 3) := by decide +kernel
theorem dX3_pushAll_12 : decode cX3_pushAll 12 = .ok (.iload_n 2, 1) := by decide +kernel
theorem dX3_pushAll_13 : decode cX3_pushAll 13 = .ok (.aload_n 0, 1) := by decide +kernel
theorem dX3_pushAll_14 : decode cX3_pushAll 14 = .ok (.iload_n 3, 1) := by decide +kernel
theorem dX3_pushAll_15 : decode cX3_pushAll 15 = .ok (.aload_n 0, 1) := by decide +kernel
theorem dX3_pushAll_16 : decode cX3_pushAll 16 = .ok (.aload_n 1, 1) := by decide +kernel
theorem dX3_pushAll_17 : decode cX3_pushAll 17 = .ok (.iload_n 3, 1) := by decide +kernel
theorem dX3_pushAll_18 : decode cX3_pushAll 18 = .ok (.invokevirtual 99, 3) := by decide +kernel
theorem dX3_pushAll_21 : decode cX3_pushAll 21 = .ok (.invokevirtual 96, 3) := by decide +kernel
theorem dX3_pushAll_24 : decode cX3_pushAll 24 = .ok (.iadd, 1) := by decide +kernel
theorem dX3_pushAll_25 : decode cX3_pushAll 25 = .ok (.istore_n 2, 1) := by decide +kernel
theorem dX3_pushAll_26 : decode cX3_pushAll 26 = .ok (.iinc 3 1, 3) := by decide +kernel
theorem dX3_pushAll_29 : decode cX3_pushAll 29 = .ok (.goto (-25), 3) := by decide +kernel
theorem dX3_pushAll_32 : decode cX3_pushAll 32 = .ok (.iload_n 2, 1) := by decide +kernel
theorem dX3_pushAll_33 : decode cX3_pushAll 33 = .ok (.ireturn, 1) := by decide +kernel
theorem dX3_turn_0 : decode cX3_turn 0 = .ok (.aload_n 0, 1) := by decide +kernel
theorem dX3_turn_1 : decode cX3_turn 1 = .ok (.getfield 21, 3) := by decide +kernel
theorem dX3_turn_4 : decode cX3_turn 4 = .ok (.iload_n 1, 1) := by decide +kernel
theorem dX3_turn_5 : decode cX3_turn 5 = .ok (.iaload, 1) := by decide +kernel
theorem dX3_turn_6 : decode cX3_turn 6 = .ok (.istore_n 3, 1) := by decide +kernel
theorem dX3_turn_7 : decode cX3_turn 7 = .ok (.aload_n 0, 1) := by decide +kernel
theorem dX3_turn_8 : decode cX3_turn 8 = .ok (.getfield 21, 3) := by decide +kernel
theorem dX3_turn_11 : decode cX3_turn 11 = .ok (.iload_n 1, 1) := by decide +kernel
theorem dX3_turn_12 : decode cX3_turn 12 = .ok (.iload_n 3, 1) := by decide +kernel
theorem dX3_turn_13 : decode cX3_turn 13 = .ok (.iload_n 2, 1) := by decide +kernel
theorem dX3_turn_14 : decode cX3_turn 14 = .ok (.iadd, 1) := by decide +kernel
theorem dX3_turn_15 : decode cX3_turn 15 = .ok (.aload_n 0, 1) := by decide +kernel
theorem dX3_turn_16 : decode cX3_turn 16 = .ok (.getfield 15, 3) := by decide +kernel
theorem dX3_turn_19 : decode cX3_turn 19 = .ok (.irem, 1) := by decide +kernel
theorem dX3_turn_20 : decode cX3_turn 20 = .ok (.iastore, 1) := by decide +kernel
theorem dX3_turn_21 : decode cX3_turn 21 = .ok (.aload_n 0, 1) := by decide +kernel
theorem dX3_turn_22 : decode cX3_turn 22 = .ok (.getfield 21, 3) := by decide +kernel
theorem dX3_turn_25 : decode cX3_turn 25 = .ok (.iload_n 1, 1) := by decide +kernel
theorem dX3_turn_26 : decode cX3_turn 26 = .ok (.iaload, 1) := by decide +kernel
theorem dX3_turn_27 : decode cX3_turn 27 = .ok (.iload_n 3, 1) := by decide +kernel
theorem dX3_turn_28 : decode cX3_turn 28 = .ok (.if_icmp .ne 7, 3) := by decide +kernel
theorem dX3_turn_31 : decode cX3_turn 31 = .ok (.iconst 0, 1) := by decide +kernel
theorem dX3_turn_32 : decode cX3_turn 32 = .ok (.goto 4, 3) := by decide +kernel
theorem dX3_turn_35 : decode cX3_turn 35 = .ok (.iconst 1, 1) := by decide +kernel
theorem dX3_turn_36 : decode cX3_turn 36 = .ok (.ireturn, 1) := by decide +kernel
theorem dX3_isAllCrosses_0 : decode cX3_isAllCrosses 0 = .ok (.aload_n 0, 1) := by decide +kernel
theorem dX3_isAllCrosses_1 : decode cX3_isAllCrosses 1 = .ok (.getfield 43, 3) := by decide +kernel
theorem dX3_isAllCrosses_4 : decode cX3_isAllCrosses 4 = .ok (.aload_n 0, 1) := by decide +kernel
theorem dX3_isAllCrosses_5 : decode cX3_isAllCrosses 5 = .ok (.getfield 9, 3) := by decide +kernel
theorem dX3_isAllCrosses_8 : decode cX3_isAllCrosses 8 = .ok (.if_icmp .eq 5, 3) := by decide +kernel
theorem dX3_isAllCrosses_11 : decode cX3_isAllCrosses 11 = .ok (.iconst 0, 1) := by decide +kernel
theorem dX3_isAllCrosses_12 : decode cX3_isAllCrosses 12 = .ok (.ireturn, 1) := by decide +kernel
theorem dX3_isAllCrosses_13 : decode cX3_isAllCrosses 13 = .ok (.iconst 0, 1) := by decide +kernel
theorem dX3_isAllCrosses_14 : decode cX3_isAllCrosses 14 = .ok (.istore_n 1, 1) := by decide +kernel
theorem dX3_isAllCrosses_15 : decode cX3_isAllCrosses 15 = .ok (.iload_n 1, 1) := by decide +kernel
theorem dX3_isAllCrosses_16 : decode cX3_isAllCrosses 16 = .ok (.aload_n 0, 1) := by decide +kernel
theorem dX3_isAllCrosses_17 : decode cX3_isAllCrosses 17 = .ok (.getfield 43, 3) := by decide +kernel
theorem dX3_isAllCrosses_20 : decode cX3_isAllCrosses 20 = .ok (.if_icmp .ge 41, 3) := by decide +kernel
theorem dX3_isAllCrosses_23 : decode cX3_isAllCrosses 23 = .ok (.aload_n 0, 1) := by decide +kernel
theorem dX3_isAllCrosses_24 : decode cX3_isAllCrosses 24 = .ok (.getfield 25, 3) := by decide +kernel
theorem dX3_isAllCrosses_27 : decode cX3_isAllCrosses 27 = .ok (.iload_n 1, 1) := by decide +kernel
theorem dX3_isAllCrosses_28 : decode cX3_isAllCrosses 28 = .ok (.iaload, 1) := by decide +kernel
theorem dX3_isAllCrosses_29 : decode cX3_isAllCrosses 29 = .ok (.iconst 1, 1) := by decide +kernel
theorem dX3_isAllCrosses_30 : decode cX3_isAllCrosses 30 = .ok (.if_icmp .ne 23, 3) := by decide +kernel
theorem dX3_isAllCrosses_33 : decode cX3_isAllCrosses 33 = .ok (.aload_n 0, 1) := by decide +kernel
theorem dX3_isAllCrosses_34 : decode cX3_isAllCrosses 34 = .ok (.getfield 28, 3) := by decide +kernel
theorem dX3_isAllCrosses_37 : decode cX3_isAllCrosses 37 = .ok (.iload_n 1, 1) := by decide +kernel
theorem dX3_isAllCrosses_38 : decode cX3_isAllCrosses 38 = .ok (.iaload, 1) := by decide +kernel
theorem dX3_isAllCrosses_39 : decode cX3_isAllCrosses 39 = .ok (.iload_n 1, 1) := by decide +kernel
theorem dX3_isAllCrosses_40 : decode cX3_isAllCrosses 40 = .ok (.if_icmp .ne 13, 3) := by decide +kernel
theorem dX3_isAllCrosses_43 : decode cX3_isAllCrosses 43 = .ok (.aload_n 0, 1) := by decide +kernel
theorem dX3_isAllCrosses_44 : decode cX3_isAllCrosses 44 = .ok (.getfield 31, 3) := by decide +kernel
theorem dX3_isAllCrosses_47 : decode cX3_isAllCrosses 47 = .ok (.iload_n 1, 1) := by decide +kernel
theorem dX3_isAllCrosses_48 : decode cX3_isAllCrosses 48 = .ok (.iaload, 1) := by decide +kernel
theorem dX3_isAllCrosses_49 : decode cX3_isAllCrosses 49 = .ok (.iconst 1, 1) := by decide +kernel
theorem dX3_isAllCrosses_50 : decode cX3_isAllCrosses 50 = .ok (.if_icmp .eq 5, 3) := by decide +kernel
theorem dX3_isAllCrosses_53 : decode cX3_isAllCrosses 53 = .ok (.iconst 0, 1) := by decide +kernel
theorem dX3_isAllCrosses_54 : decode cX3_isAllCrosses 54 = .ok (.ireturn, 1) := by decide +kernel
theorem dX3_isAllCrosses_55 : decode cX3_isAllCrosses 55 = .ok (.iinc 1 1, 3) := by decide +kernel
theorem dX3_isAllCrosses_58 : decode cX3_isAllCrosses 58 = .ok (.goto (-43), 3) := by decide +kernel
theorem dX3_isAllCrosses_61 : decode cX3_isAllCrosses 61 = .ok (.iconst 1, 1) := by decide +kernel
theorem dX3_isAllCrosses_62 : decode cX3_isAllCrosses 62 = .ok (.ireturn, 1) := by decide +kernel
theorem dX3_chaseDown_0 : decode cX3_chaseDown 0 = .ok (.iconst 0, 1) := by decide +kernel
theorem dX3_chaseDown_1 : decode cX3_chaseDown 1 = .ok (.istore_n 1, 1) := by decide +kernel
theorem dX3_chaseDown_2 : decode cX3_chaseDown 2 = .ok (.aload_n 0, 1) := by decide +kernel
theorem dX3_chaseDown_3 : decode cX3_chaseDown 3 = .ok (.getfield 18, 3) := by decide +kernel
theorem dX3_chaseDown_6 : decode cX3_chaseDown 6 = .ok (.istore_n 2, 1) := by decide +kernel
theorem dX3_chaseDown_7 : decode cX3_chaseDown 7 = .ok (.iload_n 2, 1) := by decide +kernel
theorem dX3_chaseDown_8 : decode cX3_chaseDown 8 = .ok (.aload_n 0, 1) := by decide +kernel
theorem dX3_chaseDown_9 : decode cX3_chaseDown 9 = .ok (.getfield 9, 3) := by decide +kernel
theorem dX3_chaseDown_12 : decode cX3_chaseDown 12 = .ok (.if_icmp .ge 46, 3) := by decide +kernel
theorem dX3_chaseDown_15 : decode cX3_chaseDown 15 = .ok (.aload_n 0, 1) := by decide +kernel
theorem dX3_chaseDown_16 : decode cX3_chaseDown 16 = .ok (.getfield 21, 3) := by decide +kernel
theorem dX3_chaseDown_19 : decode cX3_chaseDown 19 = .ok (.iload_n 2, 1) := by decide +kernel
theorem dX3_chaseDown_20 : decode cX3_chaseDown 20 = .ok (.aload_n 0, 1) := by decide +kernel
theorem dX3_chaseDown_21 : decode cX3_chaseDown 21 = .ok (.getfield 18, 3) := by decide +kernel
theorem dX3_chaseDown_24 : decode cX3_chaseDown 24 = .ok (.isub, 1) := by decide +kernel
theorem dX3_chaseDown_25 : decode cX3_chaseDown 25 = .ok (.iaload, 1) := by decide +kernel
theorem dX3_chaseDown_26 : decode cX3_chaseDown 26 = .ok (.istore_n 3, 1) := by decide +kernel
theorem dX3_chaseDown_27 : decode cX3_chaseDown 27 = .ok (.iload_n 3, 1) := by decide +kernel
theorem dX3_chaseDown_28 : decode cX3_chaseDown 28 = .ok (.ifCond .eq 24, 3) := by decide +kernel
theorem dX3_chaseDown_31 : decode cX3_chaseDown 31 = .ok (.aload_n 0, 1) := by decide +kernel
theorem dX3_chaseDown_32 : decode cX3_chaseDown 32 = .ok (.iload_n 2, 1) := by decide +kernel
theorem dX3_chaseDown_33 : decode cX3_chaseDown 33 = .ok (.aload_n 0, 1) := by decide +kernel
theorem dX3_chaseDown_34 : decode cX3_chaseDown 34 = .ok (.getfield 15, 3) := by decide +kernel
theorem dX3_chaseDown_37 : decode cX3_chaseDown 37 = .ok (.iload_n 3, 1) := by decide +kernel
theorem dX3_chaseDown_38 : decode cX3_chaseDown 38 = .ok (.isub, 1) := by decide +kernel
theorem dX3_chaseDown_39 : decode cX3_chaseDown 39 = .ok (.invokevirtual 103, 3) := by decide +kernel
theorem dX3_chaseDown_42 : decode cX3_chaseDown 42 = .ok (.pop, 1) := by decide +kernel
theorem dX3_chaseDown_43 : decode cX3_chaseDown 43 = .ok (.iload_n 1, 1) := by decide +kernel
theorem dX3_chaseDown_44 : decode cX3_chaseDown 44 = .ok (.aload_n 0, 1) := by decide +kernel
theorem dX3_chaseDown_45 : decode cX3_chaseDown 45 = .ok (.getfield 15, 3) := by decide +kernel
theorem dX3_chaseDown_48 : decode cX3_chaseDown 48 = .ok (.iload_n 3, 1) := by decide +kernel
theorem dX3_chaseDown_49 : decode cX3_chaseDown 49 = .ok (.isub, 1) := by decide +kernel
theorem dX3_chaseDown_50 : decode cX3_chaseDown 50 = .ok (.iadd, 1) := by decide +kernel
theorem dX3_chaseDown_51 : decode cX3_chaseDown 51 = .ok (.istore_n 1, 1) := by decide +kernel
theorem dX3_chaseDown_52 : decode cX3_chaseDown 52 = .ok (.iinc 2 1, 3) := by decide +kernel
theorem dX3_chaseDown_55 : decode cX3_chaseDown 55 = .ok (.goto (-48), 3) := by decide +kernel
theorem dX3_chaseDown_58 : decode cX3_chaseDown 58 = .ok (.iload_n 1, 1) := by decide +kernel
theorem dX3_chaseDown_59 : decode cX3_chaseDown 59 = .ok (.ireturn, 1) := by decide +kernel
theorem dX3_countLit_0 : decode cX3_countLit 0 = .ok (.iconst 0, 1) := by decide +kernel
theorem dX3_countLit_1 : decode cX3_countLit 1 = .ok (.istore_n 1, 1) := by decide +kernel
theorem dX3_countLit_2 : decode cX3_countLit 2 = .ok (.iconst 0, 1) := by decide +kernel
theorem dX3_countLit_3 : decode cX3_countLit 3 = .ok (.istore_n 2, 1) := by decide +kernel
theorem dX3_countLit_4 : decode cX3_countLit 4 = .ok (.iload_n 2, 1) := by decide +kernel
theorem dX3_countLit_5 : decode cX3_countLit 5 = .ok (.aload_n 0, 1) := by decide +kernel
theorem dX3_countLit_6 : decode cX3_countLit 6 = .ok (.getfield 9, 3) := by decide +kernel
theorem dX3_countLit_9 : decode cX3_countLit 9 = .ok (.if_icmp .ge 21, 3) := by decide +kernel
theorem dX3_countLit_12 : decode cX3_countLit 12 = .ok (.aload_n 0, 1) := by decide +kernel
theorem dX3_countLit_13 : decode cX3_countLit 13 = .ok (.getfield 21, 3) := by decide +kernel
theorem dX3_countLit_16 : decode cX3_countLit 16 = .ok (.iload_n 2, 1) := by decide +kernel
theorem dX3_countLit_17 : decode cX3_countLit 17 = .ok (.iaload, 1) := by decide +kernel
theorem dX3_countLit_18 : decode cX3_countLit 18 = .ok (.ifCond .eq 6, 3) := by decide +kernel
theorem dX3_countLit_21 : decode cX3_countLit 21 = .ok (.iinc 1 1, 3) := by decide +kernel
theorem dX3_countLit_24 : decode cX3_countLit 24 = .ok (.iinc 2 1, 3) := by decide +kernel
theorem dX3_countLit_27 : decode cX3_countLit 27 = .ok (.goto (-23), 3) := by decide +kernel
theorem dX3_countLit_30 : decode cX3_countLit 30 = .ok (.iload_n 1, 1) := by decide +kernel
theorem dX3_countLit_31 : decode cX3_countLit 31 = .ok (.ireturn, 1) := by decide +kernel
theorem dX3_sumShown_0 : decode cX3_sumShown 0 = .ok (.iconst 0, 1) := by decide +kernel
theorem dX3_sumShown_1 : decode cX3_sumShown 1 = .ok (.istore_n 1, 1) := by decide +kernel
theorem dX3_sumShown_2 : decode cX3_sumShown 2 = .ok (.iconst 0, 1) := by decide +kernel
theorem dX3_sumShown_3 : decode cX3_sumShown 3 = .ok (.istore_n 2, 1) := by decide +kernel
theorem dX3_sumShown_4 : decode cX3_sumShown 4 = .ok (.iload_n 2, 1) := by decide +kernel
theorem dX3_sumShown_5 : decode cX3_sumShown 5 = .ok (.aload_n 0, 1) := by decide +kernel
theorem dX3_sumShown_6 : decode cX3_sumShown 6 = .ok (.getfield 9, 3) := by decide +kernel
theorem dX3_sumShown_9 : decode cX3_sumShown 9 = .ok (.if_icmp .ge 18, 3) := by decide +kernel
theorem dX3_sumShown_12 : decode cX3_sumShown 12 = .ok (.iload_n 1, 1) := by decide +kernel
theorem dX3_sumShown_13 : decode cX3_sumShown 13 = .ok (.aload_n 0, 1) := by decide +kernel
theorem dX3_sumShown_14 : decode cX3_sumShown 14 = .ok (.getfield 21, 3) := by decide +kernel
theorem dX3_sumShown_17 : decode cX3_sumShown 17 = .ok (.iload_n 2, 1) := by decide +kernel
theorem dX3_sumShown_18 : decode cX3_sumShown 18 = .ok (.iaload, 1) := by decide +kernel
theorem dX3_sumShown_19 : decode cX3_sumShown 19 = .ok (.iadd, 1) := by decide +kernel
theorem dX3_sumShown_20 : decode cX3_sumShown 20 = .ok (.istore_n 1, 1) := by decide +kernel
theorem dX3_sumShown_21 : decode cX3_sumShown 21 = .ok (.iinc 2 1, 3) := by decide +kernel
theorem dX3_sumShown_24 : decode cX3_sumShown 24 = .ok (.goto (-20), 3) := by decide +kernel
theorem dX3_sumShown_27 : decode cX3_sumShown 27 = .ok (.iload_n 1, 1) := by decide +kernel
theorem dX3_sumShown_28 : decode cX3_sumShown 28 = .ok (.ireturn, 1) := by decide +kernel
theorem dX3_allBelowColours_0 : decode cX3_allBelowColours 0 = .ok (.iconst 0, 1) := by decide +kernel
theorem dX3_allBelowColours_1 : decode cX3_allBelowColours 1 = .ok (.istore_n 3, 1) := by decide +kernel
theorem dX3_allBelowColours_2 : decode cX3_allBelowColours 2 = .ok (.iload_n 3, 1) := by decide +kernel
theorem dX3_allBelowColours_3 : decode cX3_allBelowColours 3 = .ok (.iload_n 2, 1) := by decide +kernel
theorem dX3_allBelowColours_4 : decode cX3_allBelowColours 4 = .ok (.if_icmp .ge 27, 3) := by decide +kernel
theorem dX3_allBelowColours_7 : decode cX3_allBelowColours 7 = .ok (.iload_n 3, 1) := by decide +kernel
theorem dX3_allBelowColours_8 : decode cX3_allBelowColours 8 = .ok (.aload_n 1, 1) := by decide +kernel
theorem dX3_allBelowColours_9 : decode cX3_allBelowColours 9 = .ok (.arraylength, 1) := by decide +kernel
theorem dX3_allBelowColours_10 : decode cX3_allBelowColours 10 = .ok (.if_icmp .ge 21, 3) := by decide +kernel
theorem dX3_allBelowColours_13 : decode cX3_allBelowColours 13 = .ok (.aload_n 1, 1) := by decide +kernel
theorem dX3_allBelowColours_14 : decode cX3_allBelowColours 14 = .ok (.iload_n 3, 1) := by decide +kernel
theorem dX3_allBelowColours_15 : decode cX3_allBelowColours 15 = .ok (.iaload, 1) := by decide +kernel
theorem dX3_allBelowColours_16 : decode cX3_allBelowColours 16 = .ok (.aload_n 0, 1) := by decide +kernel
theorem dX3_allBelowColours_17 : decode cX3_allBelowColours 17 = .ok (.getfield 15, 3) := by decide +kernel
theorem dX3_allBelowColours_20 : decode cX3_allBelowColours 20 = .ok (.if_icmp .lt 5, 3) := by decide +kernel
theorem dX3_allBelowColours_23 : decode cX3_allBelowColours 23 = .ok (.iconst 0, 1) := by decide +kernel
theorem dX3_allBelowColours_24 : decode cX3_allBelowColours 24 = .ok (.ireturn, 1) := by decide +kernel
theorem dX3_allBelowColours_25 : decode cX3_allBelowColours 25 = .ok (.iinc 3 1, 3) := by decide +kernel
theorem dX3_allBelowColours_28 : decode cX3_allBelowColours 28 = .ok (.goto (-26), 3) := by decide +kernel
theorem dX3_allBelowColours_31 : decode cX3_allBelowColours 31 = .ok (.iconst 1, 1) := by decide +kernel
theorem dX3_allBelowColours_32 : decode cX3_allBelowColours 32 = .ok (.ireturn, 1) := by decide +kernel
theorem dX3_isPushing_0 : decode cX3_isPushing 0 = .ok (.iload_n 2, 1) := by decide +kernel
theorem dX3_isPushing_1 : decode cX3_isPushing 1 = .ok (.aload_n 0, 1) := by decide +kernel
theorem dX3_isPushing_2 : decode cX3_isPushing 2 = .ok (.getfield 43, 3) := by decide +kernel
theorem dX3_isPushing_5 : decode cX3_isPushing 5 = .ok (.if_icmp .ne 25, 3) := by decide +kernel
theorem dX3_isPushing_8 : decode cX3_isPushing 8 = .ok (.aload_n 0, 1) := by decide +kernel
theorem dX3_isPushing_9 : decode cX3_isPushing 9 = .ok (.aload_n 1, 1) := by decide +kernel
theorem dX3_isPushing_10 : decode cX3_isPushing 10 = .ok (.iload_n 2, 1) := by decide +kernel
theorem dX3_isPushing_11 : decode cX3_isPushing 11 = .ok (.invokevirtual 106, 3) := by decide +kernel
theorem dX3_isPushing_14 : decode cX3_isPushing 14 = .ok (.ifCond .eq 16, 3) := by decide +kernel
theorem dX3_isPushing_17 : decode cX3_isPushing 17 = .ok (.aload_n 0, 1) := by decide +kernel
theorem dX3_isPushing_18 : decode cX3_isPushing 18 = .ok (.aload_n 1, 1) := by decide +kernel
theorem dX3_isPushing_19 : decode cX3_isPushing 19 = .ok (.invokevirtual 110, 3) := by decide +kernel
theorem dX3_isPushing_22 : decode cX3_isPushing 22 = .ok (.iconst (-1), 1) := by decide +kernel
theorem dX3_isPushing_23 : decode cX3_isPushing 23 = .ok (.if_icmp .ne 7, 3) := by decide +kernel
theorem dX3_isPushing_26 : decode cX3_isPushing 26 = .ok (.iconst 1, 1) := by decide +kernel
theorem dX3_isPushing_27 : decode cX3_isPushing 27 = .ok (.goto 4, 3) := by decide +kernel
theorem dX3_isPushing_30 : decode cX3_isPushing 30 = .ok (.iconst 0, 1) := by decide +kernel
theorem dX3_isPushing_31 : decode cX3_isPushing 31 = .ok (.ireturn, 1) := by decide +kernel
theorem dX3_firstStuckPushed_0 : decode cX3_firstStuckPushed 0 = .ok (.iconst 0, 1) := by decide +kernel
theorem dX3_firstStuckPushed_1 : decode cX3_firstStuckPushed 1 = .ok (.istore_n 2, 1) := by decide +kernel
theorem dX3_firstStuckPushed_2 : decode cX3_firstStuckPushed 2 = .ok (.iload_n 2, 1) := by decide +kernel
theorem dX3_firstStuckPushed_3 : decode cX3_firstStuckPushed 3 = .ok (.aload_n 0, 1) := by decide +kernel
theorem dX3_firstStuckPushed_4 : decode cX3_firstStuckPushed 4 = .ok (.getfield 43, 3) := by decide +kernel
theorem dX3_firstStuckPushed_7 : decode cX3_firstStuckPushed 7 = .ok (.if_icmp .ge 27, 3) := by decide +kernel
theorem dX3_firstStuckPushed_10 : decode cX3_firstStuckPushed 10 = .ok (.aload_n 0, 1) := by decide +kernel
theorem dX3_firstStuckPushed_11 : decode cX3_firstStuckPushed 11 = .ok (.getfield 25, 3) := by decide +kernel
theorem dX3_firstStuckPushed_14 : decode cX3_firstStuckPushed 14 = .ok (.iload_n 2, 1) := by decide +kernel
theorem dX3_firstStuckPushed_15 : decode cX3_firstStuckPushed 15 = .ok (.iaload, 1) := by decide +kernel
theorem dX3_firstStuckPushed_16 : decode cX3_firstStuckPushed 16 = .ok (.iconst 3, 1) := by decide +kernel
theorem dX3_firstStuckPushed_17 : decode cX3_firstStuckPushed 17 = .ok (.if_icmp .ne 11, 3) := by decide +kernel
theorem dX3_firstStuckPushed_20 : decode cX3_firstStuckPushed 20 = .ok (.aload_n 1, 1) := by decide +kernel
theorem dX3_firstStuckPushed_21 : decode cX3_firstStuckPushed 21 = .ok (.iload_n 2, 1) := by decide +kernel
theorem dX3_firstStuckPushed_22 : decode cX3_firstStuckPushed 22 = .ok (.iaload, 1) := by decide +kernel
theorem dX3_firstStuckPushed_23 : decode cX3_firstStuckPushed 23 = .ok (.ifCond .eq 5, 3) := by decide +kernel
theorem dX3_firstStuckPushed_26 : decode cX3_firstStuckPushed 26 = .ok (.iload_n 2, 1) := by decide +kernel
theorem dX3_firstStuckPushed_27 : decode cX3_firstStuckPushed 27 = .ok (.ireturn, 1) := by decide +kernel
theorem dX3_firstStuckPushed_28 : decode cX3_firstStuckPushed 28 = .ok (.iinc 2 1, 3) := by decide +kernel
theorem dX3_firstStuckPushed_31 : decode cX3_firstStuckPushed 31 = .ok (.goto (-29), 3) := by decide +kernel
theorem dX3_firstStuckPushed_34 : decode cX3_firstStuckPushed 34 = .ok (.iconst (-1), 1) := by decide +kernel
theorem dX3_firstStuckPushed_35 : decode cX3_firstStuckPushed 35 = .ok (.ireturn, 1) := by decide +kernel
theorem dX3_patternAt_0 : decode cX3_patternAt 0 = .ok (.iconst 0, 1) := by decide +kernel
theorem dX3_patternAt_1 : decode cX3_patternAt 1 = .ok (.istore_n 3, 1) := by decide +kernel
theorem dX3_patternAt_2 : decode cX3_patternAt 2 = .ok (.iconst 0, 1) := by decide +kernel
theorem dX3_patternAt_3 : decode cX3_patternAt 3 = .ok (.istore 4, 2) := by decide +kernel
theorem dX3_patternAt_5 : decode cX3_patternAt 5 = .ok (.iload 4, 2) := by decide +kernel
theorem dX3_patternAt_7 : decode cX3_patternAt 7 = .ok (.aload_n 0, 1) := by decide +kernel
theorem dX3_patternAt_8 : decode cX3_patternAt 8 = .ok (.getfield 43, 3) := by decide +kernel
theorem dX3_patternAt_11 : decode cX3_patternAt 11 = .ok (.if_icmp .ge 31, 3) := by decide +kernel
theorem dX3_patternAt_14 : decode cX3_patternAt 14 = .ok (.aload_n 1, 1) := by decide +kernel
theorem dX3_patternAt_15 : decode cX3_patternAt 15 = .ok (.iload 4, 2) := by decide +kernel
theorem dX3_patternAt_17 : decode cX3_patternAt 17 = .ok (.iaload, 1) := by decide +kernel
theorem dX3_patternAt_18 : decode cX3_patternAt 18 = .ok (.ifCond .eq 18, 3) := by decide +kernel
theorem dX3_patternAt_21 : decode cX3_patternAt 21 = .ok (.iload_n 3, 1) := by decide +kernel
theorem dX3_patternAt_22 : decode cX3_patternAt 22 = .ok (.aload_n 1, 1) := by decide +kernel
theorem dX3_patternAt_23 : decode cX3_patternAt 23 = .ok (.iload 4, 2) := by decide +kernel
theorem dX3_patternAt_25 : decode cX3_patternAt 25 = .ok (.iaload, 1) := by decide +kernel
theorem dX3_patternAt_26 : decode cX3_patternAt 26 = .ok (.aload_n 0, 1) := by decide +kernel
theorem dX3_patternAt_27 : decode cX3_patternAt 27 = .ok (.iload 4, 2) := by decide +kernel
theorem dX3_patternAt_29 : decode cX3_patternAt 29 = .ok (.iload_n 2, 1) := by decide +kernel
theorem dX3_patternAt_30 : decode cX3_patternAt 30 = .ok (.invokevirtual 93, 3) := by decide +kernel
theorem dX3_patternAt_33 : decode cX3_patternAt 33 = .ok (.imul, 1) := by decide +kernel
theorem dX3_patternAt_34 : decode cX3_patternAt 34 = .ok (.iadd, 1) := by decide +kernel
theorem dX3_patternAt_35 : decode cX3_patternAt 35 = .ok (.istore_n 3, 1) := by decide +kernel
theorem dX3_patternAt_36 : decode cX3_patternAt 36 = .ok (.iinc 4 1, 3) := by decide +kernel
theorem dX3_patternAt_39 : decode cX3_patternAt 39 = .ok (.goto (-34), 3) := by decide +kernel
theorem dX3_patternAt_42 : decode cX3_patternAt 42 = .ok (.iload_n 3, 1) := by decide +kernel
theorem dX3_patternAt_43 : decode cX3_patternAt 43 = .ok (.aload_n 0, 1) := by decide +kernel
theorem dX3_patternAt_44 : decode cX3_patternAt 44 = .ok (.getfield 15, 3) := by decide +kernel
theorem dX3_patternAt_47 : decode cX3_patternAt 47 = .ok (.irem, 1) := by decide +kernel
theorem dX3_patternAt_48 : decode cX3_patternAt 48 = .ok (.ireturn, 1) := by decide +kernel
theorem dX3_weighSteps_0 : decode cX3_weighSteps 0 = .ok (.iconst 0, 1) := by decide +kernel
theorem dX3_weighSteps_1 : decode cX3_weighSteps 1 = .ok (.istore_n 3, 1) := by decide +kernel
theorem dX3_weighSteps_2 : decode cX3_weighSteps 2 = .ok (.iconst 0, 1) := by decide +kernel
theorem dX3_weighSteps_3 : decode cX3_weighSteps 3 = .ok (.istore 4, 2) := by decide +kernel
theorem dX3_weighSteps_5 : decode cX3_weighSteps 5 = .ok (.iload 4, 2) := by decide +kernel
theorem dX3_weighSteps_7 : decode cX3_weighSteps 7 = .ok (.aload_n 0, 1) := by decide +kernel
theorem dX3_weighSteps_8 : decode cX3_weighSteps 8 = .ok (.getfield 9, 3) := by decide +kernel
theorem dX3_weighSteps_11 : decode cX3_weighSteps 11 = .ok (.if_icmp .ge 31, 3) := by decide +kernel
theorem dX3_weighSteps_14 : decode cX3_weighSteps 14 = .ok (.aload_n 1, 1) := by decide +kernel
theorem dX3_weighSteps_15 : decode cX3_weighSteps 15 = .ok (.iload 4, 2) := by decide +kernel
theorem dX3_weighSteps_17 : decode cX3_weighSteps 17 = .ok (.iaload, 1) := by decide +kernel
theorem dX3_weighSteps_18 : decode cX3_weighSteps 18 = .ok (.ifCond .eq 18, 3) := by decide +kernel
theorem dX3_weighSteps_21 : decode cX3_weighSteps 21 = .ok (.iload_n 3, 1) := by decide +kernel
theorem dX3_weighSteps_22 : decode cX3_weighSteps 22 = .ok (.aload_n 1, 1) := by decide +kernel
theorem dX3_weighSteps_23 : decode cX3_weighSteps 23 = .ok (.iload 4, 2) := by decide +kernel
theorem dX3_weighSteps_25 : decode cX3_weighSteps 25 = .ok (.iaload, 1) := by decide +kernel
theorem dX3_weighSteps_26 : decode cX3_weighSteps 26 = .ok (.aload_n 0, 1) := by decide +kernel
theorem dX3_weighSteps_27 : decode cX3_weighSteps 27 = .ok (.iload_n 2, 1) := by decide +kernel
theorem dX3_weighSteps_28 : decode cX3_weighSteps 28 = .ok (.iload 4, 2) := by decide +kernel
theorem dX3_weighSteps_30 : decode cX3_weighSteps 30 = .ok (.invokevirtual 93, 3) := by decide +kernel
theorem dX3_weighSteps_33 : decode cX3_weighSteps 33 = .ok (.imul, 1) := by decide +kernel
theorem dX3_weighSteps_34 : decode cX3_weighSteps 34 = .ok (.iadd, 1) := by decide +kernel
theorem dX3_weighSteps_35 : decode cX3_weighSteps 35 = .ok (.istore_n 3, 1) := by decide +kernel
theorem dX3_weighSteps_36 : decode cX3_weighSteps 36 = .ok (.iinc 4 1, 3) := by decide +kernel
theorem dX3_weighSteps_39 : decode cX3_weighSteps 39 = .ok (.goto (-34), 3) := by decide +kernel
theorem dX3_weighSteps_42 : decode cX3_weighSteps 42 = .ok (.iload_n 3, 1) := by decide +kernel
theorem dX3_weighSteps_43 : decode cX3_weighSteps 43 = .ok (.aload_n 0, 1) := by decide +kernel
theorem dX3_weighSteps_44 : decode cX3_weighSteps 44 = .ok (.getfield 15, 3) := by decide +kernel
theorem dX3_weighSteps_47 : decode cX3_weighSteps 47 = .ok (.irem, 1) := by decide +kernel
theorem dX3_weighSteps_48 : decode cX3_weighSteps 48 = .ok (.ireturn, 1) := by decide +kernel
theorem dX3_weighShown_0 : decode cX3_weighShown 0 = .ok (.iconst 0, 1) := by decide +kernel
theorem dX3_weighShown_1 : decode cX3_weighShown 1 = .ok (.istore_n 3, 1) := by decide +kernel
theorem dX3_weighShown_2 : decode cX3_weighShown 2 = .ok (.iconst 0, 1) := by decide +kernel
theorem dX3_weighShown_3 : decode cX3_weighShown 3 = .ok (.istore 4, 2) := by decide +kernel
theorem dX3_weighShown_5 : decode cX3_weighShown 5 = .ok (.iload 4, 2) := by decide +kernel
theorem dX3_weighShown_7 : decode cX3_weighShown 7 = .ok (.aload_n 0, 1) := by decide +kernel
theorem dX3_weighShown_8 : decode cX3_weighShown 8 = .ok (.getfield 9, 3) := by decide +kernel
theorem dX3_weighShown_11 : decode cX3_weighShown 11 = .ok (.if_icmp .ge 26, 3) := by decide +kernel
theorem dX3_weighShown_14 : decode cX3_weighShown 14 = .ok (.iload_n 3, 1) := by decide +kernel
theorem dX3_weighShown_15 : decode cX3_weighShown 15 = .ok (.aload_n 1, 1) := by decide +kernel
theorem dX3_weighShown_16 : decode cX3_weighShown 16 = .ok (.iload_n 2, 1) := by decide +kernel
theorem dX3_weighShown_17 : decode cX3_weighShown 17 = .ok (.iload 4, 2) := by decide +kernel
theorem dX3_weighShown_19 : decode cX3_weighShown 19 = .ok (.iadd, 1) := by decide +kernel
theorem dX3_weighShown_20 : decode cX3_weighShown 20 = .ok (.iaload, 1) := by decide +kernel
theorem dX3_weighShown_21 : decode cX3_weighShown 21 = .ok (.aload_n 0, 1) := by decide +kernel
theorem dX3_weighShown_22 : decode cX3_weighShown 22 = .ok (.getfield 21, 3) := by decide +kernel
theorem dX3_weighShown_25 : decode cX3_weighShown 25 = .ok (.iload 4, 2) := by decide +kernel
theorem dX3_weighShown_27 : decode cX3_weighShown 27 = .ok (.iaload, 1) := by decide +kernel
theorem dX3_weighShown_28 : decode cX3_weighShown 28 = .ok (.imul, 1) := by decide +kernel
theorem dX3_weighShown_29 : decode cX3_weighShown 29 = .ok (.iadd, 1) := by decide +kernel
theorem dX3_weighShown_30 : decode cX3_weighShown 30 = .ok (.istore_n 3, 1) := by decide +kernel
theorem dX3_weighShown_31 : decode cX3_weighShown 31 = .ok (.iinc 4 1, 3) := by decide +kernel
theorem dX3_weighShown_34 : decode cX3_weighShown 34 = .ok (.goto (-29), 3) := by decide +kernel
theorem dX3_weighShown_37 : decode cX3_weighShown 37 = .ok (.iload_n 3, 1) := by decide +kernel
theorem dX3_weighShown_38 : decode cX3_weighShown 38 = .ok (.aload_n 0, 1) := by decide +kernel
theorem dX3_weighShown_39 : decode cX3_weighShown 39 = .ok (.getfield 15, 3) := by decide +kernel
theorem dX3_weighShown_42 : decode cX3_weighShown 42 = .ok (.irem, 1) := by decide +kernel
theorem dX3_weighShown_43 : decode cX3_weighShown 43 = .ok (.ireturn, 1) := by decide +kernel
theorem dX4_init_0 : decode cX4_init 0 = .ok (.aload_n 0, 1) := by decide +kernel
theorem dX4_init_1 : decode cX4_init 1 = .ok (.invokespecial 3, 3) := by decide +kernel
theorem dX4_init_4 : decode cX4_init 4 = .ok (.aload_n 0, 1) := by decide +kernel
theorem dX4_init_5 : decode cX4_init 5 = .ok (.bipush 36, 2) := by decide +kernel
theorem dX4_init_7 : decode cX4_init 7 = .ok (.newarray .int, 2) := by decide +kernel
theorem dX4_init_9 : decode cX4_init 9 = .ok (.putfield 9, 3) := by decide +kernel
theorem dX4_init_12 : decode cX4_init 12 = .ok (.aload_n 0, 1) := by decide +kernel
theorem dX4_init_13 : decode cX4_init 13 = .ok (.bipush 72, 2) := by decide +kernel
theorem dX4_init_15 : decode cX4_init 15 = .ok (.newarray .int, 2) := by decide +kernel
theorem dX4_init_17 : decode cX4_init 17 = .ok (.putfield 17, 3) := by decide +kernel
theorem dX4_init_20 : decode cX4_init 20 = .ok (.aload_n 0, 1) := by decide +kernel
theorem dX4_init_21 : decode cX4_init 21 = .ok (.bipush 72, 2) := by decide +kernel
theorem dX4_init_23 : decode cX4_init 23 = .ok (.newarray .int, 2) := by decide +kernel
theorem dX4_init_25 : decode cX4_init 25 = .ok (.putfield 20, 3) := by decide +kernel
theorem dX4_init_28 : decode cX4_init 28 = .ok (.aload_n 0, 1) := by decide +kernel
theorem dX4_init_29 : decode cX4_init 29 = .ok (.bipush 72, 2) := by decide +kernel
theorem dX4_init_31 : decode cX4_init 31 = .ok (.newarray .int, 2) := by decide +kernel
theorem dX4_init_33 : decode cX4_init 33 = .ok (.putfield 23, 3) := by decide +kernel
theorem dX4_init_36 : decode cX4_init 36 = .ok (.aload_n 0, 1) := by decide +kernel
theorem dX4_init_37 : decode cX4_init 37 = .ok (.bipush 72, 2) := by decide +kernel
theorem dX4_init_39 : decode cX4_init 39 = .ok (.newarray .int, 2) := by decide +kernel
theorem dX4_init_41 : decode cX4_init 41 = .ok (.putfield 26, 3) := by decide +kernel
theorem dX4_init_44 : decode cX4_init 44 = .ok (.aload_n 0, 1) := by decide +kernel
theorem dX4_init_45 : decode cX4_init 45 = .ok (.bipush 36, 2) := by decide +kernel
theorem dX4_init_47 : decode cX4_init 47 = .ok (.newarray .int, 2) := by decide +kernel
theorem dX4_init_49 : decode cX4_init 49 = .ok (.putfield 29, 3) := by decide +kernel
theorem dX4_init_52 : decode cX4_init 52 = .ok (.aload_n 0, 1) := by decide +kernel
theorem dX4_init_53 : decode cX4_init 53 = .ok (.aload_n 1, 1) := by decide +kernel
theorem dX4_init_54 : decode cX4_init 54 = .ok (.putfield 32, 3) := by decide +kernel
theorem dX4_init_57 : decode cX4_init 57 = .ok (.aload_n 0, 1) := by decide +kernel
theorem dX4_init_58 : decode cX4_init 58 = .ok (.aload_n 2, 1) := by decide +kernel
theorem dX4_init_59 : decode cX4_init 59 = .ok (.putfield 36, 3) := by decide +kernel
theorem dX4_init_62 : decode cX4_init 62 = .ok (.return_, 1) := by decide +kernel
theorem dX4_begin_0 : decode cX4_begin 0 = .ok (.aload_n 0, 1) := by decide +kernel
theorem dX4_begin_1 : decode cX4_begin 1 = .ok (.iload_n 1, 1) := by decide +kernel
theorem dX4_begin_2 : decode cX4_begin 2 = .ok (.putfield 39, 3) := by decide +kernel
theorem dX4_begin_5 : decode cX4_begin 5 = .ok (.aload_n 0, 1) := by decide +kernel
theorem dX4_begin_6 : decode cX4_begin 6 = .ok (.iconst 0, 1) := by decide +kernel
theorem dX4_begin_7 : decode cX4_begin 7 = .ok (.putfield 43, 3) := by decide +kernel
theorem dX4_begin_10 : decode cX4_begin 10 = .ok (.aload_n 0, 1) := by decide +kernel
theorem dX4_begin_11 : decode cX4_begin 11 = .ok (.iconst (-1), 1) := by decide +kernel
theorem dX4_begin_12 : decode cX4_begin 12 = .ok (.putfield 46, 3) := by decide +kernel
theorem dX4_begin_15 : decode cX4_begin 15 = .ok (.aload_n 0, 1) := by decide +kernel
theorem dX4_begin_16 : decode cX4_begin 16 = .ok (.getfield 32, 3) := by decide +kernel
theorem dX4_begin_19 : decode cX4_begin 19 = .ok (.getfield 49, 3) := by decide +kernel
theorem dX4_begin_22 : decode cX4_begin 22 = .ok (.istore_n 2, 1) := by decide +kernel
theorem dX4_begin_23 : decode cX4_begin 23 = .ok (.iload_n 2, 1) := by decide +kernel
theorem dX4_begin_24 : decode cX4_begin 24 = .ok (.aload_n 0, 1) := by decide +kernel
theorem dX4_begin_25 : decode cX4_begin 25 = .ok (.getfield 32, 3) := by decide +kernel
theorem dX4_begin_28 : decode cX4_begin 28 = .ok (.getfield 52, 3) := by decide +kernel
theorem dX4_begin_31 : decode cX4_begin 31 = .ok (.if_icmp .ge 41, 3) := by decide +kernel
theorem dX4_begin_34 : decode cX4_begin 34 = .ok (.aload_n 0, 1) := by decide +kernel
theorem dX4_begin_35 : decode cX4_begin 35 = .ok (.getfield 32, 3) := by decide +kernel
theorem dX4_begin_38 : decode cX4_begin 38 = .ok (.getfield 55, 3) := by decide +kernel
theorem dX4_begin_41 : decode cX4_begin 41 = .ok (.iload_n 2, 1) := by decide +kernel
theorem dX4_begin_42 : decode cX4_begin 42 = .ok (.iaload, 1) := by decide +kernel
theorem dX4_begin_43 : decode cX4_begin 43 = .ok (.ifCond .eq 23, 3) := by decide +kernel
theorem dX4_begin_46 : decode cX4_begin 46 = .ok (.aload_n 0, 1) := by decide +kernel
theorem dX4_begin_47 : decode cX4_begin 47 = .ok (.getfield 9, 3) := by decide +kernel
theorem dX4_begin_50 : decode cX4_begin 50 = .ok (.aload_n 0, 1) := by decide +kernel
theorem dX4_begin_51 : decode cX4_begin 51 = .ok (.getfield 43, 3) := by decide +kernel
theorem dX4_begin_54 : decode cX4_begin 54 = .ok (.iload_n 2, 1) := by decide +kernel
theorem dX4_begin_55 : decode cX4_begin 55 = .ok (.iastore, 1) := by decide +kernel
theorem dX4_begin_56 : decode cX4_begin 56 = .ok (.aload_n 0, 1) := by decide +kernel
theorem dX4_begin_57 : decode cX4_begin 57 = .ok (.dup, 1) := by decide +kernel
theorem dX4_begin_58 : decode cX4_begin 58 = .ok (.getfield 43, 3) := by decide +kernel
theorem dX4_begin_61 : decode cX4_begin 61 = .ok (.iconst 1, 1) := by decide +kernel
theorem dX4_begin_62 : decode cX4_begin 62 = .ok (.iadd, 1) := by decide +kernel
theorem dX4_begin_63 : decode cX4_begin 63 = .ok (.putfield 43, 3) := by decide +kernel
theorem dX4_begin_66 : decode cX4_begin 66 = .ok (.iinc 2 1, 3) := by decide +kernel
theorem dX4_begin_69 : decode cX4_begin 69 = .ok (.goto (-46), 3) := by decide +kernel
theorem dX4_begin_72 : decode cX4_begin 72 = .ok (.return_, 1) := by decide +kernel
theorem dX4_putPrice_0 : decode cX4_putPrice 0 = .ok (.aload_n 0, 1) := by decide +kernel
theorem dX4_putPrice_1 : decode cX4_putPrice 1 = .ok (.getfield 17, 3) := by decide +kernel
theorem dX4_putPrice_4 : decode cX4_putPrice 4 = .ok (.aload_n 0, 1) := by decide +kernel
theorem dX4_putPrice_5 : decode cX4_putPrice 5 = .ok (.getfield 32, 3) := by decide +kernel
theorem dX4_putPrice_8 : decode cX4_putPrice 8 = .ok (.getfield 49, 3) := by decide +kernel
theorem dX4_putPrice_11 : decode cX4_putPrice 11 = .ok (.iload_n 1, 1) := by decide +kernel
theorem dX4_putPrice_12 : decode cX4_putPrice 12 = .ok (.iadd, 1) := by decide +kernel
theorem dX4_putPrice_13 : decode cX4_putPrice 13 = .ok (.iload_n 2, 1) := by decide +kernel
theorem dX4_putPrice_14 : decode cX4_putPrice 14 = .ok (.iastore, 1) := by decide +kernel
theorem dX4_putPrice_15 : decode cX4_putPrice 15 = .ok (.return_, 1) := by decide +kernel
theorem dX4_findCheapest_0 : decode cX4_findCheapest 0 = .ok (.aload_n 1, 1) := by decide +kernel
theorem dX4_findCheapest_1 : decode cX4_findCheapest 1 = .ok (.aload_n 0, 1) := by decide +kernel
theorem dX4_findCheapest_2 : decode cX4_findCheapest 2 = .ok (.getfield 32, 3) := by decide +kernel
theorem dX4_findCheapest_5 : decode cX4_findCheapest 5 = .ok (.getfield 49, 3) := by decide +kernel
theorem dX4_findCheapest_8 : decode cX4_findCheapest 8 = .ok (.aload_n 0, 1) := by decide +kernel
theorem dX4_findCheapest_9 : decode cX4_findCheapest 9 = .ok (.getfield 20, 3) := by decide +kernel
theorem dX4_findCheapest_12 : decode cX4_findCheapest 12 = .ok (.aload_n 0, 1) := by decide +kernel
theorem dX4_findCheapest_13 : decode cX4_findCheapest 13 = .ok (.getfield 32, 3) := by decide +kernel
theorem dX4_findCheapest_16 : decode cX4_findCheapest 16 = .ok (.getfield 49, 3) := by decide +kernel
theorem dX4_findCheapest_19 : decode cX4_findCheapest 19 = .ok (.aload_n 0, 1) := by decide +kernel
theorem dX4_findCheapest_20 : decode cX4_findCheapest 20 = .ok (.getfield 32, 3) := by decide +kernel
theorem dX4_findCheapest_23 : decode cX4_findCheapest 23 = .ok (.getfield 52, 3) := by decide +kernel
theorem dX4_findCheapest_26 : decode cX4_findCheapest 26 = .ok (.aload_n 0, 1) := by decide +kernel
theorem dX4_findCheapest_27 : decode cX4_findCheapest 27 = .ok (.getfield 32, 3) := by decide +kernel
theorem dX4_findCheapest_30 : decode cX4_findCheapest 30 = .ok (.getfield 49, 3) := by decide +kernel
theorem dX4_findCheapest_33 : decode cX4_findCheapest 33 = .ok (.isub, 1) := by decide +kernel
theorem dX4_findCheapest_34 : decode cX4_findCheapest 34 = .ok (.invokestatic 58, 3) := by decide +kernel
theorem dX4_findCheapest_37 : decode cX4_findCheapest 37 = .ok (.aload_n 0, 1) := by decide +kernel
theorem dX4_findCheapest_38 : decode cX4_findCheapest 38 = .ok (.ldc 64, 2) := by decide +kernel
theorem dX4_findCheapest_40 : decode cX4_findCheapest 40 = .ok (.putfield 65, 3) := by decide +kernel
theorem dX4_findCheapest_43 : decode cX4_findCheapest 43 = .ok (.aload_n 0, 1) := by decide +kernel
theorem dX4_findCheapest_44 : decode cX4_findCheapest 44 = .ok (.iconst 0, 1) := by decide +kernel
theorem dX4_findCheapest_45 : decode cX4_findCheapest 45 = .ok (.iload_n 2, 1) := by decide +kernel
theorem dX4_findCheapest_46 : decode cX4_findCheapest 46 = .ok (.invokestatic 68, 3) := by decide +kernel
theorem dX4_findCheapest_49 : decode cX4_findCheapest 49 = .ok (.aload_n 0, 1) := by decide +kernel
theorem dX4_findCheapest_50 : decode cX4_findCheapest 50 = .ok (.getfield 65, 3) := by decide +kernel
theorem dX4_findCheapest_53 : decode cX4_findCheapest 53 = .ok (.ireturn, 1) := by decide +kernel
theorem dX4_findCheapestFor_0 : decode cX4_findCheapestFor 0 = .ok (.aload_n 0, 1) := by decide +kernel
theorem dX4_findCheapestFor_1 : decode cX4_findCheapestFor 1 = .ok (.aload_n 1, 1) := by decide +kernel
theorem dX4_findCheapestFor_2 : decode cX4_findCheapestFor 2 = .ok (.aload_n 0, 1) := by decide +kernel
theorem dX4_findCheapestFor_3 : decode cX4_findCheapestFor 3 = .ok (.aload_n 1, 1) := by decide +kernel
theorem dX4_findCheapestFor_4 : decode cX4_findCheapestFor 4 = .ok (.aload_n 0, 1) := by decide +kernel
theorem dX4_findCheapestFor_5 : decode cX4_findCheapestFor 5 = .ok (.getfield 32, 3) := by decide +kernel
theorem dX4_findCheapestFor_8 : decode cX4_findCheapestFor 8 = .ok (.getfield 49, 3) := by decide +kernel
theorem dX4_findCheapestFor_11 : decode cX4_findCheapestFor 11 = .ok (.aload_n 0, 1) := by decide +kernel
theorem dX4_findCheapestFor_12 : decode cX4_findCheapestFor 12 = .ok (.iconst (-1), 1) := by decide +kernel
theorem dX4_findCheapestFor_13 : decode cX4_findCheapestFor 13 = .ok (.invokevirtual 72, 3) := by decide +kernel
theorem dX4_findCheapestFor_16 : decode cX4_findCheapestFor 16 = .ok (.invokevirtual 76, 3) := by decide +kernel
theorem dX4_findCheapestFor_19 : decode cX4_findCheapestFor 19 = .ok (.invokevirtual 80, 3) := by decide +kernel
theorem dX4_findCheapestFor_22 : decode cX4_findCheapestFor 22 = .ok (.ireturn, 1) := by decide +kernel
theorem dX4_endOf_0 : decode cX4_endOf 0 = .ok (.iload_n 1, 1) := by decide +kernel
theorem dX4_endOf_1 : decode cX4_endOf 1 = .ok (.iconst 1, 1) := by decide +kernel
theorem dX4_endOf_2 : decode cX4_endOf 2 = .ok (.iadd, 1) := by decide +kernel
theorem dX4_endOf_3 : decode cX4_endOf 3 = .ok (.aload_n 0, 1) := by decide +kernel
theorem dX4_endOf_4 : decode cX4_endOf 4 = .ok (.getfield 43, 3) := by decide +kernel
theorem dX4_endOf_7 : decode cX4_endOf 7 = .ok (.if_icmp .ge 14, 3) := by decide +kernel
theorem dX4_endOf_10 : decode cX4_endOf 10 = .ok (.aload_n 0, 1) := by decide +kernel
theorem dX4_endOf_11 : decode cX4_endOf 11 = .ok (.getfield 9, 3) := by decide +kernel
theorem dX4_endOf_14 : decode cX4_endOf 14 = .ok (.iload_n 1, 1) := by decide +kernel
theorem dX4_endOf_15 : decode cX4_endOf 15 = .ok (.iconst 1, 1) := by decide +kernel
theorem dX4_endOf_16 : decode cX4_endOf 16 = .ok (.iadd, 1) := by decide +kernel
theorem dX4_endOf_17 : decode cX4_endOf 17 = .ok (.iaload, 1) := by decide +kernel
theorem dX4_endOf_18 : decode cX4_endOf 18 = .ok (.goto 10, 3) := by decide +kernel
theorem dX4_endOf_21 : decode cX4_endOf 21 = .ok (.aload_n 0, 1) := by decide +kernel
theorem dX4_endOf_22 : decode cX4_endOf 22 = .ok (.getfield 32, 3) := by decide +kernel
theorem dX4_endOf_25 : decode cX4_endOf 25 = .ok (.getfield 52, 3) := by decide +kernel
theorem dX4_endOf_28 : decode cX4_endOf 28 = .ok (.ireturn, 1) := by decide +kernel
theorem dX4_costOf_0 : decode cX4_costOf 0 = .ok (.iconst 0, 1) := by decide +kernel
theorem dX4_costOf_1 : decode cX4_costOf 1 = .ok (.istore 4, 2) := by decide +kernel
theorem dX4_costOf_3 : decode cX4_costOf 3 = .ok (.iload_n 2, 1) := by decide +kernel
theorem dX4_costOf_4 : decode cX4_costOf 4 = .ok (.istore 5, 2) := by decide +kernel
theorem dX4_costOf_6 : decode cX4_costOf 6 = .ok (.iload 5, 2) := by decide +kernel
theorem dX4_costOf_8 : decode cX4_costOf 8 = .ok (.iload_n 3, 1) := by decide +kernel
theorem dX4_costOf_9 : decode cX4_costOf 9 = .ok (.if_icmp .ge 26, 3) := by decide +kernel
theorem dX4_costOf_12 : decode cX4_costOf 12 = .ok (.iload 4, 2) := by decide +kernel
theorem dX4_costOf_14 : decode cX4_costOf 14 = .ok (.aload_n 1, 1) := by decide +kernel
theorem dX4_costOf_15 : decode cX4_costOf 15 = .ok (.iload 5, 2) := by decide +kernel
theorem dX4_costOf_17 : decode cX4_costOf 17 = .ok (.iaload, 1) := by decide +kernel
theorem dX4_costOf_18 : decode cX4_costOf 18 = .ok (.aload_n 0, 1) := by decide +kernel
theorem dX4_costOf_19 : decode cX4_costOf 19 = .ok (.getfield 17, 3) := by decide +kernel
theorem dX4_costOf_22 : decode cX4_costOf 22 = .ok (.iload 5, 2) := by decide +kernel
theorem dX4_costOf_24 : decode cX4_costOf 24 = .ok (.iaload, 1) := by decide +kernel
theorem dX4_costOf_25 : decode cX4_costOf 25 = .ok (.imul, 1) := by decide +kernel
theorem dX4_costOf_26 : decode cX4_costOf 26 = .ok (.iadd, 1) := by decide +kernel
theorem dX4_costOf_27 : decode cX4_costOf 27 = .ok (.istore 4, 2) := by decide +kernel
theorem dX4_costOf_29 : decode cX4_costOf 29 = .ok (.iinc 5 1, 3) := by decide +kernel
theorem dX4_costOf_32 : decode cX4_costOf 32 = .ok (.goto (-26), 3) := by decide +kernel
theorem dX4_costOf_35 : decode cX4_costOf 35 = .ok (.iload 4, 2) := by decide +kernel
theorem dX4_costOf_37 : decode cX4_costOf 37 = .ok (.ireturn, 1) := by decide +kernel
theorem dX4_explore_0 : decode cX4_explore 0 = .ok (.iload_n 1, 1) := by decide +kernel
theorem dX4_explore_1 : decode cX4_explore 1 = .ok (.aload_n 0, 1) := by decide +kernel
theorem dX4_explore_2 : decode cX4_explore 2 = .ok (.getfield 43, 3) := by decide +kernel
theorem dX4_explore_5 : decode cX4_explore 5 = .ok (.if_icmp .lt 9, 3) := by decide +kernel
theorem dX4_explore_8 : decode cX4_explore 8 = .ok (.aload_n 0, 1) := by decide +kernel
theorem dX4_explore_9 : decode cX4_explore 9 = .ok (.iload_n 2, 1) := by decide +kernel
theorem dX4_explore_10 : decode cX4_explore 10 = .ok (.invokevirtual 84, 3) := by decide +kernel
theorem dX4_explore_13 : decode cX4_explore 13 = .ok (.return_, 1) := by decide +kernel
theorem dX4_explore_14 : decode cX4_explore 14 = .ok (.aload_n 0, 1) := by decide +kernel
theorem dX4_explore_15 : decode cX4_explore 15 = .ok (.getfield 9, 3) := by decide +kernel
theorem dX4_explore_18 : decode cX4_explore 18 = .ok (.iload_n 1, 1) := by decide +kernel
theorem dX4_explore_19 : decode cX4_explore 19 = .ok (.iaload, 1) := by decide +kernel
theorem dX4_explore_20 : decode cX4_explore 20 = .ok (.istore_n 3, 1) := by decide +kernel
theorem dX4_explore_21 : decode cX4_explore 21 = .ok (.aload_n 0, 1) := by decide +kernel
theorem dX4_explore_22 : decode cX4_explore 22 = .ok (.iload_n 1, 1) := by decide +kernel
theorem dX4_explore_23 : decode cX4_explore 23 = .ok (.invokevirtual 72, 3) := by decide +kernel
theorem dX4_explore_26 : decode cX4_explore 26 = .ok (.istore 4, 2) := by decide +kernel
theorem dX4_explore_28 : decode cX4_explore 28 = .ok (.iconst 1, 1) := by decide +kernel
theorem dX4_explore_29 : decode cX4_explore 29 = .ok (.aload_n 0, 1) := by decide +kernel
theorem dX4_explore_30 : decode cX4_explore 30 = .ok (.getfield 32, 3) := by decide +kernel
theorem dX4_explore_33 : decode cX4_explore 33 = .ok (.getfield 55, 3) := by decide +kernel
theorem dX4_explore_36 : decode cX4_explore 36 = .ok (.iload_n 3, 1) := by decide +kernel
theorem dX4_explore_37 : decode cX4_explore 37 = .ok (.iaload, 1) := by decide +kernel
theorem dX4_explore_38 : decode cX4_explore 38 = .ok (.invokestatic 88, 3) := by decide +kernel
theorem dX4_explore_41 : decode cX4_explore 41 = .ok (.istore 5, 2) := by decide +kernel
theorem dX4_explore_43 : decode cX4_explore 43 = .ok (.aload_n 0, 1) := by decide +kernel
theorem dX4_explore_44 : decode cX4_explore 44 = .ok (.getfield 32, 3) := by decide +kernel
theorem dX4_explore_47 : decode cX4_explore 47 = .ok (.aload_n 0, 1) := by decide +kernel
theorem dX4_explore_48 : decode cX4_explore 48 = .ok (.getfield 20, 3) := by decide +kernel
theorem dX4_explore_51 : decode cX4_explore 51 = .ok (.iconst 0, 1) := by decide +kernel
theorem dX4_explore_52 : decode cX4_explore 52 = .ok (.iload_n 3, 1) := by decide +kernel
theorem dX4_explore_53 : decode cX4_explore 53 = .ok (.iload_n 3, 1) := by decide +kernel
theorem dX4_explore_54 : decode cX4_explore 54 = .ok (.iconst 1, 1) := by decide +kernel
theorem dX4_explore_55 : decode cX4_explore 55 = .ok (.iadd, 1) := by decide +kernel
theorem dX4_explore_56 : decode cX4_explore 56 = .ok (.invokevirtual 94, 3) := by decide +kernel
theorem dX4_explore_59 : decode cX4_explore 59 = .ok (.aload_n 0, 1) := by decide +kernel
theorem dX4_explore_60 : decode cX4_explore 60 = .ok (.getfield 20, 3) := by decide +kernel
theorem dX4_explore_63 : decode cX4_explore 63 = .ok (.iload_n 3, 1) := by decide +kernel
theorem dX4_explore_64 : decode cX4_explore 64 = .ok (.iaload, 1) := by decide +kernel
theorem dX4_explore_65 : decode cX4_explore 65 = .ok (.istore 6, 2) := by decide +kernel
theorem dX4_explore_67 : decode cX4_explore 67 = .ok (.iload 6, 2) := by decide +kernel
theorem dX4_explore_69 : decode cX4_explore 69 = .ok (.aload_n 0, 1) := by decide +kernel
theorem dX4_explore_70 : decode cX4_explore 70 = .ok (.getfield 32, 3) := by decide +kernel
theorem dX4_explore_73 : decode cX4_explore 73 = .ok (.getfield 98, 3) := by decide +kernel
theorem dX4_explore_76 : decode cX4_explore 76 = .ok (.if_icmp .ge 77, 3) := by decide +kernel
theorem dX4_explore_79 : decode cX4_explore 79 = .ok (.iload_n 2, 1) := by decide +kernel
theorem dX4_explore_80 : decode cX4_explore 80 = .ok (.iload 6, 2) := by decide +kernel
theorem dX4_explore_82 : decode cX4_explore 82 = .ok (.aload_n 0, 1) := by decide +kernel
theorem dX4_explore_83 : decode cX4_explore 83 = .ok (.getfield 17, 3) := by decide +kernel
theorem dX4_explore_86 : decode cX4_explore 86 = .ok (.iload_n 3, 1) := by decide +kernel
theorem dX4_explore_87 : decode cX4_explore 87 = .ok (.iaload, 1) := by decide +kernel
theorem dX4_explore_88 : decode cX4_explore 88 = .ok (.imul, 1) := by decide +kernel
theorem dX4_explore_89 : decode cX4_explore 89 = .ok (.iadd, 1) := by decide +kernel
theorem dX4_explore_90 : decode cX4_explore 90 = .ok (.aload_n 0, 1) := by decide +kernel
theorem dX4_explore_91 : decode cX4_explore 91 = .ok (.getfield 65, 3) := by decide +kernel
theorem dX4_explore_94 : decode cX4_explore 94 = .ok (.if_icmp .lt 4, 3) := by decide +kernel
theorem dX4_explore_97 : decode cX4_explore 97 = .ok (.return_, 1) := by decide +kernel
theorem dX4_explore_98 : decode cX4_explore 98 = .ok (.iload_n 2, 1) := by decide +kernel
theorem dX4_explore_99 : decode cX4_explore 99 = .ok (.aload_n 0, 1) := by decide +kernel
theorem dX4_explore_100 : decode cX4_explore 100 = .ok (.aload_n 0, 1) := by decide +kernel
theorem dX4_explore_101 : decode cX4_explore 101 = .ok (.getfield 20, 3) := by decide +kernel
theorem dX4_explore_104 : decode cX4_explore 104 = .ok (.iload_n 3, 1) := by decide +kernel
theorem dX4_explore_105 : decode cX4_explore 105 = .ok (.iload 4, 2) := by decide +kernel
theorem dX4_explore_107 : decode cX4_explore 107 = .ok (.invokevirtual 76, 3) := by decide +kernel
theorem dX4_explore_110 : decode cX4_explore 110 = .ok (.iadd, 1) := by decide +kernel
theorem dX4_explore_111 : decode cX4_explore 111 = .ok (.istore 7, 2) := by decide +kernel
theorem dX4_explore_113 : decode cX4_explore 113 = .ok (.iload 7, 2) := by decide +kernel
theorem dX4_explore_115 : decode cX4_explore 115 = .ok (.aload_n 0, 1) := by decide +kernel
theorem dX4_explore_116 : decode cX4_explore 116 = .ok (.getfield 65, 3) := by decide +kernel
theorem dX4_explore_119 : decode cX4_explore 119 = .ok (.if_icmp .ge 12, 3) := by decide +kernel
theorem dX4_explore_122 : decode cX4_explore 122 = .ok (.aload_n 0, 1) := by decide +kernel
theorem dX4_explore_123 : decode cX4_explore 123 = .ok (.iload_n 1, 1) := by decide +kernel
theorem dX4_explore_124 : decode cX4_explore 124 = .ok (.iconst 1, 1) := by decide +kernel
theorem dX4_explore_125 : decode cX4_explore 125 = .ok (.iadd, 1) := by decide +kernel
theorem dX4_explore_126 : decode cX4_explore 126 = .ok (.iload 7, 2) := by decide +kernel
theorem dX4_explore_128 : decode cX4_explore 128 = .ok (.invokestatic 68, 3) := by decide +kernel
theorem dX4_explore_131 : decode cX4_explore 131 = .ok (.aload_n 0, 1) := by decide +kernel
theorem dX4_explore_132 : decode cX4_explore 132 = .ok (.getfield 32, 3) := by decide +kernel
theorem dX4_explore_135 : decode cX4_explore 135 = .ok (.aload_n 0, 1) := by decide +kernel
theorem dX4_explore_136 : decode cX4_explore 136 = .ok (.getfield 20, 3) := by decide +kernel
theorem dX4_explore_139 : decode cX4_explore 139 = .ok (.iload_n 3, 1) := by decide +kernel
theorem dX4_explore_140 : decode cX4_explore 140 = .ok (.invokevirtual 101, 3) := by decide +kernel
theorem dX4_explore_143 : decode cX4_explore 143 = .ok (.iload 6, 2) := by decide +kernel
theorem dX4_explore_145 : decode cX4_explore 145 = .ok (.iload 5, 2) := by decide +kernel
theorem dX4_explore_147 : decode cX4_explore 147 = .ok (.iadd, 1) := by decide +kernel
theorem dX4_explore_148 : decode cX4_explore 148 = .ok (.istore 6, 2) := by decide +kernel
