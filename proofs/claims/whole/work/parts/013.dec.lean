theorem dX7_wire_12 : decode cX7_wire 12 = .ok (.getfield 12, 3) := by decide +kernel
theorem dX7_wire_15 : decode cX7_wire 15 = .ok (.iload_n 1, 1) := by decide +kernel
theorem dX7_wire_16 : decode cX7_wire 16 = .ok (.invokevirtual 77, 3) := by decide +kernel
theorem dX7_wire_19 : decode cX7_wire 19 = .ok (.ifCond .eq 15, 3) := by decide +kernel
theorem dX7_wire_22 : decode cX7_wire 22 = .ok (.aload_n 0, 1) := by decide +kernel
theorem dX7_wire_23 : decode cX7_wire 23 = .ok (.getfield 12, 3) := by decide +kernel
theorem dX7_wire_26 : decode cX7_wire 26 = .ok (.getfield 81, 3) := by decide +kernel
theorem dX7_wire_29 : decode cX7_wire 29 = .ok (.iload_n 1, 1) := by decide +kernel
theorem dX7_wire_30 : decode cX7_wire 30 = .ok (.iaload, 1) := by decide +kernel
theorem dX7_wire_31 : decode cX7_wire 31 = .ok (.ifCond .eq 5, 3) := by decide +kernel
theorem dX7_wire_34 : decode cX7_wire 34 = .ok (.iconst (-1), 1) := by decide +kernel
theorem dX7_wire_35 : decode cX7_wire 35 = .ok (.ireturn, 1) := by decide +kernel
theorem dX7_wire_36 : decode cX7_wire 36 = .ok (.aload_n 0, 1) := by decide +kernel
theorem dX7_wire_37 : decode cX7_wire 37 = .ok (.iconst 1, 1) := by decide +kernel
theorem dX7_wire_38 : decode cX7_wire 38 = .ok (.iload_n 1, 1) := by decide +kernel
theorem dX7_wire_39 : decode cX7_wire 39 = .ok (.invokevirtual 56, 3) := by decide +kernel
theorem dX7_wire_42 : decode cX7_wire 42 = .ok (.aload_n 0, 1) := by decide +kernel
theorem dX7_wire_43 : decode cX7_wire 43 = .ok (.getfield 12, 3) := by decide +kernel
theorem dX7_wire_46 : decode cX7_wire 46 = .ok (.iload_n 1, 1) := by decide +kernel
theorem dX7_wire_47 : decode cX7_wire 47 = .ok (.aload_n 0, 1) := by decide +kernel
theorem dX7_wire_48 : decode cX7_wire 48 = .ok (.getfield 19, 3) := by decide +kernel
theorem dX7_wire_51 : decode cX7_wire 51 = .ok (.invokevirtual 83, 3) := by decide +kernel
theorem dX7_wire_54 : decode cX7_wire 54 = .ok (.istore_n 2, 1) := by decide +kernel
theorem dX7_wire_55 : decode cX7_wire 55 = .ok (.aload_n 0, 1) := by decide +kernel
theorem dX7_wire_56 : decode cX7_wire 56 = .ok (.getfield 19, 3) := by decide +kernel
theorem dX7_wire_59 : decode cX7_wire 59 = .ok (.iconst (-1), 1) := by decide +kernel
theorem dX7_wire_60 : decode cX7_wire 60 = .ok (.iconst 0, 1) := by decide +kernel
theorem dX7_wire_61 : decode cX7_wire 61 = .ok (.invokevirtual 64, 3) := by decide +kernel
theorem dX7_wire_64 : decode cX7_wire 64 = .ok (.iload_n 2, 1) := by decide +kernel
theorem dX7_wire_65 : decode cX7_wire 65 = .ok (.ireturn, 1) := by decide +kernel
theorem dX7_cost_0 : decode cX7_cost 0 = .ok (.aload_n 0, 1) := by decide +kernel
theorem dX7_cost_1 : decode cX7_cost 1 = .ok (.getfield 12, 3) := by decide +kernel
theorem dX7_cost_4 : decode cX7_cost 4 = .ok (.iload_n 1, 1) := by decide +kernel
theorem dX7_cost_5 : decode cX7_cost 5 = .ok (.invokevirtual 77, 3) := by decide +kernel
theorem dX7_cost_8 : decode cX7_cost 8 = .ok (.ifCond .eq 14, 3) := by decide +kernel
theorem dX7_cost_11 : decode cX7_cost 11 = .ok (.iload_n 2, 1) := by decide +kernel
theorem dX7_cost_12 : decode cX7_cost 12 = .ok (.ifCond .lt 10, 3) := by decide +kernel
theorem dX7_cost_15 : decode cX7_cost 15 = .ok (.iload_n 2, 1) := by decide +kernel
theorem dX7_cost_16 : decode cX7_cost 16 = .ok (.sipush 1000, 3) := by decide +kernel
theorem dX7_cost_19 : decode cX7_cost 19 = .ok (.if_icmp .le 5, 3) := by decide +kernel
theorem dX7_cost_22 : decode cX7_cost 22 = .ok (.iconst (-1), 1) := by decide +kernel
theorem dX7_cost_23 : decode cX7_cost 23 = .ok (.ireturn, 1) := by decide +kernel
theorem dX7_cost_24 : decode cX7_cost 24 = .ok (.aload_n 0, 1) := by decide +kernel
theorem dX7_cost_25 : decode cX7_cost 25 = .ok (.iconst 2, 1) := by decide +kernel
theorem dX7_cost_26 : decode cX7_cost 26 = .ok (.iload_n 1, 1) := by decide +kernel
theorem dX7_cost_27 : decode cX7_cost 27 = .ok (.invokevirtual 56, 3) := by decide +kernel
theorem dX7_cost_30 : decode cX7_cost 30 = .ok (.aload_n 0, 1) := by decide +kernel
theorem dX7_cost_31 : decode cX7_cost 31 = .ok (.getfield 12, 3) := by decide +kernel
theorem dX7_cost_34 : decode cX7_cost 34 = .ok (.getfield 87, 3) := by decide +kernel
theorem dX7_cost_37 : decode cX7_cost 37 = .ok (.iload_n 1, 1) := by decide +kernel
theorem dX7_cost_38 : decode cX7_cost 38 = .ok (.iaload, 1) := by decide +kernel
theorem dX7_cost_39 : decode cX7_cost 39 = .ok (.istore_n 3, 1) := by decide +kernel
theorem dX7_cost_40 : decode cX7_cost 40 = .ok (.aload_n 0, 1) := by decide +kernel
theorem dX7_cost_41 : decode cX7_cost 41 = .ok (.getfield 12, 3) := by decide +kernel
theorem dX7_cost_44 : decode cX7_cost 44 = .ok (.getfield 87, 3) := by decide +kernel
theorem dX7_cost_47 : decode cX7_cost 47 = .ok (.iload_n 1, 1) := by decide +kernel
theorem dX7_cost_48 : decode cX7_cost 48 = .ok (.iload_n 2, 1) := by decide +kernel
theorem dX7_cost_49 : decode cX7_cost 49 = .ok (.iastore, 1) := by decide +kernel
theorem dX7_cost_50 : decode cX7_cost 50 = .ok (.iload_n 3, 1) := by decide +kernel
theorem dX7_cost_51 : decode cX7_cost 51 = .ok (.ireturn, 1) := by decide +kernel
theorem dX7_light_0 : decode cX7_light 0 = .ok (.aload_n 0, 1) := by decide +kernel
theorem dX7_light_1 : decode cX7_light 1 = .ok (.getfield 12, 3) := by decide +kernel
theorem dX7_light_4 : decode cX7_light 4 = .ok (.iload_n 1, 1) := by decide +kernel
theorem dX7_light_5 : decode cX7_light 5 = .ok (.invokevirtual 90, 3) := by decide +kernel
theorem dX7_light_8 : decode cX7_light 8 = .ok (.ifCond .eq 18, 3) := by decide +kernel
theorem dX7_light_11 : decode cX7_light 11 = .ok (.iload_n 2, 1) := by decide +kernel
theorem dX7_light_12 : decode cX7_light 12 = .ok (.ifCond .lt 14, 3) := by decide +kernel
theorem dX7_light_15 : decode cX7_light 15 = .ok (.iload_n 2, 1) := by decide +kernel
theorem dX7_light_16 : decode cX7_light 16 = .ok (.aload_n 0, 1) := by decide +kernel
theorem dX7_light_17 : decode cX7_light 17 = .ok (.getfield 12, 3) := by decide +kernel
theorem dX7_light_20 : decode cX7_light 20 = .ok (.getfield 93, 3) := by decide +kernel
theorem dX7_light_23 : decode cX7_light 23 = .ok (.if_icmp .lt 5, 3) := by decide +kernel
theorem dX7_light_26 : decode cX7_light 26 = .ok (.iconst (-1), 1) := by decide +kernel
theorem dX7_light_27 : decode cX7_light 27 = .ok (.ireturn, 1) := by decide +kernel
theorem dX7_light_28 : decode cX7_light 28 = .ok (.aload_n 0, 1) := by decide +kernel
theorem dX7_light_29 : decode cX7_light 29 = .ok (.iconst 3, 1) := by decide +kernel
theorem dX7_light_30 : decode cX7_light 30 = .ok (.iconst 0, 1) := by decide +kernel
theorem dX7_light_31 : decode cX7_light 31 = .ok (.invokevirtual 56, 3) := by decide +kernel
theorem dX7_light_34 : decode cX7_light 34 = .ok (.aload_n 0, 1) := by decide +kernel
theorem dX7_light_35 : decode cX7_light 35 = .ok (.getfield 12, 3) := by decide +kernel
theorem dX7_light_38 : decode cX7_light 38 = .ok (.getfield 96, 3) := by decide +kernel
theorem dX7_light_41 : decode cX7_light 41 = .ok (.iload_n 1, 1) := by decide +kernel
theorem dX7_light_42 : decode cX7_light 42 = .ok (.iaload, 1) := by decide +kernel
theorem dX7_light_43 : decode cX7_light 43 = .ok (.istore_n 3, 1) := by decide +kernel
theorem dX7_light_44 : decode cX7_light 44 = .ok (.aload_n 0, 1) := by decide +kernel
theorem dX7_light_45 : decode cX7_light 45 = .ok (.getfield 12, 3) := by decide +kernel
theorem dX7_light_48 : decode cX7_light 48 = .ok (.getfield 96, 3) := by decide +kernel
theorem dX7_light_51 : decode cX7_light 51 = .ok (.iload_n 1, 1) := by decide +kernel
theorem dX7_light_52 : decode cX7_light 52 = .ok (.iload_n 2, 1) := by decide +kernel
theorem dX7_light_53 : decode cX7_light 53 = .ok (.iastore, 1) := by decide +kernel
theorem dX7_light_54 : decode cX7_light 54 = .ok (.iload_n 3, 1) := by decide +kernel
theorem dX7_light_55 : decode cX7_light 55 = .ok (.ireturn, 1) := by decide +kernel
theorem dX7_push_0 : decode cX7_push 0 = .ok (.aload_n 0, 1) := by decide +kernel
theorem dX7_push_1 : decode cX7_push 1 = .ok (.getfield 12, 3) := by decide +kernel
theorem dX7_push_4 : decode cX7_push 4 = .ok (.iload_n 1, 1) := by decide +kernel
theorem dX7_push_5 : decode cX7_push 5 = .ok (.invokevirtual 77, 3) := by decide +kernel
theorem dX7_push_8 : decode cX7_push 8 = .ok (.ifCond .eq 26, 3) := by decide +kernel
theorem dX7_push_11 : decode cX7_push 11 = .ok (.aload_n 0, 1) := by decide +kernel
theorem dX7_push_12 : decode cX7_push 12 = .ok (.getfield 12, 3) := by decide +kernel
theorem dX7_push_15 : decode cX7_push 15 = .ok (.getfield 81, 3) := by decide +kernel
theorem dX7_push_18 : decode cX7_push 18 = .ok (.iload_n 1, 1) := by decide +kernel
theorem dX7_push_19 : decode cX7_push 19 = .ok (.iaload, 1) := by decide +kernel
theorem dX7_push_20 : decode cX7_push 20 = .ok (.iconst 3, 1) := by decide +kernel
theorem dX7_push_21 : decode cX7_push 21 = .ok (.if_icmp .eq 13, 3) := by decide +kernel
theorem dX7_push_24 : decode cX7_push 24 = .ok (.iload_n 2, 1) := by decide +kernel
theorem dX7_push_25 : decode cX7_push 25 = .ok (.ifCond .lt 9, 3) := by decide +kernel
theorem dX7_push_28 : decode cX7_push 28 = .ok (.iload_n 2, 1) := by decide +kernel
theorem dX7_push_29 : decode cX7_push 29 = .ok (.ldc 99, 2) := by decide +kernel
theorem dX7_push_31 : decode cX7_push 31 = .ok (.if_icmp .le 5, 3) := by decide +kernel
theorem dX7_push_34 : decode cX7_push 34 = .ok (.iconst (-1), 1) := by decide +kernel
theorem dX7_push_35 : decode cX7_push 35 = .ok (.ireturn, 1) := by decide +kernel
theorem dX7_push_36 : decode cX7_push 36 = .ok (.aload_n 0, 1) := by decide +kernel
theorem dX7_push_37 : decode cX7_push 37 = .ok (.iconst 3, 1) := by decide +kernel
theorem dX7_push_38 : decode cX7_push 38 = .ok (.iconst 0, 1) := by decide +kernel
theorem dX7_push_39 : decode cX7_push 39 = .ok (.invokevirtual 56, 3) := by decide +kernel
theorem dX7_push_42 : decode cX7_push 42 = .ok (.aload_n 0, 1) := by decide +kernel
theorem dX7_push_43 : decode cX7_push 43 = .ok (.getfield 12, 3) := by decide +kernel
theorem dX7_push_46 : decode cX7_push 46 = .ok (.iload_n 1, 1) := by decide +kernel
theorem dX7_push_47 : decode cX7_push 47 = .ok (.iload_n 2, 1) := by decide +kernel
theorem dX7_push_48 : decode cX7_push 48 = .ok (.invokevirtual 100, 3) := by decide +kernel
theorem dX7_push_51 : decode cX7_push 51 = .ok (.ireturn, 1) := by decide +kernel
theorem dX7_chase_0 : decode cX7_chase 0 = .ok (.aload_n 0, 1) := by decide +kernel
theorem dX7_chase_1 : decode cX7_chase 1 = .ok (.getfield 12, 3) := by decide +kernel
theorem dX7_chase_4 : decode cX7_chase 4 = .ok (.invokevirtual 104, 3) := by decide +kernel
theorem dX7_chase_7 : decode cX7_chase 7 = .ok (.ifCond .ne 5, 3) := by decide +kernel
theorem dX7_chase_10 : decode cX7_chase 10 = .ok (.iconst (-1), 1) := by decide +kernel
theorem dX7_chase_11 : decode cX7_chase 11 = .ok (.ireturn, 1) := by decide +kernel
theorem dX7_chase_12 : decode cX7_chase 12 = .ok (.aload_n 0, 1) := by decide +kernel
theorem dX7_chase_13 : decode cX7_chase 13 = .ok (.iconst 3, 1) := by decide +kernel
theorem dX7_chase_14 : decode cX7_chase 14 = .ok (.iconst 0, 1) := by decide +kernel
theorem dX7_chase_15 : decode cX7_chase 15 = .ok (.invokevirtual 56, 3) := by decide +kernel
theorem dX7_chase_18 : decode cX7_chase 18 = .ok (.aload_n 0, 1) := by decide +kernel
theorem dX7_chase_19 : decode cX7_chase 19 = .ok (.getfield 12, 3) := by decide +kernel
theorem dX7_chase_22 : decode cX7_chase 22 = .ok (.invokevirtual 108, 3) := by decide +kernel
theorem dX7_chase_25 : decode cX7_chase 25 = .ok (.ireturn, 1) := by decide +kernel
theorem dX7_undo_0 : decode cX7_undo 0 = .ok (.aload_n 0, 1) := by decide +kernel
theorem dX7_undo_1 : decode cX7_undo 1 = .ok (.getfield 26, 3) := by decide +kernel
theorem dX7_undo_4 : decode cX7_undo 4 = .ok (.getfield 112, 3) := by decide +kernel
theorem dX7_undo_7 : decode cX7_undo 7 = .ok (.ifCond .ne 5, 3) := by decide +kernel
theorem dX7_undo_10 : decode cX7_undo 10 = .ok (.iconst (-1), 1) := by decide +kernel
theorem dX7_undo_11 : decode cX7_undo 11 = .ok (.ireturn, 1) := by decide +kernel
theorem dX7_undo_12 : decode cX7_undo 12 = .ok (.aload_n 0, 1) := by decide +kernel
theorem dX7_undo_13 : decode cX7_undo 13 = .ok (.getfield 26, 3) := by decide +kernel
theorem dX7_undo_16 : decode cX7_undo 16 = .ok (.aload_n 0, 1) := by decide +kernel
theorem dX7_undo_17 : decode cX7_undo 17 = .ok (.getfield 12, 3) := by decide +kernel
theorem dX7_undo_20 : decode cX7_undo 20 = .ok (.invokevirtual 113, 3) := by decide +kernel
theorem dX7_undo_23 : decode cX7_undo 23 = .ok (.aload_n 0, 1) := by decide +kernel
theorem dX7_undo_24 : decode cX7_undo 24 = .ok (.getfield 33, 3) := by decide +kernel
theorem dX7_undo_27 : decode cX7_undo 27 = .ok (.iconst 0, 1) := by decide +kernel
theorem dX7_undo_28 : decode cX7_undo 28 = .ok (.putfield 117, 3) := by decide +kernel
theorem dX7_undo_31 : decode cX7_undo 31 = .ok (.aload_n 0, 1) := by decide +kernel
theorem dX7_undo_32 : decode cX7_undo 32 = .ok (.getfield 26, 3) := by decide +kernel
theorem dX7_undo_35 : decode cX7_undo 35 = .ok (.getfield 112, 3) := by decide +kernel
theorem dX7_undo_38 : decode cX7_undo 38 = .ok (.ireturn, 1) := by decide +kernel
theorem dX7_keep_0 : decode cX7_keep 0 = .ok (.aload_n 0, 1) := by decide +kernel
theorem dX7_keep_1 : decode cX7_keep 1 = .ok (.getfield 121, 3) := by decide +kernel
theorem dX7_keep_4 : decode cX7_keep 4 = .ok (.ifnonnull 14, 3) := by decide +kernel
theorem dX7_keep_7 : decode cX7_keep 7 = .ok (.aload_n 0, 1) := by decide +kernel
theorem dX7_keep_8 : decode cX7_keep 8 = .ok (.new 9, 3) := by decide +kernel
theorem dX7_keep_11 : decode cX7_keep 11 = .ok (.dup, 1) := by decide +kernel
theorem dX7_keep_12 : decode cX7_keep 12 = .ok (.invokespecial 11, 3) := by decide +kernel
theorem dX7_keep_15 : decode cX7_keep 15 = .ok (.putfield 121, 3) := by decide +kernel
theorem dX7_keep_18 : decode cX7_keep 18 = .ok (.aload_n 0, 1) := by decide +kernel
theorem dX7_keep_19 : decode cX7_keep 19 = .ok (.getfield 121, 3) := by decide +kernel
theorem dX7_keep_22 : decode cX7_keep 22 = .ok (.aload_n 0, 1) := by decide +kernel
theorem dX7_keep_23 : decode cX7_keep 23 = .ok (.getfield 12, 3) := by decide +kernel
theorem dX7_keep_26 : decode cX7_keep 26 = .ok (.invokevirtual 124, 3) := by decide +kernel
theorem dX7_keep_29 : decode cX7_keep 29 = .ok (.iconst 1, 1) := by decide +kernel
theorem dX7_keep_30 : decode cX7_keep 30 = .ok (.ireturn, 1) := by decide +kernel
theorem dX7_back_0 : decode cX7_back 0 = .ok (.aload_n 0, 1) := by decide +kernel
theorem dX7_back_1 : decode cX7_back 1 = .ok (.getfield 121, 3) := by decide +kernel
theorem dX7_back_4 : decode cX7_back 4 = .ok (.ifnonnull 5, 3) := by decide +kernel
theorem dX7_back_7 : decode cX7_back 7 = .ok (.iconst 0, 1) := by decide +kernel
theorem dX7_back_8 : decode cX7_back 8 = .ok (.ireturn, 1) := by decide +kernel
theorem dX7_back_9 : decode cX7_back 9 = .ok (.aload_n 0, 1) := by decide +kernel
theorem dX7_back_10 : decode cX7_back 10 = .ok (.getfield 12, 3) := by decide +kernel
theorem dX7_back_13 : decode cX7_back 13 = .ok (.aload_n 0, 1) := by decide +kernel
theorem dX7_back_14 : decode cX7_back 14 = .ok (.getfield 121, 3) := by decide +kernel
theorem dX7_back_17 : decode cX7_back 17 = .ok (.invokevirtual 124, 3) := by decide +kernel
theorem dX7_back_20 : decode cX7_back 20 = .ok (.aload_n 0, 1) := by decide +kernel
theorem dX7_back_21 : decode cX7_back 21 = .ok (.invokevirtual 45, 3) := by decide +kernel
theorem dX7_back_24 : decode cX7_back 24 = .ok (.iconst 1, 1) := by decide +kernel
theorem dX7_back_25 : decode cX7_back 25 = .ok (.ireturn, 1) := by decide +kernel
theorem dX7_count_0 : decode cX7_count 0 = .ok (.iload_n 1, 1) := by decide +kernel
theorem dX7_count_1 : decode cX7_count 1 = .ok (.tableswitch 126 0 7 #[47, 55, 63, 71, 79, 87, 95, 103], 47) := by decide +kernel
theorem dX7_count_48 : decode cX7_count 48 = .ok (.aload_n 0, 1) := by decide +kernel
theorem dX7_count_49 : decode cX7_count 49 = .ok (.getfield 12, 3) := by decide +kernel
theorem dX7_count_52 : decode cX7_count 52 = .ok (.getfield 127, 3) := by decide +kernel
theorem dX7_count_55 : decode cX7_count 55 = .ok (.ireturn, 1) := by decide +kernel
theorem dX7_count_56 : decode cX7_count 56 = .ok (.aload_n 0, 1) := by decide +kernel
theorem dX7_count_57 : decode cX7_count 57 = .ok (.getfield 12, 3) := by decide +kernel
theorem dX7_count_60 : decode cX7_count 60 = .ok (.getfield 93, 3) := by decide +kernel
theorem dX7_count_63 : decode cX7_count 63 = .ok (.ireturn, 1) := by decide +kernel
theorem dX7_count_64 : decode cX7_count 64 = .ok (.aload_n 0, 1) := by decide +kernel
theorem dX7_count_65 : decode cX7_count 65 = .ok (.getfield 12, 3) := by decide +kernel
theorem dX7_count_68 : decode cX7_count 68 = .ok (.getfield 130, 3) := by decide +kernel
theorem dX7_count_71 : decode cX7_count 71 = .ok (.ireturn, 1) := by decide +kernel
theorem dX7_count_72 : decode cX7_count 72 = .ok (.aload_n 0, 1) := by decide +kernel
theorem dX7_count_73 : decode cX7_count 73 = .ok (.getfield 12, 3) := by decide +kernel
theorem dX7_count_76 : decode cX7_count 76 = .ok (.getfield 48, 3) := by decide +kernel
theorem dX7_count_79 : decode cX7_count 79 = .ok (.ireturn, 1) := by decide +kernel
theorem dX7_count_80 : decode cX7_count 80 = .ok (.aload_n 0, 1) := by decide +kernel
theorem dX7_count_81 : decode cX7_count 81 = .ok (.getfield 26, 3) := by decide +kernel
theorem dX7_count_84 : decode cX7_count 84 = .ok (.getfield 112, 3) := by decide +kernel
theorem dX7_count_87 : decode cX7_count 87 = .ok (.ireturn, 1) := by decide +kernel
theorem dX7_count_88 : decode cX7_count 88 = .ok (.aload_n 0, 1) := by decide +kernel
theorem dX7_count_89 : decode cX7_count 89 = .ok (.getfield 12, 3) := by decide +kernel
theorem dX7_count_92 : decode cX7_count 92 = .ok (.invokevirtual 133, 3) := by decide +kernel
theorem dX7_count_95 : decode cX7_count 95 = .ok (.ireturn, 1) := by decide +kernel
theorem dX7_count_96 : decode cX7_count 96 = .ok (.aload_n 0, 1) := by decide +kernel
theorem dX7_count_97 : decode cX7_count 97 = .ok (.getfield 12, 3) := by decide +kernel
theorem dX7_count_100 : decode cX7_count 100 = .ok (.invokevirtual 136, 3) := by decide +kernel
theorem dX7_count_103 : decode cX7_count 103 = .ok (.ireturn, 1) := by decide +kernel
theorem dX7_count_104 : decode cX7_count 104 = .ok (.aload_n 0, 1) := by decide +kernel
theorem dX7_count_105 : decode cX7_count 105 = .ok (.getfield 19, 3) := by decide +kernel
theorem dX7_count_108 : decode cX7_count 108 = .ok (.getfield 74, 3) := by decide +kernel
theorem dX7_count_111 : decode cX7_count 111 = .ok (.iconst (-1), 1) := by decide +kernel
theorem dX7_count_112 : decode cX7_count 112 = .ok (.if_icmp .ne 7, 3) := by decide +kernel
theorem dX7_count_115 : decode cX7_count 115 = .ok (.iconst (-1), 1) := by decide +kernel
theorem dX7_count_116 : decode cX7_count 116 = .ok (.goto 10, 3) := by decide +kernel
theorem dX7_count_119 : decode cX7_count 119 = .ok (.aload_n 0, 1) := by decide +kernel
theorem dX7_count_120 : decode cX7_count 120 = .ok (.getfield 19, 3) := by decide +kernel
theorem dX7_count_123 : decode cX7_count 123 = .ok (.getfield 67, 3) := by decide +kernel
theorem dX7_count_126 : decode cX7_count 126 = .ok (.ireturn, 1) := by decide +kernel
theorem dX7_count_127 : decode cX7_count 127 = .ok (.iconst (-1), 1) := by decide +kernel
theorem dX7_count_128 : decode cX7_count 128 = .ok (.ireturn, 1) := by decide +kernel
theorem dX7_shown_0 : decode cX7_shown 0 = .ok (.aload_n 0, 1) := by decide +kernel
theorem dX7_shown_1 : decode cX7_shown 1 = .ok (.getfield 12, 3) := by decide +kernel
theorem dX7_shown_4 : decode cX7_shown 4 = .ok (.iload_n 1, 1) := by decide +kernel
theorem dX7_shown_5 : decode cX7_shown 5 = .ok (.invokevirtual 90, 3) := by decide +kernel
theorem dX7_shown_8 : decode cX7_shown 8 = .ok (.ifCond .eq 15, 3) := by decide +kernel
theorem dX7_shown_11 : decode cX7_shown 11 = .ok (.aload_n 0, 1) := by decide +kernel
theorem dX7_shown_12 : decode cX7_shown 12 = .ok (.getfield 12, 3) := by decide +kernel
theorem dX7_shown_15 : decode cX7_shown 15 = .ok (.getfield 96, 3) := by decide +kernel
theorem dX7_shown_18 : decode cX7_shown 18 = .ok (.iload_n 1, 1) := by decide +kernel
theorem dX7_shown_19 : decode cX7_shown 19 = .ok (.iaload, 1) := by decide +kernel
theorem dX7_shown_20 : decode cX7_shown 20 = .ok (.goto 4, 3) := by decide +kernel
theorem dX7_shown_23 : decode cX7_shown 23 = .ok (.iconst (-1), 1) := by decide +kernel
theorem dX7_shown_24 : decode cX7_shown 24 = .ok (.ireturn, 1) := by decide +kernel
theorem dX7_step_0 : decode cX7_step 0 = .ok (.aload_n 0, 1) := by decide +kernel
theorem dX7_step_1 : decode cX7_step 1 = .ok (.getfield 12, 3) := by decide +kernel
theorem dX7_step_4 : decode cX7_step 4 = .ok (.iload_n 1, 1) := by decide +kernel
theorem dX7_step_5 : decode cX7_step 5 = .ok (.invokevirtual 77, 3) := by decide +kernel
theorem dX7_step_8 : decode cX7_step 8 = .ok (.ifCond .eq 26, 3) := by decide +kernel
theorem dX7_step_11 : decode cX7_step 11 = .ok (.aload_n 0, 1) := by decide +kernel
theorem dX7_step_12 : decode cX7_step 12 = .ok (.getfield 12, 3) := by decide +kernel
theorem dX7_step_15 : decode cX7_step 15 = .ok (.iload_n 2, 1) := by decide +kernel
theorem dX7_step_16 : decode cX7_step 16 = .ok (.invokevirtual 90, 3) := by decide +kernel
theorem dX7_step_19 : decode cX7_step 19 = .ok (.ifCond .eq 15, 3) := by decide +kernel
theorem dX7_step_22 : decode cX7_step 22 = .ok (.aload_n 0, 1) := by decide +kernel
theorem dX7_step_23 : decode cX7_step 23 = .ok (.getfield 12, 3) := by decide +kernel
theorem dX7_step_26 : decode cX7_step 26 = .ok (.iload_n 1, 1) := by decide +kernel
theorem dX7_step_27 : decode cX7_step 27 = .ok (.iload_n 2, 1) := by decide +kernel
theorem dX7_step_28 : decode cX7_step 28 = .ok (.invokevirtual 139, 3) := by decide +kernel
theorem dX7_step_31 : decode cX7_step 31 = .ok (.goto 4, 3) := by decide +kernel
theorem dX7_step_34 : decode cX7_step 34 = .ok (.iconst (-1), 1) := by decide +kernel
theorem dX7_step_35 : decode cX7_step 35 = .ok (.ireturn, 1) := by decide +kernel
theorem dX7_can_0 : decode cX7_can 0 = .ok (.aload_n 0, 1) := by decide +kernel
theorem dX7_can_1 : decode cX7_can 1 = .ok (.invokevirtual 142, 3) := by decide +kernel
theorem dX7_can_4 : decode cX7_can 4 = .ok (.astore_n 1, 1) := by decide +kernel
theorem dX7_can_5 : decode cX7_can 5 = .ok (.aload_n 1, 1) := by decide +kernel
theorem dX7_can_6 : decode cX7_can 6 = .ok (.invokevirtual 146, 3) := by decide +kernel
theorem dX7_can_9 : decode cX7_can 9 = .ok (.ifCond .eq 21, 3) := by decide +kernel
theorem dX7_can_12 : decode cX7_can 12 = .ok (.aload_n 1, 1) := by decide +kernel
theorem dX7_can_13 : decode cX7_can 13 = .ok (.aload_n 0, 1) := by decide +kernel
theorem dX7_can_14 : decode cX7_can 14 = .ok (.getfield 33, 3) := by decide +kernel
theorem dX7_can_17 : decode cX7_can 17 = .ok (.invokevirtual 151, 3) := by decide +kernel
theorem dX7_can_20 : decode cX7_can 20 = .ok (.aload_n 0, 1) := by decide +kernel
theorem dX7_can_21 : decode cX7_can 21 = .ok (.getfield 33, 3) := by decide +kernel
theorem dX7_can_24 : decode cX7_can 24 = .ok (.iconst 1, 1) := by decide +kernel
theorem dX7_can_25 : decode cX7_can 25 = .ok (.putfield 117, 3) := by decide +kernel
theorem dX7_can_28 : decode cX7_can 28 = .ok (.iconst 1, 1) := by decide +kernel
theorem dX7_can_29 : decode cX7_can 29 = .ok (.ireturn, 1) := by decide +kernel
theorem dX7_can_30 : decode cX7_can 30 = .ok (.aload_n 1, 1) := by decide +kernel
theorem dX7_can_31 : decode cX7_can 31 = .ok (.aload_n 0, 1) := by decide +kernel
theorem dX7_can_32 : decode cX7_can 32 = .ok (.getfield 33, 3) := by decide +kernel
theorem dX7_can_35 : decode cX7_can 35 = .ok (.invokevirtual 155, 3) := by decide +kernel
theorem dX7_can_38 : decode cX7_can 38 = .ok (.iconst 0, 1) := by decide +kernel
theorem dX7_can_39 : decode cX7_can 39 = .ok (.ireturn, 1) := by decide +kernel
theorem dX7_next_0 : decode cX7_next 0 = .ok (.aload_n 0, 1) := by decide +kernel
theorem dX7_next_1 : decode cX7_next 1 = .ok (.getfield 33, 3) := by decide +kernel
theorem dX7_next_4 : decode cX7_next 4 = .ok (.getfield 117, 3) := by decide +kernel
theorem dX7_next_7 : decode cX7_next 7 = .ok (.ifCond .ne 5, 3) := by decide +kernel
theorem dX7_next_10 : decode cX7_next 10 = .ok (.iconst (-1), 1) := by decide +kernel
theorem dX7_next_11 : decode cX7_next 11 = .ok (.ireturn, 1) := by decide +kernel
theorem dX7_next_12 : decode cX7_next 12 = .ok (.aload_n 0, 1) := by decide +kernel
theorem dX7_next_13 : decode cX7_next 13 = .ok (.invokevirtual 142, 3) := by decide +kernel
theorem dX7_next_16 : decode cX7_next 16 = .ok (.aload_n 0, 1) := by decide +kernel
theorem dX7_next_17 : decode cX7_next 17 = .ok (.getfield 33, 3) := by decide +kernel
theorem dX7_next_20 : decode cX7_next 20 = .ok (.invokevirtual 158, 3) := by decide +kernel
theorem dX7_next_23 : decode cX7_next 23 = .ok (.ifCond .eq 7, 3) := by decide +kernel
theorem dX7_next_26 : decode cX7_next 26 = .ok (.iconst 1, 1) := by decide +kernel
theorem dX7_next_27 : decode cX7_next 27 = .ok (.goto 4, 3) := by decide +kernel
theorem dX7_next_30 : decode cX7_next 30 = .ok (.iconst 0, 1) := by decide +kernel
theorem dX7_next_31 : decode cX7_next 31 = .ok (.ireturn, 1) := by decide +kernel
theorem dX7_row_0 : decode cX7_row 0 = .ok (.iload_n 1, 1) := by decide +kernel
theorem dX7_row_1 : decode cX7_row 1 = .ok (.ifCond .lt 26, 3) := by decide +kernel
theorem dX7_row_4 : decode cX7_row 4 = .ok (.iload_n 1, 1) := by decide +kernel
theorem dX7_row_5 : decode cX7_row 5 = .ok (.aload_n 0, 1) := by decide +kernel
theorem dX7_row_6 : decode cX7_row 6 = .ok (.getfield 33, 3) := by decide +kernel
theorem dX7_row_9 : decode cX7_row 9 = .ok (.getfield 162, 3) := by decide +kernel
theorem dX7_row_12 : decode cX7_row 12 = .ok (.if_icmp .ge 15, 3) := by decide +kernel
theorem dX7_row_15 : decode cX7_row 15 = .ok (.aload_n 0, 1) := by decide +kernel
theorem dX7_row_16 : decode cX7_row 16 = .ok (.getfield 33, 3) := by decide +kernel
theorem dX7_row_19 : decode cX7_row 19 = .ok (.getfield 163, 3) := by decide +kernel
theorem dX7_row_22 : decode cX7_row 22 = .ok (.iload_n 1, 1) := by decide +kernel
theorem dX7_row_23 : decode cX7_row 23 = .ok (.iaload, 1) := by decide +kernel
theorem dX7_row_24 : decode cX7_row 24 = .ok (.goto 4, 3) := by decide +kernel
theorem dX7_row_27 : decode cX7_row 27 = .ok (.iconst (-1), 1) := by decide +kernel
theorem dX7_row_28 : decode cX7_row 28 = .ok (.ireturn, 1) := by decide +kernel
theorem dX7_primes_0 : decode cX7_primes 0 = .ok (.iload_n 2, 1) := by decide +kernel
theorem dX7_primes_1 : decode cX7_primes 1 = .ok (.iconst 2, 1) := by decide +kernel
theorem dX7_primes_2 : decode cX7_primes 2 = .ok (.if_icmp .eq 27, 3) := by decide +kernel
theorem dX7_primes_5 : decode cX7_primes 5 = .ok (.iload_n 2, 1) := by decide +kernel
theorem dX7_primes_6 : decode cX7_primes 6 = .ok (.iconst 3, 1) := by decide +kernel
theorem dX7_primes_7 : decode cX7_primes 7 = .ok (.if_icmp .eq 22, 3) := by decide +kernel
theorem dX7_primes_10 : decode cX7_primes 10 = .ok (.iload_n 2, 1) := by decide +kernel
theorem dX7_primes_11 : decode cX7_primes 11 = .ok (.iconst 5, 1) := by decide +kernel
theorem dX7_primes_12 : decode cX7_primes 12 = .ok (.if_icmp .eq 17, 3) := by decide +kernel
theorem dX7_primes_15 : decode cX7_primes 15 = .ok (.iload_n 2, 1) := by decide +kernel
theorem dX7_primes_16 : decode cX7_primes 16 = .ok (.bipush 7, 2) := by decide +kernel
theorem dX7_primes_18 : decode cX7_primes 18 = .ok (.if_icmp .eq 11, 3) := by decide +kernel
theorem dX7_primes_21 : decode cX7_primes 21 = .ok (.iload_n 2, 1) := by decide +kernel
theorem dX7_primes_22 : decode cX7_primes 22 = .ok (.bipush 11, 2) := by decide +kernel
theorem dX7_primes_24 : decode cX7_primes 24 = .ok (.if_icmp .eq 5, 3) := by decide +kernel
theorem dX7_primes_27 : decode cX7_primes 27 = .ok (.iconst (-1), 1) := by decide +kernel
theorem dX7_primes_28 : decode cX7_primes 28 = .ok (.ireturn, 1) := by decide +kernel
theorem dX7_primes_29 : decode cX7_primes 29 = .ok (.iload_n 1, 1) := by decide +kernel
theorem dX7_primes_30 : decode cX7_primes 30 = .ok (.tableswitch 66 0 3 #[30, 39, 48, 57], 30) := by decide +kernel
theorem dX7_primes_60 : decode cX7_primes 60 = .ok (.aload_n 0, 1) := by decide +kernel
theorem dX7_primes_61 : decode cX7_primes 61 = .ok (.invokevirtual 142, 3) := by decide +kernel
theorem dX7_primes_64 : decode cX7_primes 64 = .ok (.iload_n 2, 1) := by decide +kernel
theorem dX7_primes_65 : decode cX7_primes 65 = .ok (.invokevirtual 166, 3) := by decide +kernel
theorem dX7_primes_68 : decode cX7_primes 68 = .ok (.ireturn, 1) := by decide +kernel
theorem dX7_primes_69 : decode cX7_primes 69 = .ok (.aload_n 0, 1) := by decide +kernel
theorem dX7_primes_70 : decode cX7_primes 70 = .ok (.invokevirtual 142, 3) := by decide +kernel
theorem dX7_primes_73 : decode cX7_primes 73 = .ok (.iload_n 2, 1) := by decide +kernel
theorem dX7_primes_74 : decode cX7_primes 74 = .ok (.invokevirtual 170, 3) := by decide +kernel
theorem dX7_primes_77 : decode cX7_primes 77 = .ok (.ireturn, 1) := by decide +kernel
theorem dX7_primes_78 : decode cX7_primes 78 = .ok (.aload_n 0, 1) := by decide +kernel
theorem dX7_primes_79 : decode cX7_primes 79 = .ok (.invokevirtual 142, 3) := by decide +kernel
theorem dX7_primes_82 : decode cX7_primes 82 = .ok (.iload_n 2, 1) := by decide +kernel
theorem dX7_primes_83 : decode cX7_primes 83 = .ok (.invokevirtual 173, 3) := by decide +kernel
theorem dX7_primes_86 : decode cX7_primes 86 = .ok (.ireturn, 1) := by decide +kernel
theorem dX7_primes_87 : decode cX7_primes 87 = .ok (.aload_n 0, 1) := by decide +kernel
theorem dX7_primes_88 : decode cX7_primes 88 = .ok (.invokevirtual 142, 3) := by decide +kernel
theorem dX7_primes_91 : decode cX7_primes 91 = .ok (.iload_n 2, 1) := by decide +kernel
theorem dX7_primes_92 : decode cX7_primes 92 = .ok (.invokevirtual 176, 3) := by decide +kernel
theorem dX7_primes_95 : decode cX7_primes 95 = .ok (.ireturn, 1) := by decide +kernel
theorem dX7_primes_96 : decode cX7_primes 96 = .ok (.iconst (-1), 1) := by decide +kernel
theorem dX7_primes_97 : decode cX7_primes 97 = .ok (.ireturn, 1) := by decide +kernel
theorem dX7_base_0 : decode cX7_base 0 = .ok (.iload_n 1, 1) := by decide +kernel
theorem dX7_base_1 : decode cX7_base 1 = .ok (.lookupswitch 43 #[(0, 27), (1, 35)], 27) := by decide +kernel
theorem dX7_base_28 : decode cX7_base 28 = .ok (.aload_n 0, 1) := by decide +kernel
theorem dX7_base_29 : decode cX7_base 29 = .ok (.invokevirtual 142, 3) := by decide +kernel
theorem dX7_base_32 : decode cX7_base 32 = .ok (.invokevirtual 179, 3) := by decide +kernel
theorem dX7_base_35 : decode cX7_base 35 = .ok (.ireturn, 1) := by decide +kernel
theorem dX7_base_36 : decode cX7_base 36 = .ok (.aload_n 0, 1) := by decide +kernel
theorem dX7_base_37 : decode cX7_base 37 = .ok (.invokevirtual 142, 3) := by decide +kernel
theorem dX7_base_40 : decode cX7_base 40 = .ok (.invokevirtual 182, 3) := by decide +kernel
theorem dX7_base_43 : decode cX7_base 43 = .ok (.ireturn, 1) := by decide +kernel
theorem dX7_base_44 : decode cX7_base 44 = .ok (.iconst (-1), 1) := by decide +kernel
theorem dX7_base_45 : decode cX7_base 45 = .ok (.ireturn, 1) := by decide +kernel
theorem dX7_element_0 : decode cX7_element 0 = .ok (.iload_n 2, 1) := by decide +kernel
theorem dX7_element_1 : decode cX7_element 1 = .ok (.ifCond .lt 12, 3) := by decide +kernel
theorem dX7_element_4 : decode cX7_element 4 = .ok (.iload_n 1, 1) := by decide +kernel
theorem dX7_element_5 : decode cX7_element 5 = .ok (.ifCond .eq 10, 3) := by decide +kernel
theorem dX7_element_8 : decode cX7_element 8 = .ok (.iload_n 1, 1) := by decide +kernel
theorem dX7_element_9 : decode cX7_element 9 = .ok (.iconst 1, 1) := by decide +kernel
theorem dX7_element_10 : decode cX7_element 10 = .ok (.if_icmp .eq 5, 3) := by decide +kernel
theorem dX7_element_13 : decode cX7_element 13 = .ok (.iconst (-1), 1) := by decide +kernel
theorem dX7_element_14 : decode cX7_element 14 = .ok (.ireturn, 1) := by decide +kernel
theorem dX7_element_15 : decode cX7_element 15 = .ok (.aload_n 0, 1) := by decide +kernel
theorem dX7_element_16 : decode cX7_element 16 = .ok (.invokevirtual 142, 3) := by decide +kernel
theorem dX7_element_19 : decode cX7_element 19 = .ok (.astore_n 3, 1) := by decide +kernel
theorem dX7_element_20 : decode cX7_element 20 = .ok (.iload_n 1, 1) := by decide +kernel
theorem dX7_element_21 : decode cX7_element 21 = .ok (.ifCond .ne 15, 3) := by decide +kernel
theorem dX7_element_24 : decode cX7_element 24 = .ok (.aload_n 3, 1) := by decide +kernel
theorem dX7_element_25 : decode cX7_element 25 = .ok (.iload_n 2, 1) := by decide +kernel
theorem dX7_element_26 : decode cX7_element 26 = .ok (.aload_n 0, 1) := by decide +kernel
theorem dX7_element_27 : decode cX7_element 27 = .ok (.getfield 33, 3) := by decide +kernel
theorem dX7_element_30 : decode cX7_element 30 = .ok (.invokevirtual 185, 3) := by decide +kernel
theorem dX7_element_33 : decode cX7_element 33 = .ok (.goto 12, 3) := by decide +kernel
theorem dX7_element_36 : decode cX7_element 36 = .ok (.aload_n 3, 1) := by decide +kernel
theorem dX7_element_37 : decode cX7_element 37 = .ok (.iload_n 2, 1) := by decide +kernel
theorem dX7_element_38 : decode cX7_element 38 = .ok (.aload_n 0, 1) := by decide +kernel
theorem dX7_element_39 : decode cX7_element 39 = .ok (.getfield 33, 3) := by decide +kernel
theorem dX7_element_42 : decode cX7_element 42 = .ok (.invokevirtual 189, 3) := by decide +kernel
theorem dX7_element_45 : decode cX7_element 45 = .ok (.istore 4, 2) := by decide +kernel
theorem dX7_element_47 : decode cX7_element 47 = .ok (.iload 4, 2) := by decide +kernel
theorem dX7_element_49 : decode cX7_element 49 = .ok (.ifCond .eq 7, 3) := by decide +kernel
theorem dX7_element_52 : decode cX7_element 52 = .ok (.iconst 1, 1) := by decide +kernel
theorem dX7_element_53 : decode cX7_element 53 = .ok (.goto 4, 3) := by decide +kernel
theorem dX7_element_56 : decode cX7_element 56 = .ok (.iconst (-1), 1) := by decide +kernel
theorem dX7_element_57 : decode cX7_element 57 = .ok (.ireturn, 1) := by decide +kernel
theorem dX7_least_0 : decode cX7_least 0 = .ok (.aload_n 0, 1) := by decide +kernel
theorem dX7_least_1 : decode cX7_least 1 = .ok (.invokevirtual 142, 3) := by decide +kernel
theorem dX7_least_4 : decode cX7_least 4 = .ok (.astore_n 1, 1) := by decide +kernel
theorem dX7_least_5 : decode cX7_least 5 = .ok (.aload_n 1, 1) := by decide +kernel
theorem dX7_least_6 : decode cX7_least 6 = .ok (.invokevirtual 146, 3) := by decide +kernel
theorem dX7_least_9 : decode cX7_least 9 = .ok (.ifCond .ne 7, 3) := by decide +kernel
theorem dX7_least_12 : decode cX7_least 12 = .ok (.ldc2_w 192, 3) := by decide +kernel
theorem dX7_least_15 : decode cX7_least 15 = .ok (.lreturn, 1) := by decide +kernel
theorem dX7_least_16 : decode cX7_least 16 = .ok (.aload_n 1, 1) := by decide +kernel
theorem dX7_least_17 : decode cX7_least 17 = .ok (.invokevirtual 194, 3) := by decide +kernel
theorem dX7_least_20 : decode cX7_least 20 = .ok (.ifCond .eq 9, 3) := by decide +kernel
theorem dX7_least_23 : decode cX7_least 23 = .ok (.ldc2_w 197, 3) := by decide +kernel
theorem dX7_least_26 : decode cX7_least 26 = .ok (.goto 12, 3) := by decide +kernel
theorem dX7_least_29 : decode cX7_least 29 = .ok (.aload_n 1, 1) := by decide +kernel
theorem dX7_least_30 : decode cX7_least 30 = .ok (.aload_n 0, 1) := by decide +kernel
theorem dX7_least_31 : decode cX7_least 31 = .ok (.getfield 33, 3) := by decide +kernel
theorem dX7_least_34 : decode cX7_least 34 = .ok (.invokevirtual 199, 3) := by decide +kernel
theorem dX7_least_37 : decode cX7_least 37 = .ok (.i2l, 1) := by decide +kernel
theorem dX7_least_38 : decode cX7_least 38 = .ok (.lreturn, 1) := by decide +kernel
theorem dX7_worst_0 : decode cX7_worst 0 = .ok (.aload_n 0, 1) := by decide +kernel
theorem dX7_worst_1 : decode cX7_worst 1 = .ok (.invokevirtual 142, 3) := by decide +kernel
theorem dX7_worst_4 : decode cX7_worst 4 = .ok (.astore_n 1, 1) := by decide +kernel
theorem dX7_worst_5 : decode cX7_worst 5 = .ok (.aload_n 1, 1) := by decide +kernel
theorem dX7_worst_6 : decode cX7_worst 6 = .ok (.invokevirtual 203, 3) := by decide +kernel
theorem dX7_worst_9 : decode cX7_worst 9 = .ok (.ifCond .eq 9, 3) := by decide +kernel
theorem dX7_worst_12 : decode cX7_worst 12 = .ok (.ldc2_w 197, 3) := by decide +kernel
theorem dX7_worst_15 : decode cX7_worst 15 = .ok (.goto 12, 3) := by decide +kernel
theorem dX7_worst_18 : decode cX7_worst 18 = .ok (.aload_n 1, 1) := by decide +kernel
theorem dX7_worst_19 : decode cX7_worst 19 = .ok (.aload_n 0, 1) := by decide +kernel
theorem dX7_worst_20 : decode cX7_worst 20 = .ok (.getfield 33, 3) := by decide +kernel
theorem dX7_worst_23 : decode cX7_worst 23 = .ok (.invokevirtual 206, 3) := by decide +kernel
theorem dX7_worst_26 : decode cX7_worst 26 = .ok (.i2l, 1) := by decide +kernel
theorem dX7_worst_27 : decode cX7_worst 27 = .ok (.lreturn, 1) := by decide +kernel
theorem dX7_apply_0 : decode cX7_apply 0 = .ok (.aload_n 0, 1) := by decide +kernel
theorem dX7_apply_1 : decode cX7_apply 1 = .ok (.getfield 33, 3) := by decide +kernel
theorem dX7_apply_4 : decode cX7_apply 4 = .ok (.getfield 209, 3) := by decide +kernel
theorem dX7_apply_7 : decode cX7_apply 7 = .ok (.iconst 1, 1) := by decide +kernel
theorem dX7_apply_8 : decode cX7_apply 8 = .ok (.if_icmp .ne 27, 3) := by decide +kernel
theorem dX7_apply_11 : decode cX7_apply 11 = .ok (.aload_n 0, 1) := by decide +kernel
theorem dX7_apply_12 : decode cX7_apply 12 = .ok (.getfield 12, 3) := by decide +kernel
theorem dX7_apply_15 : decode cX7_apply 15 = .ok (.aload_n 0, 1) := by decide +kernel
theorem dX7_apply_16 : decode cX7_apply 16 = .ok (.getfield 33, 3) := by decide +kernel
theorem dX7_apply_19 : decode cX7_apply 19 = .ok (.getfield 163, 3) := by decide +kernel
theorem dX7_apply_22 : decode cX7_apply 22 = .ok (.aload_n 0, 1) := by decide +kernel
theorem dX7_apply_23 : decode cX7_apply 23 = .ok (.getfield 33, 3) := by decide +kernel
theorem dX7_apply_26 : decode cX7_apply 26 = .ok (.getfield 162, 3) := by decide +kernel
theorem dX7_apply_29 : decode cX7_apply 29 = .ok (.invokevirtual 210, 3) := by decide +kernel
theorem dX7_apply_32 : decode cX7_apply 32 = .ok (.ifCond .ne 5, 3) := by decide +kernel
theorem dX7_apply_35 : decode cX7_apply 35 = .ok (.iconst (-1), 1) := by decide +kernel
theorem dX7_apply_36 : decode cX7_apply 36 = .ok (.ireturn, 1) := by decide +kernel
theorem dX7_apply_37 : decode cX7_apply 37 = .ok (.aload_n 0, 1) := by decide +kernel
theorem dX7_apply_38 : decode cX7_apply 38 = .ok (.iconst 3, 1) := by decide +kernel
theorem dX7_apply_39 : decode cX7_apply 39 = .ok (.iconst 0, 1) := by decide +kernel
theorem dX7_apply_40 : decode cX7_apply 40 = .ok (.invokevirtual 56, 3) := by decide +kernel
theorem dX7_apply_43 : decode cX7_apply 43 = .ok (.aload_n 0, 1) := by decide +kernel
theorem dX7_apply_44 : decode cX7_apply 44 = .ok (.getfield 12, 3) := by decide +kernel
theorem dX7_apply_47 : decode cX7_apply 47 = .ok (.aload_n 0, 1) := by decide +kernel
theorem dX7_apply_48 : decode cX7_apply 48 = .ok (.getfield 33, 3) := by decide +kernel
theorem dX7_apply_51 : decode cX7_apply 51 = .ok (.getfield 163, 3) := by decide +kernel
theorem dX7_apply_54 : decode cX7_apply 54 = .ok (.invokevirtual 214, 3) := by decide +kernel
theorem dX7_apply_57 : decode cX7_apply 57 = .ok (.ireturn, 1) := by decide +kernel
theorem dX7_tell_0 : decode cX7_tell 0 = .ok (.aload_n 0, 1) := by decide +kernel
theorem dX7_tell_1 : decode cX7_tell 1 = .ok (.getfield 218, 3) := by decide +kernel
theorem dX7_tell_4 : decode cX7_tell 4 = .ok (.bipush 36, 2) := by decide +kernel
theorem dX7_tell_6 : decode cX7_tell 6 = .ok (.if_icmp .ge 13, 3) := by decide +kernel
theorem dX7_tell_9 : decode cX7_tell 9 = .ok (.iload_n 1, 1) := by decide +kernel
theorem dX7_tell_10 : decode cX7_tell 10 = .ok (.ifCond .lt 9, 3) := by decide +kernel
theorem dX7_tell_13 : decode cX7_tell 13 = .ok (.iload_n 1, 1) := by decide +kernel
theorem dX7_tell_14 : decode cX7_tell 14 = .ok (.bipush 12, 2) := by decide +kernel
theorem dX7_tell_16 : decode cX7_tell 16 = .ok (.if_icmp .lt 5, 3) := by decide +kernel
theorem dX7_tell_19 : decode cX7_tell 19 = .ok (.iconst (-1), 1) := by decide +kernel
theorem dX7_tell_20 : decode cX7_tell 20 = .ok (.ireturn, 1) := by decide +kernel
theorem dX7_tell_21 : decode cX7_tell 21 = .ok (.aload_n 0, 1) := by decide +kernel
theorem dX7_tell_22 : decode cX7_tell 22 = .ok (.getfield 37, 3) := by decide +kernel
theorem dX7_tell_25 : decode cX7_tell 25 = .ok (.aload_n 0, 1) := by decide +kernel
theorem dX7_tell_26 : decode cX7_tell 26 = .ok (.getfield 218, 3) := by decide +kernel
theorem dX7_tell_29 : decode cX7_tell 29 = .ok (.iload_n 1, 1) := by decide +kernel
theorem dX7_tell_30 : decode cX7_tell 30 = .ok (.iastore, 1) := by decide +kernel
theorem dX7_tell_31 : decode cX7_tell 31 = .ok (.aload_n 0, 1) := by decide +kernel
theorem dX7_tell_32 : decode cX7_tell 32 = .ok (.dup, 1) := by decide +kernel
theorem dX7_tell_33 : decode cX7_tell 33 = .ok (.getfield 218, 3) := by decide +kernel
theorem dX7_tell_36 : decode cX7_tell 36 = .ok (.iconst 1, 1) := by decide +kernel
theorem dX7_tell_37 : decode cX7_tell 37 = .ok (.iadd, 1) := by decide +kernel
theorem dX7_tell_38 : decode cX7_tell 38 = .ok (.putfield 218, 3) := by decide +kernel
theorem dX7_tell_41 : decode cX7_tell 41 = .ok (.aload_n 0, 1) := by decide +kernel
theorem dX7_tell_42 : decode cX7_tell 42 = .ok (.getfield 218, 3) := by decide +kernel
theorem dX7_tell_45 : decode cX7_tell 45 = .ok (.ireturn, 1) := by decide +kernel
theorem dX7_check_0 : decode cX7_check 0 = .ok (.iload_n 1, 1) := by decide +kernel
theorem dX7_check_1 : decode cX7_check 1 = .ok (.ifCond .eq 11, 3) := by decide +kernel
theorem dX7_check_4 : decode cX7_check 4 = .ok (.iload_n 1, 1) := by decide +kernel
theorem dX7_check_5 : decode cX7_check 5 = .ok (.iconst 1, 1) := by decide +kernel
theorem dX7_check_6 : decode cX7_check 6 = .ok (.if_icmp .eq 6, 3) := by decide +kernel
theorem dX7_check_9 : decode cX7_check 9 = .ok (.bipush (-2), 2) := by decide +kernel
theorem dX7_check_11 : decode cX7_check 11 = .ok (.ireturn, 1) := by decide +kernel
theorem dX7_check_12 : decode cX7_check 12 = .ok (.aload_n 0, 1) := by decide +kernel
theorem dX7_check_13 : decode cX7_check 13 = .ok (.getfield 218, 3) := by decide +kernel
theorem dX7_check_16 : decode cX7_check 16 = .ok (.istore_n 2, 1) := by decide +kernel
theorem dX7_check_17 : decode cX7_check 17 = .ok (.aload_n 0, 1) := by decide +kernel
theorem dX7_check_18 : decode cX7_check 18 = .ok (.iconst 0, 1) := by decide +kernel
theorem dX7_check_19 : decode cX7_check 19 = .ok (.putfield 218, 3) := by decide +kernel
theorem dX7_check_22 : decode cX7_check 22 = .ok (.iload_n 1, 1) := by decide +kernel
theorem dX7_check_23 : decode cX7_check 23 = .ok (.ifCond .ne 13, 3) := by decide +kernel
theorem dX7_check_26 : decode cX7_check 26 = .ok (.aload_n 0, 1) := by decide +kernel
theorem dX7_check_27 : decode cX7_check 27 = .ok (.getfield 12, 3) := by decide +kernel
theorem dX7_check_30 : decode cX7_check 30 = .ok (.getfield 48, 3) := by decide +kernel
theorem dX7_check_33 : decode cX7_check 33 = .ok (.goto 10, 3) := by decide +kernel
theorem dX7_check_36 : decode cX7_check 36 = .ok (.aload_n 0, 1) := by decide +kernel
theorem dX7_check_37 : decode cX7_check 37 = .ok (.getfield 12, 3) := by decide +kernel
theorem dX7_check_40 : decode cX7_check 40 = .ok (.getfield 127, 3) := by decide +kernel
theorem dX7_check_43 : decode cX7_check 43 = .ok (.istore_n 3, 1) := by decide +kernel
theorem dX7_check_44 : decode cX7_check 44 = .ok (.iload_n 2, 1) := by decide +kernel
theorem dX7_check_45 : decode cX7_check 45 = .ok (.iload_n 3, 1) := by decide +kernel
theorem dX7_check_46 : decode cX7_check 46 = .ok (.if_icmp .ne 18, 3) := by decide +kernel
theorem dX7_check_49 : decode cX7_check 49 = .ok (.aload_n 0, 1) := by decide +kernel
theorem dX7_check_50 : decode cX7_check 50 = .ok (.getfield 12, 3) := by decide +kernel
theorem dX7_check_53 : decode cX7_check 53 = .ok (.aload_n 0, 1) := by decide +kernel
theorem dX7_check_54 : decode cX7_check 54 = .ok (.getfield 37, 3) := by decide +kernel
theorem dX7_check_57 : decode cX7_check 57 = .ok (.iload_n 2, 1) := by decide +kernel
theorem dX7_check_58 : decode cX7_check 58 = .ok (.invokevirtual 221, 3) := by decide +kernel
theorem dX7_check_61 : decode cX7_check 61 = .ok (.ifCond .ne 6, 3) := by decide +kernel
theorem dX7_check_64 : decode cX7_check 64 = .ok (.bipush 100, 2) := by decide +kernel
theorem dX7_check_66 : decode cX7_check 66 = .ok (.ireturn, 1) := by decide +kernel
theorem dX7_check_67 : decode cX7_check 67 = .ok (.iload_n 1, 1) := by decide +kernel
theorem dX7_check_68 : decode cX7_check 68 = .ok (.ifCond .ne 10, 3) := by decide +kernel
theorem dX7_check_71 : decode cX7_check 71 = .ok (.aload_n 0, 1) := by decide +kernel
theorem dX7_check_72 : decode cX7_check 72 = .ok (.invokevirtual 224, 3) := by decide +kernel
theorem dX7_check_75 : decode cX7_check 75 = .ok (.goto 7, 3) := by decide +kernel
theorem dX7_check_78 : decode cX7_check 78 = .ok (.aload_n 0, 1) := by decide +kernel
theorem dX7_check_79 : decode cX7_check 79 = .ok (.invokevirtual 227, 3) := by decide +kernel
theorem dX7_check_82 : decode cX7_check 82 = .ok (.ireturn, 1) := by decide +kernel
theorem dX7_checkPushing_0 : decode cX7_checkPushing 0 = .ok (.aload_n 0, 1) := by decide +kernel
theorem dX7_checkPushing_1 : decode cX7_checkPushing 1 = .ok (.getfield 12, 3) := by decide +kernel
theorem dX7_checkPushing_4 : decode cX7_checkPushing 4 = .ok (.aload_n 0, 1) := by decide +kernel
theorem dX7_checkPushing_5 : decode cX7_checkPushing 5 = .ok (.getfield 37, 3) := by decide +kernel
theorem dX7_checkPushing_8 : decode cX7_checkPushing 8 = .ok (.invokevirtual 230, 3) := by decide +kernel
theorem dX7_checkPushing_11 : decode cX7_checkPushing 11 = .ok (.istore_n 1, 1) := by decide +kernel
theorem dX7_checkPushing_12 : decode cX7_checkPushing 12 = .ok (.iload_n 1, 1) := by decide +kernel
theorem dX7_checkPushing_13 : decode cX7_checkPushing 13 = .ok (.iconst (-1), 1) := by decide +kernel
theorem dX7_checkPushing_14 : decode cX7_checkPushing 14 = .ok (.if_icmp .eq 9, 3) := by decide +kernel
theorem dX7_checkPushing_17 : decode cX7_checkPushing 17 = .ok (.sipush 200, 3) := by decide +kernel
theorem dX7_checkPushing_20 : decode cX7_checkPushing 20 = .ok (.iload_n 1, 1) := by decide +kernel
theorem dX7_checkPushing_21 : decode cX7_checkPushing 21 = .ok (.iadd, 1) := by decide +kernel
theorem dX7_checkPushing_22 : decode cX7_checkPushing 22 = .ok (.ireturn, 1) := by decide +kernel
theorem dX7_checkPushing_23 : decode cX7_checkPushing 23 = .ok (.iconst 0, 1) := by decide +kernel
theorem dX7_checkPushing_24 : decode cX7_checkPushing 24 = .ok (.istore_n 2, 1) := by decide +kernel
theorem dX7_checkPushing_25 : decode cX7_checkPushing 25 = .ok (.iload_n 2, 1) := by decide +kernel
theorem dX7_checkPushing_26 : decode cX7_checkPushing 26 = .ok (.aload_n 0, 1) := by decide +kernel
theorem dX7_checkPushing_27 : decode cX7_checkPushing 27 = .ok (.getfield 12, 3) := by decide +kernel
theorem dX7_checkPushing_30 : decode cX7_checkPushing 30 = .ok (.getfield 127, 3) := by decide +kernel
theorem dX7_checkPushing_33 : decode cX7_checkPushing 33 = .ok (.if_icmp .ge 39, 3) := by decide +kernel
theorem dX7_checkPushing_36 : decode cX7_checkPushing 36 = .ok (.aload_n 0, 1) := by decide +kernel
theorem dX7_checkPushing_37 : decode cX7_checkPushing 37 = .ok (.getfield 12, 3) := by decide +kernel
theorem dX7_checkPushing_40 : decode cX7_checkPushing 40 = .ok (.aload_n 0, 1) := by decide +kernel
theorem dX7_checkPushing_41 : decode cX7_checkPushing 41 = .ok (.getfield 37, 3) := by decide +kernel
theorem dX7_checkPushing_44 : decode cX7_checkPushing 44 = .ok (.iload_n 2, 1) := by decide +kernel
theorem dX7_checkPushing_45 : decode cX7_checkPushing 45 = .ok (.invokevirtual 233, 3) := by decide +kernel
theorem dX7_checkPushing_48 : decode cX7_checkPushing 48 = .ok (.aload_n 0, 1) := by decide +kernel
theorem dX7_checkPushing_49 : decode cX7_checkPushing 49 = .ok (.getfield 12, 3) := by decide +kernel
theorem dX7_checkPushing_52 : decode cX7_checkPushing 52 = .ok (.getfield 96, 3) := by decide +kernel
theorem dX7_checkPushing_55 : decode cX7_checkPushing 55 = .ok (.iload_n 2, 1) := by decide +kernel
theorem dX7_checkPushing_56 : decode cX7_checkPushing 56 = .ok (.iaload, 1) := by decide +kernel
theorem dX7_checkPushing_57 : decode cX7_checkPushing 57 = .ok (.if_icmp .eq 9, 3) := by decide +kernel
theorem dX7_checkPushing_60 : decode cX7_checkPushing 60 = .ok (.sipush 300, 3) := by decide +kernel
theorem dX7_checkPushing_63 : decode cX7_checkPushing 63 = .ok (.iload_n 2, 1) := by decide +kernel
theorem dX7_checkPushing_64 : decode cX7_checkPushing 64 = .ok (.iadd, 1) := by decide +kernel
theorem dX7_checkPushing_65 : decode cX7_checkPushing 65 = .ok (.ireturn, 1) := by decide +kernel
theorem dX7_checkPushing_66 : decode cX7_checkPushing 66 = .ok (.iinc 2 1, 3) := by decide +kernel
theorem dX7_checkPushing_69 : decode cX7_checkPushing 69 = .ok (.goto (-44), 3) := by decide +kernel
theorem dX7_checkPushing_72 : decode cX7_checkPushing 72 = .ok (.iconst (-1), 1) := by decide +kernel
theorem dX7_checkPushing_73 : decode cX7_checkPushing 73 = .ok (.ireturn, 1) := by decide +kernel
theorem dX7_checkWeights_0 : decode cX7_checkWeights 0 = .ok (.iconst 0, 1) := by decide +kernel
theorem dX7_checkWeights_1 : decode cX7_checkWeights 1 = .ok (.istore_n 1, 1) := by decide +kernel
theorem dX7_checkWeights_2 : decode cX7_checkWeights 2 = .ok (.iload_n 1, 1) := by decide +kernel
theorem dX7_checkWeights_3 : decode cX7_checkWeights 3 = .ok (.aload_n 0, 1) := by decide +kernel
theorem dX7_checkWeights_4 : decode cX7_checkWeights 4 = .ok (.getfield 12, 3) := by decide +kernel
theorem dX7_checkWeights_7 : decode cX7_checkWeights 7 = .ok (.getfield 48, 3) := by decide +kernel
theorem dX7_checkWeights_10 : decode cX7_checkWeights 10 = .ok (.if_icmp .ge 43, 3) := by decide +kernel
theorem dX7_checkWeights_13 : decode cX7_checkWeights 13 = .ok (.aload_n 0, 1) := by decide +kernel
theorem dX7_checkWeights_14 : decode cX7_checkWeights 14 = .ok (.getfield 12, 3) := by decide +kernel
theorem dX7_checkWeights_17 : decode cX7_checkWeights 17 = .ok (.getfield 81, 3) := by decide +kernel
theorem dX7_checkWeights_20 : decode cX7_checkWeights 20 = .ok (.iload_n 1, 1) := by decide +kernel
theorem dX7_checkWeights_21 : decode cX7_checkWeights 21 = .ok (.iaload, 1) := by decide +kernel
theorem dX7_checkWeights_22 : decode cX7_checkWeights 22 = .ok (.iconst 3, 1) := by decide +kernel
theorem dX7_checkWeights_23 : decode cX7_checkWeights 23 = .ok (.if_icmp .eq 24, 3) := by decide +kernel
theorem dX7_checkWeights_26 : decode cX7_checkWeights 26 = .ok (.aload_n 0, 1) := by decide +kernel
theorem dX7_checkWeights_27 : decode cX7_checkWeights 27 = .ok (.getfield 12, 3) := by decide +kernel
theorem dX7_checkWeights_30 : decode cX7_checkWeights 30 = .ok (.aload_n 0, 1) := by decide +kernel
theorem dX7_checkWeights_31 : decode cX7_checkWeights 31 = .ok (.getfield 37, 3) := by decide +kernel
theorem dX7_checkWeights_34 : decode cX7_checkWeights 34 = .ok (.iload_n 1, 1) := by decide +kernel
theorem dX7_checkWeights_35 : decode cX7_checkWeights 35 = .ok (.invokevirtual 237, 3) := by decide +kernel
theorem dX7_checkWeights_38 : decode cX7_checkWeights 38 = .ok (.ifCond .eq 9, 3) := by decide +kernel
theorem dX7_checkWeights_41 : decode cX7_checkWeights 41 = .ok (.sipush 200, 3) := by decide +kernel
theorem dX7_checkWeights_44 : decode cX7_checkWeights 44 = .ok (.iload_n 1, 1) := by decide +kernel
theorem dX7_checkWeights_45 : decode cX7_checkWeights 45 = .ok (.iadd, 1) := by decide +kernel
theorem dX7_checkWeights_46 : decode cX7_checkWeights 46 = .ok (.ireturn, 1) := by decide +kernel
theorem dX7_checkWeights_47 : decode cX7_checkWeights 47 = .ok (.iinc 1 1, 3) := by decide +kernel
theorem dX7_checkWeights_50 : decode cX7_checkWeights 50 = .ok (.goto (-48), 3) := by decide +kernel
theorem dX7_checkWeights_53 : decode cX7_checkWeights 53 = .ok (.aload_n 0, 1) := by decide +kernel
theorem dX7_checkWeights_54 : decode cX7_checkWeights 54 = .ok (.getfield 12, 3) := by decide +kernel
theorem dX7_checkWeights_57 : decode cX7_checkWeights 57 = .ok (.aload_n 0, 1) := by decide +kernel
theorem dX7_checkWeights_58 : decode cX7_checkWeights 58 = .ok (.getfield 37, 3) := by decide +kernel
theorem dX7_checkWeights_61 : decode cX7_checkWeights 61 = .ok (.iconst 0, 1) := by decide +kernel
theorem dX7_checkWeights_62 : decode cX7_checkWeights 62 = .ok (.invokevirtual 240, 3) := by decide +kernel
theorem dX7_checkWeights_65 : decode cX7_checkWeights 65 = .ok (.ifCond .ne 9, 3) := by decide +kernel
theorem dX7_checkWeights_68 : decode cX7_checkWeights 68 = .ok (.sipush 300, 3) := by decide +kernel
theorem dX7_checkWeights_71 : decode cX7_checkWeights 71 = .ok (.goto 4, 3) := by decide +kernel
theorem dX7_checkWeights_74 : decode cX7_checkWeights 74 = .ok (.iconst (-1), 1) := by decide +kernel
theorem dX7_checkWeights_75 : decode cX7_checkWeights 75 = .ok (.ireturn, 1) := by decide +kernel
theorem dX7_beginAct_0 : decode cX7_beginAct 0 = .ok (.aload_n 0, 1) := by decide +kernel
theorem dX7_beginAct_1 : decode cX7_beginAct 1 = .ok (.getfield 26, 3) := by decide +kernel
theorem dX7_beginAct_4 : decode cX7_beginAct 4 = .ok (.aload_n 0, 1) := by decide +kernel
theorem dX7_beginAct_5 : decode cX7_beginAct 5 = .ok (.getfield 12, 3) := by decide +kernel
theorem dX7_beginAct_8 : decode cX7_beginAct 8 = .ok (.iload_n 1, 1) := by decide +kernel
theorem dX7_beginAct_9 : decode cX7_beginAct 9 = .ok (.iload_n 2, 1) := by decide +kernel
theorem dX7_beginAct_10 : decode cX7_beginAct 10 = .ok (.invokevirtual 243, 3) := by decide +kernel
theorem dX7_beginAct_13 : decode cX7_beginAct 13 = .ok (.aload_n 0, 1) := by decide +kernel
theorem dX7_beginAct_14 : decode cX7_beginAct 14 = .ok (.getfield 33, 3) := by decide +kernel
theorem dX7_beginAct_17 : decode cX7_beginAct 17 = .ok (.iconst 0, 1) := by decide +kernel
theorem dX7_beginAct_18 : decode cX7_beginAct 18 = .ok (.putfield 117, 3) := by decide +kernel
theorem dX7_beginAct_21 : decode cX7_beginAct 21 = .ok (.return_, 1) := by decide +kernel
theorem dX7_forgetActs_0 : decode cX7_forgetActs 0 = .ok (.aload_n 0, 1) := by decide +kernel
theorem dX7_forgetActs_1 : decode cX7_forgetActs 1 = .ok (.getfield 26, 3) := by decide +kernel
theorem dX7_forgetActs_4 : decode cX7_forgetActs 4 = .ok (.iconst 0, 1) := by decide +kernel
theorem dX7_forgetActs_5 : decode cX7_forgetActs 5 = .ok (.putfield 112, 3) := by decide +kernel
theorem dX7_forgetActs_8 : decode cX7_forgetActs 8 = .ok (.aload_n 0, 1) := by decide +kernel
theorem dX7_forgetActs_9 : decode cX7_forgetActs 9 = .ok (.getfield 33, 3) := by decide +kernel
theorem dX7_forgetActs_12 : decode cX7_forgetActs 12 = .ok (.iconst 0, 1) := by decide +kernel
theorem dX7_forgetActs_13 : decode cX7_forgetActs 13 = .ok (.putfield 117, 3) := by decide +kernel
theorem dX7_forgetActs_16 : decode cX7_forgetActs 16 = .ok (.return_, 1) := by decide +kernel
theorem dX7_freshSolver_0 : decode cX7_freshSolver 0 = .ok (.aload_n 0, 1) := by decide +kernel
theorem dX7_freshSolver_1 : decode cX7_freshSolver 1 = .ok (.getfield 247, 3) := by decide +kernel
theorem dX7_freshSolver_4 : decode cX7_freshSolver 4 = .ok (.ifnonnull 18, 3) := by decide +kernel
theorem dX7_freshSolver_7 : decode cX7_freshSolver 7 = .ok (.aload_n 0, 1) := by decide +kernel
theorem dX7_freshSolver_8 : decode cX7_freshSolver 8 = .ok (.new 147, 3) := by decide +kernel
theorem dX7_freshSolver_11 : decode cX7_freshSolver 11 = .ok (.dup, 1) := by decide +kernel
theorem dX7_freshSolver_12 : decode cX7_freshSolver 12 = .ok (.aload_n 0, 1) := by decide +kernel
theorem dX7_freshSolver_13 : decode cX7_freshSolver 13 = .ok (.getfield 12, 3) := by decide +kernel
theorem dX7_freshSolver_16 : decode cX7_freshSolver 16 = .ok (.invokespecial 251, 3) := by decide +kernel
theorem dX7_freshSolver_19 : decode cX7_freshSolver 19 = .ok (.putfield 247, 3) := by decide +kernel
theorem dX7_freshSolver_22 : decode cX7_freshSolver 22 = .ok (.aload_n 0, 1) := by decide +kernel
theorem dX7_freshSolver_23 : decode cX7_freshSolver 23 = .ok (.getfield 247, 3) := by decide +kernel
theorem dX7_freshSolver_26 : decode cX7_freshSolver 26 = .ok (.invokevirtual 253, 3) := by decide +kernel
theorem dX7_freshSolver_29 : decode cX7_freshSolver 29 = .ok (.aload_n 0, 1) := by decide +kernel
theorem dX7_freshSolver_30 : decode cX7_freshSolver 30 = .ok (.getfield 247, 3) := by decide +kernel
theorem dX7_freshSolver_33 : decode cX7_freshSolver 33 = .ok (.areturn, 1) := by decide +kernel
theorem dX8_init_0 : decode cX8_init 0 = .ok (.aload_n 0, 1) := by decide +kernel
theorem dX8_init_1 : decode cX8_init 1 = .ok (.invokespecial 3, 3) := by decide +kernel
theorem dX8_init_4 : decode cX8_init 4 = .ok (.aload_n 0, 1) := by decide +kernel
theorem dX8_init_5 : decode cX8_init 5 = .ok (.sipush 1516, 3) := by decide +kernel
theorem dX8_init_8 : decode cX8_init 8 = .ok (.newarray .int, 2) := by decide +kernel
theorem dX8_init_10 : decode cX8_init 10 = .ok (.putfield 9, 3) := by decide +kernel
theorem dX8_init_13 : decode cX8_init 13 = .ok (.aload_n 0, 1) := by decide +kernel
theorem dX8_init_14 : decode cX8_init 14 = .ok (.sipush 1516, 3) := by decide +kernel
theorem dX8_init_17 : decode cX8_init 17 = .ok (.newarray .int, 2) := by decide +kernel
theorem dX8_init_19 : decode cX8_init 19 = .ok (.putfield 13, 3) := by decide +kernel
theorem dX8_init_22 : decode cX8_init 22 = .ok (.aload_n 0, 1) := by decide +kernel
theorem dX8_init_23 : decode cX8_init 23 = .ok (.ldc 16, 2) := by decide +kernel
theorem dX8_init_25 : decode cX8_init 25 = .ok (.newarray .int, 2) := by decide +kernel
theorem dX8_init_27 : decode cX8_init 27 = .ok (.putfield 17, 3) := by decide +kernel
theorem dX8_init_30 : decode cX8_init 30 = .ok (.aload_n 0, 1) := by decide +kernel
theorem dX8_init_31 : decode cX8_init 31 = .ok (.iconst (-1), 1) := by decide +kernel
theorem dX8_init_32 : decode cX8_init 32 = .ok (.putfield 20, 3) := by decide +kernel
theorem dX8_init_35 : decode cX8_init 35 = .ok (.aload_n 0, 1) := by decide +kernel
theorem dX8_init_36 : decode cX8_init 36 = .ok (.bipush 80, 2) := by decide +kernel
theorem dX8_init_38 : decode cX8_init 38 = .ok (.newarray .long, 2) := by decide +kernel
theorem dX8_init_40 : decode cX8_init 40 = .ok (.putfield 24, 3) := by decide +kernel
theorem dX8_init_43 : decode cX8_init 43 = .ok (.aload_n 0, 1) := by decide +kernel
theorem dX8_init_44 : decode cX8_init 44 = .ok (.sipush 1369, 3) := by decide +kernel
theorem dX8_init_47 : decode cX8_init 47 = .ok (.newarray .int, 2) := by decide +kernel
theorem dX8_init_49 : decode cX8_init 49 = .ok (.putfield 28, 3) := by decide +kernel
theorem dX8_init_52 : decode cX8_init 52 = .ok (.aload_n 0, 1) := by decide +kernel
theorem dX8_init_53 : decode cX8_init 53 = .ok (.bipush 37, 2) := by decide +kernel
theorem dX8_init_55 : decode cX8_init 55 = .ok (.newarray .int, 2) := by decide +kernel
theorem dX8_init_57 : decode cX8_init 57 = .ok (.putfield 31, 3) := by decide +kernel
theorem dX8_init_60 : decode cX8_init 60 = .ok (.aload_n 0, 1) := by decide +kernel
theorem dX8_init_61 : decode cX8_init 61 = .ok (.bipush 37, 2) := by decide +kernel
theorem dX8_init_63 : decode cX8_init 63 = .ok (.newarray .int, 2) := by decide +kernel
theorem dX8_init_65 : decode cX8_init 65 = .ok (.putfield 34, 3) := by decide +kernel
theorem dX8_init_68 : decode cX8_init 68 = .ok (.aload_n 0, 1) := by decide +kernel
theorem dX8_init_69 : decode cX8_init 69 = .ok (.bipush 37, 2) := by decide +kernel
theorem dX8_init_71 : decode cX8_init 71 = .ok (.newarray .int, 2) := by decide +kernel
theorem dX8_init_73 : decode cX8_init 73 = .ok (.putfield 37, 3) := by decide +kernel
theorem dX8_init_76 : decode cX8_init 76 = .ok (.aload_n 0, 1) := by decide +kernel
theorem dX8_init_77 : decode cX8_init 77 = .ok (.bipush 36, 2) := by decide +kernel
theorem dX8_init_79 : decode cX8_init 79 = .ok (.newarray .int, 2) := by decide +kernel
theorem dX8_init_81 : decode cX8_init 81 = .ok (.putfield 40, 3) := by decide +kernel
theorem dX8_init_84 : decode cX8_init 84 = .ok (.aload_n 0, 1) := by decide +kernel
theorem dX8_init_85 : decode cX8_init 85 = .ok (.bipush 36, 2) := by decide +kernel
theorem dX8_init_87 : decode cX8_init 87 = .ok (.newarray .int, 2) := by decide +kernel
theorem dX8_init_89 : decode cX8_init 89 = .ok (.putfield 43, 3) := by decide +kernel
theorem dX8_init_92 : decode cX8_init 92 = .ok (.aload_n 0, 1) := by decide +kernel
theorem dX8_init_93 : decode cX8_init 93 = .ok (.bipush 36, 2) := by decide +kernel
theorem dX8_init_95 : decode cX8_init 95 = .ok (.newarray .int, 2) := by decide +kernel
theorem dX8_init_97 : decode cX8_init 97 = .ok (.putfield 46, 3) := by decide +kernel
theorem dX8_init_100 : decode cX8_init 100 = .ok (.aload_n 0, 1) := by decide +kernel
theorem dX8_init_101 : decode cX8_init 101 = .ok (.ldc 49, 2) := by decide +kernel
theorem dX8_init_103 : decode cX8_init 103 = .ok (.newarray .long, 2) := by decide +kernel
theorem dX8_init_105 : decode cX8_init 105 = .ok (.putfield 50, 3) := by decide +kernel
theorem dX8_init_108 : decode cX8_init 108 = .ok (.aload_n 0, 1) := by decide +kernel
theorem dX8_init_109 : decode cX8_init 109 = .ok (.bipush 36, 2) := by decide +kernel
theorem dX8_init_111 : decode cX8_init 111 = .ok (.newarray .int, 2) := by decide +kernel
theorem dX8_init_113 : decode cX8_init 113 = .ok (.putfield 53, 3) := by decide +kernel
theorem dX8_init_116 : decode cX8_init 116 = .ok (.aload_n 0, 1) := by decide +kernel
theorem dX8_init_117 : decode cX8_init 117 = .ok (.iconst 1, 1) := by decide +kernel
theorem dX8_init_118 : decode cX8_init 118 = .ok (.iconst 2, 1) := by decide +kernel
theorem dX8_init_119 : decode cX8_init 119 = .ok (.iconst 1, 1) := by decide +kernel
theorem dX8_init_120 : decode cX8_init 120 = .ok (.invokevirtual 56, 3) := by decide +kernel
theorem dX8_init_123 : decode cX8_init 123 = .ok (.return_, 1) := by decide +kernel
theorem dX8_in_0 : decode cX8_in 0 = .ok (.lload_n 0, 1) := by decide +kernel
theorem dX8_in_1 : decode cX8_in 1 = .ok (.lload_n 2, 1) := by decide +kernel
theorem dX8_in_2 : decode cX8_in 2 = .ok (.lcmp, 1) := by decide +kernel
theorem dX8_in_3 : decode cX8_in 3 = .ok (.ifCond .lt 14, 3) := by decide +kernel
theorem dX8_in_6 : decode cX8_in 6 = .ok (.lload_n 0, 1) := by decide +kernel
theorem dX8_in_7 : decode cX8_in 7 = .ok (.lload 4, 2) := by decide +kernel
theorem dX8_in_9 : decode cX8_in 9 = .ok (.lcmp, 1) := by decide +kernel
theorem dX8_in_10 : decode cX8_in 10 = .ok (.ifCond .gt 7, 3) := by decide +kernel
theorem dX8_in_13 : decode cX8_in 13 = .ok (.iconst 1, 1) := by decide +kernel
theorem dX8_in_14 : decode cX8_in 14 = .ok (.goto 4, 3) := by decide +kernel
theorem dX8_in_17 : decode cX8_in 17 = .ok (.iconst 0, 1) := by decide +kernel
theorem dX8_in_18 : decode cX8_in 18 = .ok (.ireturn, 1) := by decide +kernel
theorem dX8_set_0 : decode cX8_set 0 = .ok (.iconst 0, 1) := by decide +kernel
theorem dX8_set_1 : decode cX8_set 1 = .ok (.istore 4, 2) := by decide +kernel
theorem dX8_set_3 : decode cX8_set 3 = .ok (.iload 4, 2) := by decide +kernel
theorem dX8_set_5 : decode cX8_set 5 = .ok (.sipush 1516, 3) := by decide +kernel
theorem dX8_set_8 : decode cX8_set 8 = .ok (.if_icmp .ge 17, 3) := by decide +kernel
theorem dX8_set_11 : decode cX8_set 11 = .ok (.aload_n 0, 1) := by decide +kernel
theorem dX8_set_12 : decode cX8_set 12 = .ok (.getfield 9, 3) := by decide +kernel
theorem dX8_set_15 : decode cX8_set 15 = .ok (.iload 4, 2) := by decide +kernel
theorem dX8_set_17 : decode cX8_set 17 = .ok (.iconst 0, 1) := by decide +kernel
theorem dX8_set_18 : decode cX8_set 18 = .ok (.iastore, 1) := by decide +kernel
theorem dX8_set_19 : decode cX8_set 19 = .ok (.iinc 4 1, 3) := by decide +kernel
theorem dX8_set_22 : decode cX8_set 22 = .ok (.goto (-19), 3) := by decide +kernel
theorem dX8_set_25 : decode cX8_set 25 = .ok (.aload_n 0, 1) := by decide +kernel
theorem dX8_set_26 : decode cX8_set 26 = .ok (.getfield 9, 3) := by decide +kernel
theorem dX8_set_29 : decode cX8_set 29 = .ok (.iconst 0, 1) := by decide +kernel
theorem dX8_set_30 : decode cX8_set 30 = .ok (.iload_n 1, 1) := by decide +kernel
theorem dX8_set_31 : decode cX8_set 31 = .ok (.iastore, 1) := by decide +kernel
theorem dX8_set_32 : decode cX8_set 32 = .ok (.aload_n 0, 1) := by decide +kernel
theorem dX8_set_33 : decode cX8_set 33 = .ok (.getfield 9, 3) := by decide +kernel
theorem dX8_set_36 : decode cX8_set 36 = .ok (.iconst 1, 1) := by decide +kernel
theorem dX8_set_37 : decode cX8_set 37 = .ok (.iload_n 2, 1) := by decide +kernel
theorem dX8_set_38 : decode cX8_set 38 = .ok (.iastore, 1) := by decide +kernel
theorem dX8_set_39 : decode cX8_set 39 = .ok (.aload_n 0, 1) := by decide +kernel
theorem dX8_set_40 : decode cX8_set 40 = .ok (.getfield 9, 3) := by decide +kernel
theorem dX8_set_43 : decode cX8_set 43 = .ok (.iconst 2, 1) := by decide +kernel
theorem dX8_set_44 : decode cX8_set 44 = .ok (.iload_n 3, 1) := by decide +kernel
theorem dX8_set_45 : decode cX8_set 45 = .ok (.iastore, 1) := by decide +kernel
theorem dX8_set_46 : decode cX8_set 46 = .ok (.aload_n 0, 1) := by decide +kernel
theorem dX8_set_47 : decode cX8_set 47 = .ok (.iconst 0, 1) := by decide +kernel
theorem dX8_set_48 : decode cX8_set 48 = .ok (.putfield 60, 3) := by decide +kernel
theorem dX8_set_51 : decode cX8_set 51 = .ok (.aload_n 0, 1) := by decide +kernel
theorem dX8_set_52 : decode cX8_set 52 = .ok (.iconst 0, 1) := by decide +kernel
theorem dX8_set_53 : decode cX8_set 53 = .ok (.putfield 63, 3) := by decide +kernel
theorem dX8_set_56 : decode cX8_set 56 = .ok (.return_, 1) := by decide +kernel
theorem dX8_n_0 : decode cX8_n 0 = .ok (.aload_n 0, 1) := by decide +kernel
theorem dX8_n_1 : decode cX8_n 1 = .ok (.getfield 9, 3) := by decide +kernel
theorem dX8_n_4 : decode cX8_n 4 = .ok (.iconst 0, 1) := by decide +kernel
theorem dX8_n_5 : decode cX8_n 5 = .ok (.iaload, 1) := by decide +kernel
theorem dX8_n_6 : decode cX8_n 6 = .ok (.ireturn, 1) := by decide +kernel
theorem dX8_m_0 : decode cX8_m 0 = .ok (.aload_n 0, 1) := by decide +kernel
theorem dX8_m_1 : decode cX8_m 1 = .ok (.getfield 9, 3) := by decide +kernel
theorem dX8_m_4 : decode cX8_m 4 = .ok (.iconst 1, 1) := by decide +kernel
theorem dX8_m_5 : decode cX8_m 5 = .ok (.iaload, 1) := by decide +kernel
theorem dX8_m_6 : decode cX8_m 6 = .ok (.ireturn, 1) := by decide +kernel
theorem dX8_w_0 : decode cX8_w 0 = .ok (.aload_n 0, 1) := by decide +kernel
theorem dX8_w_1 : decode cX8_w 1 = .ok (.getfield 9, 3) := by decide +kernel
theorem dX8_w_4 : decode cX8_w 4 = .ok (.iconst 2, 1) := by decide +kernel
theorem dX8_w_5 : decode cX8_w 5 = .ok (.iaload, 1) := by decide +kernel
theorem dX8_w_6 : decode cX8_w 6 = .ok (.ireturn, 1) := by decide +kernel
theorem dX8_buttons_0 : decode cX8_buttons 0 = .ok (.aload_n 0, 1) := by decide +kernel
theorem dX8_buttons_1 : decode cX8_buttons 1 = .ok (.getfield 9, 3) := by decide +kernel
theorem dX8_buttons_4 : decode cX8_buttons 4 = .ok (.iconst 3, 1) := by decide +kernel
theorem dX8_buttons_5 : decode cX8_buttons 5 = .ok (.iaload, 1) := by decide +kernel
theorem dX8_buttons_6 : decode cX8_buttons 6 = .ok (.ireturn, 1) := by decide +kernel
theorem dX8_plate_0 : decode cX8_plate 0 = .ok (.iload_n 1, 1) := by decide +kernel
theorem dX8_plate_1 : decode cX8_plate 1 = .ok (.i2l, 1) := by decide +kernel
theorem dX8_plate_2 : decode cX8_plate 2 = .ok (.lconst 1, 1) := by decide +kernel
theorem dX8_plate_3 : decode cX8_plate 3 = .ok (.ldc2_w 67, 3) := by decide +kernel
theorem dX8_plate_6 : decode cX8_plate 6 = .ok (.invokestatic 69, 3) := by decide +kernel
theorem dX8_plate_9 : decode cX8_plate 9 = .ok (.ifCond .eq 28, 3) := by decide +kernel
theorem dX8_plate_12 : decode cX8_plate 12 = .ok (.iload_n 2, 1) := by decide +kernel
theorem dX8_plate_13 : decode cX8_plate 13 = .ok (.i2l, 1) := by decide +kernel
theorem dX8_plate_14 : decode cX8_plate 14 = .ok (.ldc2_w 73, 3) := by decide +kernel
theorem dX8_plate_17 : decode cX8_plate 17 = .ok (.ldc2_w 75, 3) := by decide +kernel
theorem dX8_plate_20 : decode cX8_plate 20 = .ok (.invokestatic 69, 3) := by decide +kernel
theorem dX8_plate_23 : decode cX8_plate 23 = .ok (.ifCond .eq 14, 3) := by decide +kernel
theorem dX8_plate_26 : decode cX8_plate 26 = .ok (.iload_n 3, 1) := by decide +kernel
theorem dX8_plate_27 : decode cX8_plate 27 = .ok (.i2l, 1) := by decide +kernel
theorem dX8_plate_28 : decode cX8_plate 28 = .ok (.lconst 1, 1) := by decide +kernel
theorem dX8_plate_29 : decode cX8_plate 29 = .ok (.iload_n 1, 1) := by decide +kernel
theorem dX8_plate_30 : decode cX8_plate 30 = .ok (.i2l, 1) := by decide +kernel
theorem dX8_plate_31 : decode cX8_plate 31 = .ok (.invokestatic 69, 3) := by decide +kernel
theorem dX8_plate_34 : decode cX8_plate 34 = .ok (.ifCond .ne 5, 3) := by decide +kernel
theorem dX8_plate_37 : decode cX8_plate 37 = .ok (.iconst 0, 1) := by decide +kernel
theorem dX8_plate_38 : decode cX8_plate 38 = .ok (.ireturn, 1) := by decide +kernel
theorem dX8_plate_39 : decode cX8_plate 39 = .ok (.aload_n 0, 1) := by decide +kernel
theorem dX8_plate_40 : decode cX8_plate 40 = .ok (.iload_n 1, 1) := by decide +kernel
theorem dX8_plate_41 : decode cX8_plate 41 = .ok (.iload_n 2, 1) := by decide +kernel
theorem dX8_plate_42 : decode cX8_plate 42 = .ok (.iload_n 3, 1) := by decide +kernel
theorem dX8_plate_43 : decode cX8_plate 43 = .ok (.invokevirtual 56, 3) := by decide +kernel
theorem dX8_plate_46 : decode cX8_plate 46 = .ok (.iconst 1, 1) := by decide +kernel
theorem dX8_plate_47 : decode cX8_plate 47 = .ok (.ireturn, 1) := by decide +kernel
theorem dX8_act_0 : decode cX8_act 0 = .ok (.aload_n 0, 1) := by decide +kernel
theorem dX8_act_1 : decode cX8_act 1 = .ok (.aload_n 0, 1) := by decide +kernel
theorem dX8_act_2 : decode cX8_act 2 = .ok (.getfield 77, 3) := by decide +kernel
theorem dX8_act_5 : decode cX8_act 5 = .ok (.iconst 1, 1) := by decide +kernel
theorem dX8_act_6 : decode cX8_act 6 = .ok (.iadd, 1) := by decide +kernel
theorem dX8_act_7 : decode cX8_act 7 = .ok (.bipush 60, 2) := by decide +kernel
theorem dX8_act_9 : decode cX8_act 9 = .ok (.irem, 1) := by decide +kernel
theorem dX8_act_10 : decode cX8_act 10 = .ok (.putfield 77, 3) := by decide +kernel
theorem dX8_act_13 : decode cX8_act 13 = .ok (.iconst 0, 1) := by decide +kernel
theorem dX8_act_14 : decode cX8_act 14 = .ok (.istore_n 1, 1) := by decide +kernel
theorem dX8_act_15 : decode cX8_act 15 = .ok (.iload_n 1, 1) := by decide +kernel
theorem dX8_act_16 : decode cX8_act 16 = .ok (.sipush 1516, 3) := by decide +kernel
theorem dX8_act_19 : decode cX8_act 19 = .ok (.if_icmp .ge 30, 3) := by decide +kernel
theorem dX8_act_22 : decode cX8_act 22 = .ok (.aload_n 0, 1) := by decide +kernel
theorem dX8_act_23 : decode cX8_act 23 = .ok (.getfield 17, 3) := by decide +kernel
theorem dX8_act_26 : decode cX8_act 26 = .ok (.aload_n 0, 1) := by decide +kernel
theorem dX8_act_27 : decode cX8_act 27 = .ok (.getfield 77, 3) := by decide +kernel
theorem dX8_act_30 : decode cX8_act 30 = .ok (.sipush 1516, 3) := by decide +kernel
theorem dX8_act_33 : decode cX8_act 33 = .ok (.imul, 1) := by decide +kernel
theorem dX8_act_34 : decode cX8_act 34 = .ok (.iload_n 1, 1) := by decide +kernel
theorem dX8_act_35 : decode cX8_act 35 = .ok (.iadd, 1) := by decide +kernel
theorem dX8_act_36 : decode cX8_act 36 = .ok (.aload_n 0, 1) := by decide +kernel
theorem dX8_act_37 : decode cX8_act 37 = .ok (.getfield 9, 3) := by decide +kernel
theorem dX8_act_40 : decode cX8_act 40 = .ok (.iload_n 1, 1) := by decide +kernel
theorem dX8_act_41 : decode cX8_act 41 = .ok (.iaload, 1) := by decide +kernel
theorem dX8_act_42 : decode cX8_act 42 = .ok (.iastore, 1) := by decide +kernel
theorem dX8_act_43 : decode cX8_act 43 = .ok (.iinc 1 1, 3) := by decide +kernel
theorem dX8_act_46 : decode cX8_act 46 = .ok (.goto (-31), 3) := by decide +kernel
theorem dX8_act_49 : decode cX8_act 49 = .ok (.aload_n 0, 1) := by decide +kernel
theorem dX8_act_50 : decode cX8_act 50 = .ok (.aload_n 0, 1) := by decide +kernel
theorem dX8_act_51 : decode cX8_act 51 = .ok (.getfield 60, 3) := by decide +kernel
theorem dX8_act_54 : decode cX8_act 54 = .ok (.bipush 60, 2) := by decide +kernel
theorem dX8_act_56 : decode cX8_act 56 = .ok (.if_icmp .ge 12, 3) := by decide +kernel
theorem dX8_act_59 : decode cX8_act 59 = .ok (.aload_n 0, 1) := by decide +kernel
theorem dX8_act_60 : decode cX8_act 60 = .ok (.getfield 60, 3) := by decide +kernel
theorem dX8_act_63 : decode cX8_act 63 = .ok (.iconst 1, 1) := by decide +kernel
theorem dX8_act_64 : decode cX8_act 64 = .ok (.iadd, 1) := by decide +kernel
theorem dX8_act_65 : decode cX8_act 65 = .ok (.goto 5, 3) := by decide +kernel
theorem dX8_act_68 : decode cX8_act 68 = .ok (.bipush 60, 2) := by decide +kernel
theorem dX8_act_70 : decode cX8_act 70 = .ok (.putfield 60, 3) := by decide +kernel
theorem dX8_act_73 : decode cX8_act 73 = .ok (.aload_n 0, 1) := by decide +kernel
theorem dX8_act_74 : decode cX8_act 74 = .ok (.iconst 0, 1) := by decide +kernel
theorem dX8_act_75 : decode cX8_act 75 = .ok (.putfield 63, 3) := by decide +kernel
theorem dX8_act_78 : decode cX8_act 78 = .ok (.return_, 1) := by decide +kernel
theorem dX8_isLine_0 : decode cX8_isLine 0 = .ok (.iload_n 1, 1) := by decide +kernel
theorem dX8_isLine_1 : decode cX8_isLine 1 = .ok (.bipush 100, 2) := by decide +kernel
theorem dX8_isLine_3 : decode cX8_isLine 3 = .ok (.if_icmp .lt 22, 3) := by decide +kernel
theorem dX8_isLine_6 : decode cX8_isLine 6 = .ok (.iload_n 1, 1) := by decide +kernel
theorem dX8_isLine_7 : decode cX8_isLine 7 = .ok (.bipush 100, 2) := by decide +kernel
theorem dX8_isLine_9 : decode cX8_isLine 9 = .ok (.isub, 1) := by decide +kernel
theorem dX8_isLine_10 : decode cX8_isLine 10 = .ok (.aload_n 0, 1) := by decide +kernel
theorem dX8_isLine_11 : decode cX8_isLine 11 = .ok (.invokevirtual 80, 3) := by decide +kernel
theorem dX8_isLine_14 : decode cX8_isLine 14 = .ok (.if_icmp .ge 7, 3) := by decide +kernel
theorem dX8_isLine_17 : decode cX8_isLine 17 = .ok (.iconst 1, 1) := by decide +kernel
theorem dX8_isLine_18 : decode cX8_isLine 18 = .ok (.goto 29, 3) := by decide +kernel
theorem dX8_isLine_21 : decode cX8_isLine 21 = .ok (.iconst 0, 1) := by decide +kernel
theorem dX8_isLine_22 : decode cX8_isLine 22 = .ok (.goto 25, 3) := by decide +kernel
theorem dX8_isLine_25 : decode cX8_isLine 25 = .ok (.iload_n 1, 1) := by decide +kernel
theorem dX8_isLine_26 : decode cX8_isLine 26 = .ok (.ifCond .lt 20, 3) := by decide +kernel
theorem dX8_isLine_29 : decode cX8_isLine 29 = .ok (.iload_n 1, 1) := by decide +kernel
theorem dX8_isLine_30 : decode cX8_isLine 30 = .ok (.aload_n 0, 1) := by decide +kernel
theorem dX8_isLine_31 : decode cX8_isLine 31 = .ok (.invokevirtual 80, 3) := by decide +kernel
theorem dX8_isLine_34 : decode cX8_isLine 34 = .ok (.imul, 1) := by decide +kernel
theorem dX8_isLine_35 : decode cX8_isLine 35 = .ok (.aload_n 0, 1) := by decide +kernel
theorem dX8_isLine_36 : decode cX8_isLine 36 = .ok (.invokevirtual 84, 3) := by decide +kernel
theorem dX8_isLine_39 : decode cX8_isLine 39 = .ok (.if_icmp .ge 7, 3) := by decide +kernel
theorem dX8_isLine_42 : decode cX8_isLine 42 = .ok (.iconst 1, 1) := by decide +kernel
theorem dX8_isLine_43 : decode cX8_isLine 43 = .ok (.goto 4, 3) := by decide +kernel
theorem dX8_isLine_46 : decode cX8_isLine 46 = .ok (.iconst 0, 1) := by decide +kernel
theorem dX8_isLine_47 : decode cX8_isLine 47 = .ok (.ireturn, 1) := by decide +kernel
theorem dX8_button_0 : decode cX8_button 0 = .ok (.iload_n 1, 1) := by decide +kernel
theorem dX8_button_1 : decode cX8_button 1 = .ok (.i2l, 1) := by decide +kernel
theorem dX8_button_2 : decode cX8_button 2 = .ok (.lconst 0, 1) := by decide +kernel
theorem dX8_button_3 : decode cX8_button 3 = .ok (.ldc2_w 87, 3) := by decide +kernel
theorem dX8_button_6 : decode cX8_button 6 = .ok (.invokestatic 69, 3) := by decide +kernel
theorem dX8_button_9 : decode cX8_button 9 = .ok (.ifCond .eq 12, 3) := by decide +kernel
theorem dX8_button_12 : decode cX8_button 12 = .ok (.aload_n 0, 1) := by decide +kernel
theorem dX8_button_13 : decode cX8_button 13 = .ok (.invokevirtual 89, 3) := by decide +kernel
theorem dX8_button_16 : decode cX8_button 16 = .ok (.bipush 36, 2) := by decide +kernel
theorem dX8_button_18 : decode cX8_button 18 = .ok (.if_icmp .ne 5, 3) := by decide +kernel
theorem dX8_button_21 : decode cX8_button 21 = .ok (.iconst (-1), 1) := by decide +kernel
theorem dX8_button_22 : decode cX8_button 22 = .ok (.ireturn, 1) := by decide +kernel
theorem dX8_button_23 : decode cX8_button 23 = .ok (.iload_n 1, 1) := by decide +kernel
theorem dX8_button_24 : decode cX8_button 24 = .ok (.ifCond .eq 81, 3) := by decide +kernel
theorem dX8_button_27 : decode cX8_button 27 = .ok (.iload_n 1, 1) := by decide +kernel
theorem dX8_button_28 : decode cX8_button 28 = .ok (.iconst 2, 1) := by decide +kernel
theorem dX8_button_29 : decode cX8_button 29 = .ok (.if_icmp .eq 8, 3) := by decide +kernel
theorem dX8_button_32 : decode cX8_button 32 = .ok (.iload_n 1, 1) := by decide +kernel
theorem dX8_button_33 : decode cX8_button 33 = .ok (.iconst 3, 1) := by decide +kernel
theorem dX8_button_34 : decode cX8_button 34 = .ok (.if_icmp .ne 11, 3) := by decide +kernel
theorem dX8_button_37 : decode cX8_button 37 = .ok (.aload_n 0, 1) := by decide +kernel
theorem dX8_button_38 : decode cX8_button 38 = .ok (.iload_n 2, 1) := by decide +kernel
theorem dX8_button_39 : decode cX8_button 39 = .ok (.invokevirtual 92, 3) := by decide +kernel
theorem dX8_button_42 : decode cX8_button 42 = .ok (.goto 16, 3) := by decide +kernel
theorem dX8_button_45 : decode cX8_button 45 = .ok (.iload_n 2, 1) := by decide +kernel
theorem dX8_button_46 : decode cX8_button 46 = .ok (.i2l, 1) := by decide +kernel
theorem dX8_button_47 : decode cX8_button 47 = .ok (.lconst 0, 1) := by decide +kernel
theorem dX8_button_48 : decode cX8_button 48 = .ok (.aload_n 0, 1) := by decide +kernel
theorem dX8_button_49 : decode cX8_button 49 = .ok (.invokevirtual 84, 3) := by decide +kernel
theorem dX8_button_52 : decode cX8_button 52 = .ok (.iconst 1, 1) := by decide +kernel
theorem dX8_button_53 : decode cX8_button 53 = .ok (.isub, 1) := by decide +kernel
theorem dX8_button_54 : decode cX8_button 54 = .ok (.i2l, 1) := by decide +kernel
theorem dX8_button_55 : decode cX8_button 55 = .ok (.invokestatic 69, 3) := by decide +kernel
theorem dX8_button_58 : decode cX8_button 58 = .ok (.istore 5, 2) := by decide +kernel
theorem dX8_button_60 : decode cX8_button 60 = .ok (.iload 5, 2) := by decide +kernel
theorem dX8_button_62 : decode cX8_button 62 = .ok (.ifCond .eq 41, 3) := by decide +kernel
theorem dX8_button_65 : decode cX8_button 65 = .ok (.iload_n 3, 1) := by decide +kernel
theorem dX8_button_66 : decode cX8_button 66 = .ok (.i2l, 1) := by decide +kernel
theorem dX8_button_67 : decode cX8_button 67 = .ok (.lconst 0, 1) := by decide +kernel
theorem dX8_button_68 : decode cX8_button 68 = .ok (.aload_n 0, 1) := by decide +kernel
theorem dX8_button_69 : decode cX8_button 69 = .ok (.invokevirtual 96, 3) := by decide +kernel
theorem dX8_button_72 : decode cX8_button 72 = .ok (.iconst 1, 1) := by decide +kernel
theorem dX8_button_73 : decode cX8_button 73 = .ok (.isub, 1) := by decide +kernel
theorem dX8_button_74 : decode cX8_button 74 = .ok (.i2l, 1) := by decide +kernel
theorem dX8_button_75 : decode cX8_button 75 = .ok (.invokestatic 69, 3) := by decide +kernel
theorem dX8_button_78 : decode cX8_button 78 = .ok (.ifCond .eq 25, 3) := by decide +kernel
theorem dX8_button_81 : decode cX8_button 81 = .ok (.iload_n 1, 1) := by decide +kernel
theorem dX8_button_82 : decode cX8_button 82 = .ok (.iconst 4, 1) := by decide +kernel
theorem dX8_button_83 : decode cX8_button 83 = .ok (.if_icmp .ne 22, 3) := by decide +kernel
theorem dX8_button_86 : decode cX8_button 86 = .ok (.iload 4, 2) := by decide +kernel
theorem dX8_button_88 : decode cX8_button 88 = .ok (.i2l, 1) := by decide +kernel
theorem dX8_button_89 : decode cX8_button 89 = .ok (.lconst 0, 1) := by decide +kernel
theorem dX8_button_90 : decode cX8_button 90 = .ok (.aload_n 0, 1) := by decide +kernel
theorem dX8_button_91 : decode cX8_button 91 = .ok (.invokevirtual 89, 3) := by decide +kernel
theorem dX8_button_94 : decode cX8_button 94 = .ok (.iconst 1, 1) := by decide +kernel
theorem dX8_button_95 : decode cX8_button 95 = .ok (.isub, 1) := by decide +kernel
theorem dX8_button_96 : decode cX8_button 96 = .ok (.i2l, 1) := by decide +kernel
theorem dX8_button_97 : decode cX8_button 97 = .ok (.invokestatic 69, 3) := by decide +kernel
theorem dX8_button_100 : decode cX8_button 100 = .ok (.ifCond .ne 5, 3) := by decide +kernel
theorem dX8_button_103 : decode cX8_button 103 = .ok (.iconst (-1), 1) := by decide +kernel
theorem dX8_button_104 : decode cX8_button 104 = .ok (.ireturn, 1) := by decide +kernel
theorem dX8_button_105 : decode cX8_button 105 = .ok (.aload_n 0, 1) := by decide +kernel
theorem dX8_button_106 : decode cX8_button 106 = .ok (.invokevirtual 99, 3) := by decide +kernel
theorem dX8_button_109 : decode cX8_button 109 = .ok (.aload_n 0, 1) := by decide +kernel
theorem dX8_button_110 : decode cX8_button 110 = .ok (.invokevirtual 89, 3) := by decide +kernel
theorem dX8_button_113 : decode cX8_button 113 = .ok (.istore 5, 2) := by decide +kernel
theorem dX8_button_115 : decode cX8_button 115 = .ok (.aload_n 0, 1) := by decide +kernel
theorem dX8_button_116 : decode cX8_button 116 = .ok (.getfield 9, 3) := by decide +kernel
theorem dX8_button_119 : decode cX8_button 119 = .ok (.iconst 3, 1) := by decide +kernel
theorem dX8_button_120 : decode cX8_button 120 = .ok (.dup2, 1) := by decide +kernel
theorem dX8_button_121 : decode cX8_button 121 = .ok (.iaload, 1) := by decide +kernel
theorem dX8_button_122 : decode cX8_button 122 = .ok (.iconst 1, 1) := by decide +kernel
theorem dX8_button_123 : decode cX8_button 123 = .ok (.iadd, 1) := by decide +kernel
theorem dX8_button_124 : decode cX8_button 124 = .ok (.iastore, 1) := by decide +kernel
theorem dX8_button_125 : decode cX8_button 125 = .ok (.aload_n 0, 1) := by decide +kernel
theorem dX8_button_126 : decode cX8_button 126 = .ok (.getfield 9, 3) := by decide +kernel
theorem dX8_button_129 : decode cX8_button 129 = .ok (.bipush 40, 2) := by decide +kernel
theorem dX8_button_131 : decode cX8_button 131 = .ok (.iload 5, 2) := by decide +kernel
theorem dX8_button_133 : decode cX8_button 133 = .ok (.iadd, 1) := by decide +kernel
theorem dX8_button_134 : decode cX8_button 134 = .ok (.iload_n 1, 1) := by decide +kernel
theorem dX8_button_135 : decode cX8_button 135 = .ok (.iastore, 1) := by decide +kernel
theorem dX8_button_136 : decode cX8_button 136 = .ok (.aload_n 0, 1) := by decide +kernel
theorem dX8_button_137 : decode cX8_button 137 = .ok (.getfield 9, 3) := by decide +kernel
theorem dX8_button_140 : decode cX8_button 140 = .ok (.bipush 76, 2) := by decide +kernel
theorem dX8_button_142 : decode cX8_button 142 = .ok (.iload 5, 2) := by decide +kernel
theorem dX8_button_144 : decode cX8_button 144 = .ok (.iadd, 1) := by decide +kernel
theorem dX8_button_145 : decode cX8_button 145 = .ok (.iload_n 1, 1) := by decide +kernel
theorem dX8_button_146 : decode cX8_button 146 = .ok (.ifCond .ne 7, 3) := by decide +kernel
theorem dX8_button_149 : decode cX8_button 149 = .ok (.iconst 0, 1) := by decide +kernel
theorem dX8_button_150 : decode cX8_button 150 = .ok (.goto 4, 3) := by decide +kernel
theorem dX8_button_153 : decode cX8_button 153 = .ok (.iload_n 2, 1) := by decide +kernel
theorem dX8_button_154 : decode cX8_button 154 = .ok (.iastore, 1) := by decide +kernel
theorem dX8_button_155 : decode cX8_button 155 = .ok (.aload_n 0, 1) := by decide +kernel
theorem dX8_button_156 : decode cX8_button 156 = .ok (.getfield 9, 3) := by decide +kernel
theorem dX8_button_159 : decode cX8_button 159 = .ok (.bipush 112, 2) := by decide +kernel
theorem dX8_button_161 : decode cX8_button 161 = .ok (.iload 5, 2) := by decide +kernel
theorem dX8_button_163 : decode cX8_button 163 = .ok (.iadd, 1) := by decide +kernel
theorem dX8_button_164 : decode cX8_button 164 = .ok (.iload_n 1, 1) := by decide +kernel
theorem dX8_button_165 : decode cX8_button 165 = .ok (.ifCond .ne 7, 3) := by decide +kernel
theorem dX8_button_168 : decode cX8_button 168 = .ok (.iconst 0, 1) := by decide +kernel
theorem dX8_button_169 : decode cX8_button 169 = .ok (.goto 4, 3) := by decide +kernel
theorem dX8_button_172 : decode cX8_button 172 = .ok (.iload_n 3, 1) := by decide +kernel
theorem dX8_button_173 : decode cX8_button 173 = .ok (.iastore, 1) := by decide +kernel
theorem dX8_button_174 : decode cX8_button 174 = .ok (.aload_n 0, 1) := by decide +kernel
theorem dX8_button_175 : decode cX8_button 175 = .ok (.getfield 9, 3) := by decide +kernel
theorem dX8_button_178 : decode cX8_button 178 = .ok (.sipush 148, 3) := by decide +kernel
theorem dX8_button_181 : decode cX8_button 181 = .ok (.iload 5, 2) := by decide +kernel
theorem dX8_button_183 : decode cX8_button 183 = .ok (.iadd, 1) := by decide +kernel
theorem dX8_button_184 : decode cX8_button 184 = .ok (.iload_n 1, 1) := by decide +kernel
theorem dX8_button_185 : decode cX8_button 185 = .ok (.iconst 4, 1) := by decide +kernel
theorem dX8_button_186 : decode cX8_button 186 = .ok (.if_icmp .ne 8, 3) := by decide +kernel
theorem dX8_button_189 : decode cX8_button 189 = .ok (.iload 4, 2) := by decide +kernel
theorem dX8_button_191 : decode cX8_button 191 = .ok (.goto 4, 3) := by decide +kernel
theorem dX8_button_194 : decode cX8_button 194 = .ok (.iconst 0, 1) := by decide +kernel
theorem dX8_button_195 : decode cX8_button 195 = .ok (.iastore, 1) := by decide +kernel
theorem dX8_button_196 : decode cX8_button 196 = .ok (.aload_n 0, 1) := by decide +kernel
theorem dX8_button_197 : decode cX8_button 197 = .ok (.getfield 9, 3) := by decide +kernel
theorem dX8_button_200 : decode cX8_button 200 = .ok (.sipush 184, 3) := by decide +kernel
theorem dX8_button_203 : decode cX8_button 203 = .ok (.iload 5, 2) := by decide +kernel
theorem dX8_button_205 : decode cX8_button 205 = .ok (.iadd, 1) := by decide +kernel
theorem dX8_button_206 : decode cX8_button 206 = .ok (.iconst 1, 1) := by decide +kernel
theorem dX8_button_207 : decode cX8_button 207 = .ok (.iastore, 1) := by decide +kernel
theorem dX8_button_208 : decode cX8_button 208 = .ok (.iconst 0, 1) := by decide +kernel
theorem dX8_button_209 : decode cX8_button 209 = .ok (.istore 6, 2) := by decide +kernel
theorem dX8_button_211 : decode cX8_button 211 = .ok (.iload 6, 2) := by decide +kernel
theorem dX8_button_213 : decode cX8_button 213 = .ok (.bipush 36, 2) := by decide +kernel
theorem dX8_button_215 : decode cX8_button 215 = .ok (.if_icmp .ge 27, 3) := by decide +kernel
theorem dX8_button_218 : decode cX8_button 218 = .ok (.aload_n 0, 1) := by decide +kernel
theorem dX8_button_219 : decode cX8_button 219 = .ok (.getfield 9, 3) := by decide +kernel
theorem dX8_button_222 : decode cX8_button 222 = .ok (.sipush 220, 3) := by decide +kernel
theorem dX8_button_225 : decode cX8_button 225 = .ok (.bipush 36, 2) := by decide +kernel
theorem dX8_button_227 : decode cX8_button 227 = .ok (.iload 5, 2) := by decide +kernel
theorem dX8_button_229 : decode cX8_button 229 = .ok (.imul, 1) := by decide +kernel
