theorem dX6_init_0 : decode cX6_init 0 = .ok (.aload_n 0, 1) := by decide +kernel
theorem dX6_init_1 : decode cX6_init 1 = .ok (.invokespecial 1, 3) := by decide +kernel
theorem dX6_init_4 : decode cX6_init 4 = .ok (.aload_n 0, 1) := by decide +kernel
theorem dX6_init_5 : decode cX6_init 5 = .ok (.new 7, 3) := by decide +kernel
theorem dX6_init_8 : decode cX6_init 8 = .ok (.dup, 1) := by decide +kernel
theorem dX6_init_9 : decode cX6_init 9 = .ok (.invokespecial 9, 3) := by decide +kernel
theorem dX6_init_12 : decode cX6_init 12 = .ok (.putfield 10, 3) := by decide +kernel
theorem dX6_init_15 : decode cX6_init 15 = .ok (.aload_n 0, 1) := by decide +kernel
theorem dX6_init_16 : decode cX6_init 16 = .ok (.new 16, 3) := by decide +kernel
theorem dX6_init_19 : decode cX6_init 19 = .ok (.dup, 1) := by decide +kernel
theorem dX6_init_20 : decode cX6_init 20 = .ok (.aload_n 0, 1) := by decide +kernel
theorem dX6_init_21 : decode cX6_init 21 = .ok (.getfield 10, 3) := by decide +kernel
theorem dX6_init_24 : decode cX6_init 24 = .ok (.invokespecial 18, 3) := by decide +kernel
theorem dX6_init_27 : decode cX6_init 27 = .ok (.putfield 21, 3) := by decide +kernel
theorem dX6_init_30 : decode cX6_init 30 = .ok (.aload_n 0, 1) := by decide +kernel
theorem dX6_init_31 : decode cX6_init 31 = .ok (.new 25, 3) := by decide +kernel
theorem dX6_init_34 : decode cX6_init 34 = .ok (.dup, 1) := by decide +kernel
theorem dX6_init_35 : decode cX6_init 35 = .ok (.aload_n 0, 1) := by decide +kernel
theorem dX6_init_36 : decode cX6_init 36 = .ok (.getfield 10, 3) := by decide +kernel
theorem dX6_init_39 : decode cX6_init 39 = .ok (.aload_n 0, 1) := by decide +kernel
theorem dX6_init_40 : decode cX6_init 40 = .ok (.getfield 21, 3) := by decide +kernel
theorem dX6_init_43 : decode cX6_init 43 = .ok (.invokespecial 27, 3) := by decide +kernel
theorem dX6_init_46 : decode cX6_init 46 = .ok (.putfield 30, 3) := by decide +kernel
theorem dX6_init_49 : decode cX6_init 49 = .ok (.aload_n 0, 1) := by decide +kernel
theorem dX6_init_50 : decode cX6_init 50 = .ok (.new 34, 3) := by decide +kernel
theorem dX6_init_53 : decode cX6_init 53 = .ok (.dup, 1) := by decide +kernel
theorem dX6_init_54 : decode cX6_init 54 = .ok (.aload_n 0, 1) := by decide +kernel
theorem dX6_init_55 : decode cX6_init 55 = .ok (.getfield 10, 3) := by decide +kernel
theorem dX6_init_58 : decode cX6_init 58 = .ok (.aload_n 0, 1) := by decide +kernel
theorem dX6_init_59 : decode cX6_init 59 = .ok (.getfield 21, 3) := by decide +kernel
theorem dX6_init_62 : decode cX6_init 62 = .ok (.invokespecial 36, 3) := by decide +kernel
theorem dX6_init_65 : decode cX6_init 65 = .ok (.putfield 37, 3) := by decide +kernel
theorem dX6_init_68 : decode cX6_init 68 = .ok (.aload_n 0, 1) := by decide +kernel
theorem dX6_init_69 : decode cX6_init 69 = .ok (.new 41, 3) := by decide +kernel
theorem dX6_init_72 : decode cX6_init 72 = .ok (.dup, 1) := by decide +kernel
theorem dX6_init_73 : decode cX6_init 73 = .ok (.aload_n 0, 1) := by decide +kernel
theorem dX6_init_74 : decode cX6_init 74 = .ok (.getfield 21, 3) := by decide +kernel
theorem dX6_init_77 : decode cX6_init 77 = .ok (.invokespecial 43, 3) := by decide +kernel
theorem dX6_init_80 : decode cX6_init 80 = .ok (.putfield 46, 3) := by decide +kernel
theorem dX6_init_83 : decode cX6_init 83 = .ok (.aload_n 0, 1) := by decide +kernel
theorem dX6_init_84 : decode cX6_init 84 = .ok (.new 50, 3) := by decide +kernel
theorem dX6_init_87 : decode cX6_init 87 = .ok (.dup, 1) := by decide +kernel
theorem dX6_init_88 : decode cX6_init 88 = .ok (.invokespecial 52, 3) := by decide +kernel
theorem dX6_init_91 : decode cX6_init 91 = .ok (.putfield 53, 3) := by decide +kernel
theorem dX6_init_94 : decode cX6_init 94 = .ok (.aload_n 0, 1) := by decide +kernel
theorem dX6_init_95 : decode cX6_init 95 = .ok (.bipush 10, 2) := by decide +kernel
theorem dX6_init_97 : decode cX6_init 97 = .ok (.putfield 57, 3) := by decide +kernel
theorem dX6_init_100 : decode cX6_init 100 = .ok (.aload_n 0, 1) := by decide +kernel
theorem dX6_init_101 : decode cX6_init 101 = .ok (.iconst 0, 1) := by decide +kernel
theorem dX6_init_102 : decode cX6_init 102 = .ok (.putfield 61, 3) := by decide +kernel
theorem dX6_init_105 : decode cX6_init 105 = .ok (.return_, 1) := by decide +kernel
theorem dX6_begin_0 : decode cX6_begin 0 = .ok (.iload_n 1, 1) := by decide +kernel
theorem dX6_begin_1 : decode cX6_begin 1 = .ok (.ifCond .lt 17, 3) := by decide +kernel
theorem dX6_begin_4 : decode cX6_begin 4 = .ok (.iload_n 1, 1) := by decide +kernel
theorem dX6_begin_5 : decode cX6_begin 5 = .ok (.bipush 63, 2) := by decide +kernel
theorem dX6_begin_7 : decode cX6_begin 7 = .ok (.if_icmp .gt 11, 3) := by decide +kernel
theorem dX6_begin_10 : decode cX6_begin 10 = .ok (.iload_n 1, 1) := by decide +kernel
theorem dX6_begin_11 : decode cX6_begin 11 = .ok (.invokestatic 64, 3) := by decide +kernel
theorem dX6_begin_14 : decode cX6_begin 14 = .ok (.iconst 2, 1) := by decide +kernel
theorem dX6_begin_15 : decode cX6_begin 15 = .ok (.if_icmp .ge 13, 3) := by decide +kernel
theorem dX6_begin_18 : decode cX6_begin 18 = .ok (.new 70, 3) := by decide +kernel
theorem dX6_begin_21 : decode cX6_begin 21 = .ok (.dup, 1) := by decide +kernel
theorem dX6_begin_22 : decode cX6_begin 22 = .ok (.ldc 72, 2) := by decide +kernel
theorem dX6_begin_24 : decode cX6_begin 24 = .ok (.invokespecial 74, 3) := by decide +kernel
theorem dX6_begin_27 : decode cX6_begin 27 = .ok (.athrow, 1) := by decide +kernel
theorem dX6_begin_28 : decode cX6_begin 28 = .ok (.aload_n 0, 1) := by decide +kernel
theorem dX6_begin_29 : decode cX6_begin 29 = .ok (.getfield 21, 3) := by decide +kernel
theorem dX6_begin_32 : decode cX6_begin 32 = .ok (.iload_n 1, 1) := by decide +kernel
theorem dX6_begin_33 : decode cX6_begin 33 = .ok (.invokevirtual 77, 3) := by decide +kernel
theorem dX6_begin_36 : decode cX6_begin 36 = .ok (.aload_n 0, 1) := by decide +kernel
theorem dX6_begin_37 : decode cX6_begin 37 = .ok (.getfield 46, 3) := by decide +kernel
theorem dX6_begin_40 : decode cX6_begin 40 = .ok (.iload_n 1, 1) := by decide +kernel
theorem dX6_begin_41 : decode cX6_begin 41 = .ok (.invokevirtual 81, 3) := by decide +kernel
theorem dX6_begin_44 : decode cX6_begin 44 = .ok (.aload_n 0, 1) := by decide +kernel
theorem dX6_begin_45 : decode cX6_begin 45 = .ok (.getfield 53, 3) := by decide +kernel
theorem dX6_begin_48 : decode cX6_begin 48 = .ok (.invokevirtual 82, 3) := by decide +kernel
theorem dX6_begin_51 : decode cX6_begin 51 = .ok (.return_, 1) := by decide +kernel
theorem dX6_setFill_0 : decode cX6_setFill 0 = .ok (.iload_n 1, 1) := by decide +kernel
theorem dX6_setFill_1 : decode cX6_setFill 1 = .ok (.iconst 1, 1) := by decide +kernel
theorem dX6_setFill_2 : decode cX6_setFill 2 = .ok (.if_icmp .lt 9, 3) := by decide +kernel
theorem dX6_setFill_5 : decode cX6_setFill 5 = .ok (.iload_n 1, 1) := by decide +kernel
theorem dX6_setFill_6 : decode cX6_setFill 6 = .ok (.bipush 10, 2) := by decide +kernel
theorem dX6_setFill_8 : decode cX6_setFill 8 = .ok (.if_icmp .le 13, 3) := by decide +kernel
theorem dX6_setFill_11 : decode cX6_setFill 11 = .ok (.new 70, 3) := by decide +kernel
theorem dX6_setFill_14 : decode cX6_setFill 14 = .ok (.dup, 1) := by decide +kernel
theorem dX6_setFill_15 : decode cX6_setFill 15 = .ok (.ldc 85, 2) := by decide +kernel
theorem dX6_setFill_17 : decode cX6_setFill 17 = .ok (.invokespecial 74, 3) := by decide +kernel
theorem dX6_setFill_20 : decode cX6_setFill 20 = .ok (.athrow, 1) := by decide +kernel
theorem dX6_setFill_21 : decode cX6_setFill 21 = .ok (.aload_n 0, 1) := by decide +kernel
theorem dX6_setFill_22 : decode cX6_setFill 22 = .ok (.getfield 57, 3) := by decide +kernel
theorem dX6_setFill_25 : decode cX6_setFill 25 = .ok (.istore_n 2, 1) := by decide +kernel
theorem dX6_setFill_26 : decode cX6_setFill 26 = .ok (.aload_n 0, 1) := by decide +kernel
theorem dX6_setFill_27 : decode cX6_setFill 27 = .ok (.iload_n 1, 1) := by decide +kernel
theorem dX6_setFill_28 : decode cX6_setFill 28 = .ok (.putfield 57, 3) := by decide +kernel
theorem dX6_setFill_31 : decode cX6_setFill 31 = .ok (.iload_n 2, 1) := by decide +kernel
theorem dX6_setFill_32 : decode cX6_setFill 32 = .ok (.ireturn, 1) := by decide +kernel
theorem dX6_setPatience_0 : decode cX6_setPatience 0 = .ok (.iload_n 1, 1) := by decide +kernel
theorem dX6_setPatience_1 : decode cX6_setPatience 1 = .ok (.ifCond .lt 9, 3) := by decide +kernel
theorem dX6_setPatience_4 : decode cX6_setPatience 4 = .ok (.iload_n 1, 1) := by decide +kernel
theorem dX6_setPatience_5 : decode cX6_setPatience 5 = .ok (.bipush 100, 2) := by decide +kernel
theorem dX6_setPatience_7 : decode cX6_setPatience 7 = .ok (.if_icmp .le 13, 3) := by decide +kernel
theorem dX6_setPatience_10 : decode cX6_setPatience 10 = .ok (.new 70, 3) := by decide +kernel
theorem dX6_setPatience_13 : decode cX6_setPatience 13 = .ok (.dup, 1) := by decide +kernel
theorem dX6_setPatience_14 : decode cX6_setPatience 14 = .ok (.ldc 87, 2) := by decide +kernel
theorem dX6_setPatience_16 : decode cX6_setPatience 16 = .ok (.invokespecial 74, 3) := by decide +kernel
theorem dX6_setPatience_19 : decode cX6_setPatience 19 = .ok (.athrow, 1) := by decide +kernel
theorem dX6_setPatience_20 : decode cX6_setPatience 20 = .ok (.aload_n 0, 1) := by decide +kernel
theorem dX6_setPatience_21 : decode cX6_setPatience 21 = .ok (.getfield 61, 3) := by decide +kernel
theorem dX6_setPatience_24 : decode cX6_setPatience 24 = .ok (.istore_n 2, 1) := by decide +kernel
theorem dX6_setPatience_25 : decode cX6_setPatience 25 = .ok (.aload_n 0, 1) := by decide +kernel
theorem dX6_setPatience_26 : decode cX6_setPatience 26 = .ok (.iload_n 1, 1) := by decide +kernel
theorem dX6_setPatience_27 : decode cX6_setPatience 27 = .ok (.putfield 61, 3) := by decide +kernel
theorem dX6_setPatience_30 : decode cX6_setPatience 30 = .ok (.iload_n 2, 1) := by decide +kernel
theorem dX6_setPatience_31 : decode cX6_setPatience 31 = .ok (.ireturn, 1) := by decide +kernel
theorem dX6_move_0 : decode cX6_move 0 = .ok (.iload_n 1, 1) := by decide +kernel
theorem dX6_move_1 : decode cX6_move 1 = .ok (.invokestatic 89, 3) := by decide +kernel
theorem dX6_move_4 : decode cX6_move 4 = .ok (.ifCond .eq 10, 3) := by decide +kernel
theorem dX6_move_7 : decode cX6_move 7 = .ok (.iload_n 2, 1) := by decide +kernel
theorem dX6_move_8 : decode cX6_move 8 = .ok (.invokestatic 89, 3) := by decide +kernel
theorem dX6_move_11 : decode cX6_move 11 = .ok (.ifCond .ne 13, 3) := by decide +kernel
theorem dX6_move_14 : decode cX6_move 14 = .ok (.new 93, 3) := by decide +kernel
theorem dX6_move_17 : decode cX6_move 17 = .ok (.dup, 1) := by decide +kernel
theorem dX6_move_18 : decode cX6_move 18 = .ok (.ldc 95, 2) := by decide +kernel
theorem dX6_move_20 : decode cX6_move 20 = .ok (.invokespecial 97, 3) := by decide +kernel
theorem dX6_move_23 : decode cX6_move 23 = .ok (.athrow, 1) := by decide +kernel
theorem dX6_move_24 : decode cX6_move 24 = .ok (.aload_n 0, 1) := by decide +kernel
theorem dX6_move_25 : decode cX6_move 25 = .ok (.invokevirtual 98, 3) := by decide +kernel
theorem dX6_move_28 : decode cX6_move 28 = .ok (.ifCond .ne 13, 3) := by decide +kernel
theorem dX6_move_31 : decode cX6_move 31 = .ok (.new 102, 3) := by decide +kernel
theorem dX6_move_34 : decode cX6_move 34 = .ok (.dup, 1) := by decide +kernel
theorem dX6_move_35 : decode cX6_move 35 = .ok (.ldc 104, 2) := by decide +kernel
theorem dX6_move_37 : decode cX6_move 37 = .ok (.invokespecial 106, 3) := by decide +kernel
theorem dX6_move_40 : decode cX6_move 40 = .ok (.athrow, 1) := by decide +kernel
theorem dX6_move_41 : decode cX6_move 41 = .ok (.aload_n 0, 1) := by decide +kernel
theorem dX6_move_42 : decode cX6_move 42 = .ok (.getfield 30, 3) := by decide +kernel
theorem dX6_move_45 : decode cX6_move 45 = .ok (.aload_n 0, 1) := by decide +kernel
theorem dX6_move_46 : decode cX6_move 46 = .ok (.getfield 46, 3) := by decide +kernel
theorem dX6_move_49 : decode cX6_move 49 = .ok (.invokevirtual 107, 3) := by decide +kernel
theorem dX6_move_52 : decode cX6_move 52 = .ok (.iload_n 1, 1) := by decide +kernel
theorem dX6_move_53 : decode cX6_move 53 = .ok (.invokevirtual 111, 3) := by decide +kernel
theorem dX6_move_56 : decode cX6_move 56 = .ok (.aload_n 0, 1) := by decide +kernel
theorem dX6_move_57 : decode cX6_move 57 = .ok (.getfield 30, 3) := by decide +kernel
theorem dX6_move_60 : decode cX6_move 60 = .ok (.iload_n 2, 1) := by decide +kernel
theorem dX6_move_61 : decode cX6_move 61 = .ok (.invokevirtual 115, 3) := by decide +kernel
theorem dX6_move_64 : decode cX6_move 64 = .ok (.istore_n 3, 1) := by decide +kernel
theorem dX6_move_65 : decode cX6_move 65 = .ok (.iload_n 3, 1) := by decide +kernel
theorem dX6_move_66 : decode cX6_move 66 = .ok (.iconst (-1), 1) := by decide +kernel
theorem dX6_move_67 : decode cX6_move 67 = .ok (.if_icmp .ne 13, 3) := by decide +kernel
theorem dX6_move_70 : decode cX6_move 70 = .ok (.new 70, 3) := by decide +kernel
theorem dX6_move_73 : decode cX6_move 73 = .ok (.dup, 1) := by decide +kernel
theorem dX6_move_74 : decode cX6_move 74 = .ok (.ldc 118, 2) := by decide +kernel
theorem dX6_move_76 : decode cX6_move 76 = .ok (.invokespecial 74, 3) := by decide +kernel
theorem dX6_move_79 : decode cX6_move 79 = .ok (.athrow, 1) := by decide +kernel
theorem dX6_move_80 : decode cX6_move 80 = .ok (.aload_n 0, 1) := by decide +kernel
theorem dX6_move_81 : decode cX6_move 81 = .ok (.getfield 53, 3) := by decide +kernel
theorem dX6_move_84 : decode cX6_move 84 = .ok (.iload_n 1, 1) := by decide +kernel
theorem dX6_move_85 : decode cX6_move 85 = .ok (.iload_n 2, 1) := by decide +kernel
theorem dX6_move_86 : decode cX6_move 86 = .ok (.aload_n 0, 1) := by decide +kernel
theorem dX6_move_87 : decode cX6_move 87 = .ok (.getfield 46, 3) := by decide +kernel
theorem dX6_move_90 : decode cX6_move 90 = .ok (.invokevirtual 120, 3) := by decide +kernel
theorem dX6_move_93 : decode cX6_move 93 = .ok (.aload_n 0, 1) := by decide +kernel
theorem dX6_move_94 : decode cX6_move 94 = .ok (.getfield 21, 3) := by decide +kernel
theorem dX6_move_97 : decode cX6_move 97 = .ok (.iload_n 1, 1) := by decide +kernel
theorem dX6_move_98 : decode cX6_move 98 = .ok (.iload_n 2, 1) := by decide +kernel
theorem dX6_move_99 : decode cX6_move 99 = .ok (.invokevirtual 124, 3) := by decide +kernel
theorem dX6_move_102 : decode cX6_move 102 = .ok (.aload_n 0, 1) := by decide +kernel
theorem dX6_move_103 : decode cX6_move 103 = .ok (.getfield 46, 3) := by decide +kernel
theorem dX6_move_106 : decode cX6_move 106 = .ok (.invokevirtual 127, 3) := by decide +kernel
theorem dX6_move_109 : decode cX6_move 109 = .ok (.aload_n 0, 1) := by decide +kernel
theorem dX6_move_110 : decode cX6_move 110 = .ok (.getfield 46, 3) := by decide +kernel
theorem dX6_move_113 : decode cX6_move 113 = .ok (.aload_n 0, 1) := by decide +kernel
theorem dX6_move_114 : decode cX6_move 114 = .ok (.getfield 57, 3) := by decide +kernel
theorem dX6_move_117 : decode cX6_move 117 = .ok (.invokevirtual 130, 3) := by decide +kernel
theorem dX6_move_120 : decode cX6_move 120 = .ok (.aload_n 0, 1) := by decide +kernel
theorem dX6_move_121 : decode cX6_move 121 = .ok (.getfield 46, 3) := by decide +kernel
theorem dX6_move_124 : decode cX6_move 124 = .ok (.aload_n 0, 1) := by decide +kernel
theorem dX6_move_125 : decode cX6_move 125 = .ok (.getfield 61, 3) := by decide +kernel
theorem dX6_move_128 : decode cX6_move 128 = .ok (.invokevirtual 133, 3) := by decide +kernel
theorem dX6_move_131 : decode cX6_move 131 = .ok (.iload_n 3, 1) := by decide +kernel
theorem dX6_move_132 : decode cX6_move 132 = .ok (.ireturn, 1) := by decide +kernel
theorem dX6_pass_0 : decode cX6_pass 0 = .ok (.aload_n 0, 1) := by decide +kernel
theorem dX6_pass_1 : decode cX6_pass 1 = .ok (.invokevirtual 98, 3) := by decide +kernel
theorem dX6_pass_4 : decode cX6_pass 4 = .ok (.ifCond .eq 10, 3) := by decide +kernel
theorem dX6_pass_7 : decode cX6_pass 7 = .ok (.aload_n 0, 1) := by decide +kernel
theorem dX6_pass_8 : decode cX6_pass 8 = .ok (.invokevirtual 136, 3) := by decide +kernel
theorem dX6_pass_11 : decode cX6_pass 11 = .ok (.ifCond .le 13, 3) := by decide +kernel
theorem dX6_pass_14 : decode cX6_pass 14 = .ok (.new 102, 3) := by decide +kernel
theorem dX6_pass_17 : decode cX6_pass 17 = .ok (.dup, 1) := by decide +kernel
theorem dX6_pass_18 : decode cX6_pass 18 = .ok (.ldc 139, 2) := by decide +kernel
theorem dX6_pass_20 : decode cX6_pass 20 = .ok (.invokespecial 106, 3) := by decide +kernel
theorem dX6_pass_23 : decode cX6_pass 23 = .ok (.athrow, 1) := by decide +kernel
theorem dX6_pass_24 : decode cX6_pass 24 = .ok (.aload_n 0, 1) := by decide +kernel
theorem dX6_pass_25 : decode cX6_pass 25 = .ok (.getfield 53, 3) := by decide +kernel
theorem dX6_pass_28 : decode cX6_pass 28 = .ok (.iconst (-1), 1) := by decide +kernel
theorem dX6_pass_29 : decode cX6_pass 29 = .ok (.iconst (-1), 1) := by decide +kernel
theorem dX6_pass_30 : decode cX6_pass 30 = .ok (.aload_n 0, 1) := by decide +kernel
theorem dX6_pass_31 : decode cX6_pass 31 = .ok (.getfield 46, 3) := by decide +kernel
theorem dX6_pass_34 : decode cX6_pass 34 = .ok (.invokevirtual 120, 3) := by decide +kernel
theorem dX6_pass_37 : decode cX6_pass 37 = .ok (.aload_n 0, 1) := by decide +kernel
theorem dX6_pass_38 : decode cX6_pass 38 = .ok (.getfield 46, 3) := by decide +kernel
theorem dX6_pass_41 : decode cX6_pass 41 = .ok (.invokevirtual 127, 3) := by decide +kernel
theorem dX6_pass_44 : decode cX6_pass 44 = .ok (.aload_n 0, 1) := by decide +kernel
theorem dX6_pass_45 : decode cX6_pass 45 = .ok (.getfield 46, 3) := by decide +kernel
theorem dX6_pass_48 : decode cX6_pass 48 = .ok (.aload_n 0, 1) := by decide +kernel
theorem dX6_pass_49 : decode cX6_pass 49 = .ok (.getfield 61, 3) := by decide +kernel
theorem dX6_pass_52 : decode cX6_pass 52 = .ok (.invokevirtual 133, 3) := by decide +kernel
theorem dX6_pass_55 : decode cX6_pass 55 = .ok (.return_, 1) := by decide +kernel
theorem dX6_undo_0 : decode cX6_undo 0 = .ok (.aload_n 0, 1) := by decide +kernel
theorem dX6_undo_1 : decode cX6_undo 1 = .ok (.getfield 53, 3) := by decide +kernel
theorem dX6_undo_4 : decode cX6_undo 4 = .ok (.invokevirtual 141, 3) := by decide +kernel
theorem dX6_undo_7 : decode cX6_undo 7 = .ok (.ifCond .ne 13, 3) := by decide +kernel
theorem dX6_undo_10 : decode cX6_undo 10 = .ok (.new 102, 3) := by decide +kernel
theorem dX6_undo_13 : decode cX6_undo 13 = .ok (.dup, 1) := by decide +kernel
theorem dX6_undo_14 : decode cX6_undo 14 = .ok (.ldc 144, 2) := by decide +kernel
theorem dX6_undo_16 : decode cX6_undo 16 = .ok (.invokespecial 106, 3) := by decide +kernel
theorem dX6_undo_19 : decode cX6_undo 19 = .ok (.athrow, 1) := by decide +kernel
theorem dX6_undo_20 : decode cX6_undo 20 = .ok (.aload_n 0, 1) := by decide +kernel
theorem dX6_undo_21 : decode cX6_undo 21 = .ok (.getfield 53, 3) := by decide +kernel
theorem dX6_undo_24 : decode cX6_undo 24 = .ok (.aload_n 0, 1) := by decide +kernel
theorem dX6_undo_25 : decode cX6_undo 25 = .ok (.getfield 21, 3) := by decide +kernel
theorem dX6_undo_28 : decode cX6_undo 28 = .ok (.aload_n 0, 1) := by decide +kernel
theorem dX6_undo_29 : decode cX6_undo 29 = .ok (.getfield 46, 3) := by decide +kernel
theorem dX6_undo_32 : decode cX6_undo 32 = .ok (.invokevirtual 146, 3) := by decide +kernel
theorem dX6_undo_35 : decode cX6_undo 35 = .ok (.aload_n 0, 1) := by decide +kernel
theorem dX6_undo_36 : decode cX6_undo 36 = .ok (.getfield 53, 3) := by decide +kernel
theorem dX6_undo_39 : decode cX6_undo 39 = .ok (.invokevirtual 141, 3) := by decide +kernel
theorem dX6_undo_42 : decode cX6_undo 42 = .ok (.ireturn, 1) := by decide +kernel
theorem dX6_at_0 : decode cX6_at 0 = .ok (.iload_n 1, 1) := by decide +kernel
theorem dX6_at_1 : decode cX6_at 1 = .ok (.invokestatic 89, 3) := by decide +kernel
theorem dX6_at_4 : decode cX6_at 4 = .ok (.ifCond .ne 13, 3) := by decide +kernel
theorem dX6_at_7 : decode cX6_at 7 = .ok (.new 93, 3) := by decide +kernel
theorem dX6_at_10 : decode cX6_at 10 = .ok (.dup, 1) := by decide +kernel
theorem dX6_at_11 : decode cX6_at 11 = .ok (.ldc 95, 2) := by decide +kernel
theorem dX6_at_13 : decode cX6_at 13 = .ok (.invokespecial 97, 3) := by decide +kernel
theorem dX6_at_16 : decode cX6_at 16 = .ok (.athrow, 1) := by decide +kernel
theorem dX6_at_17 : decode cX6_at 17 = .ok (.aload_n 0, 1) := by decide +kernel
theorem dX6_at_18 : decode cX6_at 18 = .ok (.getfield 21, 3) := by decide +kernel
theorem dX6_at_21 : decode cX6_at 21 = .ok (.iload_n 1, 1) := by decide +kernel
theorem dX6_at_22 : decode cX6_at 22 = .ok (.invokevirtual 150, 3) := by decide +kernel
theorem dX6_at_25 : decode cX6_at 25 = .ok (.ireturn, 1) := by decide +kernel
theorem dX6_cellAt_0 : decode cX6_cellAt 0 = .ok (.iload_n 1, 1) := by decide +kernel
theorem dX6_cellAt_1 : decode cX6_cellAt 1 = .ok (.iload_n 2, 1) := by decide +kernel
theorem dX6_cellAt_2 : decode cX6_cellAt 2 = .ok (.invokestatic 153, 3) := by decide +kernel
theorem dX6_cellAt_5 : decode cX6_cellAt 5 = .ok (.ireturn, 1) := by decide +kernel
theorem dX6_campOf_0 : decode cX6_campOf 0 = .ok (.iload_n 1, 1) := by decide +kernel
theorem dX6_campOf_1 : decode cX6_campOf 1 = .ok (.invokestatic 89, 3) := by decide +kernel
theorem dX6_campOf_4 : decode cX6_campOf 4 = .ok (.ifCond .ne 13, 3) := by decide +kernel
theorem dX6_campOf_7 : decode cX6_campOf 7 = .ok (.new 93, 3) := by decide +kernel
theorem dX6_campOf_10 : decode cX6_campOf 10 = .ok (.dup, 1) := by decide +kernel
theorem dX6_campOf_11 : decode cX6_campOf 11 = .ok (.ldc 95, 2) := by decide +kernel
theorem dX6_campOf_13 : decode cX6_campOf 13 = .ok (.invokespecial 97, 3) := by decide +kernel
theorem dX6_campOf_16 : decode cX6_campOf 16 = .ok (.athrow, 1) := by decide +kernel
theorem dX6_campOf_17 : decode cX6_campOf 17 = .ok (.aload_n 0, 1) := by decide +kernel
theorem dX6_campOf_18 : decode cX6_campOf 18 = .ok (.getfield 10, 3) := by decide +kernel
theorem dX6_campOf_21 : decode cX6_campOf 21 = .ok (.iload_n 1, 1) := by decide +kernel
theorem dX6_campOf_22 : decode cX6_campOf 22 = .ok (.invokevirtual 157, 3) := by decide +kernel
theorem dX6_campOf_25 : decode cX6_campOf 25 = .ok (.ireturn, 1) := by decide +kernel
theorem dX6_distance_0 : decode cX6_distance 0 = .ok (.iload_n 1, 1) := by decide +kernel
theorem dX6_distance_1 : decode cX6_distance 1 = .ok (.invokestatic 89, 3) := by decide +kernel
theorem dX6_distance_4 : decode cX6_distance 4 = .ok (.ifCond .eq 10, 3) := by decide +kernel
theorem dX6_distance_7 : decode cX6_distance 7 = .ok (.iload_n 2, 1) := by decide +kernel
theorem dX6_distance_8 : decode cX6_distance 8 = .ok (.invokestatic 89, 3) := by decide +kernel
theorem dX6_distance_11 : decode cX6_distance 11 = .ok (.ifCond .ne 13, 3) := by decide +kernel
theorem dX6_distance_14 : decode cX6_distance 14 = .ok (.new 93, 3) := by decide +kernel
theorem dX6_distance_17 : decode cX6_distance 17 = .ok (.dup, 1) := by decide +kernel
theorem dX6_distance_18 : decode cX6_distance 18 = .ok (.ldc 95, 2) := by decide +kernel
theorem dX6_distance_20 : decode cX6_distance 20 = .ok (.invokespecial 97, 3) := by decide +kernel
theorem dX6_distance_23 : decode cX6_distance 23 = .ok (.athrow, 1) := by decide +kernel
theorem dX6_distance_24 : decode cX6_distance 24 = .ok (.aload_n 0, 1) := by decide +kernel
theorem dX6_distance_25 : decode cX6_distance 25 = .ok (.getfield 10, 3) := by decide +kernel
theorem dX6_distance_28 : decode cX6_distance 28 = .ok (.iload_n 1, 1) := by decide +kernel
theorem dX6_distance_29 : decode cX6_distance 29 = .ok (.iload_n 2, 1) := by decide +kernel
theorem dX6_distance_30 : decode cX6_distance 30 = .ok (.invokevirtual 160, 3) := by decide +kernel
theorem dX6_distance_33 : decode cX6_distance 33 = .ok (.ireturn, 1) := by decide +kernel
theorem dX6_turn_0 : decode cX6_turn 0 = .ok (.aload_n 0, 1) := by decide +kernel
theorem dX6_turn_1 : decode cX6_turn 1 = .ok (.getfield 46, 3) := by decide +kernel
theorem dX6_turn_4 : decode cX6_turn 4 = .ok (.invokevirtual 107, 3) := by decide +kernel
theorem dX6_turn_7 : decode cX6_turn 7 = .ok (.ireturn, 1) := by decide +kernel
theorem dX6_made_0 : decode cX6_made 0 = .ok (.aload_n 0, 1) := by decide +kernel
theorem dX6_made_1 : decode cX6_made 1 = .ok (.getfield 53, 3) := by decide +kernel
theorem dX6_made_4 : decode cX6_made 4 = .ok (.invokevirtual 141, 3) := by decide +kernel
theorem dX6_made_7 : decode cX6_made 7 = .ok (.ireturn, 1) := by decide +kernel
theorem dX6_ends_0 : decode cX6_ends 0 = .ok (.iload_n 1, 1) := by decide +kernel
theorem dX6_ends_1 : decode cX6_ends 1 = .ok (.invokestatic 89, 3) := by decide +kernel
theorem dX6_ends_4 : decode cX6_ends 4 = .ok (.ifCond .ne 13, 3) := by decide +kernel
theorem dX6_ends_7 : decode cX6_ends 7 = .ok (.new 93, 3) := by decide +kernel
theorem dX6_ends_10 : decode cX6_ends 10 = .ok (.dup, 1) := by decide +kernel
theorem dX6_ends_11 : decode cX6_ends 11 = .ok (.ldc 95, 2) := by decide +kernel
theorem dX6_ends_13 : decode cX6_ends 13 = .ok (.invokespecial 97, 3) := by decide +kernel
theorem dX6_ends_16 : decode cX6_ends 16 = .ok (.athrow, 1) := by decide +kernel
theorem dX6_ends_17 : decode cX6_ends 17 = .ok (.aload_n 0, 1) := by decide +kernel
theorem dX6_ends_18 : decode cX6_ends 18 = .ok (.getfield 30, 3) := by decide +kernel
theorem dX6_ends_21 : decode cX6_ends 21 = .ok (.aload_n 0, 1) := by decide +kernel
theorem dX6_ends_22 : decode cX6_ends 22 = .ok (.getfield 46, 3) := by decide +kernel
theorem dX6_ends_25 : decode cX6_ends 25 = .ok (.invokevirtual 107, 3) := by decide +kernel
theorem dX6_ends_28 : decode cX6_ends 28 = .ok (.iload_n 1, 1) := by decide +kernel
theorem dX6_ends_29 : decode cX6_ends 29 = .ok (.invokevirtual 111, 3) := by decide +kernel
theorem dX6_ends_32 : decode cX6_ends 32 = .ok (.aload_n 0, 1) := by decide +kernel
theorem dX6_ends_33 : decode cX6_ends 33 = .ok (.getfield 30, 3) := by decide +kernel
theorem dX6_ends_36 : decode cX6_ends 36 = .ok (.invokevirtual 163, 3) := by decide +kernel
theorem dX6_ends_39 : decode cX6_ends 39 = .ok (.ireturn, 1) := by decide +kernel
theorem dX6_endAt_0 : decode cX6_endAt 0 = .ok (.iload_n 1, 1) := by decide +kernel
theorem dX6_endAt_1 : decode cX6_endAt 1 = .ok (.invokestatic 89, 3) := by decide +kernel
theorem dX6_endAt_4 : decode cX6_endAt 4 = .ok (.ifCond .ne 13, 3) := by decide +kernel
theorem dX6_endAt_7 : decode cX6_endAt 7 = .ok (.new 93, 3) := by decide +kernel
theorem dX6_endAt_10 : decode cX6_endAt 10 = .ok (.dup, 1) := by decide +kernel
theorem dX6_endAt_11 : decode cX6_endAt 11 = .ok (.ldc 95, 2) := by decide +kernel
theorem dX6_endAt_13 : decode cX6_endAt 13 = .ok (.invokespecial 97, 3) := by decide +kernel
theorem dX6_endAt_16 : decode cX6_endAt 16 = .ok (.athrow, 1) := by decide +kernel
theorem dX6_endAt_17 : decode cX6_endAt 17 = .ok (.aload_n 0, 1) := by decide +kernel
theorem dX6_endAt_18 : decode cX6_endAt 18 = .ok (.getfield 30, 3) := by decide +kernel
theorem dX6_endAt_21 : decode cX6_endAt 21 = .ok (.aload_n 0, 1) := by decide +kernel
theorem dX6_endAt_22 : decode cX6_endAt 22 = .ok (.getfield 46, 3) := by decide +kernel
theorem dX6_endAt_25 : decode cX6_endAt 25 = .ok (.invokevirtual 107, 3) := by decide +kernel
theorem dX6_endAt_28 : decode cX6_endAt 28 = .ok (.iload_n 1, 1) := by decide +kernel
theorem dX6_endAt_29 : decode cX6_endAt 29 = .ok (.invokevirtual 111, 3) := by decide +kernel
theorem dX6_endAt_32 : decode cX6_endAt 32 = .ok (.aload_n 0, 1) := by decide +kernel
theorem dX6_endAt_33 : decode cX6_endAt 33 = .ok (.getfield 30, 3) := by decide +kernel
theorem dX6_endAt_36 : decode cX6_endAt 36 = .ok (.iload_n 2, 1) := by decide +kernel
theorem dX6_endAt_37 : decode cX6_endAt 37 = .ok (.invokevirtual 166, 3) := by decide +kernel
theorem dX6_endAt_40 : decode cX6_endAt 40 = .ok (.istore_n 3, 1) := by decide +kernel
theorem dX6_endAt_41 : decode cX6_endAt 41 = .ok (.iload_n 3, 1) := by decide +kernel
theorem dX6_endAt_42 : decode cX6_endAt 42 = .ok (.iconst (-1), 1) := by decide +kernel
theorem dX6_endAt_43 : decode cX6_endAt 43 = .ok (.if_icmp .ne 13, 3) := by decide +kernel
theorem dX6_endAt_46 : decode cX6_endAt 46 = .ok (.new 93, 3) := by decide +kernel
theorem dX6_endAt_49 : decode cX6_endAt 49 = .ok (.dup, 1) := by decide +kernel
theorem dX6_endAt_50 : decode cX6_endAt 50 = .ok (.ldc 169, 2) := by decide +kernel
theorem dX6_endAt_52 : decode cX6_endAt 52 = .ok (.invokespecial 97, 3) := by decide +kernel
theorem dX6_endAt_55 : decode cX6_endAt 55 = .ok (.athrow, 1) := by decide +kernel
theorem dX6_endAt_56 : decode cX6_endAt 56 = .ok (.iload_n 3, 1) := by decide +kernel
theorem dX6_endAt_57 : decode cX6_endAt 57 = .ok (.ireturn, 1) := by decide +kernel
theorem dX6_moves_0 : decode cX6_moves 0 = .ok (.aload_n 0, 1) := by decide +kernel
theorem dX6_moves_1 : decode cX6_moves 1 = .ok (.getfield 46, 3) := by decide +kernel
theorem dX6_moves_4 : decode cX6_moves 4 = .ok (.invokevirtual 107, 3) := by decide +kernel
theorem dX6_moves_7 : decode cX6_moves 7 = .ok (.istore_n 1, 1) := by decide +kernel
theorem dX6_moves_8 : decode cX6_moves 8 = .ok (.iconst 0, 1) := by decide +kernel
theorem dX6_moves_9 : decode cX6_moves 9 = .ok (.istore_n 2, 1) := by decide +kernel
theorem dX6_moves_10 : decode cX6_moves 10 = .ok (.iconst 0, 1) := by decide +kernel
theorem dX6_moves_11 : decode cX6_moves 11 = .ok (.istore_n 3, 1) := by decide +kernel
theorem dX6_moves_12 : decode cX6_moves 12 = .ok (.iload_n 3, 1) := by decide +kernel
theorem dX6_moves_13 : decode cX6_moves 13 = .ok (.bipush 121, 2) := by decide +kernel
theorem dX6_moves_15 : decode cX6_moves 15 = .ok (.if_icmp .ge 45, 3) := by decide +kernel
theorem dX6_moves_18 : decode cX6_moves 18 = .ok (.iload_n 1, 1) := by decide +kernel
theorem dX6_moves_19 : decode cX6_moves 19 = .ok (.iconst (-1), 1) := by decide +kernel
theorem dX6_moves_20 : decode cX6_moves 20 = .ok (.if_icmp .eq 34, 3) := by decide +kernel
theorem dX6_moves_23 : decode cX6_moves 23 = .ok (.aload_n 0, 1) := by decide +kernel
theorem dX6_moves_24 : decode cX6_moves 24 = .ok (.getfield 21, 3) := by decide +kernel
theorem dX6_moves_27 : decode cX6_moves 27 = .ok (.iload_n 3, 1) := by decide +kernel
theorem dX6_moves_28 : decode cX6_moves 28 = .ok (.invokevirtual 150, 3) := by decide +kernel
theorem dX6_moves_31 : decode cX6_moves 31 = .ok (.iload_n 1, 1) := by decide +kernel
theorem dX6_moves_32 : decode cX6_moves 32 = .ok (.if_icmp .ne 22, 3) := by decide +kernel
theorem dX6_moves_35 : decode cX6_moves 35 = .ok (.aload_n 0, 1) := by decide +kernel
theorem dX6_moves_36 : decode cX6_moves 36 = .ok (.getfield 30, 3) := by decide +kernel
theorem dX6_moves_39 : decode cX6_moves 39 = .ok (.iload_n 1, 1) := by decide +kernel
theorem dX6_moves_40 : decode cX6_moves 40 = .ok (.iload_n 3, 1) := by decide +kernel
theorem dX6_moves_41 : decode cX6_moves 41 = .ok (.invokevirtual 111, 3) := by decide +kernel
theorem dX6_moves_44 : decode cX6_moves 44 = .ok (.iload_n 2, 1) := by decide +kernel
theorem dX6_moves_45 : decode cX6_moves 45 = .ok (.aload_n 0, 1) := by decide +kernel
theorem dX6_moves_46 : decode cX6_moves 46 = .ok (.getfield 30, 3) := by decide +kernel
theorem dX6_moves_49 : decode cX6_moves 49 = .ok (.invokevirtual 163, 3) := by decide +kernel
theorem dX6_moves_52 : decode cX6_moves 52 = .ok (.iadd, 1) := by decide +kernel
theorem dX6_moves_53 : decode cX6_moves 53 = .ok (.istore_n 2, 1) := by decide +kernel
theorem dX6_moves_54 : decode cX6_moves 54 = .ok (.iinc 3 1, 3) := by decide +kernel
theorem dX6_moves_57 : decode cX6_moves 57 = .ok (.goto (-45), 3) := by decide +kernel
theorem dX6_moves_60 : decode cX6_moves 60 = .ok (.iload_n 2, 1) := by decide +kernel
theorem dX6_moves_61 : decode cX6_moves 61 = .ok (.ireturn, 1) := by decide +kernel
theorem dX6_chainAt_0 : decode cX6_chainAt 0 = .ok (.iload_n 1, 1) := by decide +kernel
theorem dX6_chainAt_1 : decode cX6_chainAt 1 = .ok (.invokestatic 89, 3) := by decide +kernel
theorem dX6_chainAt_4 : decode cX6_chainAt 4 = .ok (.ifCond .eq 14, 3) := by decide +kernel
theorem dX6_chainAt_7 : decode cX6_chainAt 7 = .ok (.iload_n 2, 1) := by decide +kernel
theorem dX6_chainAt_8 : decode cX6_chainAt 8 = .ok (.invokestatic 89, 3) := by decide +kernel
theorem dX6_chainAt_11 : decode cX6_chainAt 11 = .ok (.ifCond .eq 7, 3) := by decide +kernel
theorem dX6_chainAt_14 : decode cX6_chainAt 14 = .ok (.iload_n 3, 1) := by decide +kernel
theorem dX6_chainAt_15 : decode cX6_chainAt 15 = .ok (.ifCond .ge 13, 3) := by decide +kernel
theorem dX6_chainAt_18 : decode cX6_chainAt 18 = .ok (.new 93, 3) := by decide +kernel
theorem dX6_chainAt_21 : decode cX6_chainAt 21 = .ok (.dup, 1) := by decide +kernel
theorem dX6_chainAt_22 : decode cX6_chainAt 22 = .ok (.ldc 171, 2) := by decide +kernel
theorem dX6_chainAt_24 : decode cX6_chainAt 24 = .ok (.invokespecial 97, 3) := by decide +kernel
theorem dX6_chainAt_27 : decode cX6_chainAt 27 = .ok (.athrow, 1) := by decide +kernel
theorem dX6_chainAt_28 : decode cX6_chainAt 28 = .ok (.aload_n 0, 1) := by decide +kernel
theorem dX6_chainAt_29 : decode cX6_chainAt 29 = .ok (.getfield 30, 3) := by decide +kernel
theorem dX6_chainAt_32 : decode cX6_chainAt 32 = .ok (.aload_n 0, 1) := by decide +kernel
theorem dX6_chainAt_33 : decode cX6_chainAt 33 = .ok (.getfield 46, 3) := by decide +kernel
theorem dX6_chainAt_36 : decode cX6_chainAt 36 = .ok (.invokevirtual 107, 3) := by decide +kernel
theorem dX6_chainAt_39 : decode cX6_chainAt 39 = .ok (.iload_n 1, 1) := by decide +kernel
theorem dX6_chainAt_40 : decode cX6_chainAt 40 = .ok (.invokevirtual 111, 3) := by decide +kernel
theorem dX6_chainAt_43 : decode cX6_chainAt 43 = .ok (.iload_n 3, 1) := by decide +kernel
theorem dX6_chainAt_44 : decode cX6_chainAt 44 = .ok (.aload_n 0, 1) := by decide +kernel
theorem dX6_chainAt_45 : decode cX6_chainAt 45 = .ok (.getfield 30, 3) := by decide +kernel
theorem dX6_chainAt_48 : decode cX6_chainAt 48 = .ok (.iload_n 2, 1) := by decide +kernel
theorem dX6_chainAt_49 : decode cX6_chainAt 49 = .ok (.invokevirtual 115, 3) := by decide +kernel
theorem dX6_chainAt_52 : decode cX6_chainAt 52 = .ok (.if_icmp .lt 5, 3) := by decide +kernel
theorem dX6_chainAt_55 : decode cX6_chainAt 55 = .ok (.iconst (-1), 1) := by decide +kernel
theorem dX6_chainAt_56 : decode cX6_chainAt 56 = .ok (.ireturn, 1) := by decide +kernel
theorem dX6_chainAt_57 : decode cX6_chainAt 57 = .ok (.aload_n 0, 1) := by decide +kernel
theorem dX6_chainAt_58 : decode cX6_chainAt 58 = .ok (.getfield 30, 3) := by decide +kernel
theorem dX6_chainAt_61 : decode cX6_chainAt 61 = .ok (.iload_n 1, 1) := by decide +kernel
theorem dX6_chainAt_62 : decode cX6_chainAt 62 = .ok (.iload_n 2, 1) := by decide +kernel
theorem dX6_chainAt_63 : decode cX6_chainAt 63 = .ok (.iload_n 3, 1) := by decide +kernel
theorem dX6_chainAt_64 : decode cX6_chainAt 64 = .ok (.invokevirtual 173, 3) := by decide +kernel
theorem dX6_chainAt_67 : decode cX6_chainAt 67 = .ok (.ireturn, 1) := by decide +kernel
theorem dX6_hops_0 : decode cX6_hops 0 = .ok (.iload_n 1, 1) := by decide +kernel
theorem dX6_hops_1 : decode cX6_hops 1 = .ok (.invokestatic 89, 3) := by decide +kernel
theorem dX6_hops_4 : decode cX6_hops 4 = .ok (.ifCond .eq 10, 3) := by decide +kernel
theorem dX6_hops_7 : decode cX6_hops 7 = .ok (.iload_n 2, 1) := by decide +kernel
theorem dX6_hops_8 : decode cX6_hops 8 = .ok (.invokestatic 89, 3) := by decide +kernel
theorem dX6_hops_11 : decode cX6_hops 11 = .ok (.ifCond .ne 13, 3) := by decide +kernel
theorem dX6_hops_14 : decode cX6_hops 14 = .ok (.new 93, 3) := by decide +kernel
theorem dX6_hops_17 : decode cX6_hops 17 = .ok (.dup, 1) := by decide +kernel
theorem dX6_hops_18 : decode cX6_hops 18 = .ok (.ldc 95, 2) := by decide +kernel
theorem dX6_hops_20 : decode cX6_hops 20 = .ok (.invokespecial 97, 3) := by decide +kernel
theorem dX6_hops_23 : decode cX6_hops 23 = .ok (.athrow, 1) := by decide +kernel
theorem dX6_hops_24 : decode cX6_hops 24 = .ok (.aload_n 0, 1) := by decide +kernel
theorem dX6_hops_25 : decode cX6_hops 25 = .ok (.getfield 30, 3) := by decide +kernel
theorem dX6_hops_28 : decode cX6_hops 28 = .ok (.aload_n 0, 1) := by decide +kernel
theorem dX6_hops_29 : decode cX6_hops 29 = .ok (.getfield 46, 3) := by decide +kernel
theorem dX6_hops_32 : decode cX6_hops 32 = .ok (.invokevirtual 107, 3) := by decide +kernel
theorem dX6_hops_35 : decode cX6_hops 35 = .ok (.iload_n 1, 1) := by decide +kernel
theorem dX6_hops_36 : decode cX6_hops 36 = .ok (.invokevirtual 111, 3) := by decide +kernel
theorem dX6_hops_39 : decode cX6_hops 39 = .ok (.aload_n 0, 1) := by decide +kernel
theorem dX6_hops_40 : decode cX6_hops 40 = .ok (.getfield 30, 3) := by decide +kernel
theorem dX6_hops_43 : decode cX6_hops 43 = .ok (.iload_n 2, 1) := by decide +kernel
theorem dX6_hops_44 : decode cX6_hops 44 = .ok (.invokevirtual 115, 3) := by decide +kernel
theorem dX6_hops_47 : decode cX6_hops 47 = .ok (.ireturn, 1) := by decide +kernel
theorem dX6_finished_0 : decode cX6_finished 0 = .ok (.iload_n 1, 1) := by decide +kernel
theorem dX6_finished_1 : decode cX6_finished 1 = .ok (.invokestatic 177, 3) := by decide +kernel
theorem dX6_finished_4 : decode cX6_finished 4 = .ok (.ifCond .ne 13, 3) := by decide +kernel
theorem dX6_finished_7 : decode cX6_finished 7 = .ok (.new 93, 3) := by decide +kernel
theorem dX6_finished_10 : decode cX6_finished 10 = .ok (.dup, 1) := by decide +kernel
theorem dX6_finished_11 : decode cX6_finished 11 = .ok (.ldc 180, 2) := by decide +kernel
theorem dX6_finished_13 : decode cX6_finished 13 = .ok (.invokespecial 97, 3) := by decide +kernel
theorem dX6_finished_16 : decode cX6_finished 16 = .ok (.athrow, 1) := by decide +kernel
theorem dX6_finished_17 : decode cX6_finished 17 = .ok (.aload_n 0, 1) := by decide +kernel
theorem dX6_finished_18 : decode cX6_finished 18 = .ok (.getfield 46, 3) := by decide +kernel
theorem dX6_finished_21 : decode cX6_finished 21 = .ok (.iload_n 1, 1) := by decide +kernel
theorem dX6_finished_22 : decode cX6_finished 22 = .ok (.invokevirtual 182, 3) := by decide +kernel
theorem dX6_finished_25 : decode cX6_finished 25 = .ok (.ireturn, 1) := by decide +kernel
theorem dX6_isOut_0 : decode cX6_isOut 0 = .ok (.iload_n 1, 1) := by decide +kernel
theorem dX6_isOut_1 : decode cX6_isOut 1 = .ok (.invokestatic 177, 3) := by decide +kernel
theorem dX6_isOut_4 : decode cX6_isOut 4 = .ok (.ifCond .ne 13, 3) := by decide +kernel
theorem dX6_isOut_7 : decode cX6_isOut 7 = .ok (.new 93, 3) := by decide +kernel
theorem dX6_isOut_10 : decode cX6_isOut 10 = .ok (.dup, 1) := by decide +kernel
theorem dX6_isOut_11 : decode cX6_isOut 11 = .ok (.ldc 185, 2) := by decide +kernel
theorem dX6_isOut_13 : decode cX6_isOut 13 = .ok (.invokespecial 97, 3) := by decide +kernel
theorem dX6_isOut_16 : decode cX6_isOut 16 = .ok (.athrow, 1) := by decide +kernel
theorem dX6_isOut_17 : decode cX6_isOut 17 = .ok (.aload_n 0, 1) := by decide +kernel
theorem dX6_isOut_18 : decode cX6_isOut 18 = .ok (.getfield 46, 3) := by decide +kernel
theorem dX6_isOut_21 : decode cX6_isOut 21 = .ok (.iload_n 1, 1) := by decide +kernel
theorem dX6_isOut_22 : decode cX6_isOut 22 = .ok (.invokevirtual 187, 3) := by decide +kernel
theorem dX6_isOut_25 : decode cX6_isOut 25 = .ok (.ireturn, 1) := by decide +kernel
theorem dX6_way_0 : decode cX6_way 0 = .ok (.iload_n 1, 1) := by decide +kernel
theorem dX6_way_1 : decode cX6_way 1 = .ok (.invokestatic 177, 3) := by decide +kernel
theorem dX6_way_4 : decode cX6_way 4 = .ok (.ifCond .ne 13, 3) := by decide +kernel
theorem dX6_way_7 : decode cX6_way 7 = .ok (.new 93, 3) := by decide +kernel
theorem dX6_way_10 : decode cX6_way 10 = .ok (.dup, 1) := by decide +kernel
theorem dX6_way_11 : decode cX6_way 11 = .ok (.ldc 185, 2) := by decide +kernel
theorem dX6_way_13 : decode cX6_way 13 = .ok (.invokespecial 97, 3) := by decide +kernel
theorem dX6_way_16 : decode cX6_way 16 = .ok (.athrow, 1) := by decide +kernel
theorem dX6_way_17 : decode cX6_way 17 = .ok (.aload_n 0, 1) := by decide +kernel
theorem dX6_way_18 : decode cX6_way 18 = .ok (.getfield 46, 3) := by decide +kernel
theorem dX6_way_21 : decode cX6_way 21 = .ok (.iload_n 1, 1) := by decide +kernel
theorem dX6_way_22 : decode cX6_way 22 = .ok (.invokevirtual 190, 3) := by decide +kernel
theorem dX6_way_25 : decode cX6_way 25 = .ok (.ifCond .eq 14, 3) := by decide +kernel
theorem dX6_way_28 : decode cX6_way 28 = .ok (.aload_n 0, 1) := by decide +kernel
theorem dX6_way_29 : decode cX6_way 29 = .ok (.getfield 37, 3) := by decide +kernel
theorem dX6_way_32 : decode cX6_way 32 = .ok (.iload_n 1, 1) := by decide +kernel
theorem dX6_way_33 : decode cX6_way 33 = .ok (.invokevirtual 193, 3) := by decide +kernel
theorem dX6_way_36 : decode cX6_way 36 = .ok (.goto 4, 3) := by decide +kernel
theorem dX6_way_39 : decode cX6_way 39 = .ok (.iconst (-1), 1) := by decide +kernel
theorem dX6_way_40 : decode cX6_way 40 = .ok (.ireturn, 1) := by decide +kernel
theorem dX6_bestFrom_0 : decode cX6_bestFrom 0 = .ok (.aload_n 0, 1) := by decide +kernel
theorem dX6_bestFrom_1 : decode cX6_bestFrom 1 = .ok (.invokevirtual 196, 3) := by decide +kernel
theorem dX6_bestFrom_4 : decode cX6_bestFrom 4 = .ok (.istore_n 1, 1) := by decide +kernel
theorem dX6_bestFrom_5 : decode cX6_bestFrom 5 = .ok (.iload_n 1, 1) := by decide +kernel
theorem dX6_bestFrom_6 : decode cX6_bestFrom 6 = .ok (.iconst (-1), 1) := by decide +kernel
theorem dX6_bestFrom_7 : decode cX6_bestFrom 7 = .ok (.if_icmp .ne 7, 3) := by decide +kernel
theorem dX6_bestFrom_10 : decode cX6_bestFrom 10 = .ok (.iconst (-1), 1) := by decide +kernel
theorem dX6_bestFrom_11 : decode cX6_bestFrom 11 = .ok (.goto 7, 3) := by decide +kernel
theorem dX6_bestFrom_14 : decode cX6_bestFrom 14 = .ok (.iload_n 1, 1) := by decide +kernel
theorem dX6_bestFrom_15 : decode cX6_bestFrom 15 = .ok (.bipush 121, 2) := by decide +kernel
theorem dX6_bestFrom_17 : decode cX6_bestFrom 17 = .ok (.idiv, 1) := by decide +kernel
theorem dX6_bestFrom_18 : decode cX6_bestFrom 18 = .ok (.ireturn, 1) := by decide +kernel
theorem dX6_bestTo_0 : decode cX6_bestTo 0 = .ok (.aload_n 0, 1) := by decide +kernel
theorem dX6_bestTo_1 : decode cX6_bestTo 1 = .ok (.invokevirtual 196, 3) := by decide +kernel
theorem dX6_bestTo_4 : decode cX6_bestTo 4 = .ok (.istore_n 1, 1) := by decide +kernel
theorem dX6_bestTo_5 : decode cX6_bestTo 5 = .ok (.iload_n 1, 1) := by decide +kernel
theorem dX6_bestTo_6 : decode cX6_bestTo 6 = .ok (.iconst (-1), 1) := by decide +kernel
theorem dX6_bestTo_7 : decode cX6_bestTo 7 = .ok (.if_icmp .ne 7, 3) := by decide +kernel
theorem dX6_bestTo_10 : decode cX6_bestTo 10 = .ok (.iconst (-1), 1) := by decide +kernel
theorem dX6_bestTo_11 : decode cX6_bestTo 11 = .ok (.goto 7, 3) := by decide +kernel
theorem dX6_bestTo_14 : decode cX6_bestTo 14 = .ok (.iload_n 1, 1) := by decide +kernel
theorem dX6_bestTo_15 : decode cX6_bestTo 15 = .ok (.bipush 121, 2) := by decide +kernel
theorem dX6_bestTo_17 : decode cX6_bestTo 17 = .ok (.irem, 1) := by decide +kernel
theorem dX6_bestTo_18 : decode cX6_bestTo 18 = .ok (.ireturn, 1) := by decide +kernel
theorem dX6_isCell_0 : decode cX6_isCell 0 = .ok (.iload_n 0, 1) := by decide +kernel
theorem dX6_isCell_1 : decode cX6_isCell 1 = .ok (.ifCond .lt 13, 3) := by decide +kernel
theorem dX6_isCell_4 : decode cX6_isCell 4 = .ok (.iload_n 0, 1) := by decide +kernel
theorem dX6_isCell_5 : decode cX6_isCell 5 = .ok (.bipush 121, 2) := by decide +kernel
theorem dX6_isCell_7 : decode cX6_isCell 7 = .ok (.if_icmp .ge 7, 3) := by decide +kernel
theorem dX6_isCell_10 : decode cX6_isCell 10 = .ok (.iconst 1, 1) := by decide +kernel
theorem dX6_isCell_11 : decode cX6_isCell 11 = .ok (.goto 4, 3) := by decide +kernel
theorem dX6_isCell_14 : decode cX6_isCell 14 = .ok (.iconst 0, 1) := by decide +kernel
theorem dX6_isCell_15 : decode cX6_isCell 15 = .ok (.ireturn, 1) := by decide +kernel
theorem dX6_isCamp_0 : decode cX6_isCamp 0 = .ok (.iload_n 0, 1) := by decide +kernel
theorem dX6_isCamp_1 : decode cX6_isCamp 1 = .ok (.ifCond .lt 13, 3) := by decide +kernel
theorem dX6_isCamp_4 : decode cX6_isCamp 4 = .ok (.iload_n 0, 1) := by decide +kernel
theorem dX6_isCamp_5 : decode cX6_isCamp 5 = .ok (.bipush 6, 2) := by decide +kernel
theorem dX6_isCamp_7 : decode cX6_isCamp 7 = .ok (.if_icmp .ge 7, 3) := by decide +kernel
theorem dX6_isCamp_10 : decode cX6_isCamp 10 = .ok (.iconst 1, 1) := by decide +kernel
theorem dX6_isCamp_11 : decode cX6_isCamp 11 = .ok (.goto 4, 3) := by decide +kernel
theorem dX6_isCamp_14 : decode cX6_isCamp 14 = .ok (.iconst 0, 1) := by decide +kernel
theorem dX6_isCamp_15 : decode cX6_isCamp 15 = .ok (.ireturn, 1) := by decide +kernel
theorem dX6_goalOf_0 : decode cX6_goalOf 0 = .ok (.iload_n 0, 1) := by decide +kernel
theorem dX6_goalOf_1 : decode cX6_goalOf 1 = .ok (.iconst 3, 1) := by decide +kernel
theorem dX6_goalOf_2 : decode cX6_goalOf 2 = .ok (.iadd, 1) := by decide +kernel
theorem dX6_goalOf_3 : decode cX6_goalOf 3 = .ok (.bipush 6, 2) := by decide +kernel
theorem dX6_goalOf_5 : decode cX6_goalOf 5 = .ok (.irem, 1) := by decide +kernel
theorem dX6_goalOf_6 : decode cX6_goalOf 6 = .ok (.ireturn, 1) := by decide +kernel
theorem dX6_isOpen_0 : decode cX6_isOpen 0 = .ok (.aload_n 0, 1) := by decide +kernel
theorem dX6_isOpen_1 : decode cX6_isOpen 1 = .ok (.getfield 46, 3) := by decide +kernel
theorem dX6_isOpen_4 : decode cX6_isOpen 4 = .ok (.invokevirtual 107, 3) := by decide +kernel
theorem dX6_isOpen_7 : decode cX6_isOpen 7 = .ok (.iconst (-1), 1) := by decide +kernel
theorem dX6_isOpen_8 : decode cX6_isOpen 8 = .ok (.if_icmp .eq 20, 3) := by decide +kernel
theorem dX6_isOpen_11 : decode cX6_isOpen 11 = .ok (.aload_n 0, 1) := by decide +kernel
theorem dX6_isOpen_12 : decode cX6_isOpen 12 = .ok (.getfield 53, 3) := by decide +kernel
theorem dX6_isOpen_15 : decode cX6_isOpen 15 = .ok (.invokevirtual 141, 3) := by decide +kernel
theorem dX6_isOpen_18 : decode cX6_isOpen 18 = .ok (.sipush 300, 3) := by decide +kernel
theorem dX6_isOpen_21 : decode cX6_isOpen 21 = .ok (.if_icmp .ge 7, 3) := by decide +kernel
theorem dX6_isOpen_24 : decode cX6_isOpen 24 = .ok (.iconst 1, 1) := by decide +kernel
theorem dX6_isOpen_25 : decode cX6_isOpen 25 = .ok (.goto 4, 3) := by decide +kernel
theorem dX6_isOpen_28 : decode cX6_isOpen 28 = .ok (.iconst 0, 1) := by decide +kernel
theorem dX6_isOpen_29 : decode cX6_isOpen 29 = .ok (.ireturn, 1) := by decide +kernel
theorem dX6_bestMove_0 : decode cX6_bestMove 0 = .ok (.aload_n 0, 1) := by decide +kernel
theorem dX6_bestMove_1 : decode cX6_bestMove 1 = .ok (.getfield 46, 3) := by decide +kernel
theorem dX6_bestMove_4 : decode cX6_bestMove 4 = .ok (.invokevirtual 107, 3) := by decide +kernel
theorem dX6_bestMove_7 : decode cX6_bestMove 7 = .ok (.istore_n 1, 1) := by decide +kernel
theorem dX6_bestMove_8 : decode cX6_bestMove 8 = .ok (.iload_n 1, 1) := by decide +kernel
theorem dX6_bestMove_9 : decode cX6_bestMove 9 = .ok (.iconst (-1), 1) := by decide +kernel
theorem dX6_bestMove_10 : decode cX6_bestMove 10 = .ok (.if_icmp .ne 5, 3) := by decide +kernel
theorem dX6_bestMove_13 : decode cX6_bestMove 13 = .ok (.iconst (-1), 1) := by decide +kernel
theorem dX6_bestMove_14 : decode cX6_bestMove 14 = .ok (.ireturn, 1) := by decide +kernel
theorem dX6_bestMove_15 : decode cX6_bestMove 15 = .ok (.aload_n 0, 1) := by decide +kernel
theorem dX6_bestMove_16 : decode cX6_bestMove 16 = .ok (.getfield 37, 3) := by decide +kernel
theorem dX6_bestMove_19 : decode cX6_bestMove 19 = .ok (.iload_n 1, 1) := by decide +kernel
theorem dX6_bestMove_20 : decode cX6_bestMove 20 = .ok (.invokevirtual 199, 3) := by decide +kernel
theorem dX6_bestMove_23 : decode cX6_bestMove 23 = .ok (.iconst (-1), 1) := by decide +kernel
theorem dX6_bestMove_24 : decode cX6_bestMove 24 = .ok (.istore_n 2, 1) := by decide +kernel
theorem dX6_bestMove_25 : decode cX6_bestMove 25 = .ok (.ldc 202, 2) := by decide +kernel
theorem dX6_bestMove_27 : decode cX6_bestMove 27 = .ok (.istore_n 3, 1) := by decide +kernel
theorem dX6_bestMove_28 : decode cX6_bestMove 28 = .ok (.iconst 0, 1) := by decide +kernel
theorem dX6_bestMove_29 : decode cX6_bestMove 29 = .ok (.istore 4, 2) := by decide +kernel
theorem dX6_bestMove_31 : decode cX6_bestMove 31 = .ok (.iload 4, 2) := by decide +kernel
theorem dX6_bestMove_33 : decode cX6_bestMove 33 = .ok (.bipush 10, 2) := by decide +kernel
theorem dX6_bestMove_35 : decode cX6_bestMove 35 = .ok (.if_icmp .ge 93, 3) := by decide +kernel
theorem dX6_bestMove_38 : decode cX6_bestMove 38 = .ok (.aload_n 0, 1) := by decide +kernel
theorem dX6_bestMove_39 : decode cX6_bestMove 39 = .ok (.getfield 37, 3) := by decide +kernel
theorem dX6_bestMove_42 : decode cX6_bestMove 42 = .ok (.iload 4, 2) := by decide +kernel
theorem dX6_bestMove_44 : decode cX6_bestMove 44 = .ok (.invokevirtual 203, 3) := by decide +kernel
theorem dX6_bestMove_47 : decode cX6_bestMove 47 = .ok (.istore 5, 2) := by decide +kernel
theorem dX6_bestMove_49 : decode cX6_bestMove 49 = .ok (.aload_n 0, 1) := by decide +kernel
theorem dX6_bestMove_50 : decode cX6_bestMove 50 = .ok (.getfield 30, 3) := by decide +kernel
theorem dX6_bestMove_53 : decode cX6_bestMove 53 = .ok (.iload_n 1, 1) := by decide +kernel
theorem dX6_bestMove_54 : decode cX6_bestMove 54 = .ok (.iload 5, 2) := by decide +kernel
theorem dX6_bestMove_56 : decode cX6_bestMove 56 = .ok (.invokevirtual 111, 3) := by decide +kernel
theorem dX6_bestMove_59 : decode cX6_bestMove 59 = .ok (.iconst 0, 1) := by decide +kernel
theorem dX6_bestMove_60 : decode cX6_bestMove 60 = .ok (.istore 6, 2) := by decide +kernel
theorem dX6_bestMove_62 : decode cX6_bestMove 62 = .ok (.iload 6, 2) := by decide +kernel
theorem dX6_bestMove_64 : decode cX6_bestMove 64 = .ok (.bipush 121, 2) := by decide +kernel
theorem dX6_bestMove_66 : decode cX6_bestMove 66 = .ok (.if_icmp .ge 56, 3) := by decide +kernel
theorem dX6_bestMove_69 : decode cX6_bestMove 69 = .ok (.aload_n 0, 1) := by decide +kernel
theorem dX6_bestMove_70 : decode cX6_bestMove 70 = .ok (.getfield 30, 3) := by decide +kernel
theorem dX6_bestMove_73 : decode cX6_bestMove 73 = .ok (.iload 6, 2) := by decide +kernel
theorem dX6_bestMove_75 : decode cX6_bestMove 75 = .ok (.invokevirtual 115, 3) := by decide +kernel
theorem dX6_bestMove_78 : decode cX6_bestMove 78 = .ok (.iconst (-1), 1) := by decide +kernel
theorem dX6_bestMove_79 : decode cX6_bestMove 79 = .ok (.if_icmp .ne 6, 3) := by decide +kernel
theorem dX6_bestMove_82 : decode cX6_bestMove 82 = .ok (.goto 34, 3) := by decide +kernel
theorem dX6_bestMove_85 : decode cX6_bestMove 85 = .ok (.aload_n 0, 1) := by decide +kernel
theorem dX6_bestMove_86 : decode cX6_bestMove 86 = .ok (.getfield 37, 3) := by decide +kernel
theorem dX6_bestMove_89 : decode cX6_bestMove 89 = .ok (.iload 4, 2) := by decide +kernel
theorem dX6_bestMove_91 : decode cX6_bestMove 91 = .ok (.iload 6, 2) := by decide +kernel
theorem dX6_bestMove_93 : decode cX6_bestMove 93 = .ok (.invokevirtual 206, 3) := by decide +kernel
theorem dX6_bestMove_96 : decode cX6_bestMove 96 = .ok (.istore 7, 2) := by decide +kernel
theorem dX6_bestMove_98 : decode cX6_bestMove 98 = .ok (.iload 7, 2) := by decide +kernel
theorem dX6_bestMove_100 : decode cX6_bestMove 100 = .ok (.iload_n 3, 1) := by decide +kernel
theorem dX6_bestMove_101 : decode cX6_bestMove 101 = .ok (.if_icmp .ge 15, 3) := by decide +kernel
theorem dX6_bestMove_104 : decode cX6_bestMove 104 = .ok (.iload 7, 2) := by decide +kernel
theorem dX6_bestMove_106 : decode cX6_bestMove 106 = .ok (.istore_n 3, 1) := by decide +kernel
theorem dX6_bestMove_107 : decode cX6_bestMove 107 = .ok (.iload 5, 2) := by decide +kernel
theorem dX6_bestMove_109 : decode cX6_bestMove 109 = .ok (.bipush 121, 2) := by decide +kernel
theorem dX6_bestMove_111 : decode cX6_bestMove 111 = .ok (.imul, 1) := by decide +kernel
theorem dX6_bestMove_112 : decode cX6_bestMove 112 = .ok (.iload 6, 2) := by decide +kernel
theorem dX6_bestMove_114 : decode cX6_bestMove 114 = .ok (.iadd, 1) := by decide +kernel
theorem dX6_bestMove_115 : decode cX6_bestMove 115 = .ok (.istore_n 2, 1) := by decide +kernel
theorem dX6_bestMove_116 : decode cX6_bestMove 116 = .ok (.iinc 6 1, 3) := by decide +kernel
theorem dX6_bestMove_119 : decode cX6_bestMove 119 = .ok (.goto (-57), 3) := by decide +kernel
theorem dX6_bestMove_122 : decode cX6_bestMove 122 = .ok (.iinc 4 1, 3) := by decide +kernel
theorem dX6_bestMove_125 : decode cX6_bestMove 125 = .ok (.goto (-94), 3) := by decide +kernel
theorem dX6_bestMove_128 : decode cX6_bestMove 128 = .ok (.iload_n 2, 1) := by decide +kernel
theorem dX6_bestMove_129 : decode cX6_bestMove 129 = .ok (.ireturn, 1) := by decide +kernel
