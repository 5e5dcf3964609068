theorem dX0_init_0 : decode cX0_init 0 = .ok (.aload_n 0, 1) := by decide +kernel
theorem dX0_init_1 : decode cX0_init 1 = .ok (.invokespecial 3, 3) := by decide +kernel
theorem dX0_init_4 : decode cX0_init 4 = .ok (.aload_n 0, 1) := by decide +kernel
theorem dX0_init_5 : decode cX0_init 5 = .ok (.sipush 300, 3) := by decide +kernel
theorem dX0_init_8 : decode cX0_init 8 = .ok (.newarray .int, 2) := by decide +kernel
theorem dX0_init_10 : decode cX0_init 10 = .ok (.putfield 9, 3) := by decide +kernel
theorem dX0_init_13 : decode cX0_init 13 = .ok (.aload_n 0, 1) := by decide +kernel
theorem dX0_init_14 : decode cX0_init 14 = .ok (.sipush 300, 3) := by decide +kernel
theorem dX0_init_17 : decode cX0_init 17 = .ok (.newarray .int, 2) := by decide +kernel
theorem dX0_init_19 : decode cX0_init 19 = .ok (.putfield 15, 3) := by decide +kernel
theorem dX0_init_22 : decode cX0_init 22 = .ok (.aload_n 0, 1) := by decide +kernel
theorem dX0_init_23 : decode cX0_init 23 = .ok (.sipush 300, 3) := by decide +kernel
theorem dX0_init_26 : decode cX0_init 26 = .ok (.newarray .int, 2) := by decide +kernel
theorem dX0_init_28 : decode cX0_init 28 = .ok (.putfield 18, 3) := by decide +kernel
theorem dX0_init_31 : decode cX0_init 31 = .ok (.aload_n 0, 1) := by decide +kernel
theorem dX0_init_32 : decode cX0_init 32 = .ok (.sipush 300, 3) := by decide +kernel
theorem dX0_init_35 : decode cX0_init 35 = .ok (.newarray .int, 2) := by decide +kernel
theorem dX0_init_37 : decode cX0_init 37 = .ok (.putfield 21, 3) := by decide +kernel
theorem dX0_init_40 : decode cX0_init 40 = .ok (.aload_n 0, 1) := by decide +kernel
theorem dX0_init_41 : decode cX0_init 41 = .ok (.sipush 300, 3) := by decide +kernel
theorem dX0_init_44 : decode cX0_init 44 = .ok (.newarray .int, 2) := by decide +kernel
theorem dX0_init_46 : decode cX0_init 46 = .ok (.putfield 24, 3) := by decide +kernel
theorem dX0_init_49 : decode cX0_init 49 = .ok (.return_, 1) := by decide +kernel
theorem dX0_size_0 : decode cX0_size 0 = .ok (.aload_n 0, 1) := by decide +kernel
theorem dX0_size_1 : decode cX0_size 1 = .ok (.getfield 27, 3) := by decide +kernel
theorem dX0_size_4 : decode cX0_size 4 = .ok (.ireturn, 1) := by decide +kernel
theorem dX0_clear_0 : decode cX0_clear 0 = .ok (.aload_n 0, 1) := by decide +kernel
theorem dX0_clear_1 : decode cX0_clear 1 = .ok (.iconst 0, 1) := by decide +kernel
theorem dX0_clear_2 : decode cX0_clear 2 = .ok (.putfield 27, 3) := by decide +kernel
theorem dX0_clear_5 : decode cX0_clear 5 = .ok (.return_, 1) := by decide +kernel
theorem dX0_add_0 : decode cX0_add 0 = .ok (.aload_n 0, 1) := by decide +kernel
theorem dX0_add_1 : decode cX0_add 1 = .ok (.getfield 27, 3) := by decide +kernel
theorem dX0_add_4 : decode cX0_add 4 = .ok (.sipush 300, 3) := by decide +kernel
theorem dX0_add_7 : decode cX0_add 7 = .ok (.if_icmp .ge 72, 3) := by decide +kernel
theorem dX0_add_10 : decode cX0_add 10 = .ok (.aload_n 0, 1) := by decide +kernel
theorem dX0_add_11 : decode cX0_add 11 = .ok (.getfield 9, 3) := by decide +kernel
theorem dX0_add_14 : decode cX0_add 14 = .ok (.aload_n 0, 1) := by decide +kernel
theorem dX0_add_15 : decode cX0_add 15 = .ok (.getfield 27, 3) := by decide +kernel
theorem dX0_add_18 : decode cX0_add 18 = .ok (.iload_n 1, 1) := by decide +kernel
theorem dX0_add_19 : decode cX0_add 19 = .ok (.iastore, 1) := by decide +kernel
theorem dX0_add_20 : decode cX0_add 20 = .ok (.aload_n 0, 1) := by decide +kernel
theorem dX0_add_21 : decode cX0_add 21 = .ok (.getfield 15, 3) := by decide +kernel
theorem dX0_add_24 : decode cX0_add 24 = .ok (.aload_n 0, 1) := by decide +kernel
theorem dX0_add_25 : decode cX0_add 25 = .ok (.getfield 27, 3) := by decide +kernel
theorem dX0_add_28 : decode cX0_add 28 = .ok (.iload_n 2, 1) := by decide +kernel
theorem dX0_add_29 : decode cX0_add 29 = .ok (.iastore, 1) := by decide +kernel
theorem dX0_add_30 : decode cX0_add 30 = .ok (.aload_n 0, 1) := by decide +kernel
theorem dX0_add_31 : decode cX0_add 31 = .ok (.getfield 18, 3) := by decide +kernel
theorem dX0_add_34 : decode cX0_add 34 = .ok (.aload_n 0, 1) := by decide +kernel
theorem dX0_add_35 : decode cX0_add 35 = .ok (.getfield 27, 3) := by decide +kernel
theorem dX0_add_38 : decode cX0_add 38 = .ok (.aload_n 3, 1) := by decide +kernel
theorem dX0_add_39 : decode cX0_add 39 = .ok (.invokevirtual 31, 3) := by decide +kernel
theorem dX0_add_42 : decode cX0_add 42 = .ok (.iastore, 1) := by decide +kernel
theorem dX0_add_43 : decode cX0_add 43 = .ok (.aload_n 0, 1) := by decide +kernel
theorem dX0_add_44 : decode cX0_add 44 = .ok (.getfield 21, 3) := by decide +kernel
theorem dX0_add_47 : decode cX0_add 47 = .ok (.aload_n 0, 1) := by decide +kernel
theorem dX0_add_48 : decode cX0_add 48 = .ok (.getfield 27, 3) := by decide +kernel
theorem dX0_add_51 : decode cX0_add 51 = .ok (.aload_n 3, 1) := by decide +kernel
theorem dX0_add_52 : decode cX0_add 52 = .ok (.invokevirtual 37, 3) := by decide +kernel
theorem dX0_add_55 : decode cX0_add 55 = .ok (.iastore, 1) := by decide +kernel
theorem dX0_add_56 : decode cX0_add 56 = .ok (.aload_n 0, 1) := by decide +kernel
theorem dX0_add_57 : decode cX0_add 57 = .ok (.getfield 24, 3) := by decide +kernel
theorem dX0_add_60 : decode cX0_add 60 = .ok (.aload_n 0, 1) := by decide +kernel
theorem dX0_add_61 : decode cX0_add 61 = .ok (.getfield 27, 3) := by decide +kernel
theorem dX0_add_64 : decode cX0_add 64 = .ok (.aload_n 3, 1) := by decide +kernel
theorem dX0_add_65 : decode cX0_add 65 = .ok (.invokevirtual 40, 3) := by decide +kernel
theorem dX0_add_68 : decode cX0_add 68 = .ok (.iastore, 1) := by decide +kernel
theorem dX0_add_69 : decode cX0_add 69 = .ok (.aload_n 0, 1) := by decide +kernel
theorem dX0_add_70 : decode cX0_add 70 = .ok (.dup, 1) := by decide +kernel
theorem dX0_add_71 : decode cX0_add 71 = .ok (.getfield 27, 3) := by decide +kernel
theorem dX0_add_74 : decode cX0_add 74 = .ok (.iconst 1, 1) := by decide +kernel
theorem dX0_add_75 : decode cX0_add 75 = .ok (.iadd, 1) := by decide +kernel
theorem dX0_add_76 : decode cX0_add 76 = .ok (.putfield 27, 3) := by decide +kernel
theorem dX0_add_79 : decode cX0_add 79 = .ok (.return_, 1) := by decide +kernel
theorem dX0_takeBack_0 : decode cX0_takeBack 0 = .ok (.aload_n 0, 1) := by decide +kernel
theorem dX0_takeBack_1 : decode cX0_takeBack 1 = .ok (.getfield 27, 3) := by decide +kernel
theorem dX0_takeBack_4 : decode cX0_takeBack 4 = .ok (.ifCond .le 66, 3) := by decide +kernel
theorem dX0_takeBack_7 : decode cX0_takeBack 7 = .ok (.aload_n 0, 1) := by decide +kernel
theorem dX0_takeBack_8 : decode cX0_takeBack 8 = .ok (.dup, 1) := by decide +kernel
theorem dX0_takeBack_9 : decode cX0_takeBack 9 = .ok (.getfield 27, 3) := by decide +kernel
theorem dX0_takeBack_12 : decode cX0_takeBack 12 = .ok (.iconst 1, 1) := by decide +kernel
theorem dX0_takeBack_13 : decode cX0_takeBack 13 = .ok (.isub, 1) := by decide +kernel
theorem dX0_takeBack_14 : decode cX0_takeBack 14 = .ok (.putfield 27, 3) := by decide +kernel
theorem dX0_takeBack_17 : decode cX0_takeBack 17 = .ok (.aload_n 1, 1) := by decide +kernel
theorem dX0_takeBack_18 : decode cX0_takeBack 18 = .ok (.aload_n 0, 1) := by decide +kernel
theorem dX0_takeBack_19 : decode cX0_takeBack 19 = .ok (.getfield 15, 3) := by decide +kernel
theorem dX0_takeBack_22 : decode cX0_takeBack 22 = .ok (.aload_n 0, 1) := by decide +kernel
theorem dX0_takeBack_23 : decode cX0_takeBack 23 = .ok (.getfield 27, 3) := by decide +kernel
theorem dX0_takeBack_26 : decode cX0_takeBack 26 = .ok (.iaload, 1) := by decide +kernel
theorem dX0_takeBack_27 : decode cX0_takeBack 27 = .ok (.aload_n 0, 1) := by decide +kernel
theorem dX0_takeBack_28 : decode cX0_takeBack 28 = .ok (.getfield 9, 3) := by decide +kernel
theorem dX0_takeBack_31 : decode cX0_takeBack 31 = .ok (.aload_n 0, 1) := by decide +kernel
theorem dX0_takeBack_32 : decode cX0_takeBack 32 = .ok (.getfield 27, 3) := by decide +kernel
theorem dX0_takeBack_35 : decode cX0_takeBack 35 = .ok (.iaload, 1) := by decide +kernel
theorem dX0_takeBack_36 : decode cX0_takeBack 36 = .ok (.invokevirtual 43, 3) := by decide +kernel
theorem dX0_takeBack_39 : decode cX0_takeBack 39 = .ok (.aload_n 2, 1) := by decide +kernel
theorem dX0_takeBack_40 : decode cX0_takeBack 40 = .ok (.aload_n 0, 1) := by decide +kernel
theorem dX0_takeBack_41 : decode cX0_takeBack 41 = .ok (.getfield 18, 3) := by decide +kernel
theorem dX0_takeBack_44 : decode cX0_takeBack 44 = .ok (.aload_n 0, 1) := by decide +kernel
theorem dX0_takeBack_45 : decode cX0_takeBack 45 = .ok (.getfield 27, 3) := by decide +kernel
theorem dX0_takeBack_48 : decode cX0_takeBack 48 = .ok (.iaload, 1) := by decide +kernel
theorem dX0_takeBack_49 : decode cX0_takeBack 49 = .ok (.aload_n 0, 1) := by decide +kernel
theorem dX0_takeBack_50 : decode cX0_takeBack 50 = .ok (.getfield 21, 3) := by decide +kernel
theorem dX0_takeBack_53 : decode cX0_takeBack 53 = .ok (.aload_n 0, 1) := by decide +kernel
theorem dX0_takeBack_54 : decode cX0_takeBack 54 = .ok (.getfield 27, 3) := by decide +kernel
theorem dX0_takeBack_57 : decode cX0_takeBack 57 = .ok (.iaload, 1) := by decide +kernel
theorem dX0_takeBack_58 : decode cX0_takeBack 58 = .ok (.aload_n 0, 1) := by decide +kernel
theorem dX0_takeBack_59 : decode cX0_takeBack 59 = .ok (.getfield 24, 3) := by decide +kernel
theorem dX0_takeBack_62 : decode cX0_takeBack 62 = .ok (.aload_n 0, 1) := by decide +kernel
theorem dX0_takeBack_63 : decode cX0_takeBack 63 = .ok (.getfield 27, 3) := by decide +kernel
theorem dX0_takeBack_66 : decode cX0_takeBack 66 = .ok (.iaload, 1) := by decide +kernel
theorem dX0_takeBack_67 : decode cX0_takeBack 67 = .ok (.invokevirtual 49, 3) := by decide +kernel
theorem dX0_takeBack_70 : decode cX0_takeBack 70 = .ok (.return_, 1) := by decide +kernel
theorem dX1_init_0 : decode cX1_init 0 = .ok (.aload_n 0, 1) := by decide +kernel
theorem dX1_init_1 : decode cX1_init 1 = .ok (.invokespecial 3, 3) := by decide +kernel
theorem dX1_init_4 : decode cX1_init 4 = .ok (.aload_n 0, 1) := by decide +kernel
theorem dX1_init_5 : decode cX1_init 5 = .ok (.bipush 121, 2) := by decide +kernel
theorem dX1_init_7 : decode cX1_init 7 = .ok (.newarray .int, 2) := by decide +kernel
theorem dX1_init_9 : decode cX1_init 9 = .ok (.putfield 9, 3) := by decide +kernel
theorem dX1_init_12 : decode cX1_init 12 = .ok (.aload_n 0, 1) := by decide +kernel
theorem dX1_init_13 : decode cX1_init 13 = .ok (.aload_n 1, 1) := by decide +kernel
theorem dX1_init_14 : decode cX1_init 14 = .ok (.putfield 15, 3) := by decide +kernel
theorem dX1_init_17 : decode cX1_init 17 = .ok (.aload_n 0, 1) := by decide +kernel
theorem dX1_init_18 : decode cX1_init 18 = .ok (.iconst 0, 1) := by decide +kernel
theorem dX1_init_19 : decode cX1_init 19 = .ok (.invokevirtual 19, 3) := by decide +kernel
theorem dX1_init_22 : decode cX1_init 22 = .ok (.return_, 1) := by decide +kernel
theorem dX1_setUp_0 : decode cX1_setUp 0 = .ok (.iconst 0, 1) := by decide +kernel
theorem dX1_setUp_1 : decode cX1_setUp 1 = .ok (.istore_n 2, 1) := by decide +kernel
theorem dX1_setUp_2 : decode cX1_setUp 2 = .ok (.iload_n 2, 1) := by decide +kernel
theorem dX1_setUp_3 : decode cX1_setUp 3 = .ok (.bipush 121, 2) := by decide +kernel
theorem dX1_setUp_5 : decode cX1_setUp 5 = .ok (.if_icmp .ge 43, 3) := by decide +kernel
theorem dX1_setUp_8 : decode cX1_setUp 8 = .ok (.aload_n 0, 1) := by decide +kernel
theorem dX1_setUp_9 : decode cX1_setUp 9 = .ok (.getfield 15, 3) := by decide +kernel
theorem dX1_setUp_12 : decode cX1_setUp 12 = .ok (.iload_n 2, 1) := by decide +kernel
theorem dX1_setUp_13 : decode cX1_setUp 13 = .ok (.invokevirtual 23, 3) := by decide +kernel
theorem dX1_setUp_16 : decode cX1_setUp 16 = .ok (.istore_n 3, 1) := by decide +kernel
theorem dX1_setUp_17 : decode cX1_setUp 17 = .ok (.aload_n 0, 1) := by decide +kernel
theorem dX1_setUp_18 : decode cX1_setUp 18 = .ok (.getfield 9, 3) := by decide +kernel
theorem dX1_setUp_21 : decode cX1_setUp 21 = .ok (.iload_n 2, 1) := by decide +kernel
theorem dX1_setUp_22 : decode cX1_setUp 22 = .ok (.iload_n 3, 1) := by decide +kernel
theorem dX1_setUp_23 : decode cX1_setUp 23 = .ok (.iconst (-1), 1) := by decide +kernel
theorem dX1_setUp_24 : decode cX1_setUp 24 = .ok (.if_icmp .eq 16, 3) := by decide +kernel
theorem dX1_setUp_27 : decode cX1_setUp 27 = .ok (.iload_n 1, 1) := by decide +kernel
theorem dX1_setUp_28 : decode cX1_setUp 28 = .ok (.iload_n 3, 1) := by decide +kernel
theorem dX1_setUp_29 : decode cX1_setUp 29 = .ok (.ishr, 1) := by decide +kernel
theorem dX1_setUp_30 : decode cX1_setUp 30 = .ok (.iconst 1, 1) := by decide +kernel
theorem dX1_setUp_31 : decode cX1_setUp 31 = .ok (.iand, 1) := by decide +kernel
theorem dX1_setUp_32 : decode cX1_setUp 32 = .ok (.iconst 1, 1) := by decide +kernel
theorem dX1_setUp_33 : decode cX1_setUp 33 = .ok (.if_icmp .ne 7, 3) := by decide +kernel
theorem dX1_setUp_36 : decode cX1_setUp 36 = .ok (.iload_n 3, 1) := by decide +kernel
theorem dX1_setUp_37 : decode cX1_setUp 37 = .ok (.goto 4, 3) := by decide +kernel
theorem dX1_setUp_40 : decode cX1_setUp 40 = .ok (.iconst (-1), 1) := by decide +kernel
theorem dX1_setUp_41 : decode cX1_setUp 41 = .ok (.iastore, 1) := by decide +kernel
theorem dX1_setUp_42 : decode cX1_setUp 42 = .ok (.iinc 2 1, 3) := by decide +kernel
theorem dX1_setUp_45 : decode cX1_setUp 45 = .ok (.goto (-43), 3) := by decide +kernel
theorem dX1_setUp_48 : decode cX1_setUp 48 = .ok (.return_, 1) := by decide +kernel
theorem dX1_owner_0 : decode cX1_owner 0 = .ok (.iload_n 1, 1) := by decide +kernel
theorem dX1_owner_1 : decode cX1_owner 1 = .ok (.invokestatic 29, 3) := by decide +kernel
theorem dX1_owner_4 : decode cX1_owner 4 = .ok (.ifCond .eq 12, 3) := by decide +kernel
theorem dX1_owner_7 : decode cX1_owner 7 = .ok (.aload_n 0, 1) := by decide +kernel
theorem dX1_owner_8 : decode cX1_owner 8 = .ok (.getfield 9, 3) := by decide +kernel
theorem dX1_owner_11 : decode cX1_owner 11 = .ok (.iload_n 1, 1) := by decide +kernel
theorem dX1_owner_12 : decode cX1_owner 12 = .ok (.iaload, 1) := by decide +kernel
theorem dX1_owner_13 : decode cX1_owner 13 = .ok (.goto 4, 3) := by decide +kernel
theorem dX1_owner_16 : decode cX1_owner 16 = .ok (.iconst (-1), 1) := by decide +kernel
theorem dX1_owner_17 : decode cX1_owner 17 = .ok (.ireturn, 1) := by decide +kernel
theorem dX1_isEmpty_0 : decode cX1_isEmpty 0 = .ok (.iload_n 1, 1) := by decide +kernel
theorem dX1_isEmpty_1 : decode cX1_isEmpty 1 = .ok (.invokestatic 29, 3) := by decide +kernel
theorem dX1_isEmpty_4 : decode cX1_isEmpty 4 = .ok (.ifCond .eq 17, 3) := by decide +kernel
theorem dX1_isEmpty_7 : decode cX1_isEmpty 7 = .ok (.aload_n 0, 1) := by decide +kernel
theorem dX1_isEmpty_8 : decode cX1_isEmpty 8 = .ok (.getfield 9, 3) := by decide +kernel
theorem dX1_isEmpty_11 : decode cX1_isEmpty 11 = .ok (.iload_n 1, 1) := by decide +kernel
theorem dX1_isEmpty_12 : decode cX1_isEmpty 12 = .ok (.iaload, 1) := by decide +kernel
theorem dX1_isEmpty_13 : decode cX1_isEmpty 13 = .ok (.iconst (-1), 1) := by decide +kernel
theorem dX1_isEmpty_14 : decode cX1_isEmpty 14 = .ok (.if_icmp .ne 7, 3) := by decide +kernel
theorem dX1_isEmpty_17 : decode cX1_isEmpty 17 = .ok (.iconst 1, 1) := by decide +kernel
theorem dX1_isEmpty_18 : decode cX1_isEmpty 18 = .ok (.goto 4, 3) := by decide +kernel
theorem dX1_isEmpty_21 : decode cX1_isEmpty 21 = .ok (.iconst 0, 1) := by decide +kernel
theorem dX1_isEmpty_22 : decode cX1_isEmpty 22 = .ok (.ireturn, 1) := by decide +kernel
theorem dX1_carry_0 : decode cX1_carry 0 = .ok (.iload_n 1, 1) := by decide +kernel
theorem dX1_carry_1 : decode cX1_carry 1 = .ok (.invokestatic 29, 3) := by decide +kernel
theorem dX1_carry_4 : decode cX1_carry 4 = .ok (.ifCond .eq 29, 3) := by decide +kernel
theorem dX1_carry_7 : decode cX1_carry 7 = .ok (.iload_n 2, 1) := by decide +kernel
theorem dX1_carry_8 : decode cX1_carry 8 = .ok (.invokestatic 29, 3) := by decide +kernel
theorem dX1_carry_11 : decode cX1_carry 11 = .ok (.ifCond .eq 22, 3) := by decide +kernel
theorem dX1_carry_14 : decode cX1_carry 14 = .ok (.aload_n 0, 1) := by decide +kernel
theorem dX1_carry_15 : decode cX1_carry 15 = .ok (.getfield 9, 3) := by decide +kernel
theorem dX1_carry_18 : decode cX1_carry 18 = .ok (.iload_n 2, 1) := by decide +kernel
theorem dX1_carry_19 : decode cX1_carry 19 = .ok (.aload_n 0, 1) := by decide +kernel
theorem dX1_carry_20 : decode cX1_carry 20 = .ok (.getfield 9, 3) := by decide +kernel
theorem dX1_carry_23 : decode cX1_carry 23 = .ok (.iload_n 1, 1) := by decide +kernel
theorem dX1_carry_24 : decode cX1_carry 24 = .ok (.iaload, 1) := by decide +kernel
theorem dX1_carry_25 : decode cX1_carry 25 = .ok (.iastore, 1) := by decide +kernel
theorem dX1_carry_26 : decode cX1_carry 26 = .ok (.aload_n 0, 1) := by decide +kernel
theorem dX1_carry_27 : decode cX1_carry 27 = .ok (.getfield 9, 3) := by decide +kernel
theorem dX1_carry_30 : decode cX1_carry 30 = .ok (.iload_n 1, 1) := by decide +kernel
theorem dX1_carry_31 : decode cX1_carry 31 = .ok (.iconst (-1), 1) := by decide +kernel
theorem dX1_carry_32 : decode cX1_carry 32 = .ok (.iastore, 1) := by decide +kernel
theorem dX1_carry_33 : decode cX1_carry 33 = .ok (.return_, 1) := by decide +kernel
theorem dX1_countInCamp_0 : decode cX1_countInCamp 0 = .ok (.iconst 0, 1) := by decide +kernel
theorem dX1_countInCamp_1 : decode cX1_countInCamp 1 = .ok (.istore_n 3, 1) := by decide +kernel
theorem dX1_countInCamp_2 : decode cX1_countInCamp 2 = .ok (.iconst 0, 1) := by decide +kernel
theorem dX1_countInCamp_3 : decode cX1_countInCamp 3 = .ok (.istore 4, 2) := by decide +kernel
theorem dX1_countInCamp_5 : decode cX1_countInCamp 5 = .ok (.iload 4, 2) := by decide +kernel
theorem dX1_countInCamp_7 : decode cX1_countInCamp 7 = .ok (.bipush 121, 2) := by decide +kernel
theorem dX1_countInCamp_9 : decode cX1_countInCamp 9 = .ok (.if_icmp .ge 36, 3) := by decide +kernel
theorem dX1_countInCamp_12 : decode cX1_countInCamp 12 = .ok (.aload_n 0, 1) := by decide +kernel
theorem dX1_countInCamp_13 : decode cX1_countInCamp 13 = .ok (.getfield 15, 3) := by decide +kernel
theorem dX1_countInCamp_16 : decode cX1_countInCamp 16 = .ok (.iload 4, 2) := by decide +kernel
theorem dX1_countInCamp_18 : decode cX1_countInCamp 18 = .ok (.invokevirtual 23, 3) := by decide +kernel
theorem dX1_countInCamp_21 : decode cX1_countInCamp 21 = .ok (.iload_n 1, 1) := by decide +kernel
theorem dX1_countInCamp_22 : decode cX1_countInCamp 22 = .ok (.if_icmp .ne 17, 3) := by decide +kernel
theorem dX1_countInCamp_25 : decode cX1_countInCamp 25 = .ok (.aload_n 0, 1) := by decide +kernel
theorem dX1_countInCamp_26 : decode cX1_countInCamp 26 = .ok (.getfield 9, 3) := by decide +kernel
theorem dX1_countInCamp_29 : decode cX1_countInCamp 29 = .ok (.iload 4, 2) := by decide +kernel
theorem dX1_countInCamp_31 : decode cX1_countInCamp 31 = .ok (.iaload, 1) := by decide +kernel
theorem dX1_countInCamp_32 : decode cX1_countInCamp 32 = .ok (.iload_n 2, 1) := by decide +kernel
theorem dX1_countInCamp_33 : decode cX1_countInCamp 33 = .ok (.if_icmp .ne 6, 3) := by decide +kernel
theorem dX1_countInCamp_36 : decode cX1_countInCamp 36 = .ok (.iinc 3 1, 3) := by decide +kernel
theorem dX1_countInCamp_39 : decode cX1_countInCamp 39 = .ok (.iinc 4 1, 3) := by decide +kernel
theorem dX1_countInCamp_42 : decode cX1_countInCamp 42 = .ok (.goto (-37), 3) := by decide +kernel
theorem dX1_countInCamp_45 : decode cX1_countInCamp 45 = .ok (.iload_n 3, 1) := by decide +kernel
theorem dX1_countInCamp_46 : decode cX1_countInCamp 46 = .ok (.ireturn, 1) := by decide +kernel
theorem dX2_init_0 : decode cX2_init 0 = .ok (.aload_n 0, 1) := by decide +kernel
theorem dX2_init_1 : decode cX2_init 1 = .ok (.invokespecial 3, 3) := by decide +kernel
theorem dX2_init_4 : decode cX2_init 4 = .ok (.aload_n 0, 1) := by decide +kernel
theorem dX2_init_5 : decode cX2_init 5 = .ok (.bipush 10, 2) := by decide +kernel
theorem dX2_init_7 : decode cX2_init 7 = .ok (.newarray .int, 2) := by decide +kernel
theorem dX2_init_9 : decode cX2_init 9 = .ok (.putfield 9, 3) := by decide +kernel
theorem dX2_init_12 : decode cX2_init 12 = .ok (.aload_n 0, 1) := by decide +kernel
theorem dX2_init_13 : decode cX2_init 13 = .ok (.bipush 10, 2) := by decide +kernel
theorem dX2_init_15 : decode cX2_init 15 = .ok (.newarray .int, 2) := by decide +kernel
theorem dX2_init_17 : decode cX2_init 17 = .ok (.putfield 15, 3) := by decide +kernel
theorem dX2_init_20 : decode cX2_init 20 = .ok (.aload_n 0, 1) := by decide +kernel
theorem dX2_init_21 : decode cX2_init 21 = .ok (.bipush 100, 2) := by decide +kernel
theorem dX2_init_23 : decode cX2_init 23 = .ok (.newarray .int, 2) := by decide +kernel
theorem dX2_init_25 : decode cX2_init 25 = .ok (.putfield 18, 3) := by decide +kernel
theorem dX2_init_28 : decode cX2_init 28 = .ok (.aload_n 0, 1) := by decide +kernel
theorem dX2_init_29 : decode cX2_init 29 = .ok (.sipush 1024, 3) := by decide +kernel
theorem dX2_init_32 : decode cX2_init 32 = .ok (.newarray .int, 2) := by decide +kernel
theorem dX2_init_34 : decode cX2_init 34 = .ok (.putfield 21, 3) := by decide +kernel
theorem dX2_init_37 : decode cX2_init 37 = .ok (.aload_n 0, 1) := by decide +kernel
theorem dX2_init_38 : decode cX2_init 38 = .ok (.sipush 1024, 3) := by decide +kernel
theorem dX2_init_41 : decode cX2_init 41 = .ok (.newarray .int, 2) := by decide +kernel
theorem dX2_init_43 : decode cX2_init 43 = .ok (.putfield 24, 3) := by decide +kernel
theorem dX2_init_46 : decode cX2_init 46 = .ok (.aload_n 0, 1) := by decide +kernel
theorem dX2_init_47 : decode cX2_init 47 = .ok (.bipush 100, 2) := by decide +kernel
theorem dX2_init_49 : decode cX2_init 49 = .ok (.newarray .int, 2) := by decide +kernel
theorem dX2_init_51 : decode cX2_init 51 = .ok (.putfield 27, 3) := by decide +kernel
theorem dX2_init_54 : decode cX2_init 54 = .ok (.aload_n 0, 1) := by decide +kernel
theorem dX2_init_55 : decode cX2_init 55 = .ok (.aload_n 1, 1) := by decide +kernel
theorem dX2_init_56 : decode cX2_init 56 = .ok (.putfield 30, 3) := by decide +kernel
theorem dX2_init_59 : decode cX2_init 59 = .ok (.aload_n 0, 1) := by decide +kernel
theorem dX2_init_60 : decode cX2_init 60 = .ok (.aload_n 2, 1) := by decide +kernel
theorem dX2_init_61 : decode cX2_init 61 = .ok (.putfield 34, 3) := by decide +kernel
theorem dX2_init_64 : decode cX2_init 64 = .ok (.return_, 1) := by decide +kernel
theorem dX2_leastSum_0 : decode cX2_leastSum 0 = .ok (.aload_n 0, 1) := by decide +kernel
theorem dX2_leastSum_1 : decode cX2_leastSum 1 = .ok (.iload_n 1, 1) := by decide +kernel
theorem dX2_leastSum_2 : decode cX2_leastSum 2 = .ok (.invokevirtual 38, 3) := by decide +kernel
theorem dX2_leastSum_5 : decode cX2_leastSum 5 = .ok (.aload_n 0, 1) := by decide +kernel
theorem dX2_leastSum_6 : decode cX2_leastSum 6 = .ok (.invokevirtual 42, 3) := by decide +kernel
theorem dX2_leastSum_9 : decode cX2_leastSum 9 = .ok (.aload_n 0, 1) := by decide +kernel
theorem dX2_leastSum_10 : decode cX2_leastSum 10 = .ok (.getfield 21, 3) := by decide +kernel
theorem dX2_leastSum_13 : decode cX2_leastSum 13 = .ok (.sipush 1023, 3) := by decide +kernel
theorem dX2_leastSum_16 : decode cX2_leastSum 16 = .ok (.iaload, 1) := by decide +kernel
theorem dX2_leastSum_17 : decode cX2_leastSum 17 = .ok (.ireturn, 1) := by decide +kernel
theorem dX2_weighAllButOne_0 : decode cX2_weighAllButOne 0 = .ok (.aload_n 0, 1) := by decide +kernel
theorem dX2_weighAllButOne_1 : decode cX2_weighAllButOne 1 = .ok (.iload_n 1, 1) := by decide +kernel
theorem dX2_weighAllButOne_2 : decode cX2_weighAllButOne 2 = .ok (.invokevirtual 38, 3) := by decide +kernel
theorem dX2_weighAllButOne_5 : decode cX2_weighAllButOne 5 = .ok (.aload_n 0, 1) := by decide +kernel
theorem dX2_weighAllButOne_6 : decode cX2_weighAllButOne 6 = .ok (.invokevirtual 42, 3) := by decide +kernel
theorem dX2_weighAllButOne_9 : decode cX2_weighAllButOne 9 = .ok (.aload_n 0, 1) := by decide +kernel
theorem dX2_weighAllButOne_10 : decode cX2_weighAllButOne 10 = .ok (.invokevirtual 45, 3) := by decide +kernel
theorem dX2_weighAllButOne_13 : decode cX2_weighAllButOne 13 = .ok (.iconst 0, 1) := by decide +kernel
theorem dX2_weighAllButOne_14 : decode cX2_weighAllButOne 14 = .ok (.istore_n 2, 1) := by decide +kernel
theorem dX2_weighAllButOne_15 : decode cX2_weighAllButOne 15 = .ok (.iload_n 2, 1) := by decide +kernel
theorem dX2_weighAllButOne_16 : decode cX2_weighAllButOne 16 = .ok (.aload_n 0, 1) := by decide +kernel
theorem dX2_weighAllButOne_17 : decode cX2_weighAllButOne 17 = .ok (.getfield 27, 3) := by decide +kernel
theorem dX2_weighAllButOne_20 : decode cX2_weighAllButOne 20 = .ok (.arraylength, 1) := by decide +kernel
theorem dX2_weighAllButOne_21 : decode cX2_weighAllButOne 21 = .ok (.if_icmp .ge 17, 3) := by decide +kernel
theorem dX2_weighAllButOne_24 : decode cX2_weighAllButOne 24 = .ok (.aload_n 0, 1) := by decide +kernel
theorem dX2_weighAllButOne_25 : decode cX2_weighAllButOne 25 = .ok (.getfield 27, 3) := by decide +kernel
theorem dX2_weighAllButOne_28 : decode cX2_weighAllButOne 28 = .ok (.iload_n 2, 1) := by decide +kernel
theorem dX2_weighAllButOne_29 : decode cX2_weighAllButOne 29 = .ok (.ldc 48, 2) := by decide +kernel
theorem dX2_weighAllButOne_31 : decode cX2_weighAllButOne 31 = .ok (.iastore, 1) := by decide +kernel
theorem dX2_weighAllButOne_32 : decode cX2_weighAllButOne 32 = .ok (.iinc 2 1, 3) := by decide +kernel
theorem dX2_weighAllButOne_35 : decode cX2_weighAllButOne 35 = .ok (.goto (-20), 3) := by decide +kernel
theorem dX2_weighAllButOne_38 : decode cX2_weighAllButOne 38 = .ok (.iconst 0, 1) := by decide +kernel
theorem dX2_weighAllButOne_39 : decode cX2_weighAllButOne 39 = .ok (.istore_n 2, 1) := by decide +kernel
theorem dX2_weighAllButOne_40 : decode cX2_weighAllButOne 40 = .ok (.iload_n 2, 1) := by decide +kernel
theorem dX2_weighAllButOne_41 : decode cX2_weighAllButOne 41 = .ok (.sipush 1023, 3) := by decide +kernel
theorem dX2_weighAllButOne_44 : decode cX2_weighAllButOne 44 = .ok (.if_icmp .ge 91, 3) := by decide +kernel
theorem dX2_weighAllButOne_47 : decode cX2_weighAllButOne 47 = .ok (.iload_n 2, 1) := by decide +kernel
theorem dX2_weighAllButOne_48 : decode cX2_weighAllButOne 48 = .ok (.invokestatic 49, 3) := by decide +kernel
theorem dX2_weighAllButOne_51 : decode cX2_weighAllButOne 51 = .ok (.istore_n 3, 1) := by decide +kernel
theorem dX2_weighAllButOne_52 : decode cX2_weighAllButOne 52 = .ok (.iconst 0, 1) := by decide +kernel
theorem dX2_weighAllButOne_53 : decode cX2_weighAllButOne 53 = .ok (.istore 4, 2) := by decide +kernel
theorem dX2_weighAllButOne_55 : decode cX2_weighAllButOne 55 = .ok (.iload 4, 2) := by decide +kernel
theorem dX2_weighAllButOne_57 : decode cX2_weighAllButOne 57 = .ok (.bipush 10, 2) := by decide +kernel
theorem dX2_weighAllButOne_59 : decode cX2_weighAllButOne 59 = .ok (.if_icmp .ge 70, 3) := by decide +kernel
theorem dX2_weighAllButOne_62 : decode cX2_weighAllButOne 62 = .ok (.iload_n 2, 1) := by decide +kernel
theorem dX2_weighAllButOne_63 : decode cX2_weighAllButOne 63 = .ok (.iload 4, 2) := by decide +kernel
theorem dX2_weighAllButOne_65 : decode cX2_weighAllButOne 65 = .ok (.ishr, 1) := by decide +kernel
theorem dX2_weighAllButOne_66 : decode cX2_weighAllButOne 66 = .ok (.iconst 1, 1) := by decide +kernel
theorem dX2_weighAllButOne_67 : decode cX2_weighAllButOne 67 = .ok (.iand, 1) := by decide +kernel
theorem dX2_weighAllButOne_68 : decode cX2_weighAllButOne 68 = .ok (.ifCond .ne 55, 3) := by decide +kernel
theorem dX2_weighAllButOne_71 : decode cX2_weighAllButOne 71 = .ok (.sipush 1023, 3) := by decide +kernel
theorem dX2_weighAllButOne_74 : decode cX2_weighAllButOne 74 = .ok (.iload_n 2, 1) := by decide +kernel
theorem dX2_weighAllButOne_75 : decode cX2_weighAllButOne 75 = .ok (.isub, 1) := by decide +kernel
theorem dX2_weighAllButOne_76 : decode cX2_weighAllButOne 76 = .ok (.iconst 1, 1) := by decide +kernel
theorem dX2_weighAllButOne_77 : decode cX2_weighAllButOne 77 = .ok (.iload 4, 2) := by decide +kernel
theorem dX2_weighAllButOne_79 : decode cX2_weighAllButOne 79 = .ok (.ishl, 1) := by decide +kernel
theorem dX2_weighAllButOne_80 : decode cX2_weighAllButOne 80 = .ok (.isub, 1) := by decide +kernel
theorem dX2_weighAllButOne_81 : decode cX2_weighAllButOne 81 = .ok (.istore 5, 2) := by decide +kernel
theorem dX2_weighAllButOne_83 : decode cX2_weighAllButOne 83 = .ok (.iload_n 3, 1) := by decide +kernel
theorem dX2_weighAllButOne_84 : decode cX2_weighAllButOne 84 = .ok (.bipush 10, 2) := by decide +kernel
theorem dX2_weighAllButOne_86 : decode cX2_weighAllButOne 86 = .ok (.imul, 1) := by decide +kernel
theorem dX2_weighAllButOne_87 : decode cX2_weighAllButOne 87 = .ok (.iload 4, 2) := by decide +kernel
theorem dX2_weighAllButOne_89 : decode cX2_weighAllButOne 89 = .ok (.iadd, 1) := by decide +kernel
theorem dX2_weighAllButOne_90 : decode cX2_weighAllButOne 90 = .ok (.istore 6, 2) := by decide +kernel
theorem dX2_weighAllButOne_92 : decode cX2_weighAllButOne 92 = .ok (.aload_n 0, 1) := by decide +kernel
theorem dX2_weighAllButOne_93 : decode cX2_weighAllButOne 93 = .ok (.getfield 27, 3) := by decide +kernel
theorem dX2_weighAllButOne_96 : decode cX2_weighAllButOne 96 = .ok (.iload 6, 2) := by decide +kernel
theorem dX2_weighAllButOne_98 : decode cX2_weighAllButOne 98 = .ok (.aload_n 0, 1) := by decide +kernel
theorem dX2_weighAllButOne_99 : decode cX2_weighAllButOne 99 = .ok (.getfield 27, 3) := by decide +kernel
theorem dX2_weighAllButOne_102 : decode cX2_weighAllButOne 102 = .ok (.iload 6, 2) := by decide +kernel
theorem dX2_weighAllButOne_104 : decode cX2_weighAllButOne 104 = .ok (.iaload, 1) := by decide +kernel
theorem dX2_weighAllButOne_105 : decode cX2_weighAllButOne 105 = .ok (.aload_n 0, 1) := by decide +kernel
theorem dX2_weighAllButOne_106 : decode cX2_weighAllButOne 106 = .ok (.getfield 21, 3) := by decide +kernel
theorem dX2_weighAllButOne_109 : decode cX2_weighAllButOne 109 = .ok (.iload_n 2, 1) := by decide +kernel
theorem dX2_weighAllButOne_110 : decode cX2_weighAllButOne 110 = .ok (.iaload, 1) := by decide +kernel
theorem dX2_weighAllButOne_111 : decode cX2_weighAllButOne 111 = .ok (.aload_n 0, 1) := by decide +kernel
theorem dX2_weighAllButOne_112 : decode cX2_weighAllButOne 112 = .ok (.getfield 24, 3) := by decide +kernel
theorem dX2_weighAllButOne_115 : decode cX2_weighAllButOne 115 = .ok (.iload 5, 2) := by decide +kernel
theorem dX2_weighAllButOne_117 : decode cX2_weighAllButOne 117 = .ok (.iaload, 1) := by decide +kernel
theorem dX2_weighAllButOne_118 : decode cX2_weighAllButOne 118 = .ok (.iadd, 1) := by decide +kernel
theorem dX2_weighAllButOne_119 : decode cX2_weighAllButOne 119 = .ok (.invokestatic 55, 3) := by decide +kernel
theorem dX2_weighAllButOne_122 : decode cX2_weighAllButOne 122 = .ok (.iastore, 1) := by decide +kernel
theorem dX2_weighAllButOne_123 : decode cX2_weighAllButOne 123 = .ok (.iinc 4 1, 3) := by decide +kernel
theorem dX2_weighAllButOne_126 : decode cX2_weighAllButOne 126 = .ok (.goto (-71), 3) := by decide +kernel
theorem dX2_weighAllButOne_129 : decode cX2_weighAllButOne 129 = .ok (.iinc 2 1, 3) := by decide +kernel
theorem dX2_weighAllButOne_132 : decode cX2_weighAllButOne 132 = .ok (.goto (-92), 3) := by decide +kernel
theorem dX2_weighAllButOne_135 : decode cX2_weighAllButOne 135 = .ok (.return_, 1) := by decide +kernel
theorem dX2_sumWith_0 : decode cX2_sumWith 0 = .ok (.ldc 48, 2) := by decide +kernel
theorem dX2_sumWith_2 : decode cX2_sumWith 2 = .ok (.istore_n 3, 1) := by decide +kernel
theorem dX2_sumWith_3 : decode cX2_sumWith 3 = .ok (.iload_n 1, 1) := by decide +kernel
theorem dX2_sumWith_4 : decode cX2_sumWith 4 = .ok (.ifCond .lt 9, 3) := by decide +kernel
theorem dX2_sumWith_7 : decode cX2_sumWith 7 = .ok (.iload_n 1, 1) := by decide +kernel
theorem dX2_sumWith_8 : decode cX2_sumWith 8 = .ok (.bipush 10, 2) := by decide +kernel
theorem dX2_sumWith_10 : decode cX2_sumWith 10 = .ok (.if_icmp .lt 5, 3) := by decide +kernel
theorem dX2_sumWith_13 : decode cX2_sumWith 13 = .ok (.iload_n 3, 1) := by decide +kernel
theorem dX2_sumWith_14 : decode cX2_sumWith 14 = .ok (.ireturn, 1) := by decide +kernel
theorem dX2_sumWith_15 : decode cX2_sumWith 15 = .ok (.iconst 0, 1) := by decide +kernel
theorem dX2_sumWith_16 : decode cX2_sumWith 16 = .ok (.istore 4, 2) := by decide +kernel
theorem dX2_sumWith_18 : decode cX2_sumWith 18 = .ok (.iload 4, 2) := by decide +kernel
theorem dX2_sumWith_20 : decode cX2_sumWith 20 = .ok (.bipush 10, 2) := by decide +kernel
theorem dX2_sumWith_22 : decode cX2_sumWith 22 = .ok (.if_icmp .ge 46, 3) := by decide +kernel
theorem dX2_sumWith_25 : decode cX2_sumWith 25 = .ok (.aload_n 0, 1) := by decide +kernel
theorem dX2_sumWith_26 : decode cX2_sumWith 26 = .ok (.getfield 27, 3) := by decide +kernel
theorem dX2_sumWith_29 : decode cX2_sumWith 29 = .ok (.iload_n 1, 1) := by decide +kernel
theorem dX2_sumWith_30 : decode cX2_sumWith 30 = .ok (.bipush 10, 2) := by decide +kernel
theorem dX2_sumWith_32 : decode cX2_sumWith 32 = .ok (.imul, 1) := by decide +kernel
theorem dX2_sumWith_33 : decode cX2_sumWith 33 = .ok (.iload 4, 2) := by decide +kernel
theorem dX2_sumWith_35 : decode cX2_sumWith 35 = .ok (.iadd, 1) := by decide +kernel
theorem dX2_sumWith_36 : decode cX2_sumWith 36 = .ok (.iaload, 1) := by decide +kernel
theorem dX2_sumWith_37 : decode cX2_sumWith 37 = .ok (.istore 5, 2) := by decide +kernel
theorem dX2_sumWith_39 : decode cX2_sumWith 39 = .ok (.iload_n 3, 1) := by decide +kernel
theorem dX2_sumWith_40 : decode cX2_sumWith 40 = .ok (.iload 5, 2) := by decide +kernel
theorem dX2_sumWith_42 : decode cX2_sumWith 42 = .ok (.aload_n 0, 1) := by decide +kernel
theorem dX2_sumWith_43 : decode cX2_sumWith 43 = .ok (.getfield 30, 3) := by decide +kernel
theorem dX2_sumWith_46 : decode cX2_sumWith 46 = .ok (.iload_n 2, 1) := by decide +kernel
theorem dX2_sumWith_47 : decode cX2_sumWith 47 = .ok (.aload_n 0, 1) := by decide +kernel
theorem dX2_sumWith_48 : decode cX2_sumWith 48 = .ok (.getfield 15, 3) := by decide +kernel
theorem dX2_sumWith_51 : decode cX2_sumWith 51 = .ok (.iload 4, 2) := by decide +kernel
theorem dX2_sumWith_53 : decode cX2_sumWith 53 = .ok (.iaload, 1) := by decide +kernel
theorem dX2_sumWith_54 : decode cX2_sumWith 54 = .ok (.invokevirtual 61, 3) := by decide +kernel
theorem dX2_sumWith_57 : decode cX2_sumWith 57 = .ok (.iadd, 1) := by decide +kernel
theorem dX2_sumWith_58 : decode cX2_sumWith 58 = .ok (.invokestatic 55, 3) := by decide +kernel
theorem dX2_sumWith_61 : decode cX2_sumWith 61 = .ok (.istore_n 3, 1) := by decide +kernel
theorem dX2_sumWith_62 : decode cX2_sumWith 62 = .ok (.iinc 4 1, 3) := by decide +kernel
theorem dX2_sumWith_65 : decode cX2_sumWith 65 = .ok (.goto (-47), 3) := by decide +kernel
theorem dX2_sumWith_68 : decode cX2_sumWith 68 = .ok (.iload_n 3, 1) := by decide +kernel
theorem dX2_sumWith_69 : decode cX2_sumWith 69 = .ok (.ireturn, 1) := by decide +kernel
theorem dX2_marbleCell_0 : decode cX2_marbleCell 0 = .ok (.iload_n 1, 1) := by decide +kernel
theorem dX2_marbleCell_1 : decode cX2_marbleCell 1 = .ok (.ifCond .lt 18, 3) := by decide +kernel
theorem dX2_marbleCell_4 : decode cX2_marbleCell 4 = .ok (.iload_n 1, 1) := by decide +kernel
theorem dX2_marbleCell_5 : decode cX2_marbleCell 5 = .ok (.bipush 10, 2) := by decide +kernel
theorem dX2_marbleCell_7 : decode cX2_marbleCell 7 = .ok (.if_icmp .ge 12, 3) := by decide +kernel
theorem dX2_marbleCell_10 : decode cX2_marbleCell 10 = .ok (.aload_n 0, 1) := by decide +kernel
theorem dX2_marbleCell_11 : decode cX2_marbleCell 11 = .ok (.getfield 9, 3) := by decide +kernel
theorem dX2_marbleCell_14 : decode cX2_marbleCell 14 = .ok (.iload_n 1, 1) := by decide +kernel
theorem dX2_marbleCell_15 : decode cX2_marbleCell 15 = .ok (.iaload, 1) := by decide +kernel
theorem dX2_marbleCell_16 : decode cX2_marbleCell 16 = .ok (.goto 4, 3) := by decide +kernel
theorem dX2_marbleCell_19 : decode cX2_marbleCell 19 = .ok (.iconst (-1), 1) := by decide +kernel
theorem dX2_marbleCell_20 : decode cX2_marbleCell 20 = .ok (.ireturn, 1) := by decide +kernel
theorem dX2_measure_0 : decode cX2_measure 0 = .ok (.aload_n 0, 1) := by decide +kernel
theorem dX2_measure_1 : decode cX2_measure 1 = .ok (.iload_n 1, 1) := by decide +kernel
theorem dX2_measure_2 : decode cX2_measure 2 = .ok (.invokevirtual 65, 3) := by decide +kernel
theorem dX2_measure_5 : decode cX2_measure 5 = .ok (.iconst 0, 1) := by decide +kernel
theorem dX2_measure_6 : decode cX2_measure 6 = .ok (.istore_n 2, 1) := by decide +kernel
theorem dX2_measure_7 : decode cX2_measure 7 = .ok (.iload_n 2, 1) := by decide +kernel
theorem dX2_measure_8 : decode cX2_measure 8 = .ok (.bipush 10, 2) := by decide +kernel
theorem dX2_measure_10 : decode cX2_measure 10 = .ok (.if_icmp .ge 53, 3) := by decide +kernel
theorem dX2_measure_13 : decode cX2_measure 13 = .ok (.iconst 0, 1) := by decide +kernel
theorem dX2_measure_14 : decode cX2_measure 14 = .ok (.istore_n 3, 1) := by decide +kernel
theorem dX2_measure_15 : decode cX2_measure 15 = .ok (.iload_n 3, 1) := by decide +kernel
theorem dX2_measure_16 : decode cX2_measure 16 = .ok (.bipush 10, 2) := by decide +kernel
theorem dX2_measure_18 : decode cX2_measure 18 = .ok (.if_icmp .ge 39, 3) := by decide +kernel
theorem dX2_measure_21 : decode cX2_measure 21 = .ok (.aload_n 0, 1) := by decide +kernel
theorem dX2_measure_22 : decode cX2_measure 22 = .ok (.getfield 18, 3) := by decide +kernel
theorem dX2_measure_25 : decode cX2_measure 25 = .ok (.iload_n 2, 1) := by decide +kernel
theorem dX2_measure_26 : decode cX2_measure 26 = .ok (.bipush 10, 2) := by decide +kernel
theorem dX2_measure_28 : decode cX2_measure 28 = .ok (.imul, 1) := by decide +kernel
theorem dX2_measure_29 : decode cX2_measure 29 = .ok (.iload_n 3, 1) := by decide +kernel
theorem dX2_measure_30 : decode cX2_measure 30 = .ok (.iadd, 1) := by decide +kernel
theorem dX2_measure_31 : decode cX2_measure 31 = .ok (.aload_n 0, 1) := by decide +kernel
theorem dX2_measure_32 : decode cX2_measure 32 = .ok (.getfield 30, 3) := by decide +kernel
theorem dX2_measure_35 : decode cX2_measure 35 = .ok (.aload_n 0, 1) := by decide +kernel
theorem dX2_measure_36 : decode cX2_measure 36 = .ok (.getfield 9, 3) := by decide +kernel
theorem dX2_measure_39 : decode cX2_measure 39 = .ok (.iload_n 2, 1) := by decide +kernel
theorem dX2_measure_40 : decode cX2_measure 40 = .ok (.iaload, 1) := by decide +kernel
theorem dX2_measure_41 : decode cX2_measure 41 = .ok (.aload_n 0, 1) := by decide +kernel
theorem dX2_measure_42 : decode cX2_measure 42 = .ok (.getfield 15, 3) := by decide +kernel
theorem dX2_measure_45 : decode cX2_measure 45 = .ok (.iload_n 3, 1) := by decide +kernel
theorem dX2_measure_46 : decode cX2_measure 46 = .ok (.iaload, 1) := by decide +kernel
theorem dX2_measure_47 : decode cX2_measure 47 = .ok (.invokevirtual 61, 3) := by decide +kernel
theorem dX2_measure_50 : decode cX2_measure 50 = .ok (.iastore, 1) := by decide +kernel
theorem dX2_measure_51 : decode cX2_measure 51 = .ok (.iinc 3 1, 3) := by decide +kernel
theorem dX2_measure_54 : decode cX2_measure 54 = .ok (.goto (-39), 3) := by decide +kernel
theorem dX2_measure_57 : decode cX2_measure 57 = .ok (.iinc 2 1, 3) := by decide +kernel
theorem dX2_measure_60 : decode cX2_measure 60 = .ok (.goto (-53), 3) := by decide +kernel
theorem dX2_measure_63 : decode cX2_measure 63 = .ok (.return_, 1) := by decide +kernel
theorem dX2_collect_0 : decode cX2_collect 0 = .ok (.iload_n 1, 1) := by decide +kernel
theorem dX2_collect_1 : decode cX2_collect 1 = .ok (.invokestatic 68, 3) := by decide +kernel
theorem dX2_collect_4 : decode cX2_collect 4 = .ok (.istore_n 2, 1) := by decide +kernel
theorem dX2_collect_5 : decode cX2_collect 5 = .ok (.iconst 0, 1) := by decide +kernel
theorem dX2_collect_6 : decode cX2_collect 6 = .ok (.istore_n 3, 1) := by decide +kernel
theorem dX2_collect_7 : decode cX2_collect 7 = .ok (.iconst 0, 1) := by decide +kernel
theorem dX2_collect_8 : decode cX2_collect 8 = .ok (.istore 4, 2) := by decide +kernel
theorem dX2_collect_10 : decode cX2_collect 10 = .ok (.iconst 0, 1) := by decide +kernel
theorem dX2_collect_11 : decode cX2_collect 11 = .ok (.istore 5, 2) := by decide +kernel
theorem dX2_collect_13 : decode cX2_collect 13 = .ok (.iload 5, 2) := by decide +kernel
theorem dX2_collect_15 : decode cX2_collect 15 = .ok (.bipush 121, 2) := by decide +kernel
theorem dX2_collect_17 : decode cX2_collect 17 = .ok (.if_icmp .ge 71, 3) := by decide +kernel
theorem dX2_collect_20 : decode cX2_collect 20 = .ok (.aload_n 0, 1) := by decide +kernel
theorem dX2_collect_21 : decode cX2_collect 21 = .ok (.getfield 34, 3) := by decide +kernel
theorem dX2_collect_24 : decode cX2_collect 24 = .ok (.iload 5, 2) := by decide +kernel
theorem dX2_collect_26 : decode cX2_collect 26 = .ok (.invokevirtual 71, 3) := by decide +kernel
theorem dX2_collect_29 : decode cX2_collect 29 = .ok (.iload_n 1, 1) := by decide +kernel
theorem dX2_collect_30 : decode cX2_collect 30 = .ok (.if_icmp .ne 20, 3) := by decide +kernel
theorem dX2_collect_33 : decode cX2_collect 33 = .ok (.iload_n 3, 1) := by decide +kernel
theorem dX2_collect_34 : decode cX2_collect 34 = .ok (.bipush 10, 2) := by decide +kernel
theorem dX2_collect_36 : decode cX2_collect 36 = .ok (.if_icmp .ge 14, 3) := by decide +kernel
theorem dX2_collect_39 : decode cX2_collect 39 = .ok (.aload_n 0, 1) := by decide +kernel
theorem dX2_collect_40 : decode cX2_collect 40 = .ok (.getfield 9, 3) := by decide +kernel
theorem dX2_collect_43 : decode cX2_collect 43 = .ok (.iload_n 3, 1) := by decide +kernel
theorem dX2_collect_44 : decode cX2_collect 44 = .ok (.iload 5, 2) := by decide +kernel
theorem dX2_collect_46 : decode cX2_collect 46 = .ok (.iastore, 1) := by decide +kernel
theorem dX2_collect_47 : decode cX2_collect 47 = .ok (.iinc 3 1, 3) := by decide +kernel
theorem dX2_collect_50 : decode cX2_collect 50 = .ok (.aload_n 0, 1) := by decide +kernel
theorem dX2_collect_51 : decode cX2_collect 51 = .ok (.getfield 30, 3) := by decide +kernel
theorem dX2_collect_54 : decode cX2_collect 54 = .ok (.iload 5, 2) := by decide +kernel
theorem dX2_collect_56 : decode cX2_collect 56 = .ok (.invokevirtual 76, 3) := by decide +kernel
theorem dX2_collect_59 : decode cX2_collect 59 = .ok (.iload_n 2, 1) := by decide +kernel
theorem dX2_collect_60 : decode cX2_collect 60 = .ok (.if_icmp .ne 22, 3) := by decide +kernel
theorem dX2_collect_63 : decode cX2_collect 63 = .ok (.iload 4, 2) := by decide +kernel
theorem dX2_collect_65 : decode cX2_collect 65 = .ok (.bipush 10, 2) := by decide +kernel
theorem dX2_collect_67 : decode cX2_collect 67 = .ok (.if_icmp .ge 15, 3) := by decide +kernel
theorem dX2_collect_70 : decode cX2_collect 70 = .ok (.aload_n 0, 1) := by decide +kernel
theorem dX2_collect_71 : decode cX2_collect 71 = .ok (.getfield 15, 3) := by decide +kernel
theorem dX2_collect_74 : decode cX2_collect 74 = .ok (.iload 4, 2) := by decide +kernel
theorem dX2_collect_76 : decode cX2_collect 76 = .ok (.iload 5, 2) := by decide +kernel
theorem dX2_collect_78 : decode cX2_collect 78 = .ok (.iastore, 1) := by decide +kernel
theorem dX2_collect_79 : decode cX2_collect 79 = .ok (.iinc 4 1, 3) := by decide +kernel
theorem dX2_collect_82 : decode cX2_collect 82 = .ok (.iinc 5 1, 3) := by decide +kernel
theorem dX2_collect_85 : decode cX2_collect 85 = .ok (.goto (-72), 3) := by decide +kernel
theorem dX2_collect_88 : decode cX2_collect 88 = .ok (.return_, 1) := by decide +kernel
theorem dX2_sumFirst_0 : decode cX2_sumFirst 0 = .ok (.aload_n 0, 1) := by decide +kernel
theorem dX2_sumFirst_1 : decode cX2_sumFirst 1 = .ok (.getfield 21, 3) := by decide +kernel
theorem dX2_sumFirst_4 : decode cX2_sumFirst 4 = .ok (.iconst 0, 1) := by decide +kernel
theorem dX2_sumFirst_5 : decode cX2_sumFirst 5 = .ok (.iconst 0, 1) := by decide +kernel
theorem dX2_sumFirst_6 : decode cX2_sumFirst 6 = .ok (.iastore, 1) := by decide +kernel
theorem dX2_sumFirst_7 : decode cX2_sumFirst 7 = .ok (.iconst 1, 1) := by decide +kernel
theorem dX2_sumFirst_8 : decode cX2_sumFirst 8 = .ok (.istore_n 1, 1) := by decide +kernel
theorem dX2_sumFirst_9 : decode cX2_sumFirst 9 = .ok (.iload_n 1, 1) := by decide +kernel
theorem dX2_sumFirst_10 : decode cX2_sumFirst 10 = .ok (.sipush 1024, 3) := by decide +kernel
theorem dX2_sumFirst_13 : decode cX2_sumFirst 13 = .ok (.if_icmp .ge 30, 3) := by decide +kernel
theorem dX2_sumFirst_16 : decode cX2_sumFirst 16 = .ok (.aload_n 0, 1) := by decide +kernel
theorem dX2_sumFirst_17 : decode cX2_sumFirst 17 = .ok (.getfield 21, 3) := by decide +kernel
theorem dX2_sumFirst_20 : decode cX2_sumFirst 20 = .ok (.iload_n 1, 1) := by decide +kernel
theorem dX2_sumFirst_21 : decode cX2_sumFirst 21 = .ok (.aload_n 0, 1) := by decide +kernel
theorem dX2_sumFirst_22 : decode cX2_sumFirst 22 = .ok (.aload_n 0, 1) := by decide +kernel
theorem dX2_sumFirst_23 : decode cX2_sumFirst 23 = .ok (.getfield 21, 3) := by decide +kernel
theorem dX2_sumFirst_26 : decode cX2_sumFirst 26 = .ok (.iload_n 1, 1) := by decide +kernel
theorem dX2_sumFirst_27 : decode cX2_sumFirst 27 = .ok (.iload_n 1, 1) := by decide +kernel
theorem dX2_sumFirst_28 : decode cX2_sumFirst 28 = .ok (.invokestatic 49, 3) := by decide +kernel
theorem dX2_sumFirst_31 : decode cX2_sumFirst 31 = .ok (.iconst 1, 1) := by decide +kernel
theorem dX2_sumFirst_32 : decode cX2_sumFirst 32 = .ok (.isub, 1) := by decide +kernel
theorem dX2_sumFirst_33 : decode cX2_sumFirst 33 = .ok (.invokevirtual 79, 3) := by decide +kernel
theorem dX2_sumFirst_36 : decode cX2_sumFirst 36 = .ok (.iastore, 1) := by decide +kernel
theorem dX2_sumFirst_37 : decode cX2_sumFirst 37 = .ok (.iinc 1 1, 3) := by decide +kernel
theorem dX2_sumFirst_40 : decode cX2_sumFirst 40 = .ok (.goto (-31), 3) := by decide +kernel
theorem dX2_sumFirst_43 : decode cX2_sumFirst 43 = .ok (.return_, 1) := by decide +kernel
theorem dX2_sumLast_0 : decode cX2_sumLast 0 = .ok (.aload_n 0, 1) := by decide +kernel
theorem dX2_sumLast_1 : decode cX2_sumLast 1 = .ok (.getfield 24, 3) := by decide +kernel
theorem dX2_sumLast_4 : decode cX2_sumLast 4 = .ok (.iconst 0, 1) := by decide +kernel
theorem dX2_sumLast_5 : decode cX2_sumLast 5 = .ok (.iconst 0, 1) := by decide +kernel
theorem dX2_sumLast_6 : decode cX2_sumLast 6 = .ok (.iastore, 1) := by decide +kernel
theorem dX2_sumLast_7 : decode cX2_sumLast 7 = .ok (.iconst 1, 1) := by decide +kernel
theorem dX2_sumLast_8 : decode cX2_sumLast 8 = .ok (.istore_n 1, 1) := by decide +kernel
theorem dX2_sumLast_9 : decode cX2_sumLast 9 = .ok (.iload_n 1, 1) := by decide +kernel
theorem dX2_sumLast_10 : decode cX2_sumLast 10 = .ok (.sipush 1024, 3) := by decide +kernel
theorem dX2_sumLast_13 : decode cX2_sumLast 13 = .ok (.if_icmp .ge 31, 3) := by decide +kernel
theorem dX2_sumLast_16 : decode cX2_sumLast 16 = .ok (.aload_n 0, 1) := by decide +kernel
theorem dX2_sumLast_17 : decode cX2_sumLast 17 = .ok (.getfield 24, 3) := by decide +kernel
theorem dX2_sumLast_20 : decode cX2_sumLast 20 = .ok (.iload_n 1, 1) := by decide +kernel
theorem dX2_sumLast_21 : decode cX2_sumLast 21 = .ok (.aload_n 0, 1) := by decide +kernel
theorem dX2_sumLast_22 : decode cX2_sumLast 22 = .ok (.aload_n 0, 1) := by decide +kernel
theorem dX2_sumLast_23 : decode cX2_sumLast 23 = .ok (.getfield 24, 3) := by decide +kernel
theorem dX2_sumLast_26 : decode cX2_sumLast 26 = .ok (.iload_n 1, 1) := by decide +kernel
theorem dX2_sumLast_27 : decode cX2_sumLast 27 = .ok (.bipush 10, 2) := by decide +kernel
theorem dX2_sumLast_29 : decode cX2_sumLast 29 = .ok (.iload_n 1, 1) := by decide +kernel
theorem dX2_sumLast_30 : decode cX2_sumLast 30 = .ok (.invokestatic 49, 3) := by decide +kernel
theorem dX2_sumLast_33 : decode cX2_sumLast 33 = .ok (.isub, 1) := by decide +kernel
theorem dX2_sumLast_34 : decode cX2_sumLast 34 = .ok (.invokevirtual 79, 3) := by decide +kernel
theorem dX2_sumLast_37 : decode cX2_sumLast 37 = .ok (.iastore, 1) := by decide +kernel
theorem dX2_sumLast_38 : decode cX2_sumLast 38 = .ok (.iinc 1 1, 3) := by decide +kernel
theorem dX2_sumLast_41 : decode cX2_sumLast 41 = .ok (.goto (-32), 3) := by decide +kernel
theorem dX2_sumLast_44 : decode cX2_sumLast 44 = .ok (.return_, 1) := by decide +kernel
theorem dX2_leastWith_0 : decode cX2_leastWith 0 = .ok (.ldc 48, 2) := by decide +kernel
theorem dX2_leastWith_2 : decode cX2_leastWith 2 = .ok (.istore 4, 2) := by decide +kernel
theorem dX2_leastWith_4 : decode cX2_leastWith 4 = .ok (.iconst 0, 1) := by decide +kernel
theorem dX2_leastWith_5 : decode cX2_leastWith 5 = .ok (.istore 5, 2) := by decide +kernel
theorem dX2_leastWith_7 : decode cX2_leastWith 7 = .ok (.iload 5, 2) := by decide +kernel
theorem dX2_leastWith_9 : decode cX2_leastWith 9 = .ok (.bipush 10, 2) := by decide +kernel
theorem dX2_leastWith_11 : decode cX2_leastWith 11 = .ok (.if_icmp .ge 51, 3) := by decide +kernel
theorem dX2_leastWith_14 : decode cX2_leastWith 14 = .ok (.iload_n 2, 1) := by decide +kernel
theorem dX2_leastWith_15 : decode cX2_leastWith 15 = .ok (.iload 5, 2) := by decide +kernel
theorem dX2_leastWith_17 : decode cX2_leastWith 17 = .ok (.ishr, 1) := by decide +kernel
theorem dX2_leastWith_18 : decode cX2_leastWith 18 = .ok (.iconst 1, 1) := by decide +kernel
theorem dX2_leastWith_19 : decode cX2_leastWith 19 = .ok (.iand, 1) := by decide +kernel
theorem dX2_leastWith_20 : decode cX2_leastWith 20 = .ok (.iconst 1, 1) := by decide +kernel
theorem dX2_leastWith_21 : decode cX2_leastWith 21 = .ok (.if_icmp .ne 35, 3) := by decide +kernel
theorem dX2_leastWith_24 : decode cX2_leastWith 24 = .ok (.aload_n 1, 1) := by decide +kernel
theorem dX2_leastWith_25 : decode cX2_leastWith 25 = .ok (.iload_n 2, 1) := by decide +kernel
theorem dX2_leastWith_26 : decode cX2_leastWith 26 = .ok (.iconst 1, 1) := by decide +kernel
theorem dX2_leastWith_27 : decode cX2_leastWith 27 = .ok (.iload 5, 2) := by decide +kernel
theorem dX2_leastWith_29 : decode cX2_leastWith 29 = .ok (.ishl, 1) := by decide +kernel
theorem dX2_leastWith_30 : decode cX2_leastWith 30 = .ok (.isub, 1) := by decide +kernel
theorem dX2_leastWith_31 : decode cX2_leastWith 31 = .ok (.iaload, 1) := by decide +kernel
theorem dX2_leastWith_32 : decode cX2_leastWith 32 = .ok (.istore 6, 2) := by decide +kernel
theorem dX2_leastWith_34 : decode cX2_leastWith 34 = .ok (.iload 4, 2) := by decide +kernel
theorem dX2_leastWith_36 : decode cX2_leastWith 36 = .ok (.iload 6, 2) := by decide +kernel
theorem dX2_leastWith_38 : decode cX2_leastWith 38 = .ok (.aload_n 0, 1) := by decide +kernel
theorem dX2_leastWith_39 : decode cX2_leastWith 39 = .ok (.getfield 18, 3) := by decide +kernel
theorem dX2_leastWith_42 : decode cX2_leastWith 42 = .ok (.iload_n 3, 1) := by decide +kernel
theorem dX2_leastWith_43 : decode cX2_leastWith 43 = .ok (.bipush 10, 2) := by decide +kernel
theorem dX2_leastWith_45 : decode cX2_leastWith 45 = .ok (.imul, 1) := by decide +kernel
theorem dX2_leastWith_46 : decode cX2_leastWith 46 = .ok (.iload 5, 2) := by decide +kernel
theorem dX2_leastWith_48 : decode cX2_leastWith 48 = .ok (.iadd, 1) := by decide +kernel
theorem dX2_leastWith_49 : decode cX2_leastWith 49 = .ok (.iaload, 1) := by decide +kernel
theorem dX2_leastWith_50 : decode cX2_leastWith 50 = .ok (.iadd, 1) := by decide +kernel
theorem dX2_leastWith_51 : decode cX2_leastWith 51 = .ok (.invokestatic 55, 3) := by decide +kernel
theorem dX2_leastWith_54 : decode cX2_leastWith 54 = .ok (.istore 4, 2) := by decide +kernel
theorem dX2_leastWith_56 : decode cX2_leastWith 56 = .ok (.iinc 5 1, 3) := by decide +kernel
theorem dX2_leastWith_59 : decode cX2_leastWith 59 = .ok (.goto (-52), 3) := by decide +kernel
theorem dX2_leastWith_62 : decode cX2_leastWith 62 = .ok (.iload 4, 2) := by decide +kernel
theorem dX2_leastWith_64 : decode cX2_leastWith 64 = .ok (.ireturn, 1) := by decide +kernel
theorem dX3_init_0 : decode cX3_init 0 = .ok (.aload_n 0, 1) := by decide +kernel
theorem dX3_init_1 : decode cX3_init 1 = .ok (.invokespecial 3, 3) := by decide +kernel
theorem dX3_init_4 : decode cX3_init 4 = .ok (.aload_n 0, 1) := by decide +kernel
theorem dX3_init_5 : decode cX3_init 5 = .ok (.bipush 121, 2) := by decide +kernel
theorem dX3_init_7 : decode cX3_init 7 = .ok (.newarray .int, 2) := by decide +kernel
theorem dX3_init_9 : decode cX3_init 9 = .ok (.putfield 9, 3) := by decide +kernel
theorem dX3_init_12 : decode cX3_init 12 = .ok (.aload_n 0, 1) := by decide +kernel
theorem dX3_init_13 : decode cX3_init 13 = .ok (.bipush 121, 2) := by decide +kernel
theorem dX3_init_15 : decode cX3_init 15 = .ok (.newarray .int, 2) := by decide +kernel
theorem dX3_init_17 : decode cX3_init 17 = .ok (.putfield 15, 3) := by decide +kernel
theorem dX3_init_20 : decode cX3_init 20 = .ok (.aload_n 0, 1) := by decide +kernel
theorem dX3_init_21 : decode cX3_init 21 = .ok (.bipush 121, 2) := by decide +kernel
theorem dX3_init_23 : decode cX3_init 23 = .ok (.newarray .int, 2) := by decide +kernel
theorem dX3_init_25 : decode cX3_init 25 = .ok (.putfield 18, 3) := by decide +kernel
theorem dX3_init_28 : decode cX3_init 28 = .ok (.aload_n 0, 1) := by decide +kernel
theorem dX3_init_29 : decode cX3_init 29 = .ok (.aload_n 1, 1) := by decide +kernel
theorem dX3_init_30 : decode cX3_init 30 = .ok (.putfield 21, 3) := by decide +kernel
theorem dX3_init_33 : decode cX3_init 33 = .ok (.aload_n 0, 1) := by decide +kernel
theorem dX3_init_34 : decode cX3_init 34 = .ok (.aload_n 2, 1) := by decide +kernel
theorem dX3_init_35 : decode cX3_init 35 = .ok (.putfield 25, 3) := by decide +kernel
theorem dX3_init_38 : decode cX3_init 38 = .ok (.return_, 1) := by decide +kernel
theorem dX3_search_0 : decode cX3_search 0 = .ok (.iload_n 1, 1) := by decide +kernel
theorem dX3_search_1 : decode cX3_search 1 = .ok (.iconst (-1), 1) := by decide +kernel
theorem dX3_search_2 : decode cX3_search 2 = .ok (.if_icmp .eq 15, 3) := by decide +kernel
theorem dX3_search_5 : decode cX3_search 5 = .ok (.aload_n 0, 1) := by decide +kernel
theorem dX3_search_6 : decode cX3_search 6 = .ok (.getfield 25, 3) := by decide +kernel
theorem dX3_search_9 : decode cX3_search 9 = .ok (.iload_n 2, 1) := by decide +kernel
theorem dX3_search_10 : decode cX3_search 10 = .ok (.invokevirtual 29, 3) := by decide +kernel
theorem dX3_search_13 : decode cX3_search 13 = .ok (.iload_n 1, 1) := by decide +kernel
theorem dX3_search_14 : decode cX3_search 14 = .ok (.if_icmp .eq 25, 3) := by decide +kernel
theorem dX3_search_17 : decode cX3_search 17 = .ok (.iconst 0, 1) := by decide +kernel
theorem dX3_search_18 : decode cX3_search 18 = .ok (.istore_n 3, 1) := by decide +kernel
theorem dX3_search_19 : decode cX3_search 19 = .ok (.iload_n 3, 1) := by decide +kernel
theorem dX3_search_20 : decode cX3_search 20 = .ok (.bipush 121, 2) := by decide +kernel
theorem dX3_search_22 : decode cX3_search 22 = .ok (.if_icmp .ge 16, 3) := by decide +kernel
theorem dX3_search_25 : decode cX3_search 25 = .ok (.aload_n 0, 1) := by decide +kernel
theorem dX3_search_26 : decode cX3_search 26 = .ok (.getfield 9, 3) := by decide +kernel
theorem dX3_search_29 : decode cX3_search 29 = .ok (.iload_n 3, 1) := by decide +kernel
theorem dX3_search_30 : decode cX3_search 30 = .ok (.iconst (-1), 1) := by decide +kernel
theorem dX3_search_31 : decode cX3_search 31 = .ok (.iastore, 1) := by decide +kernel
theorem dX3_search_32 : decode cX3_search 32 = .ok (.iinc 3 1, 3) := by decide +kernel
theorem dX3_search_35 : decode cX3_search 35 = .ok (.goto (-16), 3) := by decide +kernel
theorem dX3_search_38 : decode cX3_search 38 = .ok (.return_, 1) := by decide +kernel
theorem dX3_search_39 : decode cX3_search 39 = .ok (.aload_n 0, 1) := by decide +kernel
theorem dX3_search_40 : decode cX3_search 40 = .ok (.iload_n 2, 1) := by decide +kernel
theorem dX3_search_41 : decode cX3_search 41 = .ok (.iload_n 2, 1) := by decide +kernel
theorem dX3_search_42 : decode cX3_search 42 = .ok (.invokevirtual 35, 3) := by decide +kernel
theorem dX3_search_45 : decode cX3_search 45 = .ok (.iconst 0, 1) := by decide +kernel
theorem dX3_search_46 : decode cX3_search 46 = .ok (.istore_n 3, 1) := by decide +kernel
theorem dX3_search_47 : decode cX3_search 47 = .ok (.iload_n 3, 1) := by decide +kernel
theorem dX3_search_48 : decode cX3_search 48 = .ok (.bipush 121, 2) := by decide +kernel
theorem dX3_search_50 : decode cX3_search 50 = .ok (.if_icmp .ge 56, 3) := by decide +kernel
theorem dX3_search_53 : decode cX3_search 53 = .ok (.aload_n 0, 1) := by decide +kernel
theorem dX3_search_54 : decode cX3_search 54 = .ok (.getfield 15, 3) := by decide +kernel
theorem dX3_search_57 : decode cX3_search 57 = .ok (.iload_n 3, 1) := by decide +kernel
theorem dX3_search_58 : decode cX3_search 58 = .ok (.iaload, 1) := by decide +kernel
theorem dX3_search_59 : decode cX3_search 59 = .ok (.ifCond .le 17, 3) := by decide +kernel
theorem dX3_search_62 : decode cX3_search 62 = .ok (.aload_n 0, 1) := by decide +kernel
theorem dX3_search_63 : decode cX3_search 63 = .ok (.iload_n 1, 1) := by decide +kernel
theorem dX3_search_64 : decode cX3_search 64 = .ok (.iload_n 2, 1) := by decide +kernel
theorem dX3_search_65 : decode cX3_search 65 = .ok (.iload_n 3, 1) := by decide +kernel
theorem dX3_search_66 : decode cX3_search 66 = .ok (.invokevirtual 39, 3) := by decide +kernel
theorem dX3_search_69 : decode cX3_search 69 = .ok (.ifCond .eq 7, 3) := by decide +kernel
theorem dX3_search_72 : decode cX3_search 72 = .ok (.iconst 1, 1) := by decide +kernel
theorem dX3_search_73 : decode cX3_search 73 = .ok (.goto 4, 3) := by decide +kernel
theorem dX3_search_76 : decode cX3_search 76 = .ok (.iconst 0, 1) := by decide +kernel
theorem dX3_search_77 : decode cX3_search 77 = .ok (.istore 4, 2) := by decide +kernel
theorem dX3_search_79 : decode cX3_search 79 = .ok (.aload_n 0, 1) := by decide +kernel
theorem dX3_search_80 : decode cX3_search 80 = .ok (.getfield 9, 3) := by decide +kernel
theorem dX3_search_83 : decode cX3_search 83 = .ok (.iload_n 3, 1) := by decide +kernel
theorem dX3_search_84 : decode cX3_search 84 = .ok (.iload 4, 2) := by decide +kernel
theorem dX3_search_86 : decode cX3_search 86 = .ok (.ifCond .eq 12, 3) := by decide +kernel
theorem dX3_search_89 : decode cX3_search 89 = .ok (.aload_n 0, 1) := by decide +kernel
theorem dX3_search_90 : decode cX3_search 90 = .ok (.getfield 15, 3) := by decide +kernel
theorem dX3_search_93 : decode cX3_search 93 = .ok (.iload_n 3, 1) := by decide +kernel
theorem dX3_search_94 : decode cX3_search 94 = .ok (.iaload, 1) := by decide +kernel
theorem dX3_search_95 : decode cX3_search 95 = .ok (.goto 4, 3) := by decide +kernel
theorem dX3_search_98 : decode cX3_search 98 = .ok (.iconst (-1), 1) := by decide +kernel
theorem dX3_search_99 : decode cX3_search 99 = .ok (.iastore, 1) := by decide +kernel
theorem dX3_search_100 : decode cX3_search 100 = .ok (.iinc 3 1, 3) := by decide +kernel
theorem dX3_search_103 : decode cX3_search 103 = .ok (.goto (-56), 3) := by decide +kernel
theorem dX3_search_106 : decode cX3_search 106 = .ok (.iconst 0, 1) := by decide +kernel
theorem dX3_search_107 : decode cX3_search 107 = .ok (.istore_n 3, 1) := by decide +kernel
theorem dX3_search_108 : decode cX3_search 108 = .ok (.iload_n 3, 1) := by decide +kernel
theorem dX3_search_109 : decode cX3_search 109 = .ok (.bipush 6, 2) := by decide +kernel
theorem dX3_search_111 : decode cX3_search 111 = .ok (.if_icmp .ge 51, 3) := by decide +kernel
theorem dX3_search_114 : decode cX3_search 114 = .ok (.aload_n 0, 1) := by decide +kernel
theorem dX3_search_115 : decode cX3_search 115 = .ok (.getfield 21, 3) := by decide +kernel
theorem dX3_search_118 : decode cX3_search 118 = .ok (.iload_n 2, 1) := by decide +kernel
theorem dX3_search_119 : decode cX3_search 119 = .ok (.iload_n 3, 1) := by decide +kernel
theorem dX3_search_120 : decode cX3_search 120 = .ok (.invokevirtual 45, 3) := by decide +kernel
theorem dX3_search_123 : decode cX3_search 123 = .ok (.istore 4, 2) := by decide +kernel
theorem dX3_search_125 : decode cX3_search 125 = .ok (.aload_n 0, 1) := by decide +kernel
theorem dX3_search_126 : decode cX3_search 126 = .ok (.getfield 25, 3) := by decide +kernel
theorem dX3_search_129 : decode cX3_search 129 = .ok (.iload 4, 2) := by decide +kernel
theorem dX3_search_131 : decode cX3_search 131 = .ok (.invokevirtual 49, 3) := by decide +kernel
theorem dX3_search_134 : decode cX3_search 134 = .ok (.ifCond .eq 22, 3) := by decide +kernel
theorem dX3_search_137 : decode cX3_search 137 = .ok (.aload_n 0, 1) := by decide +kernel
theorem dX3_search_138 : decode cX3_search 138 = .ok (.iload_n 1, 1) := by decide +kernel
theorem dX3_search_139 : decode cX3_search 139 = .ok (.iload_n 2, 1) := by decide +kernel
theorem dX3_search_140 : decode cX3_search 140 = .ok (.iload 4, 2) := by decide +kernel
theorem dX3_search_142 : decode cX3_search 142 = .ok (.invokevirtual 39, 3) := by decide +kernel
theorem dX3_search_145 : decode cX3_search 145 = .ok (.ifCond .eq 11, 3) := by decide +kernel
theorem dX3_search_148 : decode cX3_search 148 = .ok (.aload_n 0, 1) := by decide +kernel
theorem dX3_search_149 : decode cX3_search 149 = .ok (.getfield 9, 3) := by decide +kernel
theorem dX3_search_152 : decode cX3_search 152 = .ok (.iload 4, 2) := by decide +kernel
theorem dX3_search_154 : decode cX3_search 154 = .ok (.iconst 0, 1) := by decide +kernel
theorem dX3_search_155 : decode cX3_search 155 = .ok (.iastore, 1) := by decide +kernel
theorem dX3_search_156 : decode cX3_search 156 = .ok (.iinc 3 1, 3) := by decide +kernel
theorem dX3_search_159 : decode cX3_search 159 = .ok (.goto (-51), 3) := by decide +kernel
theorem dX3_search_162 : decode cX3_search 162 = .ok (.return_, 1) := by decide +kernel
theorem dX3_hopsTo_0 : decode cX3_hopsTo 0 = .ok (.iload_n 1, 1) := by decide +kernel
theorem dX3_hopsTo_1 : decode cX3_hopsTo 1 = .ok (.invokestatic 53, 3) := by decide +kernel
theorem dX3_hopsTo_4 : decode cX3_hopsTo 4 = .ok (.ifCond .eq 12, 3) := by decide +kernel
theorem dX3_hopsTo_7 : decode cX3_hopsTo 7 = .ok (.aload_n 0, 1) := by decide +kernel
theorem dX3_hopsTo_8 : decode cX3_hopsTo 8 = .ok (.getfield 9, 3) := by decide +kernel
theorem dX3_hopsTo_11 : decode cX3_hopsTo 11 = .ok (.iload_n 1, 1) := by decide +kernel
theorem dX3_hopsTo_12 : decode cX3_hopsTo 12 = .ok (.iaload, 1) := by decide +kernel
theorem dX3_hopsTo_13 : decode cX3_hopsTo 13 = .ok (.goto 4, 3) := by decide +kernel
theorem dX3_hopsTo_16 : decode cX3_hopsTo 16 = .ok (.iconst (-1), 1) := by decide +kernel
theorem dX3_hopsTo_17 : decode cX3_hopsTo 17 = .ok (.ireturn, 1) := by decide +kernel
theorem dX3_countEnds_0 : decode cX3_countEnds 0 = .ok (.iconst 0, 1) := by decide +kernel
theorem dX3_countEnds_1 : decode cX3_countEnds 1 = .ok (.istore_n 1, 1) := by decide +kernel
theorem dX3_countEnds_2 : decode cX3_countEnds 2 = .ok (.iconst 0, 1) := by decide +kernel
theorem dX3_countEnds_3 : decode cX3_countEnds 3 = .ok (.istore_n 2, 1) := by decide +kernel
theorem dX3_countEnds_4 : decode cX3_countEnds 4 = .ok (.iload_n 2, 1) := by decide +kernel
theorem dX3_countEnds_5 : decode cX3_countEnds 5 = .ok (.bipush 121, 2) := by decide +kernel
theorem dX3_countEnds_7 : decode cX3_countEnds 7 = .ok (.if_icmp .ge 22, 3) := by decide +kernel
theorem dX3_countEnds_10 : decode cX3_countEnds 10 = .ok (.aload_n 0, 1) := by decide +kernel
theorem dX3_countEnds_11 : decode cX3_countEnds 11 = .ok (.getfield 9, 3) := by decide +kernel
theorem dX3_countEnds_14 : decode cX3_countEnds 14 = .ok (.iload_n 2, 1) := by decide +kernel
theorem dX3_countEnds_15 : decode cX3_countEnds 15 = .ok (.iaload, 1) := by decide +kernel
theorem dX3_countEnds_16 : decode cX3_countEnds 16 = .ok (.iconst (-1), 1) := by decide +kernel
theorem dX3_countEnds_17 : decode cX3_countEnds 17 = .ok (.if_icmp .eq 6, 3) := by decide +kernel
theorem dX3_countEnds_20 : decode cX3_countEnds 20 = .ok (.iinc 1 1, 3) := by decide +kernel
theorem dX3_countEnds_23 : decode cX3_countEnds 23 = .ok (.iinc 2 1, 3) := by decide +kernel
theorem dX3_countEnds_26 : decode cX3_countEnds 26 = .ok (.goto (-22), 3) := by decide +kernel
theorem dX3_countEnds_29 : decode cX3_countEnds 29 = .ok (.iload_n 1, 1) := by decide +kernel
theorem dX3_countEnds_30 : decode cX3_countEnds 30 = .ok (.ireturn, 1) := by decide +kernel
theorem dX3_end_0 : decode cX3_end 0 = .ok (.iconst 0, 1) := by decide +kernel
theorem dX3_end_1 : decode cX3_end 1 = .ok (.istore_n 2, 1) := by decide +kernel
theorem dX3_end_2 : decode cX3_end 2 = .ok (.iconst 0, 1) := by decide +kernel
theorem dX3_end_3 : decode cX3_end 3 = .ok (.istore_n 3, 1) := by decide +kernel
theorem dX3_end_4 : decode cX3_end 4 = .ok (.iload_n 3, 1) := by decide +kernel
theorem dX3_end_5 : decode cX3_end 5 = .ok (.bipush 121, 2) := by decide +kernel
theorem dX3_end_7 : decode cX3_end 7 = .ok (.if_icmp .ge 29, 3) := by decide +kernel
theorem dX3_end_10 : decode cX3_end 10 = .ok (.aload_n 0, 1) := by decide +kernel
theorem dX3_end_11 : decode cX3_end 11 = .ok (.getfield 9, 3) := by decide +kernel
theorem dX3_end_14 : decode cX3_end 14 = .ok (.iload_n 3, 1) := by decide +kernel
theorem dX3_end_15 : decode cX3_end 15 = .ok (.iaload, 1) := by decide +kernel
theorem dX3_end_16 : decode cX3_end 16 = .ok (.iconst (-1), 1) := by decide +kernel
theorem dX3_end_17 : decode cX3_end 17 = .ok (.if_icmp .eq 13, 3) := by decide +kernel
theorem dX3_end_20 : decode cX3_end 20 = .ok (.iload_n 2, 1) := by decide +kernel
theorem dX3_end_21 : decode cX3_end 21 = .ok (.iload_n 1, 1) := by decide +kernel
theorem dX3_end_22 : decode cX3_end 22 = .ok (.if_icmp .ne 5, 3) := by decide +kernel
theorem dX3_end_25 : decode cX3_end 25 = .ok (.iload_n 3, 1) := by decide +kernel
theorem dX3_end_26 : decode cX3_end 26 = .ok (.ireturn, 1) := by decide +kernel
theorem dX3_end_27 : decode cX3_end 27 = .ok (.iinc 2 1, 3) := by decide +kernel
theorem dX3_end_30 : decode cX3_end 30 = .ok (.iinc 3 1, 3) := by decide +kernel
theorem dX3_end_33 : decode cX3_end 33 = .ok (.goto (-29), 3) := by decide +kernel
theorem dX3_end_36 : decode cX3_end 36 = .ok (.iconst (-1), 1) := by decide +kernel
theorem dX3_end_37 : decode cX3_end 37 = .ok (.ireturn, 1) := by decide +kernel
theorem dX3_cellBehind_0 : decode cX3_cellBehind 0 = .ok (.aload_n 0, 1) := by decide +kernel
theorem dX3_cellBehind_1 : decode cX3_cellBehind 1 = .ok (.iload_n 2, 1) := by decide +kernel
theorem dX3_cellBehind_2 : decode cX3_cellBehind 2 = .ok (.iload_n 1, 1) := by decide +kernel
theorem dX3_cellBehind_3 : decode cX3_cellBehind 3 = .ok (.invokevirtual 35, 3) := by decide +kernel
theorem dX3_cellBehind_6 : decode cX3_cellBehind 6 = .ok (.iload_n 1, 1) := by decide +kernel
theorem dX3_cellBehind_7 : decode cX3_cellBehind 7 = .ok (.istore 4, 2) := by decide +kernel
theorem dX3_cellBehind_9 : decode cX3_cellBehind 9 = .ok (.iconst 0, 1) := by decide +kernel
theorem dX3_cellBehind_10 : decode cX3_cellBehind 10 = .ok (.istore 5, 2) := by decide +kernel
theorem dX3_cellBehind_12 : decode cX3_cellBehind 12 = .ok (.iload 5, 2) := by decide +kernel
theorem dX3_cellBehind_14 : decode cX3_cellBehind 14 = .ok (.iload_n 3, 1) := by decide +kernel
theorem dX3_cellBehind_15 : decode cX3_cellBehind 15 = .ok (.if_icmp .gt 24, 3) := by decide +kernel
theorem dX3_cellBehind_18 : decode cX3_cellBehind 18 = .ok (.iload 4, 2) := by decide +kernel
theorem dX3_cellBehind_20 : decode cX3_cellBehind 20 = .ok (.iconst (-1), 1) := by decide +kernel
theorem dX3_cellBehind_21 : decode cX3_cellBehind 21 = .ok (.if_icmp .eq 18, 3) := by decide +kernel
theorem dX3_cellBehind_24 : decode cX3_cellBehind 24 = .ok (.aload_n 0, 1) := by decide +kernel
theorem dX3_cellBehind_25 : decode cX3_cellBehind 25 = .ok (.iload 4, 2) := by decide +kernel
theorem dX3_cellBehind_27 : decode cX3_cellBehind 27 = .ok (.iload_n 1, 1) := by decide +kernel
theorem dX3_cellBehind_28 : decode cX3_cellBehind 28 = .ok (.invokevirtual 56, 3) := by decide +kernel
theorem dX3_cellBehind_31 : decode cX3_cellBehind 31 = .ok (.istore 4, 2) := by decide +kernel
theorem dX3_cellBehind_33 : decode cX3_cellBehind 33 = .ok (.iinc 5 1, 3) := by decide +kernel
theorem dX3_cellBehind_36 : decode cX3_cellBehind 36 = .ok (.goto (-24), 3) := by decide +kernel
theorem dX3_cellBehind_39 : decode cX3_cellBehind 39 = .ok (.iload 4, 2) := by decide +kernel
theorem dX3_cellBehind_41 : decode cX3_cellBehind 41 = .ok (.ireturn, 1) := by decide +kernel
theorem dX3_lowestNearer_0 : decode cX3_lowestNearer 0 = .ok (.iconst (-1), 1) := by decide +kernel
theorem dX3_lowestNearer_1 : decode cX3_lowestNearer 1 = .ok (.istore_n 3, 1) := by decide +kernel
theorem dX3_lowestNearer_2 : decode cX3_lowestNearer 2 = .ok (.iconst 0, 1) := by decide +kernel
theorem dX3_lowestNearer_3 : decode cX3_lowestNearer 3 = .ok (.istore 4, 2) := by decide +kernel
theorem dX3_lowestNearer_5 : decode cX3_lowestNearer 5 = .ok (.iload 4, 2) := by decide +kernel
theorem dX3_lowestNearer_7 : decode cX3_lowestNearer 7 = .ok (.bipush 6, 2) := by decide +kernel
theorem dX3_lowestNearer_9 : decode cX3_lowestNearer 9 = .ok (.if_icmp .ge 69, 3) := by decide +kernel
theorem dX3_lowestNearer_12 : decode cX3_lowestNearer 12 = .ok (.aload_n 0, 1) := by decide +kernel
theorem dX3_lowestNearer_13 : decode cX3_lowestNearer 13 = .ok (.iload_n 1, 1) := by decide +kernel
theorem dX3_lowestNearer_14 : decode cX3_lowestNearer 14 = .ok (.iload 4, 2) := by decide +kernel
theorem dX3_lowestNearer_16 : decode cX3_lowestNearer 16 = .ok (.iload_n 2, 1) := by decide +kernel
theorem dX3_lowestNearer_17 : decode cX3_lowestNearer 17 = .ok (.invokevirtual 59, 3) := by decide +kernel
theorem dX3_lowestNearer_20 : decode cX3_lowestNearer 20 = .ok (.istore 5, 2) := by decide +kernel
theorem dX3_lowestNearer_22 : decode cX3_lowestNearer 22 = .ok (.iload 5, 2) := by decide +kernel
theorem dX3_lowestNearer_24 : decode cX3_lowestNearer 24 = .ok (.iconst (-1), 1) := by decide +kernel
theorem dX3_lowestNearer_25 : decode cX3_lowestNearer 25 = .ok (.if_icmp .eq 25, 3) := by decide +kernel
theorem dX3_lowestNearer_28 : decode cX3_lowestNearer 28 = .ok (.aload_n 0, 1) := by decide +kernel
theorem dX3_lowestNearer_29 : decode cX3_lowestNearer 29 = .ok (.getfield 15, 3) := by decide +kernel
theorem dX3_lowestNearer_32 : decode cX3_lowestNearer 32 = .ok (.iload 5, 2) := by decide +kernel
theorem dX3_lowestNearer_34 : decode cX3_lowestNearer 34 = .ok (.iaload, 1) := by decide +kernel
theorem dX3_lowestNearer_35 : decode cX3_lowestNearer 35 = .ok (.aload_n 0, 1) := by decide +kernel
theorem dX3_lowestNearer_36 : decode cX3_lowestNearer 36 = .ok (.getfield 15, 3) := by decide +kernel
theorem dX3_lowestNearer_39 : decode cX3_lowestNearer 39 = .ok (.iload_n 1, 1) := by decide +kernel
theorem dX3_lowestNearer_40 : decode cX3_lowestNearer 40 = .ok (.iaload, 1) := by decide +kernel
theorem dX3_lowestNearer_41 : decode cX3_lowestNearer 41 = .ok (.iconst 1, 1) := by decide +kernel
theorem dX3_lowestNearer_42 : decode cX3_lowestNearer 42 = .ok (.isub, 1) := by decide +kernel
theorem dX3_lowestNearer_43 : decode cX3_lowestNearer 43 = .ok (.if_icmp .ne 7, 3) := by decide +kernel
theorem dX3_lowestNearer_46 : decode cX3_lowestNearer 46 = .ok (.iconst 1, 1) := by decide +kernel
theorem dX3_lowestNearer_47 : decode cX3_lowestNearer 47 = .ok (.goto 4, 3) := by decide +kernel
theorem dX3_lowestNearer_50 : decode cX3_lowestNearer 50 = .ok (.iconst 0, 1) := by decide +kernel
theorem dX3_lowestNearer_51 : decode cX3_lowestNearer 51 = .ok (.istore 6, 2) := by decide +kernel
theorem dX3_lowestNearer_53 : decode cX3_lowestNearer 53 = .ok (.iload 6, 2) := by decide +kernel
theorem dX3_lowestNearer_55 : decode cX3_lowestNearer 55 = .ok (.ifCond .eq 17, 3) := by decide +kernel
theorem dX3_lowestNearer_58 : decode cX3_lowestNearer 58 = .ok (.iload_n 3, 1) := by decide +kernel
theorem dX3_lowestNearer_59 : decode cX3_lowestNearer 59 = .ok (.iconst (-1), 1) := by decide +kernel
theorem dX3_lowestNearer_60 : decode cX3_lowestNearer 60 = .ok (.if_icmp .eq 9, 3) := by decide +kernel
theorem dX3_lowestNearer_63 : decode cX3_lowestNearer 63 = .ok (.iload 5, 2) := by decide +kernel
theorem dX3_lowestNearer_65 : decode cX3_lowestNearer 65 = .ok (.iload_n 3, 1) := by decide +kernel
theorem dX3_lowestNearer_66 : decode cX3_lowestNearer 66 = .ok (.if_icmp .ge 6, 3) := by decide +kernel
theorem dX3_lowestNearer_69 : decode cX3_lowestNearer 69 = .ok (.iload 5, 2) := by decide +kernel
theorem dX3_lowestNearer_71 : decode cX3_lowestNearer 71 = .ok (.istore_n 3, 1) := by decide +kernel
theorem dX3_lowestNearer_72 : decode cX3_lowestNearer 72 = .ok (.iinc 4 1, 3) := by decide +kernel
theorem dX3_lowestNearer_75 : decode cX3_lowestNearer 75 = .ok (.goto (-70), 3) := by decide +kernel
theorem dX3_lowestNearer_78 : decode cX3_lowestNearer 78 = .ok (.iload_n 3, 1) := by decide +kernel
theorem dX3_lowestNearer_79 : decode cX3_lowestNearer 79 = .ok (.ireturn, 1) := by decide +kernel
theorem dX3_spread_0 : decode cX3_spread 0 = .ok (.iconst 0, 1) := by decide +kernel
theorem dX3_spread_1 : decode cX3_spread 1 = .ok (.istore_n 3, 1) := by decide +kernel
theorem dX3_spread_2 : decode cX3_spread 2 = .ok (.iload_n 3, 1) := by decide +kernel
theorem dX3_spread_3 : decode cX3_spread 3 = .ok (.bipush 121, 2) := by decide +kernel
theorem dX3_spread_5 : decode cX3_spread 5 = .ok (.if_icmp .ge 16, 3) := by decide +kernel
theorem dX3_spread_8 : decode cX3_spread 8 = .ok (.aload_n 0, 1) := by decide +kernel
theorem dX3_spread_9 : decode cX3_spread 9 = .ok (.getfield 15, 3) := by decide +kernel
theorem dX3_spread_12 : decode cX3_spread 12 = .ok (.iload_n 3, 1) := by decide +kernel
theorem dX3_spread_13 : decode cX3_spread 13 = .ok (.iconst (-1), 1) := by decide +kernel
theorem dX3_spread_14 : decode cX3_spread 14 = .ok (.iastore, 1) := by decide +kernel
theorem dX3_spread_15 : decode cX3_spread 15 = .ok (.iinc 3 1, 3) := by decide +kernel
theorem dX3_spread_18 : decode cX3_spread 18 = .ok (.goto (-16), 3) := by decide +kernel
theorem dX3_spread_21 : decode cX3_spread 21 = .ok (.iload_n 1, 1) := by decide +kernel
theorem dX3_spread_22 : decode cX3_spread 22 = .ok (.invokestatic 53, 3) := by decide +kernel
theorem dX3_spread_25 : decode cX3_spread 25 = .ok (.ifCond .ne 4, 3) := by decide +kernel
theorem dX3_spread_28 : decode cX3_spread 28 = .ok (.return_, 1) := by decide +kernel
theorem dX3_spread_29 : decode cX3_spread 29 = .ok (.aload_n 0, 1) := by decide +kernel
theorem dX3_spread_30 : decode cX3_spread 30 = .ok (.getfield 15, 3) := by decide +kernel
theorem dX3_spread_33 : decode cX3_spread 33 = .ok (.iload_n 1, 1) := by decide +kernel
theorem dX3_spread_34 : decode cX3_spread 34 = .ok (.iconst 0, 1) := by decide +kernel
theorem dX3_spread_35 : decode cX3_spread 35 = .ok (.iastore, 1) := by decide +kernel
theorem dX3_spread_36 : decode cX3_spread 36 = .ok (.aload_n 0, 1) := by decide +kernel
theorem dX3_spread_37 : decode cX3_spread 37 = .ok (.getfield 18, 3) := by decide +kernel
theorem dX3_spread_40 : decode cX3_spread 40 = .ok (.iconst 0, 1) := by decide +kernel
theorem dX3_spread_41 : decode cX3_spread 41 = .ok (.iload_n 1, 1) := by decide +kernel
theorem dX3_spread_42 : decode cX3_spread 42 = .ok (.iastore, 1) := by decide +kernel
theorem dX3_spread_43 : decode cX3_spread 43 = .ok (.iconst 1, 1) := by decide +kernel
theorem dX3_spread_44 : decode cX3_spread 44 = .ok (.istore_n 3, 1) := by decide +kernel
theorem dX3_spread_45 : decode cX3_spread 45 = .ok (.iconst 0, 1) := by decide +kernel
theorem dX3_spread_46 : decode cX3_spread 46 = .ok (.istore 4, 2) := by decide +kernel
theorem dX3_spread_48 : decode cX3_spread 48 = .ok (.iload 4, 2) := by decide +kernel
theorem dX3_spread_50 : decode cX3_spread 50 = .ok (.iload_n 3, 1) := by decide +kernel
theorem dX3_spread_51 : decode cX3_spread 51 = .ok (.if_icmp .ge 102, 3) := by decide +kernel
theorem dX3_spread_54 : decode cX3_spread 54 = .ok (.iload 4, 2) := by decide +kernel
theorem dX3_spread_56 : decode cX3_spread 56 = .ok (.bipush 121, 2) := by decide +kernel
theorem dX3_spread_58 : decode cX3_spread 58 = .ok (.if_icmp .ge 95, 3) := by decide +kernel
theorem dX3_spread_61 : decode cX3_spread 61 = .ok (.aload_n 0, 1) := by decide +kernel
theorem dX3_spread_62 : decode cX3_spread 62 = .ok (.getfield 18, 3) := by decide +kernel
theorem dX3_spread_65 : decode cX3_spread 65 = .ok (.iload 4, 2) := by decide +kernel
theorem dX3_spread_67 : decode cX3_spread 67 = .ok (.iaload, 1) := by decide +kernel
theorem dX3_spread_68 : decode cX3_spread 68 = .ok (.istore 5, 2) := by decide +kernel
theorem dX3_spread_70 : decode cX3_spread 70 = .ok (.iconst 0, 1) := by decide +kernel
theorem dX3_spread_71 : decode cX3_spread 71 = .ok (.istore 6, 2) := by decide +kernel
theorem dX3_spread_73 : decode cX3_spread 73 = .ok (.iload 6, 2) := by decide +kernel
theorem dX3_spread_75 : decode cX3_spread 75 = .ok (.bipush 6, 2) := by decide +kernel
theorem dX3_spread_77 : decode cX3_spread 77 = .ok (.if_icmp .ge 70, 3) := by decide +kernel
theorem dX3_spread_80 : decode cX3_spread 80 = .ok (.aload_n 0, 1) := by decide +kernel
theorem dX3_spread_81 : decode cX3_spread 81 = .ok (.iload 5, 2) := by decide +kernel
theorem dX3_spread_83 : decode cX3_spread 83 = .ok (.iload 6, 2) := by decide +kernel
theorem dX3_spread_85 : decode cX3_spread 85 = .ok (.iload_n 2, 1) := by decide +kernel
theorem dX3_spread_86 : decode cX3_spread 86 = .ok (.invokevirtual 59, 3) := by decide +kernel
theorem dX3_spread_89 : decode cX3_spread 89 = .ok (.istore 7, 2) := by decide +kernel
theorem dX3_spread_91 : decode cX3_spread 91 = .ok (.iload 7, 2) := by decide +kernel
theorem dX3_spread_93 : decode cX3_spread 93 = .ok (.iconst (-1), 1) := by decide +kernel
theorem dX3_spread_94 : decode cX3_spread 94 = .ok (.if_icmp .eq 47, 3) := by decide +kernel
theorem dX3_spread_97 : decode cX3_spread 97 = .ok (.aload_n 0, 1) := by decide +kernel
theorem dX3_spread_98 : decode cX3_spread 98 = .ok (.getfield 15, 3) := by decide +kernel
theorem dX3_spread_101 : decode cX3_spread 101 = .ok (.iload 7, 2) := by decide +kernel
theorem dX3_spread_103 : decode cX3_spread 103 = .ok (.iaload, 1) := by decide +kernel
theorem dX3_spread_104 : decode cX3_spread 104 = .ok (.iconst (-1), 1) := by decide +kernel
theorem dX3_spread_105 : decode cX3_spread 105 = .ok (.if_icmp .ne 36, 3) := by decide +kernel
theorem dX3_spread_108 : decode cX3_spread 108 = .ok (.iload_n 3, 1) := by decide +kernel
theorem dX3_spread_109 : decode cX3_spread 109 = .ok (.bipush 121, 2) := by decide +kernel
theorem dX3_spread_111 : decode cX3_spread 111 = .ok (.if_icmp .ge 30, 3) := by decide +kernel
theorem dX3_spread_114 : decode cX3_spread 114 = .ok (.aload_n 0, 1) := by decide +kernel
theorem dX3_spread_115 : decode cX3_spread 115 = .ok (.getfield 15, 3) := by decide +kernel
theorem dX3_spread_118 : decode cX3_spread 118 = .ok (.iload 7, 2) := by decide +kernel
theorem dX3_spread_120 : decode cX3_spread 120 = .ok (.aload_n 0, 1) := by decide +kernel
theorem dX3_spread_121 : decode cX3_spread 121 = .ok (.getfield 15, 3) := by decide +kernel
theorem dX3_spread_124 : decode cX3_spread 124 = .ok (.iload 5, 2) := by decide +kernel
theorem dX3_spread_126 : decode cX3_spread 126 = .ok (.iaload, 1) := by decide +kernel
theorem dX3_spread_127 : decode cX3_spread 127 = .ok (.iconst 1, 1) := by decide +kernel
theorem dX3_spread_128 : decode cX3_spread 128 = .ok (.iadd, 1) := by decide +kernel
theorem dX3_spread_129 : decode cX3_spread 129 = .ok (.iastore, 1) := by decide +kernel
theorem dX3_spread_130 : decode cX3_spread 130 = .ok (.aload_n 0, 1) := by decide +kernel
theorem dX3_spread_131 : decode cX3_spread 131 = .ok (.getfield 18, 3) := by decide +kernel
theorem dX3_spread_134 : decode cX3_spread 134 = .ok (.iload_n 3, 1) := by decide +kernel
theorem dX3_spread_135 : decode cX3_spread 135 = .ok (.iload 7, 2) := by decide +kernel
theorem dX3_spread_137 : decode cX3_spread 137 = .ok (.iastore, 1) := by decide +kernel
theorem dX3_spread_138 : decode cX3_spread 138 = .ok (.iinc 3 1, 3) := by decide +kernel
theorem dX3_spread_141 : decode cX3_spread 141 = .ok (.iinc 6 1, 3) := by decide +kernel
theorem dX3_spread_144 : decode cX3_spread 144 = .ok (.goto (-71), 3) := by decide +kernel
theorem dX3_spread_147 : decode cX3_spread 147 = .ok (.iinc 4 1, 3) := by decide +kernel
theorem dX3_spread_150 : decode cX3_spread 150 = .ok (.goto (-102), 3) := by decide +kernel
theorem dX3_spread_153 : decode cX3_spread 153 = .ok (.return_, 1) := by decide +kernel
theorem dX3_landing_0 : decode cX3_landing 0 = .ok (.aload_n 0, 1) := by decide +kernel
theorem dX3_landing_1 : decode cX3_landing 1 = .ok (.getfield 21, 3) := by decide +kernel
theorem dX3_landing_4 : decode cX3_landing 4 = .ok (.iload_n 1, 1) := by decide +kernel
theorem dX3_landing_5 : decode cX3_landing 5 = .ok (.iload_n 2, 1) := by decide +kernel
theorem dX3_landing_6 : decode cX3_landing 6 = .ok (.invokevirtual 45, 3) := by decide +kernel
theorem dX3_landing_9 : decode cX3_landing 9 = .ok (.istore 4, 2) := by decide +kernel
theorem dX3_landing_11 : decode cX3_landing 11 = .ok (.iload 4, 2) := by decide +kernel
theorem dX3_landing_13 : decode cX3_landing 13 = .ok (.iconst (-1), 1) := by decide +kernel
theorem dX3_landing_14 : decode cX3_landing 14 = .ok (.if_icmp .eq 21, 3) := by decide +kernel
theorem dX3_landing_17 : decode cX3_landing 17 = .ok (.iload 4, 2) := by decide +kernel
theorem dX3_landing_19 : decode cX3_landing 19 = .ok (.iload_n 3, 1) := by decide +kernel
theorem dX3_landing_20 : decode cX3_landing 20 = .ok (.if_icmp .eq 15, 3) := by decide +kernel
theorem dX3_landing_23 : decode cX3_landing 23 = .ok (.aload_n 0, 1) := by decide +kernel
theorem dX3_landing_24 : decode cX3_landing 24 = .ok (.getfield 25, 3) := by decide +kernel
theorem dX3_landing_27 : decode cX3_landing 27 = .ok (.iload 4, 2) := by decide +kernel
theorem dX3_landing_29 : decode cX3_landing 29 = .ok (.invokevirtual 49, 3) := by decide +kernel
theorem dX3_landing_32 : decode cX3_landing 32 = .ok (.ifCond .eq 5, 3) := by decide +kernel
theorem dX3_landing_35 : decode cX3_landing 35 = .ok (.iconst (-1), 1) := by decide +kernel
theorem dX3_landing_36 : decode cX3_landing 36 = .ok (.ireturn, 1) := by decide +kernel
theorem dX3_landing_37 : decode cX3_landing 37 = .ok (.aload_n 0, 1) := by decide +kernel
theorem dX3_landing_38 : decode cX3_landing 38 = .ok (.getfield 21, 3) := by decide +kernel
theorem dX3_landing_41 : decode cX3_landing 41 = .ok (.iload 4, 2) := by decide +kernel
theorem dX3_landing_43 : decode cX3_landing 43 = .ok (.iload_n 2, 1) := by decide +kernel
theorem dX3_landing_44 : decode cX3_landing 44 = .ok (.invokevirtual 45, 3) := by decide +kernel
theorem dX3_landing_47 : decode cX3_landing 47 = .ok (.istore 5, 2) := by decide +kernel
theorem dX3_landing_49 : decode cX3_landing 49 = .ok (.iload 5, 2) := by decide +kernel
theorem dX3_landing_51 : decode cX3_landing 51 = .ok (.iload_n 3, 1) := by decide +kernel
theorem dX3_landing_52 : decode cX3_landing 52 = .ok (.if_icmp .eq 15, 3) := by decide +kernel
theorem dX3_landing_55 : decode cX3_landing 55 = .ok (.aload_n 0, 1) := by decide +kernel
theorem dX3_landing_56 : decode cX3_landing 56 = .ok (.getfield 25, 3) := by decide +kernel
theorem dX3_landing_59 : decode cX3_landing 59 = .ok (.iload 5, 2) := by decide +kernel
theorem dX3_landing_61 : decode cX3_landing 61 = .ok (.invokevirtual 49, 3) := by decide +kernel
theorem dX3_landing_64 : decode cX3_landing 64 = .ok (.ifCond .eq 8, 3) := by decide +kernel
theorem dX3_landing_67 : decode cX3_landing 67 = .ok (.iload 5, 2) := by decide +kernel
theorem dX3_landing_69 : decode cX3_landing 69 = .ok (.goto 4, 3) := by decide +kernel
theorem dX3_landing_72 : decode cX3_landing 72 = .ok (.iconst (-1), 1) := by decide +kernel
theorem dX3_landing_73 : decode cX3_landing 73 = .ok (.ireturn, 1) := by decide +kernel
theorem dX3_mayEnd_0 : decode cX3_mayEnd 0 = .ok (.iload_n 1, 1) := by decide +kernel
theorem dX3_mayEnd_1 : decode cX3_mayEnd 1 = .ok (.invokestatic 63, 3) := by decide +kernel
theorem dX3_mayEnd_4 : decode cX3_mayEnd 4 = .ok (.istore 4, 2) := by decide +kernel
theorem dX3_mayEnd_6 : decode cX3_mayEnd 6 = .ok (.aload_n 0, 1) := by decide +kernel
theorem dX3_mayEnd_7 : decode cX3_mayEnd 7 = .ok (.getfield 21, 3) := by decide +kernel
theorem dX3_mayEnd_10 : decode cX3_mayEnd 10 = .ok (.iload_n 3, 1) := by decide +kernel
theorem dX3_mayEnd_11 : decode cX3_mayEnd 11 = .ok (.invokevirtual 66, 3) := by decide +kernel
theorem dX3_mayEnd_14 : decode cX3_mayEnd 14 = .ok (.istore 5, 2) := by decide +kernel
theorem dX3_mayEnd_16 : decode cX3_mayEnd 16 = .ok (.aload_n 0, 1) := by decide +kernel
theorem dX3_mayEnd_17 : decode cX3_mayEnd 17 = .ok (.getfield 21, 3) := by decide +kernel
theorem dX3_mayEnd_20 : decode cX3_mayEnd 20 = .ok (.iload_n 2, 1) := by decide +kernel
theorem dX3_mayEnd_21 : decode cX3_mayEnd 21 = .ok (.invokevirtual 66, 3) := by decide +kernel
theorem dX3_mayEnd_24 : decode cX3_mayEnd 24 = .ok (.iload 4, 2) := by decide +kernel
theorem dX3_mayEnd_26 : decode cX3_mayEnd 26 = .ok (.if_icmp .ne 16, 3) := by decide +kernel
theorem dX3_mayEnd_29 : decode cX3_mayEnd 29 = .ok (.iload 5, 2) := by decide +kernel
theorem dX3_mayEnd_31 : decode cX3_mayEnd 31 = .ok (.iload 4, 2) := by decide +kernel
theorem dX3_mayEnd_33 : decode cX3_mayEnd 33 = .ok (.if_icmp .ne 7, 3) := by decide +kernel
theorem dX3_mayEnd_36 : decode cX3_mayEnd 36 = .ok (.iconst 1, 1) := by decide +kernel
theorem dX3_mayEnd_37 : decode cX3_mayEnd 37 = .ok (.goto 4, 3) := by decide +kernel
theorem dX3_mayEnd_40 : decode cX3_mayEnd 40 = .ok (.iconst 0, 1) := by decide +kernel
theorem dX3_mayEnd_41 : decode cX3_mayEnd 41 = .ok (.ireturn, 1) := by decide +kernel
theorem dX3_mayEnd_42 : decode cX3_mayEnd 42 = .ok (.iload 5, 2) := by decide +kernel
theorem dX3_mayEnd_44 : decode cX3_mayEnd 44 = .ok (.iconst (-1), 1) := by decide +kernel
theorem dX3_mayEnd_45 : decode cX3_mayEnd 45 = .ok (.if_icmp .eq 16, 3) := by decide +kernel
theorem dX3_mayEnd_48 : decode cX3_mayEnd 48 = .ok (.iload 5, 2) := by decide +kernel
theorem dX3_mayEnd_50 : decode cX3_mayEnd 50 = .ok (.iload_n 1, 1) := by decide +kernel
theorem dX3_mayEnd_51 : decode cX3_mayEnd 51 = .ok (.if_icmp .eq 10, 3) := by decide +kernel
theorem dX3_mayEnd_54 : decode cX3_mayEnd 54 = .ok (.iload 5, 2) := by decide +kernel
theorem dX3_mayEnd_56 : decode cX3_mayEnd 56 = .ok (.iload 4, 2) := by decide +kernel
theorem dX3_mayEnd_58 : decode cX3_mayEnd 58 = .ok (.if_icmp .ne 7, 3) := by decide +kernel
theorem dX3_mayEnd_61 : decode cX3_mayEnd 61 = .ok (.iconst 1, 1) := by decide +kernel
theorem dX3_mayEnd_62 : decode cX3_mayEnd 62 = .ok (.goto 4, 3) := by decide +kernel
theorem dX3_mayEnd_65 : decode cX3_mayEnd 65 = .ok (.iconst 0, 1) := by decide +kernel
theorem dX3_mayEnd_66 : decode cX3_mayEnd 66 = .ok (.ireturn, 1) := by decide +kernel
theorem dX4_init_0 : decode cX4_init 0 = .ok (.aload_n 0, 1) := by decide +kernel
theorem dX4_init_1 : decode cX4_init 1 = .ok (.invokespecial 3, 3) := by decide +kernel
theorem dX4_init_4 : decode cX4_init 4 = .ok (.aload_n 0, 1) := by decide +kernel
theorem dX4_init_5 : decode cX4_init 5 = .ok (.bipush 6, 2) := by decide +kernel
theorem dX4_init_7 : decode cX4_init 7 = .ok (.newarray .int, 2) := by decide +kernel
theorem dX4_init_9 : decode cX4_init 9 = .ok (.putfield 9, 3) := by decide +kernel
theorem dX4_init_12 : decode cX4_init 12 = .ok (.aload_n 0, 1) := by decide +kernel
theorem dX4_init_13 : decode cX4_init 13 = .ok (.bipush 6, 2) := by decide +kernel
theorem dX4_init_15 : decode cX4_init 15 = .ok (.newarray .int, 2) := by decide +kernel
theorem dX4_init_17 : decode cX4_init 17 = .ok (.putfield 15, 3) := by decide +kernel
theorem dX4_init_20 : decode cX4_init 20 = .ok (.aload_n 0, 1) := by decide +kernel
theorem dX4_init_21 : decode cX4_init 21 = .ok (.aload_n 1, 1) := by decide +kernel
theorem dX4_init_22 : decode cX4_init 22 = .ok (.putfield 18, 3) := by decide +kernel
theorem dX4_init_25 : decode cX4_init 25 = .ok (.aload_n 0, 1) := by decide +kernel
theorem dX4_init_26 : decode cX4_init 26 = .ok (.iconst (-1), 1) := by decide +kernel
theorem dX4_init_27 : decode cX4_init 27 = .ok (.putfield 22, 3) := by decide +kernel
theorem dX4_init_30 : decode cX4_init 30 = .ok (.return_, 1) := by decide +kernel
theorem dX4_setUp_0 : decode cX4_setUp 0 = .ok (.aload_n 0, 1) := by decide +kernel
theorem dX4_setUp_1 : decode cX4_setUp 1 = .ok (.iload_n 1, 1) := by decide +kernel
theorem dX4_setUp_2 : decode cX4_setUp 2 = .ok (.putfield 26, 3) := by decide +kernel
theorem dX4_setUp_5 : decode cX4_setUp 5 = .ok (.aload_n 0, 1) := by decide +kernel
theorem dX4_setUp_6 : decode cX4_setUp 6 = .ok (.iconst 0, 1) := by decide +kernel
theorem dX4_setUp_7 : decode cX4_setUp 7 = .ok (.putfield 29, 3) := by decide +kernel
theorem dX4_setUp_10 : decode cX4_setUp 10 = .ok (.aload_n 0, 1) := by decide +kernel
theorem dX4_setUp_11 : decode cX4_setUp 11 = .ok (.iconst 0, 1) := by decide +kernel
theorem dX4_setUp_12 : decode cX4_setUp 12 = .ok (.putfield 32, 3) := by decide +kernel
theorem dX4_setUp_15 : decode cX4_setUp 15 = .ok (.aload_n 0, 1) := by decide +kernel
theorem dX4_setUp_16 : decode cX4_setUp 16 = .ok (.iconst (-1), 1) := by decide +kernel
theorem dX4_setUp_17 : decode cX4_setUp 17 = .ok (.putfield 22, 3) := by decide +kernel
theorem dX4_setUp_20 : decode cX4_setUp 20 = .ok (.iconst 5, 1) := by decide +kernel
theorem dX4_setUp_21 : decode cX4_setUp 21 = .ok (.istore_n 2, 1) := by decide +kernel
theorem dX4_setUp_22 : decode cX4_setUp 22 = .ok (.iload_n 2, 1) := by decide +kernel
theorem dX4_setUp_23 : decode cX4_setUp 23 = .ok (.ifCond .lt 29, 3) := by decide +kernel
theorem dX4_setUp_26 : decode cX4_setUp 26 = .ok (.aload_n 0, 1) := by decide +kernel
theorem dX4_setUp_27 : decode cX4_setUp 27 = .ok (.getfield 9, 3) := by decide +kernel
theorem dX4_setUp_30 : decode cX4_setUp 30 = .ok (.iload_n 2, 1) := by decide +kernel
theorem dX4_setUp_31 : decode cX4_setUp 31 = .ok (.iconst 0, 1) := by decide +kernel
theorem dX4_setUp_32 : decode cX4_setUp 32 = .ok (.iastore, 1) := by decide +kernel
theorem dX4_setUp_33 : decode cX4_setUp 33 = .ok (.aload_n 0, 1) := by decide +kernel
theorem dX4_setUp_34 : decode cX4_setUp 34 = .ok (.iload_n 2, 1) := by decide +kernel
theorem dX4_setUp_35 : decode cX4_setUp 35 = .ok (.invokevirtual 35, 3) := by decide +kernel
theorem dX4_setUp_38 : decode cX4_setUp 38 = .ok (.ifCond .eq 8, 3) := by decide +kernel
theorem dX4_setUp_41 : decode cX4_setUp 41 = .ok (.aload_n 0, 1) := by decide +kernel
theorem dX4_setUp_42 : decode cX4_setUp 42 = .ok (.iload_n 2, 1) := by decide +kernel
theorem dX4_setUp_43 : decode cX4_setUp 43 = .ok (.putfield 22, 3) := by decide +kernel
theorem dX4_setUp_46 : decode cX4_setUp 46 = .ok (.iinc 2 (-1), 3) := by decide +kernel
theorem dX4_setUp_49 : decode cX4_setUp 49 = .ok (.goto (-27), 3) := by decide +kernel
theorem dX4_setUp_52 : decode cX4_setUp 52 = .ok (.return_, 1) := by decide +kernel
theorem dX4_onTurn_0 : decode cX4_onTurn 0 = .ok (.aload_n 0, 1) := by decide +kernel
theorem dX4_onTurn_1 : decode cX4_onTurn 1 = .ok (.getfield 22, 3) := by decide +kernel
theorem dX4_onTurn_4 : decode cX4_onTurn 4 = .ok (.ireturn, 1) := by decide +kernel
theorem dX4_outSet_0 : decode cX4_outSet 0 = .ok (.aload_n 0, 1) := by decide +kernel
theorem dX4_outSet_1 : decode cX4_outSet 1 = .ok (.getfield 29, 3) := by decide +kernel
theorem dX4_outSet_4 : decode cX4_outSet 4 = .ok (.ireturn, 1) := by decide +kernel
theorem dX4_placedCount_0 : decode cX4_placedCount 0 = .ok (.aload_n 0, 1) := by decide +kernel
theorem dX4_placedCount_1 : decode cX4_placedCount 1 = .ok (.getfield 32, 3) := by decide +kernel
theorem dX4_placedCount_4 : decode cX4_placedCount 4 = .ok (.ireturn, 1) := by decide +kernel
theorem dX4_plays_0 : decode cX4_plays 0 = .ok (.iload_n 1, 1) := by decide +kernel
theorem dX4_plays_1 : decode cX4_plays 1 = .ok (.invokestatic 39, 3) := by decide +kernel
theorem dX4_plays_4 : decode cX4_plays 4 = .ok (.ifCond .eq 19, 3) := by decide +kernel
theorem dX4_plays_7 : decode cX4_plays 7 = .ok (.aload_n 0, 1) := by decide +kernel
theorem dX4_plays_8 : decode cX4_plays 8 = .ok (.getfield 26, 3) := by decide +kernel
theorem dX4_plays_11 : decode cX4_plays 11 = .ok (.iload_n 1, 1) := by decide +kernel
theorem dX4_plays_12 : decode cX4_plays 12 = .ok (.ishr, 1) := by decide +kernel
theorem dX4_plays_13 : decode cX4_plays 13 = .ok (.iconst 1, 1) := by decide +kernel
theorem dX4_plays_14 : decode cX4_plays 14 = .ok (.iand, 1) := by decide +kernel
theorem dX4_plays_15 : decode cX4_plays 15 = .ok (.iconst 1, 1) := by decide +kernel
theorem dX4_plays_16 : decode cX4_plays 16 = .ok (.if_icmp .ne 7, 3) := by decide +kernel
theorem dX4_plays_19 : decode cX4_plays 19 = .ok (.iconst 1, 1) := by decide +kernel
theorem dX4_plays_20 : decode cX4_plays 20 = .ok (.goto 4, 3) := by decide +kernel
theorem dX4_plays_23 : decode cX4_plays 23 = .ok (.iconst 0, 1) := by decide +kernel
theorem dX4_plays_24 : decode cX4_plays 24 = .ok (.ireturn, 1) := by decide +kernel
theorem dX4_hasDroppedOut_0 : decode cX4_hasDroppedOut 0 = .ok (.iload_n 1, 1) := by decide +kernel
theorem dX4_hasDroppedOut_1 : decode cX4_hasDroppedOut 1 = .ok (.invokestatic 39, 3) := by decide +kernel
theorem dX4_hasDroppedOut_4 : decode cX4_hasDroppedOut 4 = .ok (.ifCond .eq 19, 3) := by decide +kernel
theorem dX4_hasDroppedOut_7 : decode cX4_hasDroppedOut 7 = .ok (.aload_n 0, 1) := by decide +kernel
theorem dX4_hasDroppedOut_8 : decode cX4_hasDroppedOut 8 = .ok (.getfield 29, 3) := by decide +kernel
theorem dX4_hasDroppedOut_11 : decode cX4_hasDroppedOut 11 = .ok (.iload_n 1, 1) := by decide +kernel
theorem dX4_hasDroppedOut_12 : decode cX4_hasDroppedOut 12 = .ok (.ishr, 1) := by decide +kernel
theorem dX4_hasDroppedOut_13 : decode cX4_hasDroppedOut 13 = .ok (.iconst 1, 1) := by decide +kernel
theorem dX4_hasDroppedOut_14 : decode cX4_hasDroppedOut 14 = .ok (.iand, 1) := by decide +kernel
theorem dX4_hasDroppedOut_15 : decode cX4_hasDroppedOut 15 = .ok (.iconst 1, 1) := by decide +kernel
theorem dX4_hasDroppedOut_16 : decode cX4_hasDroppedOut 16 = .ok (.if_icmp .ne 7, 3) := by decide +kernel
theorem dX4_hasDroppedOut_19 : decode cX4_hasDroppedOut 19 = .ok (.iconst 1, 1) := by decide +kernel
theorem dX4_hasDroppedOut_20 : decode cX4_hasDroppedOut 20 = .ok (.goto 4, 3) := by decide +kernel
theorem dX4_hasDroppedOut_23 : decode cX4_hasDroppedOut 23 = .ok (.iconst 0, 1) := by decide +kernel
theorem dX4_hasDroppedOut_24 : decode cX4_hasDroppedOut 24 = .ok (.ireturn, 1) := by decide +kernel
theorem dX4_playerAtPlace_0 : decode cX4_playerAtPlace 0 = .ok (.iload_n 1, 1) := by decide +kernel
theorem dX4_playerAtPlace_1 : decode cX4_playerAtPlace 1 = .ok (.ifCond .lt 26, 3) := by decide +kernel
theorem dX4_playerAtPlace_4 : decode cX4_playerAtPlace 4 = .ok (.iload_n 1, 1) := by decide +kernel
theorem dX4_playerAtPlace_5 : decode cX4_playerAtPlace 5 = .ok (.aload_n 0, 1) := by decide +kernel
theorem dX4_playerAtPlace_6 : decode cX4_playerAtPlace 6 = .ok (.getfield 32, 3) := by decide +kernel
theorem dX4_playerAtPlace_9 : decode cX4_playerAtPlace 9 = .ok (.if_icmp .ge 18, 3) := by decide +kernel
theorem dX4_playerAtPlace_12 : decode cX4_playerAtPlace 12 = .ok (.iload_n 1, 1) := by decide +kernel
theorem dX4_playerAtPlace_13 : decode cX4_playerAtPlace 13 = .ok (.bipush 6, 2) := by decide +kernel
theorem dX4_playerAtPlace_15 : decode cX4_playerAtPlace 15 = .ok (.if_icmp .ge 12, 3) := by decide +kernel
theorem dX4_playerAtPlace_18 : decode cX4_playerAtPlace 18 = .ok (.aload_n 0, 1) := by decide +kernel
theorem dX4_playerAtPlace_19 : decode cX4_playerAtPlace 19 = .ok (.getfield 15, 3) := by decide +kernel
theorem dX4_playerAtPlace_22 : decode cX4_playerAtPlace 22 = .ok (.iload_n 1, 1) := by decide +kernel
theorem dX4_playerAtPlace_23 : decode cX4_playerAtPlace 23 = .ok (.iaload, 1) := by decide +kernel
theorem dX4_playerAtPlace_24 : decode cX4_playerAtPlace 24 = .ok (.goto 4, 3) := by decide +kernel
theorem dX4_playerAtPlace_27 : decode cX4_playerAtPlace 27 = .ok (.iconst (-1), 1) := by decide +kernel
theorem dX4_playerAtPlace_28 : decode cX4_playerAtPlace 28 = .ok (.ireturn, 1) := by decide +kernel
theorem dX4_countMove_0 : decode cX4_countMove 0 = .ok (.aload_n 0, 1) := by decide +kernel
theorem dX4_countMove_1 : decode cX4_countMove 1 = .ok (.getfield 22, 3) := by decide +kernel
theorem dX4_countMove_4 : decode cX4_countMove 4 = .ok (.invokestatic 39, 3) := by decide +kernel
theorem dX4_countMove_7 : decode cX4_countMove 7 = .ok (.ifCond .eq 16, 3) := by decide +kernel
theorem dX4_countMove_10 : decode cX4_countMove 10 = .ok (.aload_n 0, 1) := by decide +kernel
theorem dX4_countMove_11 : decode cX4_countMove 11 = .ok (.getfield 9, 3) := by decide +kernel
theorem dX4_countMove_14 : decode cX4_countMove 14 = .ok (.aload_n 0, 1) := by decide +kernel
theorem dX4_countMove_15 : decode cX4_countMove 15 = .ok (.getfield 22, 3) := by decide +kernel
theorem dX4_countMove_18 : decode cX4_countMove 18 = .ok (.dup2, 1) := by decide +kernel
theorem dX4_countMove_19 : decode cX4_countMove 19 = .ok (.iaload, 1) := by decide +kernel
theorem dX4_countMove_20 : decode cX4_countMove 20 = .ok (.iconst 1, 1) := by decide +kernel
theorem dX4_countMove_21 : decode cX4_countMove 21 = .ok (.iadd, 1) := by decide +kernel
theorem dX4_countMove_22 : decode cX4_countMove 22 = .ok (.iastore, 1) := by decide +kernel
theorem dX4_countMove_23 : decode cX4_countMove 23 = .ok (.return_, 1) := by decide +kernel
theorem dX4_placeFinishers_0 : decode cX4_placeFinishers 0 = .ok (.iconst 0, 1) := by decide +kernel
theorem dX4_placeFinishers_1 : decode cX4_placeFinishers 1 = .ok (.istore_n 2, 1) := by decide +kernel
theorem dX4_placeFinishers_2 : decode cX4_placeFinishers 2 = .ok (.iload_n 2, 1) := by decide +kernel
theorem dX4_placeFinishers_3 : decode cX4_placeFinishers 3 = .ok (.bipush 6, 2) := by decide +kernel
theorem dX4_placeFinishers_5 : decode cX4_placeFinishers 5 = .ok (.if_icmp .ge 55, 3) := by decide +kernel
theorem dX4_placeFinishers_8 : decode cX4_placeFinishers 8 = .ok (.aload_n 0, 1) := by decide +kernel
theorem dX4_placeFinishers_9 : decode cX4_placeFinishers 9 = .ok (.iload_n 2, 1) := by decide +kernel
theorem dX4_placeFinishers_10 : decode cX4_placeFinishers 10 = .ok (.invokevirtual 42, 3) := by decide +kernel
theorem dX4_placeFinishers_13 : decode cX4_placeFinishers 13 = .ok (.ifCond .eq 41, 3) := by decide +kernel
theorem dX4_placeFinishers_16 : decode cX4_placeFinishers 16 = .ok (.aload_n 0, 1) := by decide +kernel
theorem dX4_placeFinishers_17 : decode cX4_placeFinishers 17 = .ok (.iload_n 2, 1) := by decide +kernel
theorem dX4_placeFinishers_18 : decode cX4_placeFinishers 18 = .ok (.iload_n 1, 1) := by decide +kernel
theorem dX4_placeFinishers_19 : decode cX4_placeFinishers 19 = .ok (.invokevirtual 45, 3) := by decide +kernel
theorem dX4_placeFinishers_22 : decode cX4_placeFinishers 22 = .ok (.ifCond .eq 32, 3) := by decide +kernel
theorem dX4_placeFinishers_25 : decode cX4_placeFinishers 25 = .ok (.aload_n 0, 1) := by decide +kernel
theorem dX4_placeFinishers_26 : decode cX4_placeFinishers 26 = .ok (.getfield 32, 3) := by decide +kernel
theorem dX4_placeFinishers_29 : decode cX4_placeFinishers 29 = .ok (.bipush 6, 2) := by decide +kernel
theorem dX4_placeFinishers_31 : decode cX4_placeFinishers 31 = .ok (.if_icmp .ge 23, 3) := by decide +kernel
theorem dX4_placeFinishers_34 : decode cX4_placeFinishers 34 = .ok (.aload_n 0, 1) := by decide +kernel
theorem dX4_placeFinishers_35 : decode cX4_placeFinishers 35 = .ok (.getfield 15, 3) := by decide +kernel
theorem dX4_placeFinishers_38 : decode cX4_placeFinishers 38 = .ok (.aload_n 0, 1) := by decide +kernel
theorem dX4_placeFinishers_39 : decode cX4_placeFinishers 39 = .ok (.getfield 32, 3) := by decide +kernel
theorem dX4_placeFinishers_42 : decode cX4_placeFinishers 42 = .ok (.iload_n 2, 1) := by decide +kernel
theorem dX4_placeFinishers_43 : decode cX4_placeFinishers 43 = .ok (.iastore, 1) := by decide +kernel
theorem dX4_placeFinishers_44 : decode cX4_placeFinishers 44 = .ok (.aload_n 0, 1) := by decide +kernel
theorem dX4_placeFinishers_45 : decode cX4_placeFinishers 45 = .ok (.dup, 1) := by decide +kernel
theorem dX4_placeFinishers_46 : decode cX4_placeFinishers 46 = .ok (.getfield 32, 3) := by decide +kernel
theorem dX4_placeFinishers_49 : decode cX4_placeFinishers 49 = .ok (.iconst 1, 1) := by decide +kernel
theorem dX4_placeFinishers_50 : decode cX4_placeFinishers 50 = .ok (.iadd, 1) := by decide +kernel
theorem dX4_placeFinishers_51 : decode cX4_placeFinishers 51 = .ok (.putfield 32, 3) := by decide +kernel
theorem dX4_placeFinishers_54 : decode cX4_placeFinishers 54 = .ok (.iinc 2 1, 3) := by decide +kernel
theorem dX4_placeFinishers_57 : decode cX4_placeFinishers 57 = .ok (.goto (-55), 3) := by decide +kernel
theorem dX4_placeFinishers_60 : decode cX4_placeFinishers 60 = .ok (.return_, 1) := by decide +kernel
theorem dX4_goOn_0 : decode cX4_goOn 0 = .ok (.aload_n 0, 1) := by decide +kernel
theorem dX4_goOn_1 : decode cX4_goOn 1 = .ok (.getfield 22, 3) := by decide +kernel
theorem dX4_goOn_4 : decode cX4_goOn 4 = .ok (.istore_n 2, 1) := by decide +kernel
theorem dX4_goOn_5 : decode cX4_goOn 5 = .ok (.aload_n 0, 1) := by decide +kernel
theorem dX4_goOn_6 : decode cX4_goOn 6 = .ok (.iconst (-1), 1) := by decide +kernel
theorem dX4_goOn_7 : decode cX4_goOn 7 = .ok (.putfield 22, 3) := by decide +kernel
theorem dX4_goOn_10 : decode cX4_goOn 10 = .ok (.iconst 1, 1) := by decide +kernel
theorem dX4_goOn_11 : decode cX4_goOn 11 = .ok (.istore_n 3, 1) := by decide +kernel
theorem dX4_goOn_12 : decode cX4_goOn 12 = .ok (.iload_n 3, 1) := by decide +kernel
theorem dX4_goOn_13 : decode cX4_goOn 13 = .ok (.bipush 6, 2) := by decide +kernel
theorem dX4_goOn_15 : decode cX4_goOn 15 = .ok (.if_icmp .gt 69, 3) := by decide +kernel
theorem dX4_goOn_18 : decode cX4_goOn 18 = .ok (.aload_n 0, 1) := by decide +kernel
theorem dX4_goOn_19 : decode cX4_goOn 19 = .ok (.getfield 22, 3) := by decide +kernel
theorem dX4_goOn_22 : decode cX4_goOn 22 = .ok (.iconst (-1), 1) := by decide +kernel
theorem dX4_goOn_23 : decode cX4_goOn 23 = .ok (.if_icmp .ne 61, 3) := by decide +kernel
theorem dX4_goOn_26 : decode cX4_goOn 26 = .ok (.iload_n 2, 1) := by decide +kernel
theorem dX4_goOn_27 : decode cX4_goOn 27 = .ok (.iload_n 3, 1) := by decide +kernel
theorem dX4_goOn_28 : decode cX4_goOn 28 = .ok (.iadd, 1) := by decide +kernel
theorem dX4_goOn_29 : decode cX4_goOn 29 = .ok (.bipush 6, 2) := by decide +kernel
theorem dX4_goOn_31 : decode cX4_goOn 31 = .ok (.irem, 1) := by decide +kernel
theorem dX4_goOn_32 : decode cX4_goOn 32 = .ok (.istore 4, 2) := by decide +kernel
theorem dX4_goOn_34 : decode cX4_goOn 34 = .ok (.aload_n 0, 1) := by decide +kernel
theorem dX4_goOn_35 : decode cX4_goOn 35 = .ok (.iload 4, 2) := by decide +kernel
theorem dX4_goOn_37 : decode cX4_goOn 37 = .ok (.invokevirtual 42, 3) := by decide +kernel
theorem dX4_goOn_40 : decode cX4_goOn 40 = .ok (.ifCond .ne 6, 3) := by decide +kernel
theorem dX4_goOn_43 : decode cX4_goOn 43 = .ok (.goto 35, 3) := by decide +kernel
theorem dX4_goOn_46 : decode cX4_goOn 46 = .ok (.aload_n 0, 1) := by decide +kernel
theorem dX4_goOn_47 : decode cX4_goOn 47 = .ok (.iload 4, 2) := by decide +kernel
theorem dX4_goOn_49 : decode cX4_goOn 49 = .ok (.iload_n 1, 1) := by decide +kernel
theorem dX4_goOn_50 : decode cX4_goOn 50 = .ok (.invokevirtual 49, 3) := by decide +kernel
theorem dX4_goOn_53 : decode cX4_goOn 53 = .ok (.ifCond .eq 19, 3) := by decide +kernel
theorem dX4_goOn_56 : decode cX4_goOn 56 = .ok (.aload_n 0, 1) := by decide +kernel
theorem dX4_goOn_57 : decode cX4_goOn 57 = .ok (.dup, 1) := by decide +kernel
theorem dX4_goOn_58 : decode cX4_goOn 58 = .ok (.getfield 29, 3) := by decide +kernel
theorem dX4_goOn_61 : decode cX4_goOn 61 = .ok (.iconst 1, 1) := by decide +kernel
theorem dX4_goOn_62 : decode cX4_goOn 62 = .ok (.iload 4, 2) := by decide +kernel
theorem dX4_goOn_64 : decode cX4_goOn 64 = .ok (.ishl, 1) := by decide +kernel
theorem dX4_goOn_65 : decode cX4_goOn 65 = .ok (.ior, 1) := by decide +kernel
theorem dX4_goOn_66 : decode cX4_goOn 66 = .ok (.putfield 29, 3) := by decide +kernel
theorem dX4_goOn_69 : decode cX4_goOn 69 = .ok (.goto 9, 3) := by decide +kernel
theorem dX4_goOn_72 : decode cX4_goOn 72 = .ok (.aload_n 0, 1) := by decide +kernel
theorem dX4_goOn_73 : decode cX4_goOn 73 = .ok (.iload 4, 2) := by decide +kernel
theorem dX4_goOn_75 : decode cX4_goOn 75 = .ok (.putfield 22, 3) := by decide +kernel
theorem dX4_goOn_78 : decode cX4_goOn 78 = .ok (.iinc 3 1, 3) := by decide +kernel
theorem dX4_goOn_81 : decode cX4_goOn 81 = .ok (.goto (-69), 3) := by decide +kernel
theorem dX4_goOn_84 : decode cX4_goOn 84 = .ok (.return_, 1) := by decide +kernel
theorem dX4_restore_0 : decode cX4_restore 0 = .ok (.aload_n 0, 1) := by decide +kernel
theorem dX4_restore_1 : decode cX4_restore 1 = .ok (.iload_n 1, 1) := by decide +kernel
theorem dX4_restore_2 : decode cX4_restore 2 = .ok (.putfield 22, 3) := by decide +kernel
theorem dX4_restore_5 : decode cX4_restore 5 = .ok (.aload_n 0, 1) := by decide +kernel
theorem dX4_restore_6 : decode cX4_restore 6 = .ok (.iload_n 2, 1) := by decide +kernel
theorem dX4_restore_7 : decode cX4_restore 7 = .ok (.putfield 29, 3) := by decide +kernel
theorem dX4_restore_10 : decode cX4_restore 10 = .ok (.aload_n 0, 1) := by decide +kernel
theorem dX4_restore_11 : decode cX4_restore 11 = .ok (.iload_n 3, 1) := by decide +kernel
theorem dX4_restore_12 : decode cX4_restore 12 = .ok (.putfield 32, 3) := by decide +kernel
theorem dX4_restore_15 : decode cX4_restore 15 = .ok (.aload_n 0, 1) := by decide +kernel
theorem dX4_restore_16 : decode cX4_restore 16 = .ok (.getfield 22, 3) := by decide +kernel
theorem dX4_restore_19 : decode cX4_restore 19 = .ok (.invokestatic 39, 3) := by decide +kernel
theorem dX4_restore_22 : decode cX4_restore 22 = .ok (.ifCond .eq 16, 3) := by decide +kernel
theorem dX4_restore_25 : decode cX4_restore 25 = .ok (.aload_n 0, 1) := by decide +kernel
theorem dX4_restore_26 : decode cX4_restore 26 = .ok (.getfield 9, 3) := by decide +kernel
theorem dX4_restore_29 : decode cX4_restore 29 = .ok (.aload_n 0, 1) := by decide +kernel
theorem dX4_restore_30 : decode cX4_restore 30 = .ok (.getfield 22, 3) := by decide +kernel
theorem dX4_restore_33 : decode cX4_restore 33 = .ok (.dup2, 1) := by decide +kernel
theorem dX4_restore_34 : decode cX4_restore 34 = .ok (.iaload, 1) := by decide +kernel
theorem dX4_restore_35 : decode cX4_restore 35 = .ok (.iconst 1, 1) := by decide +kernel
theorem dX4_restore_36 : decode cX4_restore 36 = .ok (.isub, 1) := by decide +kernel
theorem dX4_restore_37 : decode cX4_restore 37 = .ok (.iastore, 1) := by decide +kernel
theorem dX4_restore_38 : decode cX4_restore 38 = .ok (.return_, 1) := by decide +kernel
theorem dX4_isStillIn_0 : decode cX4_isStillIn 0 = .ok (.aload_n 0, 1) := by decide +kernel
theorem dX4_isStillIn_1 : decode cX4_isStillIn 1 = .ok (.iload_n 1, 1) := by decide +kernel
theorem dX4_isStillIn_2 : decode cX4_isStillIn 2 = .ok (.invokevirtual 35, 3) := by decide +kernel
theorem dX4_isStillIn_5 : decode cX4_isStillIn 5 = .ok (.ifCond .eq 23, 3) := by decide +kernel
theorem dX4_isStillIn_8 : decode cX4_isStillIn 8 = .ok (.aload_n 0, 1) := by decide +kernel
theorem dX4_isStillIn_9 : decode cX4_isStillIn 9 = .ok (.iload_n 1, 1) := by decide +kernel
theorem dX4_isStillIn_10 : decode cX4_isStillIn 10 = .ok (.invokevirtual 52, 3) := by decide +kernel
theorem dX4_isStillIn_13 : decode cX4_isStillIn 13 = .ok (.ifCond .ne 15, 3) := by decide +kernel
theorem dX4_isStillIn_16 : decode cX4_isStillIn 16 = .ok (.aload_n 0, 1) := by decide +kernel
theorem dX4_isStillIn_17 : decode cX4_isStillIn 17 = .ok (.iload_n 1, 1) := by decide +kernel
theorem dX4_isStillIn_18 : decode cX4_isStillIn 18 = .ok (.invokevirtual 55, 3) := by decide +kernel
theorem dX4_isStillIn_21 : decode cX4_isStillIn 21 = .ok (.ifCond .ne 7, 3) := by decide +kernel
theorem dX4_isStillIn_24 : decode cX4_isStillIn 24 = .ok (.iconst 1, 1) := by decide +kernel
theorem dX4_isStillIn_25 : decode cX4_isStillIn 25 = .ok (.goto 4, 3) := by decide +kernel
theorem dX4_isStillIn_28 : decode cX4_isStillIn 28 = .ok (.iconst 0, 1) := by decide +kernel
theorem dX4_isStillIn_29 : decode cX4_isStillIn 29 = .ok (.ireturn, 1) := by decide +kernel
theorem dX4_isPlaced_0 : decode cX4_isPlaced 0 = .ok (.iconst 0, 1) := by decide +kernel
theorem dX4_isPlaced_1 : decode cX4_isPlaced 1 = .ok (.istore_n 2, 1) := by decide +kernel
theorem dX4_isPlaced_2 : decode cX4_isPlaced 2 = .ok (.iload_n 2, 1) := by decide +kernel
theorem dX4_isPlaced_3 : decode cX4_isPlaced 3 = .ok (.aload_n 0, 1) := by decide +kernel
theorem dX4_isPlaced_4 : decode cX4_isPlaced 4 = .ok (.getfield 32, 3) := by decide +kernel
theorem dX4_isPlaced_7 : decode cX4_isPlaced 7 = .ok (.if_icmp .ge 27, 3) := by decide +kernel
theorem dX4_isPlaced_10 : decode cX4_isPlaced 10 = .ok (.iload_n 2, 1) := by decide +kernel
theorem dX4_isPlaced_11 : decode cX4_isPlaced 11 = .ok (.bipush 6, 2) := by decide +kernel
theorem dX4_isPlaced_13 : decode cX4_isPlaced 13 = .ok (.if_icmp .ge 21, 3) := by decide +kernel
theorem dX4_isPlaced_16 : decode cX4_isPlaced 16 = .ok (.aload_n 0, 1) := by decide +kernel
theorem dX4_isPlaced_17 : decode cX4_isPlaced 17 = .ok (.getfield 15, 3) := by decide +kernel
theorem dX4_isPlaced_20 : decode cX4_isPlaced 20 = .ok (.iload_n 2, 1) := by decide +kernel
theorem dX4_isPlaced_21 : decode cX4_isPlaced 21 = .ok (.iaload, 1) := by decide +kernel
theorem dX4_isPlaced_22 : decode cX4_isPlaced 22 = .ok (.iload_n 1, 1) := by decide +kernel
theorem dX4_isPlaced_23 : decode cX4_isPlaced 23 = .ok (.if_icmp .ne 5, 3) := by decide +kernel
theorem dX4_isPlaced_26 : decode cX4_isPlaced 26 = .ok (.iconst 1, 1) := by decide +kernel
theorem dX4_isPlaced_27 : decode cX4_isPlaced 27 = .ok (.ireturn, 1) := by decide +kernel
theorem dX4_isPlaced_28 : decode cX4_isPlaced 28 = .ok (.iinc 2 1, 3) := by decide +kernel
theorem dX4_isPlaced_31 : decode cX4_isPlaced 31 = .ok (.goto (-29), 3) := by decide +kernel
theorem dX4_isPlaced_34 : decode cX4_isPlaced 34 = .ok (.iconst 0, 1) := by decide +kernel
theorem dX4_isPlaced_35 : decode cX4_isPlaced 35 = .ok (.ireturn, 1) := by decide +kernel
theorem dX4_fillsGoal_0 : decode cX4_fillsGoal 0 = .ok (.iload_n 1, 1) := by decide +kernel
theorem dX4_fillsGoal_1 : decode cX4_fillsGoal 1 = .ok (.invokestatic 58, 3) := by decide +kernel
theorem dX4_fillsGoal_4 : decode cX4_fillsGoal 4 = .ok (.istore_n 3, 1) := by decide +kernel
theorem dX4_fillsGoal_5 : decode cX4_fillsGoal 5 = .ok (.aload_n 0, 1) := by decide +kernel
theorem dX4_fillsGoal_6 : decode cX4_fillsGoal 6 = .ok (.getfield 18, 3) := by decide +kernel
theorem dX4_fillsGoal_9 : decode cX4_fillsGoal 9 = .ok (.iload_n 3, 1) := by decide +kernel
theorem dX4_fillsGoal_10 : decode cX4_fillsGoal 10 = .ok (.iconst (-1), 1) := by decide +kernel
theorem dX4_fillsGoal_11 : decode cX4_fillsGoal 11 = .ok (.invokevirtual 62, 3) := by decide +kernel
theorem dX4_fillsGoal_14 : decode cX4_fillsGoal 14 = .ok (.ifCond .ne 20, 3) := by decide +kernel
theorem dX4_fillsGoal_17 : decode cX4_fillsGoal 17 = .ok (.aload_n 0, 1) := by decide +kernel
theorem dX4_fillsGoal_18 : decode cX4_fillsGoal 18 = .ok (.getfield 18, 3) := by decide +kernel
theorem dX4_fillsGoal_21 : decode cX4_fillsGoal 21 = .ok (.iload_n 3, 1) := by decide +kernel
theorem dX4_fillsGoal_22 : decode cX4_fillsGoal 22 = .ok (.iload_n 1, 1) := by decide +kernel
theorem dX4_fillsGoal_23 : decode cX4_fillsGoal 23 = .ok (.invokevirtual 62, 3) := by decide +kernel
theorem dX4_fillsGoal_26 : decode cX4_fillsGoal 26 = .ok (.iload_n 2, 1) := by decide +kernel
theorem dX4_fillsGoal_27 : decode cX4_fillsGoal 27 = .ok (.if_icmp .lt 7, 3) := by decide +kernel
theorem dX4_fillsGoal_30 : decode cX4_fillsGoal 30 = .ok (.iconst 1, 1) := by decide +kernel
theorem dX4_fillsGoal_31 : decode cX4_fillsGoal 31 = .ok (.goto 4, 3) := by decide +kernel
theorem dX4_fillsGoal_34 : decode cX4_fillsGoal 34 = .ok (.iconst 0, 1) := by decide +kernel
theorem dX4_fillsGoal_35 : decode cX4_fillsGoal 35 = .ok (.ireturn, 1) := by decide +kernel
theorem dX4_isTooLate_0 : decode cX4_isTooLate 0 = .ok (.iload_n 2, 1) := by decide +kernel
theorem dX4_isTooLate_1 : decode cX4_isTooLate 1 = .ok (.ifCond .le 36, 3) := by decide +kernel
theorem dX4_isTooLate_4 : decode cX4_isTooLate 4 = .ok (.iload_n 1, 1) := by decide +kernel
theorem dX4_isTooLate_5 : decode cX4_isTooLate 5 = .ok (.invokestatic 39, 3) := by decide +kernel
theorem dX4_isTooLate_8 : decode cX4_isTooLate 8 = .ok (.ifCond .eq 29, 3) := by decide +kernel
theorem dX4_isTooLate_11 : decode cX4_isTooLate 11 = .ok (.aload_n 0, 1) := by decide +kernel
theorem dX4_isTooLate_12 : decode cX4_isTooLate 12 = .ok (.getfield 9, 3) := by decide +kernel
theorem dX4_isTooLate_15 : decode cX4_isTooLate 15 = .ok (.iload_n 1, 1) := by decide +kernel
theorem dX4_isTooLate_16 : decode cX4_isTooLate 16 = .ok (.iaload, 1) := by decide +kernel
theorem dX4_isTooLate_17 : decode cX4_isTooLate 17 = .ok (.iload_n 2, 1) := by decide +kernel
theorem dX4_isTooLate_18 : decode cX4_isTooLate 18 = .ok (.if_icmp .lt 19, 3) := by decide +kernel
theorem dX4_isTooLate_21 : decode cX4_isTooLate 21 = .ok (.aload_n 0, 1) := by decide +kernel
theorem dX4_isTooLate_22 : decode cX4_isTooLate 22 = .ok (.getfield 18, 3) := by decide +kernel
theorem dX4_isTooLate_25 : decode cX4_isTooLate 25 = .ok (.iload_n 1, 1) := by decide +kernel
theorem dX4_isTooLate_26 : decode cX4_isTooLate 26 = .ok (.iload_n 1, 1) := by decide +kernel
theorem dX4_isTooLate_27 : decode cX4_isTooLate 27 = .ok (.invokevirtual 62, 3) := by decide +kernel
theorem dX4_isTooLate_30 : decode cX4_isTooLate 30 = .ok (.ifCond .le 7, 3) := by decide +kernel
theorem dX4_isTooLate_33 : decode cX4_isTooLate 33 = .ok (.iconst 1, 1) := by decide +kernel
theorem dX4_isTooLate_34 : decode cX4_isTooLate 34 = .ok (.goto 4, 3) := by decide +kernel
theorem dX4_isTooLate_37 : decode cX4_isTooLate 37 = .ok (.iconst 0, 1) := by decide +kernel
theorem dX4_isTooLate_38 : decode cX4_isTooLate 38 = .ok (.ireturn, 1) := by decide +kernel
theorem dX5_init_0 : decode cX5_init 0 = .ok (.aload_n 0, 1) := by decide +kernel
theorem dX5_init_1 : decode cX5_init 1 = .ok (.invokespecial 3, 3) := by decide +kernel
theorem dX5_init_4 : decode cX5_init 4 = .ok (.aload_n 0, 1) := by decide +kernel
theorem dX5_init_5 : decode cX5_init 5 = .ok (.bipush 121, 2) := by decide +kernel
theorem dX5_init_7 : decode cX5_init 7 = .ok (.newarray .int, 2) := by decide +kernel
theorem dX5_init_9 : decode cX5_init 9 = .ok (.putfield 9, 3) := by decide +kernel
theorem dX5_init_12 : decode cX5_init 12 = .ok (.aload_n 0, 1) := by decide +kernel
theorem dX5_init_13 : decode cX5_init 13 = .ok (.bipush 121, 2) := by decide +kernel
theorem dX5_init_15 : decode cX5_init 15 = .ok (.newarray .int, 2) := by decide +kernel
theorem dX5_init_17 : decode cX5_init 17 = .ok (.putfield 15, 3) := by decide +kernel
theorem dX5_init_20 : decode cX5_init 20 = .ok (.aload_n 0, 1) := by decide +kernel
theorem dX5_init_21 : decode cX5_init 21 = .ok (.bipush 121, 2) := by decide +kernel
theorem dX5_init_23 : decode cX5_init 23 = .ok (.newarray .int, 2) := by decide +kernel
theorem dX5_init_25 : decode cX5_init 25 = .ok (.putfield 18, 3) := by decide +kernel
theorem dX5_init_28 : decode cX5_init 28 = .ok (.aload_n 0, 1) := by decide +kernel
theorem dX5_init_29 : decode cX5_init 29 = .ok (.sipush 726, 3) := by decide +kernel
theorem dX5_init_32 : decode cX5_init 32 = .ok (.newarray .int, 2) := by decide +kernel
theorem dX5_init_34 : decode cX5_init 34 = .ok (.putfield 21, 3) := by decide +kernel
theorem dX5_init_37 : decode cX5_init 37 = .ok (.iconst 0, 1) := by decide +kernel
theorem dX5_init_38 : decode cX5_init 38 = .ok (.istore_n 1, 1) := by decide +kernel
theorem dX5_init_39 : decode cX5_init 39 = .ok (.iload_n 1, 1) := by decide +kernel
theorem dX5_init_40 : decode cX5_init 40 = .ok (.bipush 17, 2) := by decide +kernel
theorem dX5_init_42 : decode cX5_init 42 = .ok (.if_icmp .ge 120, 3) := by decide +kernel
theorem dX5_init_45 : decode cX5_init 45 = .ok (.getstatic 24, 3) := by decide +kernel
theorem dX5_init_48 : decode cX5_init 48 = .ok (.iload_n 1, 1) := by decide +kernel
theorem dX5_init_49 : decode cX5_init 49 = .ok (.iaload, 1) := by decide +kernel
theorem dX5_init_50 : decode cX5_init 50 = .ok (.istore_n 2, 1) := by decide +kernel
theorem dX5_init_51 : decode cX5_init 51 = .ok (.iload_n 2, 1) := by decide +kernel
theorem dX5_init_52 : decode cX5_init 52 = .ok (.getstatic 24, 3) := by decide +kernel
theorem dX5_init_55 : decode cX5_init 55 = .ok (.iload_n 1, 1) := by decide +kernel
theorem dX5_init_56 : decode cX5_init 56 = .ok (.iconst 1, 1) := by decide +kernel
theorem dX5_init_57 : decode cX5_init 57 = .ok (.iadd, 1) := by decide +kernel
theorem dX5_init_58 : decode cX5_init 58 = .ok (.iaload, 1) := by decide +kernel
theorem dX5_init_59 : decode cX5_init 59 = .ok (.if_icmp .ge 97, 3) := by decide +kernel
theorem dX5_init_62 : decode cX5_init 62 = .ok (.getstatic 27, 3) := by decide +kernel
theorem dX5_init_65 : decode cX5_init 65 = .ok (.iload_n 1, 1) := by decide +kernel
theorem dX5_init_66 : decode cX5_init 66 = .ok (.iaload, 1) := by decide +kernel
theorem dX5_init_67 : decode cX5_init 67 = .ok (.iconst 2, 1) := by decide +kernel
theorem dX5_init_68 : decode cX5_init 68 = .ok (.iload_n 2, 1) := by decide +kernel
theorem dX5_init_69 : decode cX5_init 69 = .ok (.getstatic 24, 3) := by decide +kernel
theorem dX5_init_72 : decode cX5_init 72 = .ok (.iload_n 1, 1) := by decide +kernel
theorem dX5_init_73 : decode cX5_init 73 = .ok (.iaload, 1) := by decide +kernel
theorem dX5_init_74 : decode cX5_init 74 = .ok (.isub, 1) := by decide +kernel
theorem dX5_init_75 : decode cX5_init 75 = .ok (.imul, 1) := by decide +kernel
theorem dX5_init_76 : decode cX5_init 76 = .ok (.iadd, 1) := by decide +kernel
theorem dX5_init_77 : decode cX5_init 77 = .ok (.istore_n 3, 1) := by decide +kernel
theorem dX5_init_78 : decode cX5_init 78 = .ok (.aload_n 0, 1) := by decide +kernel
theorem dX5_init_79 : decode cX5_init 79 = .ok (.getfield 9, 3) := by decide +kernel
theorem dX5_init_82 : decode cX5_init 82 = .ok (.iload_n 2, 1) := by decide +kernel
theorem dX5_init_83 : decode cX5_init 83 = .ok (.iload_n 1, 1) := by decide +kernel
theorem dX5_init_84 : decode cX5_init 84 = .ok (.iastore, 1) := by decide +kernel
theorem dX5_init_85 : decode cX5_init 85 = .ok (.aload_n 0, 1) := by decide +kernel
theorem dX5_init_86 : decode cX5_init 86 = .ok (.getfield 15, 3) := by decide +kernel
theorem dX5_init_89 : decode cX5_init 89 = .ok (.iload_n 2, 1) := by decide +kernel
theorem dX5_init_90 : decode cX5_init 90 = .ok (.iload_n 3, 1) := by decide +kernel
theorem dX5_init_91 : decode cX5_init 91 = .ok (.iastore, 1) := by decide +kernel
theorem dX5_init_92 : decode cX5_init 92 = .ok (.aload_n 0, 1) := by decide +kernel
theorem dX5_init_93 : decode cX5_init 93 = .ok (.getfield 18, 3) := by decide +kernel
theorem dX5_init_96 : decode cX5_init 96 = .ok (.iload_n 2, 1) := by decide +kernel
theorem dX5_init_97 : decode cX5_init 97 = .ok (.iload_n 1, 1) := by decide +kernel
theorem dX5_init_98 : decode cX5_init 98 = .ok (.iload_n 3, 1) := by decide +kernel
theorem dX5_init_99 : decode cX5_init 99 = .ok (.invokestatic 30, 3) := by decide +kernel
theorem dX5_init_102 : decode cX5_init 102 = .ok (.iastore, 1) := by decide +kernel
theorem dX5_init_103 : decode cX5_init 103 = .ok (.iconst 0, 1) := by decide +kernel
theorem dX5_init_104 : decode cX5_init 104 = .ok (.istore 4, 2) := by decide +kernel
theorem dX5_init_106 : decode cX5_init 106 = .ok (.iload 4, 2) := by decide +kernel
theorem dX5_init_108 : decode cX5_init 108 = .ok (.bipush 6, 2) := by decide +kernel
theorem dX5_init_110 : decode cX5_init 110 = .ok (.if_icmp .ge 40, 3) := by decide +kernel
theorem dX5_init_113 : decode cX5_init 113 = .ok (.aload_n 0, 1) := by decide +kernel
theorem dX5_init_114 : decode cX5_init 114 = .ok (.getfield 21, 3) := by decide +kernel
theorem dX5_init_117 : decode cX5_init 117 = .ok (.iload_n 2, 1) := by decide +kernel
theorem dX5_init_118 : decode cX5_init 118 = .ok (.bipush 6, 2) := by decide +kernel
theorem dX5_init_120 : decode cX5_init 120 = .ok (.imul, 1) := by decide +kernel
theorem dX5_init_121 : decode cX5_init 121 = .ok (.iload 4, 2) := by decide +kernel
theorem dX5_init_123 : decode cX5_init 123 = .ok (.iadd, 1) := by decide +kernel
theorem dX5_init_124 : decode cX5_init 124 = .ok (.iload_n 1, 1) := by decide +kernel
theorem dX5_init_125 : decode cX5_init 125 = .ok (.getstatic 34, 3) := by decide +kernel
theorem dX5_init_128 : decode cX5_init 128 = .ok (.iload 4, 2) := by decide +kernel
theorem dX5_init_130 : decode cX5_init 130 = .ok (.iaload, 1) := by decide +kernel
theorem dX5_init_131 : decode cX5_init 131 = .ok (.iadd, 1) := by decide +kernel
theorem dX5_init_132 : decode cX5_init 132 = .ok (.iload_n 3, 1) := by decide +kernel
theorem dX5_init_133 : decode cX5_init 133 = .ok (.getstatic 37, 3) := by decide +kernel
theorem dX5_init_136 : decode cX5_init 136 = .ok (.iload 4, 2) := by decide +kernel
theorem dX5_init_138 : decode cX5_init 138 = .ok (.iaload, 1) := by decide +kernel
theorem dX5_init_139 : decode cX5_init 139 = .ok (.iadd, 1) := by decide +kernel
theorem dX5_init_140 : decode cX5_init 140 = .ok (.invokestatic 40, 3) := by decide +kernel
theorem dX5_init_143 : decode cX5_init 143 = .ok (.iastore, 1) := by decide +kernel
theorem dX5_init_144 : decode cX5_init 144 = .ok (.iinc 4 1, 3) := by decide +kernel
theorem dX5_init_147 : decode cX5_init 147 = .ok (.goto (-41), 3) := by decide +kernel
theorem dX5_init_150 : decode cX5_init 150 = .ok (.iinc 2 1, 3) := by decide +kernel
theorem dX5_init_153 : decode cX5_init 153 = .ok (.goto (-102), 3) := by decide +kernel
theorem dX5_init_156 : decode cX5_init 156 = .ok (.iinc 1 1, 3) := by decide +kernel
theorem dX5_init_159 : decode cX5_init 159 = .ok (.goto (-120), 3) := by decide +kernel
theorem dX5_init_162 : decode cX5_init 162 = .ok (.return_, 1) := by decide +kernel
theorem dX5_cellIn_0 : decode cX5_cellIn 0 = .ok (.iload_n 0, 1) := by decide +kernel
theorem dX5_cellIn_1 : decode cX5_cellIn 1 = .ok (.ifCond .lt 9, 3) := by decide +kernel
theorem dX5_cellIn_4 : decode cX5_cellIn 4 = .ok (.iload_n 0, 1) := by decide +kernel
theorem dX5_cellIn_5 : decode cX5_cellIn 5 = .ok (.bipush 17, 2) := by decide +kernel
theorem dX5_cellIn_7 : decode cX5_cellIn 7 = .ok (.if_icmp .lt 5, 3) := by decide +kernel
theorem dX5_cellIn_10 : decode cX5_cellIn 10 = .ok (.iconst (-1), 1) := by decide +kernel
theorem dX5_cellIn_11 : decode cX5_cellIn 11 = .ok (.ireturn, 1) := by decide +kernel
theorem dX5_cellIn_12 : decode cX5_cellIn 12 = .ok (.getstatic 27, 3) := by decide +kernel
theorem dX5_cellIn_15 : decode cX5_cellIn 15 = .ok (.iload_n 0, 1) := by decide +kernel
theorem dX5_cellIn_16 : decode cX5_cellIn 16 = .ok (.iaload, 1) := by decide +kernel
theorem dX5_cellIn_17 : decode cX5_cellIn 17 = .ok (.istore_n 2, 1) := by decide +kernel
theorem dX5_cellIn_18 : decode cX5_cellIn 18 = .ok (.getstatic 24, 3) := by decide +kernel
theorem dX5_cellIn_21 : decode cX5_cellIn 21 = .ok (.iload_n 0, 1) := by decide +kernel
theorem dX5_cellIn_22 : decode cX5_cellIn 22 = .ok (.iconst 1, 1) := by decide +kernel
theorem dX5_cellIn_23 : decode cX5_cellIn 23 = .ok (.iadd, 1) := by decide +kernel
theorem dX5_cellIn_24 : decode cX5_cellIn 24 = .ok (.iaload, 1) := by decide +kernel
theorem dX5_cellIn_25 : decode cX5_cellIn 25 = .ok (.getstatic 24, 3) := by decide +kernel
theorem dX5_cellIn_28 : decode cX5_cellIn 28 = .ok (.iload_n 0, 1) := by decide +kernel
theorem dX5_cellIn_29 : decode cX5_cellIn 29 = .ok (.iaload, 1) := by decide +kernel
theorem dX5_cellIn_30 : decode cX5_cellIn 30 = .ok (.isub, 1) := by decide +kernel
theorem dX5_cellIn_31 : decode cX5_cellIn 31 = .ok (.istore_n 3, 1) := by decide +kernel
theorem dX5_cellIn_32 : decode cX5_cellIn 32 = .ok (.iload_n 1, 1) := by decide +kernel
theorem dX5_cellIn_33 : decode cX5_cellIn 33 = .ok (.iload_n 2, 1) := by decide +kernel
theorem dX5_cellIn_34 : decode cX5_cellIn 34 = .ok (.if_icmp .lt 20, 3) := by decide +kernel
theorem dX5_cellIn_37 : decode cX5_cellIn 37 = .ok (.iload_n 1, 1) := by decide +kernel
theorem dX5_cellIn_38 : decode cX5_cellIn 38 = .ok (.iload_n 2, 1) := by decide +kernel
theorem dX5_cellIn_39 : decode cX5_cellIn 39 = .ok (.iconst 2, 1) := by decide +kernel
theorem dX5_cellIn_40 : decode cX5_cellIn 40 = .ok (.iload_n 3, 1) := by decide +kernel
theorem dX5_cellIn_41 : decode cX5_cellIn 41 = .ok (.imul, 1) := by decide +kernel
theorem dX5_cellIn_42 : decode cX5_cellIn 42 = .ok (.iadd, 1) := by decide +kernel
theorem dX5_cellIn_43 : decode cX5_cellIn 43 = .ok (.if_icmp .ge 11, 3) := by decide +kernel
theorem dX5_cellIn_46 : decode cX5_cellIn 46 = .ok (.iload_n 1, 1) := by decide +kernel
theorem dX5_cellIn_47 : decode cX5_cellIn 47 = .ok (.iload_n 2, 1) := by decide +kernel
theorem dX5_cellIn_48 : decode cX5_cellIn 48 = .ok (.isub, 1) := by decide +kernel
theorem dX5_cellIn_49 : decode cX5_cellIn 49 = .ok (.iconst 2, 1) := by decide +kernel
theorem dX5_cellIn_50 : decode cX5_cellIn 50 = .ok (.irem, 1) := by decide +kernel
theorem dX5_cellIn_51 : decode cX5_cellIn 51 = .ok (.ifCond .eq 5, 3) := by decide +kernel
theorem dX5_cellIn_54 : decode cX5_cellIn 54 = .ok (.iconst (-1), 1) := by decide +kernel
theorem dX5_cellIn_55 : decode cX5_cellIn 55 = .ok (.ireturn, 1) := by decide +kernel
theorem dX5_cellIn_56 : decode cX5_cellIn 56 = .ok (.getstatic 24, 3) := by decide +kernel
theorem dX5_cellIn_59 : decode cX5_cellIn 59 = .ok (.iload_n 0, 1) := by decide +kernel
theorem dX5_cellIn_60 : decode cX5_cellIn 60 = .ok (.iaload, 1) := by decide +kernel
theorem dX5_cellIn_61 : decode cX5_cellIn 61 = .ok (.iload_n 1, 1) := by decide +kernel
theorem dX5_cellIn_62 : decode cX5_cellIn 62 = .ok (.iload_n 2, 1) := by decide +kernel
theorem dX5_cellIn_63 : decode cX5_cellIn 63 = .ok (.isub, 1) := by decide +kernel
theorem dX5_cellIn_64 : decode cX5_cellIn 64 = .ok (.iconst 2, 1) := by decide +kernel
theorem dX5_cellIn_65 : decode cX5_cellIn 65 = .ok (.idiv, 1) := by decide +kernel
theorem dX5_cellIn_66 : decode cX5_cellIn 66 = .ok (.iadd, 1) := by decide +kernel
theorem dX5_cellIn_67 : decode cX5_cellIn 67 = .ok (.ireturn, 1) := by decide +kernel
theorem dX5_campAmong_0 : decode cX5_campAmong 0 = .ok (.iload_n 0, 1) := by decide +kernel
theorem dX5_campAmong_1 : decode cX5_campAmong 1 = .ok (.iconst 3, 1) := by decide +kernel
theorem dX5_campAmong_2 : decode cX5_campAmong 2 = .ok (.if_icmp .gt 5, 3) := by decide +kernel
theorem dX5_campAmong_5 : decode cX5_campAmong 5 = .ok (.iconst 0, 1) := by decide +kernel
theorem dX5_campAmong_6 : decode cX5_campAmong 6 = .ok (.ireturn, 1) := by decide +kernel
theorem dX5_campAmong_7 : decode cX5_campAmong 7 = .ok (.iload_n 0, 1) := by decide +kernel
theorem dX5_campAmong_8 : decode cX5_campAmong 8 = .ok (.bipush 13, 2) := by decide +kernel
theorem dX5_campAmong_10 : decode cX5_campAmong 10 = .ok (.if_icmp .lt 5, 3) := by decide +kernel
theorem dX5_campAmong_13 : decode cX5_campAmong 13 = .ok (.iconst 3, 1) := by decide +kernel
theorem dX5_campAmong_14 : decode cX5_campAmong 14 = .ok (.ireturn, 1) := by decide +kernel
theorem dX5_campAmong_15 : decode cX5_campAmong 15 = .ok (.iload_n 0, 1) := by decide +kernel
theorem dX5_campAmong_16 : decode cX5_campAmong 16 = .ok (.bipush 7, 2) := by decide +kernel
theorem dX5_campAmong_18 : decode cX5_campAmong 18 = .ok (.if_icmp .gt 29, 3) := by decide +kernel
theorem dX5_campAmong_21 : decode cX5_campAmong 21 = .ok (.iload_n 1, 1) := by decide +kernel
theorem dX5_campAmong_22 : decode cX5_campAmong 22 = .ok (.bipush 14, 2) := by decide +kernel
theorem dX5_campAmong_24 : decode cX5_campAmong 24 = .ok (.iload_n 0, 1) := by decide +kernel
theorem dX5_campAmong_25 : decode cX5_campAmong 25 = .ok (.iadd, 1) := by decide +kernel
theorem dX5_campAmong_26 : decode cX5_campAmong 26 = .ok (.if_icmp .lt 7, 3) := by decide +kernel
theorem dX5_campAmong_29 : decode cX5_campAmong 29 = .ok (.iconst 1, 1) := by decide +kernel
theorem dX5_campAmong_30 : decode cX5_campAmong 30 = .ok (.goto 16, 3) := by decide +kernel
theorem dX5_campAmong_33 : decode cX5_campAmong 33 = .ok (.iload_n 1, 1) := by decide +kernel
theorem dX5_campAmong_34 : decode cX5_campAmong 34 = .ok (.bipush 10, 2) := by decide +kernel
theorem dX5_campAmong_36 : decode cX5_campAmong 36 = .ok (.iload_n 0, 1) := by decide +kernel
theorem dX5_campAmong_37 : decode cX5_campAmong 37 = .ok (.isub, 1) := by decide +kernel
theorem dX5_campAmong_38 : decode cX5_campAmong 38 = .ok (.if_icmp .gt 7, 3) := by decide +kernel
theorem dX5_campAmong_41 : decode cX5_campAmong 41 = .ok (.iconst 5, 1) := by decide +kernel
theorem dX5_campAmong_42 : decode cX5_campAmong 42 = .ok (.goto 4, 3) := by decide +kernel
theorem dX5_campAmong_45 : decode cX5_campAmong 45 = .ok (.iconst (-1), 1) := by decide +kernel
theorem dX5_campAmong_46 : decode cX5_campAmong 46 = .ok (.ireturn, 1) := by decide +kernel
theorem dX5_campAmong_47 : decode cX5_campAmong 47 = .ok (.iload_n 0, 1) := by decide +kernel
theorem dX5_campAmong_48 : decode cX5_campAmong 48 = .ok (.bipush 9, 2) := by decide +kernel
theorem dX5_campAmong_50 : decode cX5_campAmong 50 = .ok (.if_icmp .lt 29, 3) := by decide +kernel
theorem dX5_campAmong_53 : decode cX5_campAmong 53 = .ok (.iload_n 1, 1) := by decide +kernel
theorem dX5_campAmong_54 : decode cX5_campAmong 54 = .ok (.bipush 30, 2) := by decide +kernel
theorem dX5_campAmong_56 : decode cX5_campAmong 56 = .ok (.iload_n 0, 1) := by decide +kernel
theorem dX5_campAmong_57 : decode cX5_campAmong 57 = .ok (.isub, 1) := by decide +kernel
theorem dX5_campAmong_58 : decode cX5_campAmong 58 = .ok (.if_icmp .lt 7, 3) := by decide +kernel
theorem dX5_campAmong_61 : decode cX5_campAmong 61 = .ok (.iconst 2, 1) := by decide +kernel
theorem dX5_campAmong_62 : decode cX5_campAmong 62 = .ok (.goto 16, 3) := by decide +kernel
theorem dX5_campAmong_65 : decode cX5_campAmong 65 = .ok (.iload_n 1, 1) := by decide +kernel
theorem dX5_campAmong_66 : decode cX5_campAmong 66 = .ok (.iload_n 0, 1) := by decide +kernel
theorem dX5_campAmong_67 : decode cX5_campAmong 67 = .ok (.bipush 6, 2) := by decide +kernel
theorem dX5_campAmong_69 : decode cX5_campAmong 69 = .ok (.isub, 1) := by decide +kernel
theorem dX5_campAmong_70 : decode cX5_campAmong 70 = .ok (.if_icmp .gt 7, 3) := by decide +kernel
theorem dX5_campAmong_73 : decode cX5_campAmong 73 = .ok (.iconst 4, 1) := by decide +kernel
theorem dX5_campAmong_74 : decode cX5_campAmong 74 = .ok (.goto 4, 3) := by decide +kernel
theorem dX5_campAmong_77 : decode cX5_campAmong 77 = .ok (.iconst (-1), 1) := by decide +kernel
theorem dX5_campAmong_78 : decode cX5_campAmong 78 = .ok (.ireturn, 1) := by decide +kernel
theorem dX5_campAmong_79 : decode cX5_campAmong 79 = .ok (.iconst (-1), 1) := by decide +kernel
theorem dX5_campAmong_80 : decode cX5_campAmong 80 = .ok (.ireturn, 1) := by decide +kernel
theorem dX5_camp_0 : decode cX5_camp 0 = .ok (.iload_n 1, 1) := by decide +kernel
theorem dX5_camp_1 : decode cX5_camp 1 = .ok (.invokestatic 43, 3) := by decide +kernel
theorem dX5_camp_4 : decode cX5_camp 4 = .ok (.ifCond .eq 12, 3) := by decide +kernel
theorem dX5_camp_7 : decode cX5_camp 7 = .ok (.aload_n 0, 1) := by decide +kernel
theorem dX5_camp_8 : decode cX5_camp 8 = .ok (.getfield 18, 3) := by decide +kernel
theorem dX5_camp_11 : decode cX5_camp 11 = .ok (.iload_n 1, 1) := by decide +kernel
theorem dX5_camp_12 : decode cX5_camp 12 = .ok (.iaload, 1) := by decide +kernel
theorem dX5_camp_13 : decode cX5_camp 13 = .ok (.goto 4, 3) := by decide +kernel
theorem dX5_camp_16 : decode cX5_camp 16 = .ok (.iconst (-1), 1) := by decide +kernel
theorem dX5_camp_17 : decode cX5_camp 17 = .ok (.ireturn, 1) := by decide +kernel
theorem dX5_next_0 : decode cX5_next 0 = .ok (.iload_n 1, 1) := by decide +kernel
theorem dX5_next_1 : decode cX5_next 1 = .ok (.invokestatic 43, 3) := by decide +kernel
theorem dX5_next_4 : decode cX5_next 4 = .ok (.ifCond .eq 13, 3) := by decide +kernel
theorem dX5_next_7 : decode cX5_next 7 = .ok (.iload_n 2, 1) := by decide +kernel
theorem dX5_next_8 : decode cX5_next 8 = .ok (.ifCond .lt 9, 3) := by decide +kernel
theorem dX5_next_11 : decode cX5_next 11 = .ok (.iload_n 2, 1) := by decide +kernel
theorem dX5_next_12 : decode cX5_next 12 = .ok (.bipush 6, 2) := by decide +kernel
theorem dX5_next_14 : decode cX5_next 14 = .ok (.if_icmp .lt 5, 3) := by decide +kernel
theorem dX5_next_17 : decode cX5_next 17 = .ok (.iconst (-1), 1) := by decide +kernel
theorem dX5_next_18 : decode cX5_next 18 = .ok (.ireturn, 1) := by decide +kernel
theorem dX5_next_19 : decode cX5_next 19 = .ok (.aload_n 0, 1) := by decide +kernel
theorem dX5_next_20 : decode cX5_next 20 = .ok (.getfield 21, 3) := by decide +kernel
theorem dX5_next_23 : decode cX5_next 23 = .ok (.iload_n 1, 1) := by decide +kernel
theorem dX5_next_24 : decode cX5_next 24 = .ok (.bipush 6, 2) := by decide +kernel
theorem dX5_next_26 : decode cX5_next 26 = .ok (.imul, 1) := by decide +kernel
theorem dX5_next_27 : decode cX5_next 27 = .ok (.iload_n 2, 1) := by decide +kernel
theorem dX5_next_28 : decode cX5_next 28 = .ok (.iadd, 1) := by decide +kernel
theorem dX5_next_29 : decode cX5_next 29 = .ok (.iaload, 1) := by decide +kernel
theorem dX5_next_30 : decode cX5_next 30 = .ok (.ireturn, 1) := by decide +kernel
theorem dX5_steps_0 : decode cX5_steps 0 = .ok (.iload_n 1, 1) := by decide +kernel
theorem dX5_steps_1 : decode cX5_steps 1 = .ok (.invokestatic 43, 3) := by decide +kernel
theorem dX5_steps_4 : decode cX5_steps 4 = .ok (.ifCond .eq 10, 3) := by decide +kernel
theorem dX5_steps_7 : decode cX5_steps 7 = .ok (.iload_n 2, 1) := by decide +kernel
theorem dX5_steps_8 : decode cX5_steps 8 = .ok (.invokestatic 43, 3) := by decide +kernel
theorem dX5_steps_11 : decode cX5_steps 11 = .ok (.ifCond .ne 5, 3) := by decide +kernel
theorem dX5_steps_14 : decode cX5_steps 14 = .ok (.iconst (-1), 1) := by decide +kernel
theorem dX5_steps_15 : decode cX5_steps 15 = .ok (.ireturn, 1) := by decide +kernel
theorem dX5_steps_16 : decode cX5_steps 16 = .ok (.aload_n 0, 1) := by decide +kernel
theorem dX5_steps_17 : decode cX5_steps 17 = .ok (.getfield 9, 3) := by decide +kernel
theorem dX5_steps_20 : decode cX5_steps 20 = .ok (.iload_n 1, 1) := by decide +kernel
theorem dX5_steps_21 : decode cX5_steps 21 = .ok (.iaload, 1) := by decide +kernel
theorem dX5_steps_22 : decode cX5_steps 22 = .ok (.aload_n 0, 1) := by decide +kernel
theorem dX5_steps_23 : decode cX5_steps 23 = .ok (.getfield 9, 3) := by decide +kernel
theorem dX5_steps_26 : decode cX5_steps 26 = .ok (.iload_n 2, 1) := by decide +kernel
theorem dX5_steps_27 : decode cX5_steps 27 = .ok (.iaload, 1) := by decide +kernel
theorem dX5_steps_28 : decode cX5_steps 28 = .ok (.isub, 1) := by decide +kernel
theorem dX5_steps_29 : decode cX5_steps 29 = .ok (.invokestatic 47, 3) := by decide +kernel
theorem dX5_steps_32 : decode cX5_steps 32 = .ok (.istore_n 3, 1) := by decide +kernel
theorem dX5_steps_33 : decode cX5_steps 33 = .ok (.aload_n 0, 1) := by decide +kernel
theorem dX5_steps_34 : decode cX5_steps 34 = .ok (.getfield 15, 3) := by decide +kernel
theorem dX5_steps_37 : decode cX5_steps 37 = .ok (.iload_n 1, 1) := by decide +kernel
theorem dX5_steps_38 : decode cX5_steps 38 = .ok (.iaload, 1) := by decide +kernel
theorem dX5_steps_39 : decode cX5_steps 39 = .ok (.aload_n 0, 1) := by decide +kernel
theorem dX5_steps_40 : decode cX5_steps 40 = .ok (.getfield 15, 3) := by decide +kernel
theorem dX5_steps_43 : decode cX5_steps 43 = .ok (.iload_n 2, 1) := by decide +kernel
theorem dX5_steps_44 : decode cX5_steps 44 = .ok (.iaload, 1) := by decide +kernel
theorem dX5_steps_45 : decode cX5_steps 45 = .ok (.isub, 1) := by decide +kernel
theorem dX5_steps_46 : decode cX5_steps 46 = .ok (.invokestatic 47, 3) := by decide +kernel
theorem dX5_steps_49 : decode cX5_steps 49 = .ok (.istore 4, 2) := by decide +kernel
theorem dX5_steps_51 : decode cX5_steps 51 = .ok (.iload_n 3, 1) := by decide +kernel
theorem dX5_steps_52 : decode cX5_steps 52 = .ok (.iload_n 3, 1) := by decide +kernel
theorem dX5_steps_53 : decode cX5_steps 53 = .ok (.iload 4, 2) := by decide +kernel
theorem dX5_steps_55 : decode cX5_steps 55 = .ok (.iadd, 1) := by decide +kernel
theorem dX5_steps_56 : decode cX5_steps 56 = .ok (.iconst 2, 1) := by decide +kernel
theorem dX5_steps_57 : decode cX5_steps 57 = .ok (.idiv, 1) := by decide +kernel
theorem dX5_steps_58 : decode cX5_steps 58 = .ok (.invokestatic 53, 3) := by decide +kernel
theorem dX5_steps_61 : decode cX5_steps 61 = .ok (.ireturn, 1) := by decide +kernel
theorem dJ6_bitCount_0f7a4_0 : decode cJ6_bitCount_0f7a4 0 = .ok (.iload_n 0, 1) := by decide +kernel
theorem dJ6_bitCount_0f7a4_1 : decode cJ6_bitCount_0f7a4 1 = .ok (.iload_n 0, 1) := by decide +kernel
theorem dJ6_bitCount_0f7a4_2 : decode cJ6_bitCount_0f7a4 2 = .ok (.iconst 1, 1) := by decide +kernel
theorem dJ6_bitCount_0f7a4_3 : decode cJ6_bitCount_0f7a4 3 = .ok (.iushr, 1) := by decide +kernel
theorem dJ6_bitCount_0f7a4_4 : decode cJ6_bitCount_0f7a4 4 = .ok (.ldc_w 265, 3) := by decide +kernel
theorem dJ6_bitCount_0f7a4_7 : decode cJ6_bitCount_0f7a4 7 = .ok (.iand, 1) := by decide +kernel
theorem dJ6_bitCount_0f7a4_8 : decode cJ6_bitCount_0f7a4 8 = .ok (.isub, 1) := by decide +kernel
theorem dJ6_bitCount_0f7a4_9 : decode cJ6_bitCount_0f7a4 9 = .ok (.istore_n 0, 1) := by decide +kernel
theorem dJ6_bitCount_0f7a4_10 : decode cJ6_bitCount_0f7a4 10 = .ok (.iload_n 0, 1) := by decide +kernel
theorem dJ6_bitCount_0f7a4_11 : decode cJ6_bitCount_0f7a4 11 = .ok (.ldc_w 266, 3) := by decide +kernel
theorem dJ6_bitCount_0f7a4_14 : decode cJ6_bitCount_0f7a4 14 = .ok (.iand, 1) := by decide +kernel
theorem dJ6_bitCount_0f7a4_15 : decode cJ6_bitCount_0f7a4 15 = .ok (.iload_n 0, 1) := by decide +kernel
theorem dJ6_bitCount_0f7a4_16 : decode cJ6_bitCount_0f7a4 16 = .ok (.iconst 2, 1) := by decide +kernel
theorem dJ6_bitCount_0f7a4_17 : decode cJ6_bitCount_0f7a4 17 = .ok (.iushr, 1) := by decide +kernel
theorem dJ6_bitCount_0f7a4_18 : decode cJ6_bitCount_0f7a4 18 = .ok (.ldc_w 266, 3) := by decide +kernel
theorem dJ6_bitCount_0f7a4_21 : decode cJ6_bitCount_0f7a4 21 = .ok (.iand, 1) := by decide +kernel
theorem dJ6_bitCount_0f7a4_22 : decode cJ6_bitCount_0f7a4 22 = .ok (.iadd, 1) := by decide +kernel
theorem dJ6_bitCount_0f7a4_23 : decode cJ6_bitCount_0f7a4 23 = .ok (.istore_n 0, 1) := by decide +kernel
theorem dJ6_bitCount_0f7a4_24 : decode cJ6_bitCount_0f7a4 24 = .ok (.iload_n 0, 1) := by decide +kernel
theorem dJ6_bitCount_0f7a4_25 : decode cJ6_bitCount_0f7a4 25 = .ok (.iload_n 0, 1) := by decide +kernel
theorem dJ6_bitCount_0f7a4_26 : decode cJ6_bitCount_0f7a4 26 = .ok (.iconst 4, 1) := by decide +kernel
theorem dJ6_bitCount_0f7a4_27 : decode cJ6_bitCount_0f7a4 27 = .ok (.iushr, 1) := by decide +kernel
theorem dJ6_bitCount_0f7a4_28 : decode cJ6_bitCount_0f7a4 28 = .ok (.iadd, 1) := by decide +kernel
theorem dJ6_bitCount_0f7a4_29 : decode cJ6_bitCount_0f7a4 29 = .ok (.ldc_w 267, 3) := by decide +kernel
theorem dJ6_bitCount_0f7a4_32 : decode cJ6_bitCount_0f7a4 32 = .ok (.iand, 1) := by decide +kernel
theorem dJ6_bitCount_0f7a4_33 : decode cJ6_bitCount_0f7a4 33 = .ok (.istore_n 0, 1) := by decide +kernel
theorem dJ6_bitCount_0f7a4_34 : decode cJ6_bitCount_0f7a4 34 = .ok (.iload_n 0, 1) := by decide +kernel
theorem dJ6_bitCount_0f7a4_35 : decode cJ6_bitCount_0f7a4 35 = .ok (.iload_n 0, 1) := by decide +kernel
theorem dJ6_bitCount_0f7a4_36 : decode cJ6_bitCount_0f7a4 36 = .ok (.bipush 8, 2) := by decide +kernel
theorem dJ6_bitCount_0f7a4_38 : decode cJ6_bitCount_0f7a4 38 = .ok (.iushr, 1) := by decide +kernel
theorem dJ6_bitCount_0f7a4_39 : decode cJ6_bitCount_0f7a4 39 = .ok (.iadd, 1) := by decide +kernel
theorem dJ6_bitCount_0f7a4_40 : decode cJ6_bitCount_0f7a4 40 = .ok (.istore_n 0, 1) := by decide +kernel
theorem dJ6_bitCount_0f7a4_41 : decode cJ6_bitCount_0f7a4 41 = .ok (.iload_n 0, 1) := by decide +kernel
theorem dJ6_bitCount_0f7a4_42 : decode cJ6_bitCount_0f7a4 42 = .ok (.iload_n 0, 1) := by decide +kernel
theorem dJ6_bitCount_0f7a4_43 : decode cJ6_bitCount_0f7a4 43 = .ok (.bipush 16, 2) := by decide +kernel
theorem dJ6_bitCount_0f7a4_45 : decode cJ6_bitCount_0f7a4 45 = .ok (.iushr, 1) := by decide +kernel
theorem dJ6_bitCount_0f7a4_46 : decode cJ6_bitCount_0f7a4 46 = .ok (.iadd, 1) := by decide +kernel
theorem dJ6_bitCount_0f7a4_47 : decode cJ6_bitCount_0f7a4 47 = .ok (.istore_n 0, 1) := by decide +kernel
theorem dJ6_bitCount_0f7a4_48 : decode cJ6_bitCount_0f7a4 48 = .ok (.iload_n 0, 1) := by decide +kernel
theorem dJ6_bitCount_0f7a4_49 : decode cJ6_bitCount_0f7a4 49 = .ok (.bipush 63, 2) := by decide +kernel
theorem dJ6_bitCount_0f7a4_51 : decode cJ6_bitCount_0f7a4 51 = .ok (.iand, 1) := by decide +kernel
theorem dJ6_bitCount_0f7a4_52 : decode cJ6_bitCount_0f7a4 52 = .ok (.ireturn, 1) := by decide +kernel
theorem dJ9_abs_0f7a4_0 : decode cJ9_abs_0f7a4 0 = .ok (.iload_n 0, 1) := by decide +kernel
theorem dJ9_abs_0f7a4_1 : decode cJ9_abs_0f7a4 1 = .ok (.ifCond .ge 8, 3) := by decide +kernel
theorem dJ9_abs_0f7a4_4 : decode cJ9_abs_0f7a4 4 = .ok (.iload_n 0, 1) := by decide +kernel
theorem dJ9_abs_0f7a4_5 : decode cJ9_abs_0f7a4 5 = .ok (.ineg, 1) := by decide +kernel
theorem dJ9_abs_0f7a4_6 : decode cJ9_abs_0f7a4 6 = .ok (.goto 4, 3) := by decide +kernel
theorem dJ9_abs_0f7a4_9 : decode cJ9_abs_0f7a4 9 = .ok (.iload_n 0, 1) := by decide +kernel
theorem dJ9_abs_0f7a4_10 : decode cJ9_abs_0f7a4 10 = .ok (.ireturn, 1) := by decide +kernel
theorem dJ9_max_7cf53_0 : decode cJ9_max_7cf53 0 = .ok (.iload_n 0, 1) := by decide +kernel
theorem dJ9_max_7cf53_1 : decode cJ9_max_7cf53 1 = .ok (.iload_n 1, 1) := by decide +kernel
theorem dJ9_max_7cf53_2 : decode cJ9_max_7cf53 2 = .ok (.if_icmp .lt 7, 3) := by decide +kernel
theorem dJ9_max_7cf53_5 : decode cJ9_max_7cf53 5 = .ok (.iload_n 0, 1) := by decide +kernel
theorem dJ9_max_7cf53_6 : decode cJ9_max_7cf53 6 = .ok (.goto 4, 3) := by decide +kernel
theorem dJ9_max_7cf53_9 : decode cJ9_max_7cf53 9 = .ok (.iload_n 1, 1) := by decide +kernel
theorem dJ9_max_7cf53_10 : decode cJ9_max_7cf53 10 = .ok (.ireturn, 1) := by decide +kernel
theorem dJ9_min_7cf53_0 : decode cJ9_min_7cf53 0 = .ok (.iload_n 0, 1) := by decide +kernel
theorem dJ9_min_7cf53_1 : decode cJ9_min_7cf53 1 = .ok (.iload_n 1, 1) := by decide +kernel
theorem dJ9_min_7cf53_2 : decode cJ9_min_7cf53 2 = .ok (.if_icmp .gt 7, 3) := by decide +kernel
theorem dJ9_min_7cf53_5 : decode cJ9_min_7cf53 5 = .ok (.iload_n 0, 1) := by decide +kernel
theorem dJ9_min_7cf53_6 : decode cJ9_min_7cf53 6 = .ok (.goto 4, 3) := by decide +kernel
theorem dJ9_min_7cf53_9 : decode cJ9_min_7cf53 9 = .ok (.iload_n 1, 1) := by decide +kernel
theorem dJ9_min_7cf53_10 : decode cJ9_min_7cf53 10 = .ok (.ireturn, 1) := by decide +kernel
