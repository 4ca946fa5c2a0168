-- decode rows, printed (claim/NAMES.whole)
theorem dX9_init_0 : decode cX9_init 0 = .ok (.aload_n 0, 1) := by decide +kernel
theorem dX9_init_1 : decode cX9_init 1 = .ok (.invokespecial 3, 3) := by decide +kernel
theorem dX9_init_4 : decode cX9_init 4 = .ok (.aload_n 0, 1) := by decide +kernel
theorem dX9_init_5 : decode cX9_init 5 = .ok (.bipush 7, 2) := by decide +kernel
theorem dX9_init_7 : decode cX9_init 7 = .ok (.newarray .int, 2) := by decide +kernel
theorem dX9_init_9 : decode cX9_init 9 = .ok (.putfield 9, 3) := by decide +kernel
theorem dX9_init_12 : decode cX9_init 12 = .ok (.aload_n 0, 1) := by decide +kernel
theorem dX9_init_13 : decode cX9_init 13 = .ok (.new 13, 3) := by decide +kernel
theorem dX9_init_16 : decode cX9_init 16 = .ok (.dup, 1) := by decide +kernel
theorem dX9_init_17 : decode cX9_init 17 = .ok (.invokespecial 15, 3) := by decide +kernel
theorem dX9_init_20 : decode cX9_init 20 = .ok (.putfield 16, 3) := by decide +kernel
theorem dX9_init_23 : decode cX9_init 23 = .ok (.aload_n 0, 1) := by decide +kernel
theorem dX9_init_24 : decode cX9_init 24 = .ok (.new 13, 3) := by decide +kernel
theorem dX9_init_27 : decode cX9_init 27 = .ok (.dup, 1) := by decide +kernel
theorem dX9_init_28 : decode cX9_init 28 = .ok (.invokespecial 15, 3) := by decide +kernel
theorem dX9_init_31 : decode cX9_init 31 = .ok (.putfield 20, 3) := by decide +kernel
theorem dX9_init_34 : decode cX9_init 34 = .ok (.aload_n 0, 1) := by decide +kernel
theorem dX9_init_35 : decode cX9_init 35 = .ok (.iconst 0, 1) := by decide +kernel
theorem dX9_init_36 : decode cX9_init 36 = .ok (.putfield 23, 3) := by decide +kernel
theorem dX9_init_39 : decode cX9_init 39 = .ok (.aload_n 0, 1) := by decide +kernel
theorem dX9_init_40 : decode cX9_init 40 = .ok (.new 27, 3) := by decide +kernel
theorem dX9_init_43 : decode cX9_init 43 = .ok (.dup, 1) := by decide +kernel
theorem dX9_init_44 : decode cX9_init 44 = .ok (.invokespecial 29, 3) := by decide +kernel
theorem dX9_init_47 : decode cX9_init 47 = .ok (.putfield 30, 3) := by decide +kernel
theorem dX9_init_50 : decode cX9_init 50 = .ok (.aload_n 0, 1) := by decide +kernel
theorem dX9_init_51 : decode cX9_init 51 = .ok (.new 34, 3) := by decide +kernel
theorem dX9_init_54 : decode cX9_init 54 = .ok (.dup, 1) := by decide +kernel
theorem dX9_init_55 : decode cX9_init 55 = .ok (.invokespecial 36, 3) := by decide +kernel
theorem dX9_init_58 : decode cX9_init 58 = .ok (.putfield 37, 3) := by decide +kernel
theorem dX9_init_61 : decode cX9_init 61 = .ok (.aload_n 0, 1) := by decide +kernel
theorem dX9_init_62 : decode cX9_init 62 = .ok (.new 41, 3) := by decide +kernel
theorem dX9_init_65 : decode cX9_init 65 = .ok (.dup, 1) := by decide +kernel
theorem dX9_init_66 : decode cX9_init 66 = .ok (.invokespecial 43, 3) := by decide +kernel
theorem dX9_init_69 : decode cX9_init 69 = .ok (.putfield 44, 3) := by decide +kernel
theorem dX9_init_72 : decode cX9_init 72 = .ok (.aload_n 0, 1) := by decide +kernel
theorem dX9_init_73 : decode cX9_init 73 = .ok (.new 48, 3) := by decide +kernel
theorem dX9_init_76 : decode cX9_init 76 = .ok (.dup, 1) := by decide +kernel
theorem dX9_init_77 : decode cX9_init 77 = .ok (.invokespecial 50, 3) := by decide +kernel
theorem dX9_init_80 : decode cX9_init 80 = .ok (.putfield 51, 3) := by decide +kernel
theorem dX9_init_83 : decode cX9_init 83 = .ok (.return_, 1) := by decide +kernel
theorem dX9_phrase_0 : decode cX9_phrase 0 = .ok (.iload_n 1, 1) := by decide +kernel
theorem dX9_phrase_1 : decode cX9_phrase 1 = .ok (.iconst 0, 1) := by decide +kernel
theorem dX9_phrase_2 : decode cX9_phrase 2 = .ok (.iconst 5, 1) := by decide +kernel
theorem dX9_phrase_3 : decode cX9_phrase 3 = .ok (.invokestatic 55, 3) := by decide +kernel
theorem dX9_phrase_6 : decode cX9_phrase 6 = .ok (.ifCond .eq 34, 3) := by decide +kernel
theorem dX9_phrase_9 : decode cX9_phrase 9 = .ok (.iload_n 2, 1) := by decide +kernel
theorem dX9_phrase_10 : decode cX9_phrase 10 = .ok (.iconst 0, 1) := by decide +kernel
theorem dX9_phrase_11 : decode cX9_phrase 11 = .ok (.bipush 9, 2) := by decide +kernel
theorem dX9_phrase_13 : decode cX9_phrase 13 = .ok (.invokestatic 55, 3) := by decide +kernel
theorem dX9_phrase_16 : decode cX9_phrase 16 = .ok (.ifCond .eq 24, 3) := by decide +kernel
theorem dX9_phrase_19 : decode cX9_phrase 19 = .ok (.iload_n 3, 1) := by decide +kernel
theorem dX9_phrase_20 : decode cX9_phrase 20 = .ok (.iconst 1, 1) := by decide +kernel
theorem dX9_phrase_21 : decode cX9_phrase 21 = .ok (.bipush 60, 2) := by decide +kernel
theorem dX9_phrase_23 : decode cX9_phrase 23 = .ok (.invokestatic 55, 3) := by decide +kernel
theorem dX9_phrase_26 : decode cX9_phrase 26 = .ok (.ifCond .eq 14, 3) := by decide +kernel
theorem dX9_phrase_29 : decode cX9_phrase 29 = .ok (.iload 4, 2) := by decide +kernel
theorem dX9_phrase_31 : decode cX9_phrase 31 = .ok (.iconst 0, 1) := by decide +kernel
theorem dX9_phrase_32 : decode cX9_phrase 32 = .ok (.bipush 10, 2) := by decide +kernel
theorem dX9_phrase_34 : decode cX9_phrase 34 = .ok (.invokestatic 55, 3) := by decide +kernel
theorem dX9_phrase_37 : decode cX9_phrase 37 = .ok (.ifCond .ne 10, 3) := by decide +kernel
theorem dX9_phrase_40 : decode cX9_phrase 40 = .ok (.aload_n 0, 1) := by decide +kernel
theorem dX9_phrase_41 : decode cX9_phrase 41 = .ok (.ldc 59, 2) := by decide +kernel
theorem dX9_phrase_43 : decode cX9_phrase 43 = .ok (.invokevirtual 60, 3) := by decide +kernel
theorem dX9_phrase_46 : decode cX9_phrase 46 = .ok (.ireturn, 1) := by decide +kernel
theorem dX9_phrase_47 : decode cX9_phrase 47 = .ok (.aload_n 0, 1) := by decide +kernel
theorem dX9_phrase_48 : decode cX9_phrase 48 = .ok (.getfield 16, 3) := by decide +kernel
theorem dX9_phrase_51 : decode cX9_phrase 51 = .ok (.getfield 64, 3) := by decide +kernel
theorem dX9_phrase_54 : decode cX9_phrase 54 = .ok (.invokevirtual 68, 3) := by decide +kernel
theorem dX9_phrase_57 : decode cX9_phrase 57 = .ok (.ifCond .eq 10, 3) := by decide +kernel
theorem dX9_phrase_60 : decode cX9_phrase 60 = .ok (.aload_n 0, 1) := by decide +kernel
theorem dX9_phrase_61 : decode cX9_phrase 61 = .ok (.ldc 74, 2) := by decide +kernel
theorem dX9_phrase_63 : decode cX9_phrase 63 = .ok (.invokevirtual 60, 3) := by decide +kernel
theorem dX9_phrase_66 : decode cX9_phrase 66 = .ok (.ireturn, 1) := by decide +kernel
theorem dX9_phrase_67 : decode cX9_phrase 67 = .ok (.aload_n 0, 1) := by decide +kernel
theorem dX9_phrase_68 : decode cX9_phrase 68 = .ok (.getfield 16, 3) := by decide +kernel
theorem dX9_phrase_71 : decode cX9_phrase 71 = .ok (.getfield 64, 3) := by decide +kernel
theorem dX9_phrase_74 : decode cX9_phrase 74 = .ok (.iload_n 1, 1) := by decide +kernel
theorem dX9_phrase_75 : decode cX9_phrase 75 = .ok (.iload_n 2, 1) := by decide +kernel
theorem dX9_phrase_76 : decode cX9_phrase 76 = .ok (.iload_n 3, 1) := by decide +kernel
theorem dX9_phrase_77 : decode cX9_phrase 77 = .ok (.iload 4, 2) := by decide +kernel
theorem dX9_phrase_79 : decode cX9_phrase 79 = .ok (.invokevirtual 75, 3) := by decide +kernel
theorem dX9_phrase_82 : decode cX9_phrase 82 = .ok (.ireturn, 1) := by decide +kernel
theorem dX9_of_0 : decode cX9_of 0 = .ok (.aload_n 0, 1) := by decide +kernel
theorem dX9_of_1 : decode cX9_of 1 = .ok (.iload_n 1, 1) := by decide +kernel
theorem dX9_of_2 : decode cX9_of 2 = .ok (.invokevirtual 79, 3) := by decide +kernel
theorem dX9_of_5 : decode cX9_of 5 = .ok (.ifCond .eq 13, 3) := by decide +kernel
theorem dX9_of_8 : decode cX9_of 8 = .ok (.iload_n 2, 1) := by decide +kernel
theorem dX9_of_9 : decode cX9_of 9 = .ok (.iconst 0, 1) := by decide +kernel
theorem dX9_of_10 : decode cX9_of 10 = .ok (.bipush 7, 2) := by decide +kernel
theorem dX9_of_12 : decode cX9_of 12 = .ok (.invokestatic 55, 3) := by decide +kernel
theorem dX9_of_15 : decode cX9_of 15 = .ok (.ifCond .ne 10, 3) := by decide +kernel
theorem dX9_of_18 : decode cX9_of 18 = .ok (.aload_n 0, 1) := by decide +kernel
theorem dX9_of_19 : decode cX9_of 19 = .ok (.ldc 59, 2) := by decide +kernel
theorem dX9_of_21 : decode cX9_of 21 = .ok (.invokevirtual 60, 3) := by decide +kernel
theorem dX9_of_24 : decode cX9_of 24 = .ok (.ireturn, 1) := by decide +kernel
theorem dX9_of_25 : decode cX9_of 25 = .ok (.iload_n 2, 1) := by decide +kernel
theorem dX9_of_26 : decode cX9_of 26 = .ok (.bipush 6, 2) := by decide +kernel
theorem dX9_of_28 : decode cX9_of 28 = .ok (.if_icmp .ne 20, 3) := by decide +kernel
theorem dX9_of_31 : decode cX9_of 31 = .ok (.aload_n 0, 1) := by decide +kernel
theorem dX9_of_32 : decode cX9_of 32 = .ok (.getfield 16, 3) := by decide +kernel
theorem dX9_of_35 : decode cX9_of 35 = .ok (.iload_n 1, 1) := by decide +kernel
theorem dX9_of_36 : decode cX9_of 36 = .ok (.invokevirtual 83, 3) := by decide +kernel
theorem dX9_of_39 : decode cX9_of 39 = .ok (.ifCond .eq 7, 3) := by decide +kernel
theorem dX9_of_42 : decode cX9_of 42 = .ok (.iconst 1, 1) := by decide +kernel
theorem dX9_of_43 : decode cX9_of 43 = .ok (.goto 4, 3) := by decide +kernel
theorem dX9_of_46 : decode cX9_of 46 = .ok (.iconst 0, 1) := by decide +kernel
theorem dX9_of_47 : decode cX9_of 47 = .ok (.ireturn, 1) := by decide +kernel
theorem dX9_of_48 : decode cX9_of 48 = .ok (.iload_n 2, 1) := by decide +kernel
theorem dX9_of_49 : decode cX9_of 49 = .ok (.bipush 7, 2) := by decide +kernel
theorem dX9_of_51 : decode cX9_of 51 = .ok (.if_icmp .ne 15, 3) := by decide +kernel
theorem dX9_of_54 : decode cX9_of 54 = .ok (.aload_n 0, 1) := by decide +kernel
theorem dX9_of_55 : decode cX9_of 55 = .ok (.getfield 16, 3) := by decide +kernel
theorem dX9_of_58 : decode cX9_of 58 = .ok (.getfield 64, 3) := by decide +kernel
theorem dX9_of_61 : decode cX9_of 61 = .ok (.iload_n 1, 1) := by decide +kernel
theorem dX9_of_62 : decode cX9_of 62 = .ok (.invokevirtual 86, 3) := by decide +kernel
theorem dX9_of_65 : decode cX9_of 65 = .ok (.ireturn, 1) := by decide +kernel
theorem dX9_of_66 : decode cX9_of 66 = .ok (.aload_n 0, 1) := by decide +kernel
theorem dX9_of_67 : decode cX9_of 67 = .ok (.getfield 16, 3) := by decide +kernel
theorem dX9_of_70 : decode cX9_of 70 = .ok (.getfield 64, 3) := by decide +kernel
theorem dX9_of_73 : decode cX9_of 73 = .ok (.iload_n 2, 1) := by decide +kernel
theorem dX9_of_74 : decode cX9_of 74 = .ok (.invokevirtual 89, 3) := by decide +kernel
theorem dX9_of_77 : decode cX9_of 77 = .ok (.iload_n 1, 1) := by decide +kernel
theorem dX9_of_78 : decode cX9_of 78 = .ok (.iaload, 1) := by decide +kernel
theorem dX9_of_79 : decode cX9_of 79 = .ok (.ireturn, 1) := by decide +kernel
theorem dX9_set_0 : decode cX9_set 0 = .ok (.aload_n 0, 1) := by decide +kernel
theorem dX9_set_1 : decode cX9_set 1 = .ok (.iload_n 1, 1) := by decide +kernel
theorem dX9_set_2 : decode cX9_set 2 = .ok (.invokevirtual 79, 3) := by decide +kernel
theorem dX9_set_5 : decode cX9_set 5 = .ok (.ifCond .eq 18, 3) := by decide +kernel
theorem dX9_set_8 : decode cX9_set 8 = .ok (.aload_n 0, 1) := by decide +kernel
theorem dX9_set_9 : decode cX9_set 9 = .ok (.getfield 16, 3) := by decide +kernel
theorem dX9_set_12 : decode cX9_set 12 = .ok (.getfield 64, 3) := by decide +kernel
theorem dX9_set_15 : decode cX9_set 15 = .ok (.iload_n 2, 1) := by decide +kernel
theorem dX9_set_16 : decode cX9_set 16 = .ok (.iload_n 3, 1) := by decide +kernel
theorem dX9_set_17 : decode cX9_set 17 = .ok (.invokevirtual 93, 3) := by decide +kernel
theorem dX9_set_20 : decode cX9_set 20 = .ok (.ifCond .ne 10, 3) := by decide +kernel
theorem dX9_set_23 : decode cX9_set 23 = .ok (.aload_n 0, 1) := by decide +kernel
theorem dX9_set_24 : decode cX9_set 24 = .ok (.ldc 59, 2) := by decide +kernel
theorem dX9_set_26 : decode cX9_set 26 = .ok (.invokevirtual 60, 3) := by decide +kernel
theorem dX9_set_29 : decode cX9_set 29 = .ok (.ireturn, 1) := by decide +kernel
theorem dX9_set_30 : decode cX9_set 30 = .ok (.aload_n 0, 1) := by decide +kernel
theorem dX9_set_31 : decode cX9_set 31 = .ok (.getfield 16, 3) := by decide +kernel
theorem dX9_set_34 : decode cX9_set 34 = .ok (.getfield 64, 3) := by decide +kernel
theorem dX9_set_37 : decode cX9_set 37 = .ok (.iload_n 2, 1) := by decide +kernel
theorem dX9_set_38 : decode cX9_set 38 = .ok (.invokevirtual 89, 3) := by decide +kernel
theorem dX9_set_41 : decode cX9_set 41 = .ok (.iload_n 1, 1) := by decide +kernel
theorem dX9_set_42 : decode cX9_set 42 = .ok (.iload_n 3, 1) := by decide +kernel
theorem dX9_set_43 : decode cX9_set 43 = .ok (.invokestatic 97, 3) := by decide +kernel
theorem dX9_set_46 : decode cX9_set 46 = .ok (.ireturn, 1) := by decide +kernel
theorem dX9_turn_0 : decode cX9_turn 0 = .ok (.aload_n 0, 1) := by decide +kernel
theorem dX9_turn_1 : decode cX9_turn 1 = .ok (.iload_n 1, 1) := by decide +kernel
theorem dX9_turn_2 : decode cX9_turn 2 = .ok (.invokevirtual 79, 3) := by decide +kernel
theorem dX9_turn_5 : decode cX9_turn 5 = .ok (.ifCond .eq 12, 3) := by decide +kernel
theorem dX9_turn_8 : decode cX9_turn 8 = .ok (.iload_n 2, 1) := by decide +kernel
theorem dX9_turn_9 : decode cX9_turn 9 = .ok (.iconst 0, 1) := by decide +kernel
theorem dX9_turn_10 : decode cX9_turn 10 = .ok (.iconst 5, 1) := by decide +kernel
theorem dX9_turn_11 : decode cX9_turn 11 = .ok (.invokestatic 55, 3) := by decide +kernel
theorem dX9_turn_14 : decode cX9_turn 14 = .ok (.ifCond .ne 10, 3) := by decide +kernel
theorem dX9_turn_17 : decode cX9_turn 17 = .ok (.aload_n 0, 1) := by decide +kernel
theorem dX9_turn_18 : decode cX9_turn 18 = .ok (.ldc 59, 2) := by decide +kernel
theorem dX9_turn_20 : decode cX9_turn 20 = .ok (.invokevirtual 60, 3) := by decide +kernel
theorem dX9_turn_23 : decode cX9_turn 23 = .ok (.ireturn, 1) := by decide +kernel
theorem dX9_turn_24 : decode cX9_turn 24 = .ok (.aload_n 0, 1) := by decide +kernel
theorem dX9_turn_25 : decode cX9_turn 25 = .ok (.getfield 16, 3) := by decide +kernel
theorem dX9_turn_28 : decode cX9_turn 28 = .ok (.getfield 64, 3) := by decide +kernel
theorem dX9_turn_31 : decode cX9_turn 31 = .ok (.getfield 101, 3) := by decide +kernel
theorem dX9_turn_34 : decode cX9_turn 34 = .ok (.iload_n 1, 1) := by decide +kernel
theorem dX9_turn_35 : decode cX9_turn 35 = .ok (.iload_n 2, 1) := by decide +kernel
theorem dX9_turn_36 : decode cX9_turn 36 = .ok (.invokestatic 97, 3) := by decide +kernel
theorem dX9_turn_39 : decode cX9_turn 39 = .ok (.ireturn, 1) := by decide +kernel
theorem dX9_as_0 : decode cX9_as 0 = .ok (.aload_n 0, 1) := by decide +kernel
theorem dX9_as_1 : decode cX9_as 1 = .ok (.iload_n 1, 1) := by decide +kernel
theorem dX9_as_2 : decode cX9_as 2 = .ok (.invokevirtual 79, 3) := by decide +kernel
theorem dX9_as_5 : decode cX9_as 5 = .ok (.ifCond .eq 12, 3) := by decide +kernel
theorem dX9_as_8 : decode cX9_as 8 = .ok (.iload_n 2, 1) := by decide +kernel
theorem dX9_as_9 : decode cX9_as 9 = .ok (.iconst 0, 1) := by decide +kernel
theorem dX9_as_10 : decode cX9_as 10 = .ok (.iconst 5, 1) := by decide +kernel
theorem dX9_as_11 : decode cX9_as 11 = .ok (.invokestatic 55, 3) := by decide +kernel
theorem dX9_as_14 : decode cX9_as 14 = .ok (.ifCond .ne 10, 3) := by decide +kernel
theorem dX9_as_17 : decode cX9_as 17 = .ok (.aload_n 0, 1) := by decide +kernel
theorem dX9_as_18 : decode cX9_as 18 = .ok (.ldc 59, 2) := by decide +kernel
theorem dX9_as_20 : decode cX9_as 20 = .ok (.invokevirtual 60, 3) := by decide +kernel
theorem dX9_as_23 : decode cX9_as 23 = .ok (.ireturn, 1) := by decide +kernel
theorem dX9_as_24 : decode cX9_as 24 = .ok (.aload_n 0, 1) := by decide +kernel
theorem dX9_as_25 : decode cX9_as 25 = .ok (.getfield 16, 3) := by decide +kernel
theorem dX9_as_28 : decode cX9_as 28 = .ok (.getfield 64, 3) := by decide +kernel
theorem dX9_as_31 : decode cX9_as 31 = .ok (.iload_n 1, 1) := by decide +kernel
theorem dX9_as_32 : decode cX9_as 32 = .ok (.iload_n 2, 1) := by decide +kernel
theorem dX9_as_33 : decode cX9_as 33 = .ok (.invokevirtual 104, 3) := by decide +kernel
theorem dX9_as_36 : decode cX9_as 36 = .ok (.ifCond .ne 10, 3) := by decide +kernel
theorem dX9_as_39 : decode cX9_as 39 = .ok (.aload_n 0, 1) := by decide +kernel
theorem dX9_as_40 : decode cX9_as 40 = .ok (.ldc 107, 2) := by decide +kernel
theorem dX9_as_42 : decode cX9_as 42 = .ok (.invokevirtual 60, 3) := by decide +kernel
theorem dX9_as_45 : decode cX9_as 45 = .ok (.ireturn, 1) := by decide +kernel
theorem dX9_as_46 : decode cX9_as 46 = .ok (.aload_n 0, 1) := by decide +kernel
theorem dX9_as_47 : decode cX9_as 47 = .ok (.getfield 16, 3) := by decide +kernel
theorem dX9_as_50 : decode cX9_as 50 = .ok (.getfield 64, 3) := by decide +kernel
theorem dX9_as_53 : decode cX9_as 53 = .ok (.getfield 108, 3) := by decide +kernel
theorem dX9_as_56 : decode cX9_as 56 = .ok (.iload_n 1, 1) := by decide +kernel
theorem dX9_as_57 : decode cX9_as 57 = .ok (.iaload, 1) := by decide +kernel
theorem dX9_as_58 : decode cX9_as 58 = .ok (.ireturn, 1) := by decide +kernel
theorem dX9_want_0 : decode cX9_want 0 = .ok (.iload_n 1, 1) := by decide +kernel
theorem dX9_want_1 : decode cX9_want 1 = .ok (.iconst 0, 1) := by decide +kernel
theorem dX9_want_2 : decode cX9_want 2 = .ok (.bipush 9, 2) := by decide +kernel
theorem dX9_want_4 : decode cX9_want 4 = .ok (.invokestatic 55, 3) := by decide +kernel
theorem dX9_want_7 : decode cX9_want 7 = .ok (.ifCond .eq 23, 3) := by decide +kernel
theorem dX9_want_10 : decode cX9_want 10 = .ok (.iload_n 2, 1) := by decide +kernel
theorem dX9_want_11 : decode cX9_want 11 = .ok (.iconst 0, 1) := by decide +kernel
theorem dX9_want_12 : decode cX9_want 12 = .ok (.bipush 99, 2) := by decide +kernel
theorem dX9_want_14 : decode cX9_want 14 = .ok (.invokestatic 55, 3) := by decide +kernel
theorem dX9_want_17 : decode cX9_want 17 = .ok (.ifCond .eq 13, 3) := by decide +kernel
theorem dX9_want_20 : decode cX9_want 20 = .ok (.iload_n 3, 1) := by decide +kernel
theorem dX9_want_21 : decode cX9_want 21 = .ok (.iconst 0, 1) := by decide +kernel
theorem dX9_want_22 : decode cX9_want 22 = .ok (.bipush 99, 2) := by decide +kernel
theorem dX9_want_24 : decode cX9_want 24 = .ok (.invokestatic 55, 3) := by decide +kernel
theorem dX9_want_27 : decode cX9_want 27 = .ok (.ifCond .ne 10, 3) := by decide +kernel
theorem dX9_want_30 : decode cX9_want 30 = .ok (.aload_n 0, 1) := by decide +kernel
theorem dX9_want_31 : decode cX9_want 31 = .ok (.ldc 59, 2) := by decide +kernel
theorem dX9_want_33 : decode cX9_want 33 = .ok (.invokevirtual 60, 3) := by decide +kernel
theorem dX9_want_36 : decode cX9_want 36 = .ok (.ireturn, 1) := by decide +kernel
theorem dX9_want_37 : decode cX9_want 37 = .ok (.aload_n 0, 1) := by decide +kernel
theorem dX9_want_38 : decode cX9_want 38 = .ok (.getfield 16, 3) := by decide +kernel
theorem dX9_want_41 : decode cX9_want 41 = .ok (.getfield 111, 3) := by decide +kernel
theorem dX9_want_44 : decode cX9_want 44 = .ok (.invokevirtual 115, 3) := by decide +kernel
theorem dX9_want_47 : decode cX9_want 47 = .ok (.ifCond .eq 10, 3) := by decide +kernel
theorem dX9_want_50 : decode cX9_want 50 = .ok (.aload_n 0, 1) := by decide +kernel
theorem dX9_want_51 : decode cX9_want 51 = .ok (.ldc 74, 2) := by decide +kernel
theorem dX9_want_53 : decode cX9_want 53 = .ok (.invokevirtual 60, 3) := by decide +kernel
theorem dX9_want_56 : decode cX9_want 56 = .ok (.ireturn, 1) := by decide +kernel
theorem dX9_want_57 : decode cX9_want 57 = .ok (.aload_n 0, 1) := by decide +kernel
theorem dX9_want_58 : decode cX9_want 58 = .ok (.getfield 16, 3) := by decide +kernel
theorem dX9_want_61 : decode cX9_want 61 = .ok (.getfield 111, 3) := by decide +kernel
theorem dX9_want_64 : decode cX9_want 64 = .ok (.iload_n 1, 1) := by decide +kernel
theorem dX9_want_65 : decode cX9_want 65 = .ok (.iload_n 2, 1) := by decide +kernel
theorem dX9_want_66 : decode cX9_want 66 = .ok (.iload_n 3, 1) := by decide +kernel
theorem dX9_want_67 : decode cX9_want 67 = .ok (.invokevirtual 118, 3) := by decide +kernel
theorem dX9_want_70 : decode cX9_want 70 = .ok (.ireturn, 1) := by decide +kernel
theorem dX9_wantOf_0 : decode cX9_wantOf 0 = .ok (.aload_n 0, 1) := by decide +kernel
theorem dX9_wantOf_1 : decode cX9_wantOf 1 = .ok (.iload_n 1, 1) := by decide +kernel
theorem dX9_wantOf_2 : decode cX9_wantOf 2 = .ok (.invokevirtual 121, 3) := by decide +kernel
theorem dX9_wantOf_5 : decode cX9_wantOf 5 = .ok (.ifCond .eq 12, 3) := by decide +kernel
theorem dX9_wantOf_8 : decode cX9_wantOf 8 = .ok (.iload_n 2, 1) := by decide +kernel
theorem dX9_wantOf_9 : decode cX9_wantOf 9 = .ok (.iconst 0, 1) := by decide +kernel
theorem dX9_wantOf_10 : decode cX9_wantOf 10 = .ok (.iconst 4, 1) := by decide +kernel
theorem dX9_wantOf_11 : decode cX9_wantOf 11 = .ok (.invokestatic 55, 3) := by decide +kernel
theorem dX9_wantOf_14 : decode cX9_wantOf 14 = .ok (.ifCond .ne 10, 3) := by decide +kernel
theorem dX9_wantOf_17 : decode cX9_wantOf 17 = .ok (.aload_n 0, 1) := by decide +kernel
theorem dX9_wantOf_18 : decode cX9_wantOf 18 = .ok (.ldc 59, 2) := by decide +kernel
theorem dX9_wantOf_20 : decode cX9_wantOf 20 = .ok (.invokevirtual 60, 3) := by decide +kernel
theorem dX9_wantOf_23 : decode cX9_wantOf 23 = .ok (.ireturn, 1) := by decide +kernel
theorem dX9_wantOf_24 : decode cX9_wantOf 24 = .ok (.aload_n 0, 1) := by decide +kernel
theorem dX9_wantOf_25 : decode cX9_wantOf 25 = .ok (.getfield 16, 3) := by decide +kernel
theorem dX9_wantOf_28 : decode cX9_wantOf 28 = .ok (.getfield 111, 3) := by decide +kernel
theorem dX9_wantOf_31 : decode cX9_wantOf 31 = .ok (.iload_n 2, 1) := by decide +kernel
theorem dX9_wantOf_32 : decode cX9_wantOf 32 = .ok (.invokevirtual 124, 3) := by decide +kernel
theorem dX9_wantOf_35 : decode cX9_wantOf 35 = .ok (.iload_n 1, 1) := by decide +kernel
theorem dX9_wantOf_36 : decode cX9_wantOf 36 = .ok (.iaload, 1) := by decide +kernel
theorem dX9_wantOf_37 : decode cX9_wantOf 37 = .ok (.ireturn, 1) := by decide +kernel
theorem dX9_change_0 : decode cX9_change 0 = .ok (.aload_n 0, 1) := by decide +kernel
theorem dX9_change_1 : decode cX9_change 1 = .ok (.iload_n 1, 1) := by decide +kernel
theorem dX9_change_2 : decode cX9_change 2 = .ok (.invokevirtual 121, 3) := by decide +kernel
theorem dX9_change_5 : decode cX9_change 5 = .ok (.ifCond .eq 18, 3) := by decide +kernel
theorem dX9_change_8 : decode cX9_change 8 = .ok (.aload_n 0, 1) := by decide +kernel
theorem dX9_change_9 : decode cX9_change 9 = .ok (.getfield 16, 3) := by decide +kernel
theorem dX9_change_12 : decode cX9_change 12 = .ok (.getfield 111, 3) := by decide +kernel
theorem dX9_change_15 : decode cX9_change 15 = .ok (.iload_n 2, 1) := by decide +kernel
theorem dX9_change_16 : decode cX9_change 16 = .ok (.iload_n 3, 1) := by decide +kernel
theorem dX9_change_17 : decode cX9_change 17 = .ok (.invokevirtual 125, 3) := by decide +kernel
theorem dX9_change_20 : decode cX9_change 20 = .ok (.ifCond .ne 10, 3) := by decide +kernel
theorem dX9_change_23 : decode cX9_change 23 = .ok (.aload_n 0, 1) := by decide +kernel
theorem dX9_change_24 : decode cX9_change 24 = .ok (.ldc 59, 2) := by decide +kernel
theorem dX9_change_26 : decode cX9_change 26 = .ok (.invokevirtual 60, 3) := by decide +kernel
theorem dX9_change_29 : decode cX9_change 29 = .ok (.ireturn, 1) := by decide +kernel
theorem dX9_change_30 : decode cX9_change 30 = .ok (.aload_n 0, 1) := by decide +kernel
theorem dX9_change_31 : decode cX9_change 31 = .ok (.getfield 16, 3) := by decide +kernel
theorem dX9_change_34 : decode cX9_change 34 = .ok (.getfield 111, 3) := by decide +kernel
theorem dX9_change_37 : decode cX9_change 37 = .ok (.iload_n 2, 1) := by decide +kernel
theorem dX9_change_38 : decode cX9_change 38 = .ok (.invokevirtual 124, 3) := by decide +kernel
theorem dX9_change_41 : decode cX9_change 41 = .ok (.iload_n 1, 1) := by decide +kernel
theorem dX9_change_42 : decode cX9_change 42 = .ok (.iload_n 3, 1) := by decide +kernel
theorem dX9_change_43 : decode cX9_change 43 = .ok (.invokestatic 97, 3) := by decide +kernel
theorem dX9_change_46 : decode cX9_change 46 = .ok (.ireturn, 1) := by decide +kernel
theorem dX9_gain_0 : decode cX9_gain 0 = .ok (.aload_n 0, 1) := by decide +kernel
theorem dX9_gain_1 : decode cX9_gain 1 = .ok (.iload_n 1, 1) := by decide +kernel
theorem dX9_gain_2 : decode cX9_gain 2 = .ok (.invokevirtual 79, 3) := by decide +kernel
theorem dX9_gain_5 : decode cX9_gain 5 = .ok (.ifCond .eq 19, 3) := by decide +kernel
theorem dX9_gain_8 : decode cX9_gain 8 = .ok (.aload_n 0, 1) := by decide +kernel
theorem dX9_gain_9 : decode cX9_gain 9 = .ok (.iload_n 2, 1) := by decide +kernel
theorem dX9_gain_10 : decode cX9_gain 10 = .ok (.invokevirtual 121, 3) := by decide +kernel
theorem dX9_gain_13 : decode cX9_gain 13 = .ok (.ifCond .eq 11, 3) := by decide +kernel
theorem dX9_gain_16 : decode cX9_gain 16 = .ok (.aload_n 0, 1) := by decide +kernel
theorem dX9_gain_17 : decode cX9_gain 17 = .ok (.iload_n 3, 1) := by decide +kernel
theorem dX9_gain_18 : decode cX9_gain 18 = .ok (.invokevirtual 128, 3) := by decide +kernel
theorem dX9_gain_21 : decode cX9_gain 21 = .ok (.ifCond .ne 10, 3) := by decide +kernel
theorem dX9_gain_24 : decode cX9_gain 24 = .ok (.aload_n 0, 1) := by decide +kernel
theorem dX9_gain_25 : decode cX9_gain 25 = .ok (.ldc 59, 2) := by decide +kernel
theorem dX9_gain_27 : decode cX9_gain 27 = .ok (.invokevirtual 60, 3) := by decide +kernel
theorem dX9_gain_30 : decode cX9_gain 30 = .ok (.ireturn, 1) := by decide +kernel
theorem dX9_gain_31 : decode cX9_gain 31 = .ok (.aload_n 0, 1) := by decide +kernel
theorem dX9_gain_32 : decode cX9_gain 32 = .ok (.getfield 16, 3) := by decide +kernel
theorem dX9_gain_35 : decode cX9_gain 35 = .ok (.iload_n 1, 1) := by decide +kernel
theorem dX9_gain_36 : decode cX9_gain 36 = .ok (.iload_n 2, 1) := by decide +kernel
theorem dX9_gain_37 : decode cX9_gain 37 = .ok (.aload_n 0, 1) := by decide +kernel
theorem dX9_gain_38 : decode cX9_gain 38 = .ok (.getfield 16, 3) := by decide +kernel
theorem dX9_gain_41 : decode cX9_gain 41 = .ok (.getfield 64, 3) := by decide +kernel
theorem dX9_gain_44 : decode cX9_gain 44 = .ok (.iload_n 3, 1) := by decide +kernel
theorem dX9_gain_45 : decode cX9_gain 45 = .ok (.iconst 2, 1) := by decide +kernel
theorem dX9_gain_46 : decode cX9_gain 46 = .ok (.invokevirtual 131, 3) := by decide +kernel
theorem dX9_gain_49 : decode cX9_gain 49 = .ok (.invokevirtual 134, 3) := by decide +kernel
theorem dX9_gain_52 : decode cX9_gain 52 = .ok (.ireturn, 1) := by decide +kernel
theorem dX9_met_0 : decode cX9_met 0 = .ok (.aload_n 0, 1) := by decide +kernel
theorem dX9_met_1 : decode cX9_met 1 = .ok (.iload_n 1, 1) := by decide +kernel
theorem dX9_met_2 : decode cX9_met 2 = .ok (.invokevirtual 121, 3) := by decide +kernel
theorem dX9_met_5 : decode cX9_met 5 = .ok (.ifCond .eq 11, 3) := by decide +kernel
theorem dX9_met_8 : decode cX9_met 8 = .ok (.aload_n 0, 1) := by decide +kernel
theorem dX9_met_9 : decode cX9_met 9 = .ok (.iload_n 2, 1) := by decide +kernel
theorem dX9_met_10 : decode cX9_met 10 = .ok (.invokevirtual 128, 3) := by decide +kernel
theorem dX9_met_13 : decode cX9_met 13 = .ok (.ifCond .ne 10, 3) := by decide +kernel
theorem dX9_met_16 : decode cX9_met 16 = .ok (.aload_n 0, 1) := by decide +kernel
theorem dX9_met_17 : decode cX9_met 17 = .ok (.ldc 59, 2) := by decide +kernel
theorem dX9_met_19 : decode cX9_met 19 = .ok (.invokevirtual 60, 3) := by decide +kernel
theorem dX9_met_22 : decode cX9_met 22 = .ok (.ireturn, 1) := by decide +kernel
theorem dX9_met_23 : decode cX9_met 23 = .ok (.aload_n 0, 1) := by decide +kernel
theorem dX9_met_24 : decode cX9_met 24 = .ok (.getfield 16, 3) := by decide +kernel
theorem dX9_met_27 : decode cX9_met 27 = .ok (.getfield 64, 3) := by decide +kernel
theorem dX9_met_30 : decode cX9_met 30 = .ok (.iload_n 2, 1) := by decide +kernel
theorem dX9_met_31 : decode cX9_met 31 = .ok (.iconst 2, 1) := by decide +kernel
theorem dX9_met_32 : decode cX9_met 32 = .ok (.invokevirtual 131, 3) := by decide +kernel
theorem dX9_met_35 : decode cX9_met 35 = .ok (.istore_n 3, 1) := by decide +kernel
theorem dX9_met_36 : decode cX9_met 36 = .ok (.aload_n 0, 1) := by decide +kernel
theorem dX9_met_37 : decode cX9_met 37 = .ok (.getfield 16, 3) := by decide +kernel
theorem dX9_met_40 : decode cX9_met 40 = .ok (.getfield 64, 3) := by decide +kernel
theorem dX9_met_43 : decode cX9_met 43 = .ok (.iload_n 2, 1) := by decide +kernel
theorem dX9_met_44 : decode cX9_met 44 = .ok (.iconst 4, 1) := by decide +kernel
theorem dX9_met_45 : decode cX9_met 45 = .ok (.invokevirtual 131, 3) := by decide +kernel
theorem dX9_met_48 : decode cX9_met 48 = .ok (.istore 4, 2) := by decide +kernel
theorem dX9_met_50 : decode cX9_met 50 = .ok (.aload_n 0, 1) := by decide +kernel
theorem dX9_met_51 : decode cX9_met 51 = .ok (.getfield 16, 3) := by decide +kernel
theorem dX9_met_54 : decode cX9_met 54 = .ok (.iload_n 1, 1) := by decide +kernel
theorem dX9_met_55 : decode cX9_met 55 = .ok (.aload_n 0, 1) := by decide +kernel
theorem dX9_met_56 : decode cX9_met 56 = .ok (.getfield 16, 3) := by decide +kernel
theorem dX9_met_59 : decode cX9_met 59 = .ok (.iload_n 1, 1) := by decide +kernel
theorem dX9_met_60 : decode cX9_met 60 = .ok (.iload_n 2, 1) := by decide +kernel
theorem dX9_met_61 : decode cX9_met 61 = .ok (.iload_n 3, 1) := by decide +kernel
theorem dX9_met_62 : decode cX9_met 62 = .ok (.invokevirtual 138, 3) := by decide +kernel
theorem dX9_met_65 : decode cX9_met 65 = .ok (.iload_n 3, 1) := by decide +kernel
theorem dX9_met_66 : decode cX9_met 66 = .ok (.iload 4, 2) := by decide +kernel
theorem dX9_met_68 : decode cX9_met 68 = .ok (.invokevirtual 141, 3) := by decide +kernel
theorem dX9_met_71 : decode cX9_met 71 = .ok (.ireturn, 1) := by decide +kernel
theorem dX9_value_0 : decode cX9_value 0 = .ok (.aload_n 0, 1) := by decide +kernel
theorem dX9_value_1 : decode cX9_value 1 = .ok (.iload_n 1, 1) := by decide +kernel
theorem dX9_value_2 : decode cX9_value 2 = .ok (.invokevirtual 128, 3) := by decide +kernel
theorem dX9_value_5 : decode cX9_value 5 = .ok (.ifCond .ne 10, 3) := by decide +kernel
theorem dX9_value_8 : decode cX9_value 8 = .ok (.aload_n 0, 1) := by decide +kernel
theorem dX9_value_9 : decode cX9_value 9 = .ok (.ldc 59, 2) := by decide +kernel
theorem dX9_value_11 : decode cX9_value 11 = .ok (.invokevirtual 60, 3) := by decide +kernel
theorem dX9_value_14 : decode cX9_value 14 = .ok (.ireturn, 1) := by decide +kernel
theorem dX9_value_15 : decode cX9_value 15 = .ok (.aload_n 0, 1) := by decide +kernel
theorem dX9_value_16 : decode cX9_value 16 = .ok (.getfield 30, 3) := by decide +kernel
theorem dX9_value_19 : decode cX9_value 19 = .ok (.aload_n 0, 1) := by decide +kernel
theorem dX9_value_20 : decode cX9_value 20 = .ok (.getfield 16, 3) := by decide +kernel
theorem dX9_value_23 : decode cX9_value 23 = .ok (.invokevirtual 145, 3) := by decide +kernel
theorem dX9_value_26 : decode cX9_value 26 = .ok (.aload_n 0, 1) := by decide +kernel
theorem dX9_value_27 : decode cX9_value 27 = .ok (.getfield 30, 3) := by decide +kernel
theorem dX9_value_30 : decode cX9_value 30 = .ok (.iload_n 1, 1) := by decide +kernel
theorem dX9_value_31 : decode cX9_value 31 = .ok (.invokevirtual 149, 3) := by decide +kernel
theorem dX9_value_34 : decode cX9_value 34 = .ok (.ireturn, 1) := by decide +kernel
theorem dX9_by_0 : decode cX9_by 0 = .ok (.aload_n 0, 1) := by decide +kernel
theorem dX9_by_1 : decode cX9_by 1 = .ok (.iload_n 1, 1) := by decide +kernel
theorem dX9_by_2 : decode cX9_by 2 = .ok (.invokevirtual 121, 3) := by decide +kernel
theorem dX9_by_5 : decode cX9_by 5 = .ok (.ifCond .eq 11, 3) := by decide +kernel
theorem dX9_by_8 : decode cX9_by 8 = .ok (.aload_n 0, 1) := by decide +kernel
theorem dX9_by_9 : decode cX9_by 9 = .ok (.iload_n 2, 1) := by decide +kernel
theorem dX9_by_10 : decode cX9_by 10 = .ok (.invokevirtual 128, 3) := by decide +kernel
theorem dX9_by_13 : decode cX9_by 13 = .ok (.ifCond .ne 10, 3) := by decide +kernel
theorem dX9_by_16 : decode cX9_by 16 = .ok (.aload_n 0, 1) := by decide +kernel
theorem dX9_by_17 : decode cX9_by 17 = .ok (.ldc 59, 2) := by decide +kernel
theorem dX9_by_19 : decode cX9_by 19 = .ok (.invokevirtual 60, 3) := by decide +kernel
theorem dX9_by_22 : decode cX9_by 22 = .ok (.ireturn, 1) := by decide +kernel
theorem dX9_by_23 : decode cX9_by 23 = .ok (.aload_n 0, 1) := by decide +kernel
theorem dX9_by_24 : decode cX9_by 24 = .ok (.getfield 16, 3) := by decide +kernel
theorem dX9_by_27 : decode cX9_by 27 = .ok (.getfield 64, 3) := by decide +kernel
theorem dX9_by_30 : decode cX9_by 30 = .ok (.iload_n 2, 1) := by decide +kernel
theorem dX9_by_31 : decode cX9_by 31 = .ok (.iconst 2, 1) := by decide +kernel
theorem dX9_by_32 : decode cX9_by 32 = .ok (.invokevirtual 131, 3) := by decide +kernel
theorem dX9_by_35 : decode cX9_by 35 = .ok (.istore_n 3, 1) := by decide +kernel
theorem dX9_by_36 : decode cX9_by 36 = .ok (.aload_n 0, 1) := by decide +kernel
theorem dX9_by_37 : decode cX9_by 37 = .ok (.aload_n 0, 1) := by decide +kernel
theorem dX9_by_38 : decode cX9_by 38 = .ok (.getfield 16, 3) := by decide +kernel
theorem dX9_by_41 : decode cX9_by 41 = .ok (.iload_n 1, 1) := by decide +kernel
theorem dX9_by_42 : decode cX9_by 42 = .ok (.iload_n 2, 1) := by decide +kernel
theorem dX9_by_43 : decode cX9_by 43 = .ok (.iload_n 3, 1) := by decide +kernel
theorem dX9_by_44 : decode cX9_by 44 = .ok (.invokevirtual 138, 3) := by decide +kernel
theorem dX9_by_47 : decode cX9_by 47 = .ok (.invokevirtual 152, 3) := by decide +kernel
theorem dX9_by_50 : decode cX9_by 50 = .ok (.ireturn, 1) := by decide +kernel
theorem dX9_best_0 : decode cX9_best 0 = .ok (.iload_n 1, 1) := by decide +kernel
theorem dX9_best_1 : decode cX9_best 1 = .ok (.iconst 0, 1) := by decide +kernel
theorem dX9_best_2 : decode cX9_best 2 = .ok (.sipush 720, 3) := by decide +kernel
theorem dX9_best_5 : decode cX9_best 5 = .ok (.invokestatic 55, 3) := by decide +kernel
theorem dX9_best_8 : decode cX9_best 8 = .ok (.ifCond .eq 12, 3) := by decide +kernel
theorem dX9_best_11 : decode cX9_best 11 = .ok (.iload_n 2, 1) := by decide +kernel
theorem dX9_best_12 : decode cX9_best 12 = .ok (.iconst 0, 1) := by decide +kernel
theorem dX9_best_13 : decode cX9_best 13 = .ok (.iconst 2, 1) := by decide +kernel
theorem dX9_best_14 : decode cX9_best 14 = .ok (.invokestatic 55, 3) := by decide +kernel
theorem dX9_best_17 : decode cX9_best 17 = .ok (.ifCond .ne 10, 3) := by decide +kernel
theorem dX9_best_20 : decode cX9_best 20 = .ok (.aload_n 0, 1) := by decide +kernel
theorem dX9_best_21 : decode cX9_best 21 = .ok (.ldc 59, 2) := by decide +kernel
theorem dX9_best_23 : decode cX9_best 23 = .ok (.invokevirtual 60, 3) := by decide +kernel
theorem dX9_best_26 : decode cX9_best 26 = .ok (.ireturn, 1) := by decide +kernel
theorem dX9_best_27 : decode cX9_best 27 = .ok (.aload_n 0, 1) := by decide +kernel
theorem dX9_best_28 : decode cX9_best 28 = .ok (.getfield 30, 3) := by decide +kernel
theorem dX9_best_31 : decode cX9_best 31 = .ok (.aload_n 0, 1) := by decide +kernel
theorem dX9_best_32 : decode cX9_best 32 = .ok (.getfield 16, 3) := by decide +kernel
theorem dX9_best_35 : decode cX9_best 35 = .ok (.invokevirtual 145, 3) := by decide +kernel
theorem dX9_best_38 : decode cX9_best 38 = .ok (.aload_n 0, 1) := by decide +kernel
theorem dX9_best_39 : decode cX9_best 39 = .ok (.getfield 30, 3) := by decide +kernel
theorem dX9_best_42 : decode cX9_best 42 = .ok (.iload_n 1, 1) := by decide +kernel
theorem dX9_best_43 : decode cX9_best 43 = .ok (.invokevirtual 155, 3) := by decide +kernel
theorem dX9_best_46 : decode cX9_best 46 = .ok (.istore_n 3, 1) := by decide +kernel
theorem dX9_best_47 : decode cX9_best 47 = .ok (.iload_n 2, 1) := by decide +kernel
theorem dX9_best_48 : decode cX9_best 48 = .ok (.ifCond .ne 12, 3) := by decide +kernel
theorem dX9_best_51 : decode cX9_best 51 = .ok (.aload_n 0, 1) := by decide +kernel
theorem dX9_best_52 : decode cX9_best 52 = .ok (.getfield 30, 3) := by decide +kernel
theorem dX9_best_55 : decode cX9_best 55 = .ok (.iload_n 3, 1) := by decide +kernel
theorem dX9_best_56 : decode cX9_best 56 = .ok (.invokevirtual 149, 3) := by decide +kernel
theorem dX9_best_59 : decode cX9_best 59 = .ok (.ireturn, 1) := by decide +kernel
theorem dX9_best_60 : decode cX9_best 60 = .ok (.iload_n 2, 1) := by decide +kernel
theorem dX9_best_61 : decode cX9_best 61 = .ok (.iconst 1, 1) := by decide +kernel
theorem dX9_best_62 : decode cX9_best 62 = .ok (.if_icmp .ne 7, 3) := by decide +kernel
theorem dX9_best_65 : decode cX9_best 65 = .ok (.iload_n 3, 1) := by decide +kernel
theorem dX9_best_66 : decode cX9_best 66 = .ok (.goto 11, 3) := by decide +kernel
theorem dX9_best_69 : decode cX9_best 69 = .ok (.aload_n 0, 1) := by decide +kernel
theorem dX9_best_70 : decode cX9_best 70 = .ok (.getfield 30, 3) := by decide +kernel
theorem dX9_best_73 : decode cX9_best 73 = .ok (.iload_n 3, 1) := by decide +kernel
theorem dX9_best_74 : decode cX9_best 74 = .ok (.invokevirtual 158, 3) := by decide +kernel
theorem dX9_best_77 : decode cX9_best 77 = .ok (.ireturn, 1) := by decide +kernel
theorem dX9_greedy_0 : decode cX9_greedy 0 = .ok (.iload_n 1, 1) := by decide +kernel
theorem dX9_greedy_1 : decode cX9_greedy 1 = .ok (.iconst 0, 1) := by decide +kernel
theorem dX9_greedy_2 : decode cX9_greedy 2 = .ok (.sipush 720, 3) := by decide +kernel
theorem dX9_greedy_5 : decode cX9_greedy 5 = .ok (.invokestatic 55, 3) := by decide +kernel
theorem dX9_greedy_8 : decode cX9_greedy 8 = .ok (.ifCond .eq 12, 3) := by decide +kernel
theorem dX9_greedy_11 : decode cX9_greedy 11 = .ok (.iload_n 2, 1) := by decide +kernel
theorem dX9_greedy_12 : decode cX9_greedy 12 = .ok (.iconst 0, 1) := by decide +kernel
theorem dX9_greedy_13 : decode cX9_greedy 13 = .ok (.iconst 1, 1) := by decide +kernel
theorem dX9_greedy_14 : decode cX9_greedy 14 = .ok (.invokestatic 55, 3) := by decide +kernel
theorem dX9_greedy_17 : decode cX9_greedy 17 = .ok (.ifCond .ne 10, 3) := by decide +kernel
theorem dX9_greedy_20 : decode cX9_greedy 20 = .ok (.aload_n 0, 1) := by decide +kernel
theorem dX9_greedy_21 : decode cX9_greedy 21 = .ok (.ldc 59, 2) := by decide +kernel
theorem dX9_greedy_23 : decode cX9_greedy 23 = .ok (.invokevirtual 60, 3) := by decide +kernel
theorem dX9_greedy_26 : decode cX9_greedy 26 = .ok (.ireturn, 1) := by decide +kernel
theorem dX9_greedy_27 : decode cX9_greedy 27 = .ok (.aload_n 0, 1) := by decide +kernel
theorem dX9_greedy_28 : decode cX9_greedy 28 = .ok (.getfield 30, 3) := by decide +kernel
theorem dX9_greedy_31 : decode cX9_greedy 31 = .ok (.aload_n 0, 1) := by decide +kernel
theorem dX9_greedy_32 : decode cX9_greedy 32 = .ok (.getfield 16, 3) := by decide +kernel
theorem dX9_greedy_35 : decode cX9_greedy 35 = .ok (.invokevirtual 145, 3) := by decide +kernel
theorem dX9_greedy_38 : decode cX9_greedy 38 = .ok (.aload_n 0, 1) := by decide +kernel
theorem dX9_greedy_39 : decode cX9_greedy 39 = .ok (.getfield 30, 3) := by decide +kernel
theorem dX9_greedy_42 : decode cX9_greedy 42 = .ok (.iload_n 1, 1) := by decide +kernel
theorem dX9_greedy_43 : decode cX9_greedy 43 = .ok (.invokevirtual 161, 3) := by decide +kernel
theorem dX9_greedy_46 : decode cX9_greedy 46 = .ok (.istore_n 3, 1) := by decide +kernel
theorem dX9_greedy_47 : decode cX9_greedy 47 = .ok (.iload_n 2, 1) := by decide +kernel
theorem dX9_greedy_48 : decode cX9_greedy 48 = .ok (.ifCond .ne 14, 3) := by decide +kernel
theorem dX9_greedy_51 : decode cX9_greedy 51 = .ok (.aload_n 0, 1) := by decide +kernel
theorem dX9_greedy_52 : decode cX9_greedy 52 = .ok (.getfield 30, 3) := by decide +kernel
theorem dX9_greedy_55 : decode cX9_greedy 55 = .ok (.iload_n 3, 1) := by decide +kernel
theorem dX9_greedy_56 : decode cX9_greedy 56 = .ok (.invokevirtual 149, 3) := by decide +kernel
theorem dX9_greedy_59 : decode cX9_greedy 59 = .ok (.goto 4, 3) := by decide +kernel
theorem dX9_greedy_62 : decode cX9_greedy 62 = .ok (.iload_n 3, 1) := by decide +kernel
theorem dX9_greedy_63 : decode cX9_greedy 63 = .ok (.ireturn, 1) := by decide +kernel
theorem dX9_next_0 : decode cX9_next 0 = .ok (.aload_n 0, 1) := by decide +kernel
theorem dX9_next_1 : decode cX9_next 1 = .ok (.iload_n 1, 1) := by decide +kernel
theorem dX9_next_2 : decode cX9_next 2 = .ok (.invokevirtual 128, 3) := by decide +kernel
theorem dX9_next_5 : decode cX9_next 5 = .ok (.ifCond .ne 10, 3) := by decide +kernel
theorem dX9_next_8 : decode cX9_next 8 = .ok (.aload_n 0, 1) := by decide +kernel
theorem dX9_next_9 : decode cX9_next 9 = .ok (.ldc 59, 2) := by decide +kernel
theorem dX9_next_11 : decode cX9_next 11 = .ok (.invokevirtual 60, 3) := by decide +kernel
theorem dX9_next_14 : decode cX9_next 14 = .ok (.ireturn, 1) := by decide +kernel
theorem dX9_next_15 : decode cX9_next 15 = .ok (.aload_n 0, 1) := by decide +kernel
theorem dX9_next_16 : decode cX9_next 16 = .ok (.getfield 30, 3) := by decide +kernel
theorem dX9_next_19 : decode cX9_next 19 = .ok (.aload_n 0, 1) := by decide +kernel
theorem dX9_next_20 : decode cX9_next 20 = .ok (.getfield 16, 3) := by decide +kernel
theorem dX9_next_23 : decode cX9_next 23 = .ok (.invokevirtual 145, 3) := by decide +kernel
theorem dX9_next_26 : decode cX9_next 26 = .ok (.aload_n 0, 1) := by decide +kernel
theorem dX9_next_27 : decode cX9_next 27 = .ok (.aload_n 0, 1) := by decide +kernel
theorem dX9_next_28 : decode cX9_next 28 = .ok (.getfield 30, 3) := by decide +kernel
theorem dX9_next_31 : decode cX9_next 31 = .ok (.iload_n 1, 1) := by decide +kernel
theorem dX9_next_32 : decode cX9_next 32 = .ok (.invokevirtual 164, 3) := by decide +kernel
theorem dX9_next_35 : decode cX9_next 35 = .ok (.invokevirtual 152, 3) := by decide +kernel
theorem dX9_next_38 : decode cX9_next 38 = .ok (.ireturn, 1) := by decide +kernel
theorem dX9_spare_0 : decode cX9_spare 0 = .ok (.aload_n 0, 1) := by decide +kernel
theorem dX9_spare_1 : decode cX9_spare 1 = .ok (.iload_n 1, 1) := by decide +kernel
theorem dX9_spare_2 : decode cX9_spare 2 = .ok (.invokevirtual 128, 3) := by decide +kernel
theorem dX9_spare_5 : decode cX9_spare 5 = .ok (.ifCond .ne 10, 3) := by decide +kernel
theorem dX9_spare_8 : decode cX9_spare 8 = .ok (.aload_n 0, 1) := by decide +kernel
theorem dX9_spare_9 : decode cX9_spare 9 = .ok (.ldc 59, 2) := by decide +kernel
theorem dX9_spare_11 : decode cX9_spare 11 = .ok (.invokevirtual 60, 3) := by decide +kernel
theorem dX9_spare_14 : decode cX9_spare 14 = .ok (.ireturn, 1) := by decide +kernel
theorem dX9_spare_15 : decode cX9_spare 15 = .ok (.aload_n 0, 1) := by decide +kernel
theorem dX9_spare_16 : decode cX9_spare 16 = .ok (.getfield 30, 3) := by decide +kernel
theorem dX9_spare_19 : decode cX9_spare 19 = .ok (.aload_n 0, 1) := by decide +kernel
theorem dX9_spare_20 : decode cX9_spare 20 = .ok (.getfield 16, 3) := by decide +kernel
theorem dX9_spare_23 : decode cX9_spare 23 = .ok (.invokevirtual 145, 3) := by decide +kernel
theorem dX9_spare_26 : decode cX9_spare 26 = .ok (.aload_n 0, 1) := by decide +kernel
theorem dX9_spare_27 : decode cX9_spare 27 = .ok (.aload_n 0, 1) := by decide +kernel
theorem dX9_spare_28 : decode cX9_spare 28 = .ok (.getfield 30, 3) := by decide +kernel
theorem dX9_spare_31 : decode cX9_spare 31 = .ok (.iload_n 1, 1) := by decide +kernel
theorem dX9_spare_32 : decode cX9_spare 32 = .ok (.invokevirtual 167, 3) := by decide +kernel
theorem dX9_spare_35 : decode cX9_spare 35 = .ok (.invokevirtual 152, 3) := by decide +kernel
theorem dX9_spare_38 : decode cX9_spare 38 = .ok (.ireturn, 1) := by decide +kernel
theorem dX9_minutesFor_0 : decode cX9_minutesFor 0 = .ok (.iload_n 1, 1) := by decide +kernel
theorem dX9_minutesFor_1 : decode cX9_minutesFor 1 = .ok (.ifCond .ge 10, 3) := by decide +kernel
theorem dX9_minutesFor_4 : decode cX9_minutesFor 4 = .ok (.aload_n 0, 1) := by decide +kernel
theorem dX9_minutesFor_5 : decode cX9_minutesFor 5 = .ok (.ldc 59, 2) := by decide +kernel
theorem dX9_minutesFor_7 : decode cX9_minutesFor 7 = .ok (.invokevirtual 60, 3) := by decide +kernel
theorem dX9_minutesFor_10 : decode cX9_minutesFor 10 = .ok (.ireturn, 1) := by decide +kernel
theorem dX9_minutesFor_11 : decode cX9_minutesFor 11 = .ok (.aload_n 0, 1) := by decide +kernel
theorem dX9_minutesFor_12 : decode cX9_minutesFor 12 = .ok (.getfield 30, 3) := by decide +kernel
theorem dX9_minutesFor_15 : decode cX9_minutesFor 15 = .ok (.aload_n 0, 1) := by decide +kernel
theorem dX9_minutesFor_16 : decode cX9_minutesFor 16 = .ok (.getfield 16, 3) := by decide +kernel
theorem dX9_minutesFor_19 : decode cX9_minutesFor 19 = .ok (.invokevirtual 145, 3) := by decide +kernel
theorem dX9_minutesFor_22 : decode cX9_minutesFor 22 = .ok (.aload_n 0, 1) := by decide +kernel
theorem dX9_minutesFor_23 : decode cX9_minutesFor 23 = .ok (.aload_n 0, 1) := by decide +kernel
theorem dX9_minutesFor_24 : decode cX9_minutesFor 24 = .ok (.getfield 30, 3) := by decide +kernel
theorem dX9_minutesFor_27 : decode cX9_minutesFor 27 = .ok (.iload_n 1, 1) := by decide +kernel
theorem dX9_minutesFor_28 : decode cX9_minutesFor 28 = .ok (.invokevirtual 170, 3) := by decide +kernel
theorem dX9_minutesFor_31 : decode cX9_minutesFor 31 = .ok (.invokevirtual 152, 3) := by decide +kernel
theorem dX9_minutesFor_34 : decode cX9_minutesFor 34 = .ok (.ireturn, 1) := by decide +kernel
theorem dX9_queue_0 : decode cX9_queue 0 = .ok (.aload_n 0, 1) := by decide +kernel
theorem dX9_queue_1 : decode cX9_queue 1 = .ok (.iload_n 1, 1) := by decide +kernel
theorem dX9_queue_2 : decode cX9_queue 2 = .ok (.invokevirtual 79, 3) := by decide +kernel
theorem dX9_queue_5 : decode cX9_queue 5 = .ok (.ifCond .ne 10, 3) := by decide +kernel
theorem dX9_queue_8 : decode cX9_queue 8 = .ok (.aload_n 0, 1) := by decide +kernel
theorem dX9_queue_9 : decode cX9_queue 9 = .ok (.ldc 59, 2) := by decide +kernel
theorem dX9_queue_11 : decode cX9_queue 11 = .ok (.invokevirtual 60, 3) := by decide +kernel
theorem dX9_queue_14 : decode cX9_queue 14 = .ok (.ireturn, 1) := by decide +kernel
theorem dX9_queue_15 : decode cX9_queue 15 = .ok (.aload_n 0, 1) := by decide +kernel
theorem dX9_queue_16 : decode cX9_queue 16 = .ok (.getfield 16, 3) := by decide +kernel
theorem dX9_queue_19 : decode cX9_queue 19 = .ok (.getfield 173, 3) := by decide +kernel
theorem dX9_queue_22 : decode cX9_queue 22 = .ok (.iload_n 1, 1) := by decide +kernel
theorem dX9_queue_23 : decode cX9_queue 23 = .ok (.invokevirtual 177, 3) := by decide +kernel
theorem dX9_queue_26 : decode cX9_queue 26 = .ok (.pop, 1) := by decide +kernel
theorem dX9_queue_27 : decode cX9_queue 27 = .ok (.aload_n 0, 1) := by decide +kernel
theorem dX9_queue_28 : decode cX9_queue 28 = .ok (.getfield 16, 3) := by decide +kernel
theorem dX9_queue_31 : decode cX9_queue 31 = .ok (.getfield 173, 3) := by decide +kernel
theorem dX9_queue_34 : decode cX9_queue 34 = .ok (.iload_n 1, 1) := by decide +kernel
theorem dX9_queue_35 : decode cX9_queue 35 = .ok (.invokevirtual 182, 3) := by decide +kernel
theorem dX9_queue_38 : decode cX9_queue 38 = .ok (.aload_n 0, 1) := by decide +kernel
theorem dX9_queue_39 : decode cX9_queue 39 = .ok (.getfield 16, 3) := by decide +kernel
theorem dX9_queue_42 : decode cX9_queue 42 = .ok (.getfield 173, 3) := by decide +kernel
theorem dX9_queue_45 : decode cX9_queue 45 = .ok (.getfield 186, 3) := by decide +kernel
theorem dX9_queue_48 : decode cX9_queue 48 = .ok (.ireturn, 1) := by decide +kernel
theorem dX9_skip_0 : decode cX9_skip 0 = .ok (.aload_n 0, 1) := by decide +kernel
theorem dX9_skip_1 : decode cX9_skip 1 = .ok (.iload_n 1, 1) := by decide +kernel
theorem dX9_skip_2 : decode cX9_skip 2 = .ok (.invokevirtual 79, 3) := by decide +kernel
theorem dX9_skip_5 : decode cX9_skip 5 = .ok (.ifCond .ne 10, 3) := by decide +kernel
theorem dX9_skip_8 : decode cX9_skip 8 = .ok (.aload_n 0, 1) := by decide +kernel
theorem dX9_skip_9 : decode cX9_skip 9 = .ok (.ldc 59, 2) := by decide +kernel
theorem dX9_skip_11 : decode cX9_skip 11 = .ok (.invokevirtual 60, 3) := by decide +kernel
theorem dX9_skip_14 : decode cX9_skip 14 = .ok (.ireturn, 1) := by decide +kernel
theorem dX9_skip_15 : decode cX9_skip 15 = .ok (.aload_n 0, 1) := by decide +kernel
theorem dX9_skip_16 : decode cX9_skip 16 = .ok (.aload_n 0, 1) := by decide +kernel
theorem dX9_skip_17 : decode cX9_skip 17 = .ok (.getfield 16, 3) := by decide +kernel
theorem dX9_skip_20 : decode cX9_skip 20 = .ok (.getfield 173, 3) := by decide +kernel
theorem dX9_skip_23 : decode cX9_skip 23 = .ok (.iload_n 1, 1) := by decide +kernel
theorem dX9_skip_24 : decode cX9_skip 24 = .ok (.invokevirtual 177, 3) := by decide +kernel
theorem dX9_skip_27 : decode cX9_skip 27 = .ok (.invokevirtual 152, 3) := by decide +kernel
theorem dX9_skip_30 : decode cX9_skip 30 = .ok (.ireturn, 1) := by decide +kernel
theorem dX9_ith_0 : decode cX9_ith 0 = .ok (.iload_n 1, 1) := by decide +kernel
theorem dX9_ith_1 : decode cX9_ith 1 = .ok (.iconst 0, 1) := by decide +kernel
theorem dX9_ith_2 : decode cX9_ith 2 = .ok (.aload_n 0, 1) := by decide +kernel
theorem dX9_ith_3 : decode cX9_ith 3 = .ok (.getfield 16, 3) := by decide +kernel
theorem dX9_ith_6 : decode cX9_ith 6 = .ok (.getfield 173, 3) := by decide +kernel
theorem dX9_ith_9 : decode cX9_ith 9 = .ok (.getfield 186, 3) := by decide +kernel
theorem dX9_ith_12 : decode cX9_ith 12 = .ok (.iconst 1, 1) := by decide +kernel
theorem dX9_ith_13 : decode cX9_ith 13 = .ok (.isub, 1) := by decide +kernel
theorem dX9_ith_14 : decode cX9_ith 14 = .ok (.invokestatic 55, 3) := by decide +kernel
theorem dX9_ith_17 : decode cX9_ith 17 = .ok (.ifCond .ne 10, 3) := by decide +kernel
theorem dX9_ith_20 : decode cX9_ith 20 = .ok (.aload_n 0, 1) := by decide +kernel
theorem dX9_ith_21 : decode cX9_ith 21 = .ok (.ldc 59, 2) := by decide +kernel
theorem dX9_ith_23 : decode cX9_ith 23 = .ok (.invokevirtual 60, 3) := by decide +kernel
theorem dX9_ith_26 : decode cX9_ith 26 = .ok (.ireturn, 1) := by decide +kernel
theorem dX9_ith_27 : decode cX9_ith 27 = .ok (.aload_n 0, 1) := by decide +kernel
theorem dX9_ith_28 : decode cX9_ith 28 = .ok (.getfield 16, 3) := by decide +kernel
theorem dX9_ith_31 : decode cX9_ith 31 = .ok (.getfield 173, 3) := by decide +kernel
theorem dX9_ith_34 : decode cX9_ith 34 = .ok (.getfield 190, 3) := by decide +kernel
theorem dX9_ith_37 : decode cX9_ith 37 = .ok (.iload_n 1, 1) := by decide +kernel
theorem dX9_ith_38 : decode cX9_ith 38 = .ok (.iaload, 1) := by decide +kernel
theorem dX9_ith_39 : decode cX9_ith 39 = .ok (.ireturn, 1) := by decide +kernel
theorem dX9_learn_0 : decode cX9_learn 0 = .ok (.aload_n 0, 1) := by decide +kernel
theorem dX9_learn_1 : decode cX9_learn 1 = .ok (.iload_n 1, 1) := by decide +kernel
theorem dX9_learn_2 : decode cX9_learn 2 = .ok (.invokevirtual 79, 3) := by decide +kernel
theorem dX9_learn_5 : decode cX9_learn 5 = .ok (.ifCond .eq 14, 3) := by decide +kernel
theorem dX9_learn_8 : decode cX9_learn 8 = .ok (.iload_n 2, 1) := by decide +kernel
theorem dX9_learn_9 : decode cX9_learn 9 = .ok (.iconst 1, 1) := by decide +kernel
theorem dX9_learn_10 : decode cX9_learn 10 = .ok (.sipush 600, 3) := by decide +kernel
theorem dX9_learn_13 : decode cX9_learn 13 = .ok (.invokestatic 55, 3) := by decide +kernel
theorem dX9_learn_16 : decode cX9_learn 16 = .ok (.ifCond .ne 10, 3) := by decide +kernel
theorem dX9_learn_19 : decode cX9_learn 19 = .ok (.aload_n 0, 1) := by decide +kernel
theorem dX9_learn_20 : decode cX9_learn 20 = .ok (.ldc 59, 2) := by decide +kernel
theorem dX9_learn_22 : decode cX9_learn 22 = .ok (.invokevirtual 60, 3) := by decide +kernel
theorem dX9_learn_25 : decode cX9_learn 25 = .ok (.ireturn, 1) := by decide +kernel
theorem dX9_learn_26 : decode cX9_learn 26 = .ok (.aload_n 0, 1) := by decide +kernel
theorem dX9_learn_27 : decode cX9_learn 27 = .ok (.getfield 16, 3) := by decide +kernel
theorem dX9_learn_30 : decode cX9_learn 30 = .ok (.getfield 64, 3) := by decide +kernel
theorem dX9_learn_33 : decode cX9_learn 33 = .ok (.iload_n 1, 1) := by decide +kernel
theorem dX9_learn_34 : decode cX9_learn 34 = .ok (.iload_n 2, 1) := by decide +kernel
theorem dX9_learn_35 : decode cX9_learn 35 = .ok (.invokevirtual 192, 3) := by decide +kernel
theorem dX9_learn_38 : decode cX9_learn 38 = .ok (.aload_n 0, 1) := by decide +kernel
theorem dX9_learn_39 : decode cX9_learn 39 = .ok (.getfield 16, 3) := by decide +kernel
theorem dX9_learn_42 : decode cX9_learn 42 = .ok (.getfield 64, 3) := by decide +kernel
theorem dX9_learn_45 : decode cX9_learn 45 = .ok (.getfield 108, 3) := by decide +kernel
theorem dX9_learn_48 : decode cX9_learn 48 = .ok (.iload_n 1, 1) := by decide +kernel
theorem dX9_learn_49 : decode cX9_learn 49 = .ok (.iaload, 1) := by decide +kernel
theorem dX9_learn_50 : decode cX9_learn 50 = .ok (.ireturn, 1) := by decide +kernel
theorem dX9_evening_0 : decode cX9_evening 0 = .ok (.iload_n 1, 1) := by decide +kernel
theorem dX9_evening_1 : decode cX9_evening 1 = .ok (.iconst 0, 1) := by decide +kernel
theorem dX9_evening_2 : decode cX9_evening 2 = .ok (.sipush 600, 3) := by decide +kernel
theorem dX9_evening_5 : decode cX9_evening 5 = .ok (.invokestatic 55, 3) := by decide +kernel
theorem dX9_evening_8 : decode cX9_evening 8 = .ok (.ifCond .ne 10, 3) := by decide +kernel
theorem dX9_evening_11 : decode cX9_evening 11 = .ok (.aload_n 0, 1) := by decide +kernel
theorem dX9_evening_12 : decode cX9_evening 12 = .ok (.ldc 59, 2) := by decide +kernel
theorem dX9_evening_14 : decode cX9_evening 14 = .ok (.invokevirtual 60, 3) := by decide +kernel
theorem dX9_evening_17 : decode cX9_evening 17 = .ok (.ireturn, 1) := by decide +kernel
theorem dX9_evening_18 : decode cX9_evening 18 = .ok (.aload_n 0, 1) := by decide +kernel
theorem dX9_evening_19 : decode cX9_evening 19 = .ok (.getfield 16, 3) := by decide +kernel
theorem dX9_evening_22 : decode cX9_evening 22 = .ok (.iload_n 1, 1) := by decide +kernel
theorem dX9_evening_23 : decode cX9_evening 23 = .ok (.invokevirtual 196, 3) := by decide +kernel
theorem dX9_evening_26 : decode cX9_evening 26 = .ok (.ireturn, 1) := by decide +kernel
theorem dX9_line_0 : decode cX9_line 0 = .ok (.iload_n 1, 1) := by decide +kernel
theorem dX9_line_1 : decode cX9_line 1 = .ok (.iconst 1, 1) := by decide +kernel
theorem dX9_line_2 : decode cX9_line 2 = .ok (.bipush 100, 2) := by decide +kernel
theorem dX9_line_4 : decode cX9_line 4 = .ok (.invokestatic 55, 3) := by decide +kernel
theorem dX9_line_7 : decode cX9_line 7 = .ok (.ifCond .ne 10, 3) := by decide +kernel
theorem dX9_line_10 : decode cX9_line 10 = .ok (.aload_n 0, 1) := by decide +kernel
theorem dX9_line_11 : decode cX9_line 11 = .ok (.ldc 59, 2) := by decide +kernel
theorem dX9_line_13 : decode cX9_line 13 = .ok (.invokevirtual 60, 3) := by decide +kernel
theorem dX9_line_16 : decode cX9_line 16 = .ok (.ireturn, 1) := by decide +kernel
theorem dX9_line_17 : decode cX9_line 17 = .ok (.aload_n 0, 1) := by decide +kernel
theorem dX9_line_18 : decode cX9_line 18 = .ok (.getfield 16, 3) := by decide +kernel
theorem dX9_line_21 : decode cX9_line 21 = .ok (.getfield 199, 3) := by decide +kernel
theorem dX9_line_24 : decode cX9_line 24 = .ok (.istore_n 2, 1) := by decide +kernel
theorem dX9_line_25 : decode cX9_line 25 = .ok (.aload_n 0, 1) := by decide +kernel
theorem dX9_line_26 : decode cX9_line 26 = .ok (.getfield 16, 3) := by decide +kernel
theorem dX9_line_29 : decode cX9_line 29 = .ok (.iload_n 1, 1) := by decide +kernel
theorem dX9_line_30 : decode cX9_line 30 = .ok (.putfield 199, 3) := by decide +kernel
theorem dX9_line_33 : decode cX9_line 33 = .ok (.iload_n 2, 1) := by decide +kernel
theorem dX9_line_34 : decode cX9_line 34 = .ok (.ireturn, 1) := by decide +kernel
theorem dX9_known_0 : decode cX9_known 0 = .ok (.aload_n 0, 1) := by decide +kernel
theorem dX9_known_1 : decode cX9_known 1 = .ok (.getfield 16, 3) := by decide +kernel
theorem dX9_known_4 : decode cX9_known 4 = .ok (.invokevirtual 202, 3) := by decide +kernel
theorem dX9_known_7 : decode cX9_known 7 = .ok (.ireturn, 1) := by decide +kernel
theorem dX9_days_0 : decode cX9_days 0 = .ok (.iload_n 1, 1) := by decide +kernel
theorem dX9_days_1 : decode cX9_days 1 = .ok (.iconst 1, 1) := by decide +kernel
theorem dX9_days_2 : decode cX9_days 2 = .ok (.bipush 30, 2) := by decide +kernel
theorem dX9_days_4 : decode cX9_days 4 = .ok (.invokestatic 55, 3) := by decide +kernel
theorem dX9_days_7 : decode cX9_days 7 = .ok (.ifCond .ne 10, 3) := by decide +kernel
theorem dX9_days_10 : decode cX9_days 10 = .ok (.aload_n 0, 1) := by decide +kernel
theorem dX9_days_11 : decode cX9_days 11 = .ok (.ldc 59, 2) := by decide +kernel
theorem dX9_days_13 : decode cX9_days 13 = .ok (.invokevirtual 60, 3) := by decide +kernel
theorem dX9_days_16 : decode cX9_days 16 = .ok (.ireturn, 1) := by decide +kernel
theorem dX9_days_17 : decode cX9_days 17 = .ok (.aload_n 0, 1) := by decide +kernel
theorem dX9_days_18 : decode cX9_days 18 = .ok (.iload_n 1, 1) := by decide +kernel
theorem dX9_days_19 : decode cX9_days 19 = .ok (.invokevirtual 206, 3) := by decide +kernel
theorem dX9_days_22 : decode cX9_days 22 = .ok (.ifCond .ne 10, 3) := by decide +kernel
theorem dX9_days_25 : decode cX9_days 25 = .ok (.aload_n 0, 1) := by decide +kernel
theorem dX9_days_26 : decode cX9_days 26 = .ok (.ldc 209, 2) := by decide +kernel
theorem dX9_days_28 : decode cX9_days 28 = .ok (.invokevirtual 60, 3) := by decide +kernel
theorem dX9_days_31 : decode cX9_days 31 = .ok (.ireturn, 1) := by decide +kernel
theorem dX9_days_32 : decode cX9_days 32 = .ok (.aload_n 0, 1) := by decide +kernel
theorem dX9_days_33 : decode cX9_days 33 = .ok (.getfield 16, 3) := by decide +kernel
theorem dX9_days_36 : decode cX9_days 36 = .ok (.getfield 210, 3) := by decide +kernel
theorem dX9_days_39 : decode cX9_days 39 = .ok (.istore_n 2, 1) := by decide +kernel
theorem dX9_days_40 : decode cX9_days 40 = .ok (.aload_n 0, 1) := by decide +kernel
theorem dX9_days_41 : decode cX9_days 41 = .ok (.getfield 16, 3) := by decide +kernel
theorem dX9_days_44 : decode cX9_days 44 = .ok (.iload_n 1, 1) := by decide +kernel
theorem dX9_days_45 : decode cX9_days 45 = .ok (.invokevirtual 213, 3) := by decide +kernel
theorem dX9_days_48 : decode cX9_days 48 = .ok (.aload_n 0, 1) := by decide +kernel
theorem dX9_days_49 : decode cX9_days 49 = .ok (.getfield 16, 3) := by decide +kernel
theorem dX9_days_52 : decode cX9_days 52 = .ok (.getfield 210, 3) := by decide +kernel
theorem dX9_days_55 : decode cX9_days 55 = .ok (.iload_n 2, 1) := by decide +kernel
theorem dX9_days_56 : decode cX9_days 56 = .ok (.isub, 1) := by decide +kernel
theorem dX9_days_57 : decode cX9_days 57 = .ok (.ireturn, 1) := by decide +kernel
theorem dX9_now_0 : decode cX9_now 0 = .ok (.iload_n 1, 1) := by decide +kernel
theorem dX9_now_1 : decode cX9_now 1 = .ok (.tableswitch 73 0 3 #[31, 39, 47, 55], 31) := by decide +kernel
theorem dX9_now_32 : decode cX9_now 32 = .ok (.aload_n 0, 1) := by decide +kernel
theorem dX9_now_33 : decode cX9_now 33 = .ok (.getfield 16, 3) := by decide +kernel
theorem dX9_now_36 : decode cX9_now 36 = .ok (.getfield 216, 3) := by decide +kernel
theorem dX9_now_39 : decode cX9_now 39 = .ok (.ireturn, 1) := by decide +kernel
theorem dX9_now_40 : decode cX9_now 40 = .ok (.aload_n 0, 1) := by decide +kernel
theorem dX9_now_41 : decode cX9_now 41 = .ok (.getfield 16, 3) := by decide +kernel
theorem dX9_now_44 : decode cX9_now 44 = .ok (.getfield 199, 3) := by decide +kernel
theorem dX9_now_47 : decode cX9_now 47 = .ok (.ireturn, 1) := by decide +kernel
theorem dX9_now_48 : decode cX9_now 48 = .ok (.aload_n 0, 1) := by decide +kernel
theorem dX9_now_49 : decode cX9_now 49 = .ok (.getfield 16, 3) := by decide +kernel
theorem dX9_now_52 : decode cX9_now 52 = .ok (.getfield 210, 3) := by decide +kernel
theorem dX9_now_55 : decode cX9_now 55 = .ok (.ireturn, 1) := by decide +kernel
theorem dX9_now_56 : decode cX9_now 56 = .ok (.aload_n 0, 1) := by decide +kernel
theorem dX9_now_57 : decode cX9_now 57 = .ok (.getfield 16, 3) := by decide +kernel
theorem dX9_now_60 : decode cX9_now 60 = .ok (.getfield 111, 3) := by decide +kernel
theorem dX9_now_63 : decode cX9_now 63 = .ok (.aload_n 0, 1) := by decide +kernel
theorem dX9_now_64 : decode cX9_now 64 = .ok (.getfield 16, 3) := by decide +kernel
theorem dX9_now_67 : decode cX9_now 67 = .ok (.getfield 216, 3) := by decide +kernel
theorem dX9_now_70 : decode cX9_now 70 = .ok (.invokevirtual 219, 3) := by decide +kernel
theorem dX9_now_73 : decode cX9_now 73 = .ok (.ireturn, 1) := by decide +kernel
theorem dX9_now_74 : decode cX9_now 74 = .ok (.aload_n 0, 1) := by decide +kernel
theorem dX9_now_75 : decode cX9_now 75 = .ok (.ldc 59, 2) := by decide +kernel
theorem dX9_now_77 : decode cX9_now 77 = .ok (.invokevirtual 60, 3) := by decide +kernel
theorem dX9_now_80 : decode cX9_now 80 = .ok (.ireturn, 1) := by decide +kernel
theorem dX9_on_0 : decode cX9_on 0 = .ok (.iload_n 1, 1) := by decide +kernel
theorem dX9_on_1 : decode cX9_on 1 = .ok (.iconst 0, 1) := by decide +kernel
theorem dX9_on_2 : decode cX9_on 2 = .ok (.bipush 60, 2) := by decide +kernel
theorem dX9_on_4 : decode cX9_on 4 = .ok (.invokestatic 55, 3) := by decide +kernel
theorem dX9_on_7 : decode cX9_on 7 = .ok (.ifCond .eq 12, 3) := by decide +kernel
theorem dX9_on_10 : decode cX9_on 10 = .ok (.iload_n 2, 1) := by decide +kernel
theorem dX9_on_11 : decode cX9_on 11 = .ok (.iconst 0, 1) := by decide +kernel
theorem dX9_on_12 : decode cX9_on 12 = .ok (.iconst 2, 1) := by decide +kernel
theorem dX9_on_13 : decode cX9_on 13 = .ok (.invokestatic 55, 3) := by decide +kernel
theorem dX9_on_16 : decode cX9_on 16 = .ok (.ifCond .ne 10, 3) := by decide +kernel
theorem dX9_on_19 : decode cX9_on 19 = .ok (.aload_n 0, 1) := by decide +kernel
theorem dX9_on_20 : decode cX9_on 20 = .ok (.ldc 59, 2) := by decide +kernel
theorem dX9_on_22 : decode cX9_on 22 = .ok (.invokevirtual 60, 3) := by decide +kernel
theorem dX9_on_25 : decode cX9_on 25 = .ok (.ireturn, 1) := by decide +kernel
theorem dX9_on_26 : decode cX9_on 26 = .ok (.aload_n 0, 1) := by decide +kernel
theorem dX9_on_27 : decode cX9_on 27 = .ok (.iload_n 1, 1) := by decide +kernel
theorem dX9_on_28 : decode cX9_on 28 = .ok (.invokevirtual 206, 3) := by decide +kernel
theorem dX9_on_31 : decode cX9_on 31 = .ok (.ifCond .ne 10, 3) := by decide +kernel
theorem dX9_on_34 : decode cX9_on 34 = .ok (.aload_n 0, 1) := by decide +kernel
theorem dX9_on_35 : decode cX9_on 35 = .ok (.ldc 209, 2) := by decide +kernel
theorem dX9_on_37 : decode cX9_on 37 = .ok (.invokevirtual 60, 3) := by decide +kernel
theorem dX9_on_40 : decode cX9_on 40 = .ok (.ireturn, 1) := by decide +kernel
theorem dX9_on_41 : decode cX9_on 41 = .ok (.aload_n 0, 1) := by decide +kernel
theorem dX9_on_42 : decode cX9_on 42 = .ok (.getfield 37, 3) := by decide +kernel
theorem dX9_on_45 : decode cX9_on 45 = .ok (.aload_n 0, 1) := by decide +kernel
theorem dX9_on_46 : decode cX9_on 46 = .ok (.getfield 16, 3) := by decide +kernel
theorem dX9_on_49 : decode cX9_on 49 = .ok (.iload_n 1, 1) := by decide +kernel
theorem dX9_on_50 : decode cX9_on 50 = .ok (.invokevirtual 222, 3) := by decide +kernel
theorem dX9_on_53 : decode cX9_on 53 = .ok (.aload_n 0, 1) := by decide +kernel
theorem dX9_on_54 : decode cX9_on 54 = .ok (.getfield 37, 3) := by decide +kernel
theorem dX9_on_57 : decode cX9_on 57 = .ok (.getfield 226, 3) := by decide +kernel
theorem dX9_on_60 : decode cX9_on 60 = .ok (.astore_n 3, 1) := by decide +kernel
theorem dX9_on_61 : decode cX9_on 61 = .ok (.iload_n 2, 1) := by decide +kernel
theorem dX9_on_62 : decode cX9_on 62 = .ok (.ifCond .ne 8, 3) := by decide +kernel
theorem dX9_on_65 : decode cX9_on 65 = .ok (.aload_n 3, 1) := by decide +kernel
theorem dX9_on_66 : decode cX9_on 66 = .ok (.getfield 210, 3) := by decide +kernel
theorem dX9_on_69 : decode cX9_on 69 = .ok (.ireturn, 1) := by decide +kernel
theorem dX9_on_70 : decode cX9_on 70 = .ok (.iload_n 2, 1) := by decide +kernel
theorem dX9_on_71 : decode cX9_on 71 = .ok (.iconst 1, 1) := by decide +kernel
theorem dX9_on_72 : decode cX9_on 72 = .ok (.if_icmp .ne 10, 3) := by decide +kernel
theorem dX9_on_75 : decode cX9_on 75 = .ok (.aload_n 3, 1) := by decide +kernel
theorem dX9_on_76 : decode cX9_on 76 = .ok (.invokevirtual 202, 3) := by decide +kernel
theorem dX9_on_79 : decode cX9_on 79 = .ok (.goto 20, 3) := by decide +kernel
theorem dX9_on_82 : decode cX9_on 82 = .ok (.aload_n 3, 1) := by decide +kernel
theorem dX9_on_83 : decode cX9_on 83 = .ok (.getfield 64, 3) := by decide +kernel
theorem dX9_on_86 : decode cX9_on 86 = .ok (.getfield 108, 3) := by decide +kernel
theorem dX9_on_89 : decode cX9_on 89 = .ok (.aload_n 3, 1) := by decide +kernel
theorem dX9_on_90 : decode cX9_on 90 = .ok (.getfield 64, 3) := by decide +kernel
theorem dX9_on_93 : decode cX9_on 93 = .ok (.getfield 229, 3) := by decide +kernel
theorem dX9_on_96 : decode cX9_on 96 = .ok (.invokestatic 230, 3) := by decide +kernel
theorem dX9_on_99 : decode cX9_on 99 = .ok (.ireturn, 1) := by decide +kernel
theorem dX9_forgot_0 : decode cX9_forgot 0 = .ok (.aload_n 0, 1) := by decide +kernel
theorem dX9_forgot_1 : decode cX9_forgot 1 = .ok (.iload_n 1, 1) := by decide +kernel
theorem dX9_forgot_2 : decode cX9_forgot 2 = .ok (.invokevirtual 79, 3) := by decide +kernel
theorem dX9_forgot_5 : decode cX9_forgot 5 = .ok (.ifCond .ne 10, 3) := by decide +kernel
theorem dX9_forgot_8 : decode cX9_forgot 8 = .ok (.aload_n 0, 1) := by decide +kernel
theorem dX9_forgot_9 : decode cX9_forgot 9 = .ok (.ldc 59, 2) := by decide +kernel
theorem dX9_forgot_11 : decode cX9_forgot 11 = .ok (.invokevirtual 60, 3) := by decide +kernel
theorem dX9_forgot_14 : decode cX9_forgot 14 = .ok (.ireturn, 1) := by decide +kernel
theorem dX9_forgot_15 : decode cX9_forgot 15 = .ok (.aload_n 0, 1) := by decide +kernel
theorem dX9_forgot_16 : decode cX9_forgot 16 = .ok (.bipush 60, 2) := by decide +kernel
theorem dX9_forgot_18 : decode cX9_forgot 18 = .ok (.invokevirtual 206, 3) := by decide +kernel
theorem dX9_forgot_21 : decode cX9_forgot 21 = .ok (.ifCond .ne 10, 3) := by decide +kernel
theorem dX9_forgot_24 : decode cX9_forgot 24 = .ok (.aload_n 0, 1) := by decide +kernel
theorem dX9_forgot_25 : decode cX9_forgot 25 = .ok (.ldc 209, 2) := by decide +kernel
theorem dX9_forgot_27 : decode cX9_forgot 27 = .ok (.invokevirtual 60, 3) := by decide +kernel
theorem dX9_forgot_30 : decode cX9_forgot 30 = .ok (.ireturn, 1) := by decide +kernel
theorem dX9_forgot_31 : decode cX9_forgot 31 = .ok (.aload_n 0, 1) := by decide +kernel
theorem dX9_forgot_32 : decode cX9_forgot 32 = .ok (.aload_n 0, 1) := by decide +kernel
theorem dX9_forgot_33 : decode cX9_forgot 33 = .ok (.getfield 37, 3) := by decide +kernel
theorem dX9_forgot_36 : decode cX9_forgot 36 = .ok (.aload_n 0, 1) := by decide +kernel
theorem dX9_forgot_37 : decode cX9_forgot 37 = .ok (.getfield 16, 3) := by decide +kernel
theorem dX9_forgot_40 : decode cX9_forgot 40 = .ok (.iload_n 1, 1) := by decide +kernel
theorem dX9_forgot_41 : decode cX9_forgot 41 = .ok (.invokevirtual 234, 3) := by decide +kernel
theorem dX9_forgot_44 : decode cX9_forgot 44 = .ok (.invokevirtual 152, 3) := by decide +kernel
theorem dX9_forgot_47 : decode cX9_forgot 47 = .ok (.ireturn, 1) := by decide +kernel
theorem dX9_useless_0 : decode cX9_useless 0 = .ok (.iload_n 1, 1) := by decide +kernel
theorem dX9_useless_1 : decode cX9_useless 1 = .ok (.iconst 1, 1) := by decide +kernel
theorem dX9_useless_2 : decode cX9_useless 2 = .ok (.bipush 60, 2) := by decide +kernel
theorem dX9_useless_4 : decode cX9_useless 4 = .ok (.invokestatic 55, 3) := by decide +kernel
theorem dX9_useless_7 : decode cX9_useless 7 = .ok (.ifCond .ne 10, 3) := by decide +kernel
theorem dX9_useless_10 : decode cX9_useless 10 = .ok (.aload_n 0, 1) := by decide +kernel
theorem dX9_useless_11 : decode cX9_useless 11 = .ok (.ldc 59, 2) := by decide +kernel
theorem dX9_useless_13 : decode cX9_useless 13 = .ok (.invokevirtual 60, 3) := by decide +kernel
theorem dX9_useless_16 : decode cX9_useless 16 = .ok (.ireturn, 1) := by decide +kernel
theorem dX9_useless_17 : decode cX9_useless 17 = .ok (.aload_n 0, 1) := by decide +kernel
theorem dX9_useless_18 : decode cX9_useless 18 = .ok (.iload_n 1, 1) := by decide +kernel
theorem dX9_useless_19 : decode cX9_useless 19 = .ok (.invokevirtual 206, 3) := by decide +kernel
theorem dX9_useless_22 : decode cX9_useless 22 = .ok (.ifCond .ne 10, 3) := by decide +kernel
theorem dX9_useless_25 : decode cX9_useless 25 = .ok (.aload_n 0, 1) := by decide +kernel
theorem dX9_useless_26 : decode cX9_useless 26 = .ok (.ldc 209, 2) := by decide +kernel
theorem dX9_useless_28 : decode cX9_useless 28 = .ok (.invokevirtual 60, 3) := by decide +kernel
theorem dX9_useless_31 : decode cX9_useless 31 = .ok (.ireturn, 1) := by decide +kernel
theorem dX9_useless_32 : decode cX9_useless 32 = .ok (.aload_n 0, 1) := by decide +kernel
theorem dX9_useless_33 : decode cX9_useless 33 = .ok (.getfield 37, 3) := by decide +kernel
theorem dX9_useless_36 : decode cX9_useless 36 = .ok (.aload_n 0, 1) := by decide +kernel
theorem dX9_useless_37 : decode cX9_useless 37 = .ok (.getfield 16, 3) := by decide +kernel
theorem dX9_useless_40 : decode cX9_useless 40 = .ok (.iload_n 1, 1) := by decide +kernel
theorem dX9_useless_41 : decode cX9_useless 41 = .ok (.invokevirtual 238, 3) := by decide +kernel
theorem dX9_useless_44 : decode cX9_useless 44 = .ok (.ireturn, 1) := by decide +kernel
theorem dX9_tonight_0 : decode cX9_tonight 0 = .ok (.iload_n 1, 1) := by decide +kernel
theorem dX9_tonight_1 : decode cX9_tonight 1 = .ok (.iconst 1, 1) := by decide +kernel
theorem dX9_tonight_2 : decode cX9_tonight 2 = .ok (.bipush 60, 2) := by decide +kernel
theorem dX9_tonight_4 : decode cX9_tonight 4 = .ok (.invokestatic 55, 3) := by decide +kernel
theorem dX9_tonight_7 : decode cX9_tonight 7 = .ok (.ifCond .ne 10, 3) := by decide +kernel
theorem dX9_tonight_10 : decode cX9_tonight 10 = .ok (.aload_n 0, 1) := by decide +kernel
theorem dX9_tonight_11 : decode cX9_tonight 11 = .ok (.ldc 59, 2) := by decide +kernel
theorem dX9_tonight_13 : decode cX9_tonight 13 = .ok (.invokevirtual 60, 3) := by decide +kernel
theorem dX9_tonight_16 : decode cX9_tonight 16 = .ok (.ireturn, 1) := by decide +kernel
theorem dX9_tonight_17 : decode cX9_tonight 17 = .ok (.aload_n 0, 1) := by decide +kernel
theorem dX9_tonight_18 : decode cX9_tonight 18 = .ok (.iload_n 1, 1) := by decide +kernel
theorem dX9_tonight_19 : decode cX9_tonight 19 = .ok (.invokevirtual 206, 3) := by decide +kernel
theorem dX9_tonight_22 : decode cX9_tonight 22 = .ok (.ifCond .ne 10, 3) := by decide +kernel
theorem dX9_tonight_25 : decode cX9_tonight 25 = .ok (.aload_n 0, 1) := by decide +kernel
theorem dX9_tonight_26 : decode cX9_tonight 26 = .ok (.ldc 209, 2) := by decide +kernel
theorem dX9_tonight_28 : decode cX9_tonight 28 = .ok (.invokevirtual 60, 3) := by decide +kernel
theorem dX9_tonight_31 : decode cX9_tonight 31 = .ok (.ireturn, 1) := by decide +kernel
theorem dX9_tonight_32 : decode cX9_tonight 32 = .ok (.aload_n 0, 1) := by decide +kernel
theorem dX9_tonight_33 : decode cX9_tonight 33 = .ok (.aload_n 0, 1) := by decide +kernel
theorem dX9_tonight_34 : decode cX9_tonight 34 = .ok (.getfield 37, 3) := by decide +kernel
theorem dX9_tonight_37 : decode cX9_tonight 37 = .ok (.aload_n 0, 1) := by decide +kernel
theorem dX9_tonight_38 : decode cX9_tonight 38 = .ok (.getfield 16, 3) := by decide +kernel
theorem dX9_tonight_41 : decode cX9_tonight 41 = .ok (.iload_n 1, 1) := by decide +kernel
theorem dX9_tonight_42 : decode cX9_tonight 42 = .ok (.invokevirtual 241, 3) := by decide +kernel
theorem dX9_tonight_45 : decode cX9_tonight 45 = .ok (.invokevirtual 152, 3) := by decide +kernel
theorem dX9_tonight_48 : decode cX9_tonight 48 = .ok (.ireturn, 1) := by decide +kernel
theorem dX9_plan_0 : decode cX9_plan 0 = .ok (.aload_n 0, 1) := by decide +kernel
theorem dX9_plan_1 : decode cX9_plan 1 = .ok (.iload_n 1, 1) := by decide +kernel
theorem dX9_plan_2 : decode cX9_plan 2 = .ok (.invokevirtual 128, 3) := by decide +kernel
theorem dX9_plan_5 : decode cX9_plan 5 = .ok (.ifCond .eq 34, 3) := by decide +kernel
theorem dX9_plan_8 : decode cX9_plan 8 = .ok (.iload_n 2, 1) := by decide +kernel
theorem dX9_plan_9 : decode cX9_plan 9 = .ok (.iconst 0, 1) := by decide +kernel
theorem dX9_plan_10 : decode cX9_plan 10 = .ok (.sipush 600, 3) := by decide +kernel
theorem dX9_plan_13 : decode cX9_plan 13 = .ok (.invokestatic 55, 3) := by decide +kernel
theorem dX9_plan_16 : decode cX9_plan 16 = .ok (.ifCond .eq 23, 3) := by decide +kernel
theorem dX9_plan_19 : decode cX9_plan 19 = .ok (.iload_n 3, 1) := by decide +kernel
theorem dX9_plan_20 : decode cX9_plan 20 = .ok (.iconst 1, 1) := by decide +kernel
theorem dX9_plan_21 : decode cX9_plan 21 = .ok (.bipush 60, 2) := by decide +kernel
theorem dX9_plan_23 : decode cX9_plan 23 = .ok (.invokestatic 55, 3) := by decide +kernel
theorem dX9_plan_26 : decode cX9_plan 26 = .ok (.ifCond .eq 13, 3) := by decide +kernel
theorem dX9_plan_29 : decode cX9_plan 29 = .ok (.iload 4, 2) := by decide +kernel
theorem dX9_plan_31 : decode cX9_plan 31 = .ok (.iconst (-1), 1) := by decide +kernel
theorem dX9_plan_32 : decode cX9_plan 32 = .ok (.iconst 4, 1) := by decide +kernel
theorem dX9_plan_33 : decode cX9_plan 33 = .ok (.invokestatic 55, 3) := by decide +kernel
theorem dX9_plan_36 : decode cX9_plan 36 = .ok (.ifCond .ne 10, 3) := by decide +kernel
theorem dX9_plan_39 : decode cX9_plan 39 = .ok (.aload_n 0, 1) := by decide +kernel
theorem dX9_plan_40 : decode cX9_plan 40 = .ok (.ldc 59, 2) := by decide +kernel
theorem dX9_plan_42 : decode cX9_plan 42 = .ok (.invokevirtual 60, 3) := by decide +kernel
theorem dX9_plan_45 : decode cX9_plan 45 = .ok (.ireturn, 1) := by decide +kernel
theorem dX9_plan_46 : decode cX9_plan 46 = .ok (.iload_n 1, 1) := by decide +kernel
theorem dX9_plan_47 : decode cX9_plan 47 = .ok (.invokestatic 244, 3) := by decide +kernel
theorem dX9_plan_50 : decode cX9_plan 50 = .ok (.istore 5, 2) := by decide +kernel
theorem dX9_plan_52 : decode cX9_plan 52 = .ok (.iload 5, 2) := by decide +kernel
theorem dX9_plan_54 : decode cX9_plan 54 = .ok (.iconst 5, 1) := by decide +kernel
theorem dX9_plan_55 : decode cX9_plan 55 = .ok (.if_icmp .le 10, 3) := by decide +kernel
theorem dX9_plan_58 : decode cX9_plan 58 = .ok (.aload_n 0, 1) := by decide +kernel
theorem dX9_plan_59 : decode cX9_plan 59 = .ok (.ldc 249, 2) := by decide +kernel
theorem dX9_plan_61 : decode cX9_plan 61 = .ok (.invokevirtual 60, 3) := by decide +kernel
theorem dX9_plan_64 : decode cX9_plan 64 = .ok (.ireturn, 1) := by decide +kernel
theorem dX9_plan_65 : decode cX9_plan 65 = .ok (.aload_n 0, 1) := by decide +kernel
theorem dX9_plan_66 : decode cX9_plan 66 = .ok (.iload_n 3, 1) := by decide +kernel
theorem dX9_plan_67 : decode cX9_plan 67 = .ok (.invokevirtual 206, 3) := by decide +kernel
theorem dX9_plan_70 : decode cX9_plan 70 = .ok (.ifCond .ne 10, 3) := by decide +kernel
theorem dX9_plan_73 : decode cX9_plan 73 = .ok (.aload_n 0, 1) := by decide +kernel
theorem dX9_plan_74 : decode cX9_plan 74 = .ok (.ldc 209, 2) := by decide +kernel
theorem dX9_plan_76 : decode cX9_plan 76 = .ok (.invokevirtual 60, 3) := by decide +kernel
theorem dX9_plan_79 : decode cX9_plan 79 = .ok (.ireturn, 1) := by decide +kernel
theorem dX9_plan_80 : decode cX9_plan 80 = .ok (.iload 4, 2) := by decide +kernel
theorem dX9_plan_82 : decode cX9_plan 82 = .ok (.iload 5, 2) := by decide +kernel
theorem dX9_plan_84 : decode cX9_plan 84 = .ok (.if_icmp .lt 10, 3) := by decide +kernel
theorem dX9_plan_87 : decode cX9_plan 87 = .ok (.aload_n 0, 1) := by decide +kernel
theorem dX9_plan_88 : decode cX9_plan 88 = .ok (.ldc 250, 2) := by decide +kernel
theorem dX9_plan_90 : decode cX9_plan 90 = .ok (.invokevirtual 60, 3) := by decide +kernel
theorem dX9_plan_93 : decode cX9_plan 93 = .ok (.ireturn, 1) := by decide +kernel
theorem dX9_plan_94 : decode cX9_plan 94 = .ok (.aload_n 0, 1) := by decide +kernel
theorem dX9_plan_95 : decode cX9_plan 95 = .ok (.getfield 37, 3) := by decide +kernel
theorem dX9_plan_98 : decode cX9_plan 98 = .ok (.aload_n 0, 1) := by decide +kernel
theorem dX9_plan_99 : decode cX9_plan 99 = .ok (.getfield 16, 3) := by decide +kernel
theorem dX9_plan_102 : decode cX9_plan 102 = .ok (.iload_n 1, 1) := by decide +kernel
theorem dX9_plan_103 : decode cX9_plan 103 = .ok (.iload_n 2, 1) := by decide +kernel
theorem dX9_plan_104 : decode cX9_plan 104 = .ok (.iload_n 3, 1) := by decide +kernel
theorem dX9_plan_105 : decode cX9_plan 105 = .ok (.invokevirtual 251, 3) := by decide +kernel
theorem dX9_plan_108 : decode cX9_plan 108 = .ok (.istore 6, 2) := by decide +kernel
theorem dX9_plan_110 : decode cX9_plan 110 = .ok (.iload 4, 2) := by decide +kernel
theorem dX9_plan_112 : decode cX9_plan 112 = .ok (.ifCond .ge 20, 3) := by decide +kernel
theorem dX9_plan_115 : decode cX9_plan 115 = .ok (.aload_n 0, 1) := by decide +kernel
theorem dX9_plan_116 : decode cX9_plan 116 = .ok (.getfield 37, 3) := by decide +kernel
theorem dX9_plan_119 : decode cX9_plan 119 = .ok (.aload_n 0, 1) := by decide +kernel
theorem dX9_plan_120 : decode cX9_plan 120 = .ok (.getfield 16, 3) := by decide +kernel
theorem dX9_plan_123 : decode cX9_plan 123 = .ok (.iload_n 1, 1) := by decide +kernel
theorem dX9_plan_124 : decode cX9_plan 124 = .ok (.iload 6, 2) := by decide +kernel
theorem dX9_plan_126 : decode cX9_plan 126 = .ok (.iload_n 2, 1) := by decide +kernel
theorem dX9_plan_127 : decode cX9_plan 127 = .ok (.iload_n 3, 1) := by decide +kernel
theorem dX9_plan_128 : decode cX9_plan 128 = .ok (.invokevirtual 255, 3) := by decide +kernel
theorem dX9_plan_131 : decode cX9_plan 131 = .ok (.ireturn, 1) := by decide +kernel
theorem dX9_plan_132 : decode cX9_plan 132 = .ok (.aload_n 0, 1) := by decide +kernel
theorem dX9_plan_133 : decode cX9_plan 133 = .ok (.getfield 37, 3) := by decide +kernel
theorem dX9_plan_136 : decode cX9_plan 136 = .ok (.getfield 226, 3) := by decide +kernel
theorem dX9_plan_139 : decode cX9_plan 139 = .ok (.getfield 173, 3) := by decide +kernel
theorem dX9_plan_142 : decode cX9_plan 142 = .ok (.astore 7, 2) := by decide +kernel
theorem dX9_plan_144 : decode cX9_plan 144 = .ok (.aload 7, 2) := by decide +kernel
theorem dX9_plan_146 : decode cX9_plan 146 = .ok (.iload_n 1, 1) := by decide +kernel
theorem dX9_plan_147 : decode cX9_plan 147 = .ok (.iload 6, 2) := by decide +kernel
theorem dX9_plan_149 : decode cX9_plan 149 = .ok (.invokevirtual 259, 3) := by decide +kernel
theorem dX9_plan_152 : decode cX9_plan 152 = .ok (.aload 7, 2) := by decide +kernel
theorem dX9_plan_154 : decode cX9_plan 154 = .ok (.getfield 190, 3) := by decide +kernel
theorem dX9_plan_157 : decode cX9_plan 157 = .ok (.iload 4, 2) := by decide +kernel
theorem dX9_plan_159 : decode cX9_plan 159 = .ok (.iaload, 1) := by decide +kernel
theorem dX9_plan_160 : decode cX9_plan 160 = .ok (.ireturn, 1) := by decide +kernel
theorem dX9_feed_0 : decode cX9_feed 0 = .ok (.iload_n 2, 1) := by decide +kernel
theorem dX9_feed_1 : decode cX9_feed 1 = .ok (.iconst 1, 1) := by decide +kernel
theorem dX9_feed_2 : decode cX9_feed 2 = .ok (.iconst 4, 1) := by decide +kernel
theorem dX9_feed_3 : decode cX9_feed 3 = .ok (.invokestatic 55, 3) := by decide +kernel
theorem dX9_feed_6 : decode cX9_feed 6 = .ok (.ifCond .ne 10, 3) := by decide +kernel
theorem dX9_feed_9 : decode cX9_feed 9 = .ok (.aload_n 0, 1) := by decide +kernel
theorem dX9_feed_10 : decode cX9_feed 10 = .ok (.ldc 59, 2) := by decide +kernel
theorem dX9_feed_12 : decode cX9_feed 12 = .ok (.invokevirtual 60, 3) := by decide +kernel
theorem dX9_feed_15 : decode cX9_feed 15 = .ok (.ireturn, 1) := by decide +kernel
theorem dX9_feed_16 : decode cX9_feed 16 = .ok (.aload_n 0, 1) := by decide +kernel
theorem dX9_feed_17 : decode cX9_feed 17 = .ok (.getfield 44, 3) := by decide +kernel
theorem dX9_feed_20 : decode cX9_feed 20 = .ok (.getfield 262, 3) := by decide +kernel
theorem dX9_feed_23 : decode cX9_feed 23 = .ok (.astore_n 3, 1) := by decide +kernel
theorem dX9_feed_24 : decode cX9_feed 24 = .ok (.aload_n 3, 1) := by decide +kernel
theorem dX9_feed_25 : decode cX9_feed 25 = .ok (.iload_n 2, 1) := by decide +kernel
theorem dX9_feed_26 : decode cX9_feed 26 = .ok (.invokevirtual 266, 3) := by decide +kernel
theorem dX9_feed_29 : decode cX9_feed 29 = .ok (.ifCond .ne 10, 3) := by decide +kernel
theorem dX9_feed_32 : decode cX9_feed 32 = .ok (.aload_n 0, 1) := by decide +kernel
theorem dX9_feed_33 : decode cX9_feed 33 = .ok (.ldc 74, 2) := by decide +kernel
theorem dX9_feed_35 : decode cX9_feed 35 = .ok (.invokevirtual 60, 3) := by decide +kernel
theorem dX9_feed_38 : decode cX9_feed 38 = .ok (.ireturn, 1) := by decide +kernel
theorem dX9_feed_39 : decode cX9_feed 39 = .ok (.iload_n 2, 1) := by decide +kernel
theorem dX9_feed_40 : decode cX9_feed 40 = .ok (.iconst 1, 1) := by decide +kernel
theorem dX9_feed_41 : decode cX9_feed 41 = .ok (.isub, 1) := by decide +kernel
theorem dX9_feed_42 : decode cX9_feed 42 = .ok (.istore 4, 2) := by decide +kernel
theorem dX9_feed_44 : decode cX9_feed 44 = .ok (.iload 4, 2) := by decide +kernel
theorem dX9_feed_46 : decode cX9_feed 46 = .ok (.ifCond .lt 24, 3) := by decide +kernel
theorem dX9_feed_49 : decode cX9_feed 49 = .ok (.aload_n 3, 1) := by decide +kernel
theorem dX9_feed_50 : decode cX9_feed 50 = .ok (.iload_n 1, 1) := by decide +kernel
theorem dX9_feed_51 : decode cX9_feed 51 = .ok (.bipush 8, 2) := by decide +kernel
theorem dX9_feed_53 : decode cX9_feed 53 = .ok (.iload 4, 2) := by decide +kernel
theorem dX9_feed_55 : decode cX9_feed 55 = .ok (.imul, 1) := by decide +kernel
theorem dX9_feed_56 : decode cX9_feed 56 = .ok (.iushr, 1) := by decide +kernel
theorem dX9_feed_57 : decode cX9_feed 57 = .ok (.sipush 255, 3) := by decide +kernel
theorem dX9_feed_60 : decode cX9_feed 60 = .ok (.iand, 1) := by decide +kernel
theorem dX9_feed_61 : decode cX9_feed 61 = .ok (.invokevirtual 271, 3) := by decide +kernel
theorem dX9_feed_64 : decode cX9_feed 64 = .ok (.iinc 4 (-1), 3) := by decide +kernel
theorem dX9_feed_67 : decode cX9_feed 67 = .ok (.goto (-23), 3) := by decide +kernel
theorem dX9_feed_70 : decode cX9_feed 70 = .ok (.aload_n 3, 1) := by decide +kernel
theorem dX9_feed_71 : decode cX9_feed 71 = .ok (.getfield 272, 3) := by decide +kernel
theorem dX9_feed_74 : decode cX9_feed 74 = .ok (.ireturn, 1) := by decide +kernel
theorem dX9_wipe_0 : decode cX9_wipe 0 = .ok (.aload_n 0, 1) := by decide +kernel
theorem dX9_wipe_1 : decode cX9_wipe 1 = .ok (.getfield 44, 3) := by decide +kernel
theorem dX9_wipe_4 : decode cX9_wipe 4 = .ok (.getfield 262, 3) := by decide +kernel
theorem dX9_wipe_7 : decode cX9_wipe 7 = .ok (.invokevirtual 275, 3) := by decide +kernel
theorem dX9_wipe_10 : decode cX9_wipe 10 = .ok (.ireturn, 1) := by decide +kernel
theorem dX9_book_0 : decode cX9_book 0 = .ok (.aload_n 0, 1) := by decide +kernel
theorem dX9_book_1 : decode cX9_book 1 = .ok (.getfield 37, 3) := by decide +kernel
theorem dX9_book_4 : decode cX9_book 4 = .ok (.getfield 226, 3) := by decide +kernel
theorem dX9_book_7 : decode cX9_book 7 = .ok (.astore_n 1, 1) := by decide +kernel
theorem dX9_book_8 : decode cX9_book 8 = .ok (.aload_n 1, 1) := by decide +kernel
theorem dX9_book_9 : decode cX9_book 9 = .ok (.aload_n 0, 1) := by decide +kernel
theorem dX9_book_10 : decode cX9_book 10 = .ok (.getfield 16, 3) := by decide +kernel
theorem dX9_book_13 : decode cX9_book 13 = .ok (.invokevirtual 278, 3) := by decide +kernel
theorem dX9_book_16 : decode cX9_book 16 = .ok (.aload_n 0, 1) := by decide +kernel
theorem dX9_book_17 : decode cX9_book 17 = .ok (.getfield 44, 3) := by decide +kernel
theorem dX9_book_20 : decode cX9_book 20 = .ok (.aload_n 1, 1) := by decide +kernel
theorem dX9_book_21 : decode cX9_book 21 = .ok (.invokevirtual 281, 3) := by decide +kernel
theorem dX9_book_24 : decode cX9_book 24 = .ok (.istore_n 2, 1) := by decide +kernel
theorem dX9_book_25 : decode cX9_book 25 = .ok (.iload_n 2, 1) := by decide +kernel
theorem dX9_book_26 : decode cX9_book 26 = .ok (.ifCond .lt 11, 3) := by decide +kernel
theorem dX9_book_29 : decode cX9_book 29 = .ok (.aload_n 0, 1) := by decide +kernel
theorem dX9_book_30 : decode cX9_book 30 = .ok (.getfield 16, 3) := by decide +kernel
theorem dX9_book_33 : decode cX9_book 33 = .ok (.aload_n 1, 1) := by decide +kernel
theorem dX9_book_34 : decode cX9_book 34 = .ok (.invokevirtual 278, 3) := by decide +kernel
theorem dX9_book_37 : decode cX9_book 37 = .ok (.aload_n 0, 1) := by decide +kernel
theorem dX9_book_38 : decode cX9_book 38 = .ok (.getfield 44, 3) := by decide +kernel
theorem dX9_book_41 : decode cX9_book 41 = .ok (.getfield 262, 3) := by decide +kernel
theorem dX9_book_44 : decode cX9_book 44 = .ok (.invokevirtual 275, 3) := by decide +kernel
theorem dX9_book_47 : decode cX9_book 47 = .ok (.pop, 1) := by decide +kernel
theorem dX9_book_48 : decode cX9_book 48 = .ok (.iload_n 2, 1) := by decide +kernel
theorem dX9_book_49 : decode cX9_book 49 = .ok (.ireturn, 1) := by decide +kernel
theorem dX9_sheet_0 : decode cX9_sheet 0 = .ok (.aload_n 0, 1) := by decide +kernel
theorem dX9_sheet_1 : decode cX9_sheet 1 = .ok (.getfield 51, 3) := by decide +kernel
theorem dX9_sheet_4 : decode cX9_sheet 4 = .ok (.iload_n 1, 1) := by decide +kernel
theorem dX9_sheet_5 : decode cX9_sheet 5 = .ok (.invokevirtual 285, 3) := by decide +kernel
theorem dX9_sheet_8 : decode cX9_sheet 8 = .ok (.ifCond .eq 25, 3) := by decide +kernel
theorem dX9_sheet_11 : decode cX9_sheet 11 = .ok (.iload_n 2, 1) := by decide +kernel
theorem dX9_sheet_12 : decode cX9_sheet 12 = .ok (.ifCond .eq 28, 3) := by decide +kernel
theorem dX9_sheet_15 : decode cX9_sheet 15 = .ok (.iload_n 2, 1) := by decide +kernel
theorem dX9_sheet_16 : decode cX9_sheet 16 = .ok (.bipush 8, 2) := by decide +kernel
theorem dX9_sheet_18 : decode cX9_sheet 18 = .ok (.if_icmp .eq 22, 3) := by decide +kernel
theorem dX9_sheet_21 : decode cX9_sheet 21 = .ok (.iload_n 2, 1) := by decide +kernel
theorem dX9_sheet_22 : decode cX9_sheet 22 = .ok (.bipush 16, 2) := by decide +kernel
theorem dX9_sheet_24 : decode cX9_sheet 24 = .ok (.if_icmp .eq 16, 3) := by decide +kernel
theorem dX9_sheet_27 : decode cX9_sheet 27 = .ok (.iload_n 2, 1) := by decide +kernel
theorem dX9_sheet_28 : decode cX9_sheet 28 = .ok (.bipush 64, 2) := by decide +kernel
theorem dX9_sheet_30 : decode cX9_sheet 30 = .ok (.if_icmp .eq 10, 3) := by decide +kernel
theorem dX9_sheet_33 : decode cX9_sheet 33 = .ok (.aload_n 0, 1) := by decide +kernel
theorem dX9_sheet_34 : decode cX9_sheet 34 = .ok (.ldc 59, 2) := by decide +kernel
theorem dX9_sheet_36 : decode cX9_sheet 36 = .ok (.invokevirtual 60, 3) := by decide +kernel
theorem dX9_sheet_39 : decode cX9_sheet 39 = .ok (.ireturn, 1) := by decide +kernel
theorem dX9_sheet_40 : decode cX9_sheet 40 = .ok (.iload_n 3, 1) := by decide +kernel
theorem dX9_sheet_41 : decode cX9_sheet 41 = .ok (.ifCond .ge 10, 3) := by decide +kernel
theorem dX9_sheet_44 : decode cX9_sheet 44 = .ok (.aload_n 0, 1) := by decide +kernel
theorem dX9_sheet_45 : decode cX9_sheet 45 = .ok (.ldc 249, 2) := by decide +kernel
theorem dX9_sheet_47 : decode cX9_sheet 47 = .ok (.invokevirtual 60, 3) := by decide +kernel
theorem dX9_sheet_50 : decode cX9_sheet 50 = .ok (.ireturn, 1) := by decide +kernel
theorem dX9_sheet_51 : decode cX9_sheet 51 = .ok (.iload_n 3, 1) := by decide +kernel
theorem dX9_sheet_52 : decode cX9_sheet 52 = .ok (.bipush 40, 2) := by decide +kernel
theorem dX9_sheet_54 : decode cX9_sheet 54 = .ok (.if_icmp .le 10, 3) := by decide +kernel
theorem dX9_sheet_57 : decode cX9_sheet 57 = .ok (.aload_n 0, 1) := by decide +kernel
theorem dX9_sheet_58 : decode cX9_sheet 58 = .ok (.ldc 59, 2) := by decide +kernel
theorem dX9_sheet_60 : decode cX9_sheet 60 = .ok (.invokevirtual 60, 3) := by decide +kernel
theorem dX9_sheet_63 : decode cX9_sheet 63 = .ok (.ireturn, 1) := by decide +kernel
theorem dX9_sheet_64 : decode cX9_sheet 64 = .ok (.aload_n 0, 1) := by decide +kernel
theorem dX9_sheet_65 : decode cX9_sheet 65 = .ok (.getfield 51, 3) := by decide +kernel
theorem dX9_sheet_68 : decode cX9_sheet 68 = .ok (.iload_n 1, 1) := by decide +kernel
theorem dX9_sheet_69 : decode cX9_sheet 69 = .ok (.iload_n 2, 1) := by decide +kernel
theorem dX9_sheet_70 : decode cX9_sheet 70 = .ok (.iload_n 3, 1) := by decide +kernel
theorem dX9_sheet_71 : decode cX9_sheet 71 = .ok (.invokevirtual 288, 3) := by decide +kernel
theorem dX9_sheet_74 : decode cX9_sheet 74 = .ok (.ireturn, 1) := by decide +kernel
theorem dX9_write_0 : decode cX9_write 0 = .ok (.aload_n 0, 1) := by decide +kernel
theorem dX9_write_1 : decode cX9_write 1 = .ok (.getfield 51, 3) := by decide +kernel
theorem dX9_write_4 : decode cX9_write 4 = .ok (.iload_n 1, 1) := by decide +kernel
theorem dX9_write_5 : decode cX9_write 5 = .ok (.invokevirtual 285, 3) := by decide +kernel
theorem dX9_write_8 : decode cX9_write 8 = .ok (.ifCond .ne 11, 3) := by decide +kernel
theorem dX9_write_11 : decode cX9_write 11 = .ok (.aload_n 0, 1) := by decide +kernel
theorem dX9_write_12 : decode cX9_write 12 = .ok (.ldc 59, 2) := by decide +kernel
theorem dX9_write_14 : decode cX9_write 14 = .ok (.invokevirtual 60, 3) := by decide +kernel
theorem dX9_write_17 : decode cX9_write 17 = .ok (.i2l, 1) := by decide +kernel
theorem dX9_write_18 : decode cX9_write 18 = .ok (.lreturn, 1) := by decide +kernel
theorem dX9_write_19 : decode cX9_write 19 = .ok (.aload_n 0, 1) := by decide +kernel
theorem dX9_write_20 : decode cX9_write 20 = .ok (.getfield 51, 3) := by decide +kernel
theorem dX9_write_23 : decode cX9_write 23 = .ok (.iload_n 1, 1) := by decide +kernel
theorem dX9_write_24 : decode cX9_write 24 = .ok (.invokevirtual 291, 3) := by decide +kernel
theorem dX9_write_27 : decode cX9_write 27 = .ok (.ifCond .eq 12, 3) := by decide +kernel
theorem dX9_write_30 : decode cX9_write 30 = .ok (.aload_n 0, 1) := by decide +kernel
theorem dX9_write_31 : decode cX9_write 31 = .ok (.ldc_w 294, 3) := by decide +kernel
theorem dX9_write_34 : decode cX9_write 34 = .ok (.invokevirtual 60, 3) := by decide +kernel
theorem dX9_write_37 : decode cX9_write 37 = .ok (.i2l, 1) := by decide +kernel
theorem dX9_write_38 : decode cX9_write 38 = .ok (.lreturn, 1) := by decide +kernel
theorem dX9_write_39 : decode cX9_write 39 = .ok (.aload_n 0, 1) := by decide +kernel
theorem dX9_write_40 : decode cX9_write 40 = .ok (.getfield 51, 3) := by decide +kernel
theorem dX9_write_43 : decode cX9_write 43 = .ok (.iload_n 1, 1) := by decide +kernel
theorem dX9_write_44 : decode cX9_write 44 = .ok (.iload_n 2, 1) := by decide +kernel
theorem dX9_write_45 : decode cX9_write 45 = .ok (.iconst 1, 1) := by decide +kernel
theorem dX9_write_46 : decode cX9_write 46 = .ok (.invokevirtual 295, 3) := by decide +kernel
theorem dX9_write_49 : decode cX9_write 49 = .ok (.ifCond .ne 11, 3) := by decide +kernel
theorem dX9_write_52 : decode cX9_write 52 = .ok (.aload_n 0, 1) := by decide +kernel
theorem dX9_write_53 : decode cX9_write 53 = .ok (.ldc 59, 2) := by decide +kernel
theorem dX9_write_55 : decode cX9_write 55 = .ok (.invokevirtual 60, 3) := by decide +kernel
theorem dX9_write_58 : decode cX9_write 58 = .ok (.i2l, 1) := by decide +kernel
theorem dX9_write_59 : decode cX9_write 59 = .ok (.lreturn, 1) := by decide +kernel
theorem dX9_write_60 : decode cX9_write 60 = .ok (.aload_n 0, 1) := by decide +kernel
theorem dX9_write_61 : decode cX9_write 61 = .ok (.getfield 51, 3) := by decide +kernel
theorem dX9_write_64 : decode cX9_write 64 = .ok (.iload_n 1, 1) := by decide +kernel
theorem dX9_write_65 : decode cX9_write 65 = .ok (.iload_n 2, 1) := by decide +kernel
theorem dX9_write_66 : decode cX9_write 66 = .ok (.lload_n 3, 1) := by decide +kernel
theorem dX9_write_67 : decode cX9_write 67 = .ok (.invokevirtual 298, 3) := by decide +kernel
theorem dX9_write_70 : decode cX9_write 70 = .ok (.lreturn, 1) := by decide +kernel
theorem dX9_copy_0 : decode cX9_copy 0 = .ok (.aload_n 0, 1) := by decide +kernel
theorem dX9_copy_1 : decode cX9_copy 1 = .ok (.getfield 51, 3) := by decide +kernel
theorem dX9_copy_4 : decode cX9_copy 4 = .ok (.iload_n 1, 1) := by decide +kernel
theorem dX9_copy_5 : decode cX9_copy 5 = .ok (.invokevirtual 285, 3) := by decide +kernel
theorem dX9_copy_8 : decode cX9_copy 8 = .ok (.ifCond .eq 14, 3) := by decide +kernel
theorem dX9_copy_11 : decode cX9_copy 11 = .ok (.aload_n 0, 1) := by decide +kernel
theorem dX9_copy_12 : decode cX9_copy 12 = .ok (.getfield 51, 3) := by decide +kernel
theorem dX9_copy_15 : decode cX9_copy 15 = .ok (.iload_n 3, 1) := by decide +kernel
theorem dX9_copy_16 : decode cX9_copy 16 = .ok (.invokevirtual 285, 3) := by decide +kernel
theorem dX9_copy_19 : decode cX9_copy 19 = .ok (.ifCond .ne 10, 3) := by decide +kernel
theorem dX9_copy_22 : decode cX9_copy 22 = .ok (.aload_n 0, 1) := by decide +kernel
theorem dX9_copy_23 : decode cX9_copy 23 = .ok (.ldc 59, 2) := by decide +kernel
theorem dX9_copy_25 : decode cX9_copy 25 = .ok (.invokevirtual 60, 3) := by decide +kernel
theorem dX9_copy_28 : decode cX9_copy 28 = .ok (.ireturn, 1) := by decide +kernel
theorem dX9_copy_29 : decode cX9_copy 29 = .ok (.aload_n 0, 1) := by decide +kernel
theorem dX9_copy_30 : decode cX9_copy 30 = .ok (.getfield 51, 3) := by decide +kernel
theorem dX9_copy_33 : decode cX9_copy 33 = .ok (.iload_n 1, 1) := by decide +kernel
theorem dX9_copy_34 : decode cX9_copy 34 = .ok (.invokevirtual 291, 3) := by decide +kernel
theorem dX9_copy_37 : decode cX9_copy 37 = .ok (.ifCond .ne 14, 3) := by decide +kernel
theorem dX9_copy_40 : decode cX9_copy 40 = .ok (.aload_n 0, 1) := by decide +kernel
theorem dX9_copy_41 : decode cX9_copy 41 = .ok (.getfield 51, 3) := by decide +kernel
theorem dX9_copy_44 : decode cX9_copy 44 = .ok (.iload_n 3, 1) := by decide +kernel
theorem dX9_copy_45 : decode cX9_copy 45 = .ok (.invokevirtual 291, 3) := by decide +kernel
theorem dX9_copy_48 : decode cX9_copy 48 = .ok (.ifCond .eq 11, 3) := by decide +kernel
theorem dX9_copy_51 : decode cX9_copy 51 = .ok (.aload_n 0, 1) := by decide +kernel
theorem dX9_copy_52 : decode cX9_copy 52 = .ok (.ldc_w 294, 3) := by decide +kernel
theorem dX9_copy_55 : decode cX9_copy 55 = .ok (.invokevirtual 60, 3) := by decide +kernel
theorem dX9_copy_58 : decode cX9_copy 58 = .ok (.ireturn, 1) := by decide +kernel
theorem dX9_copy_59 : decode cX9_copy 59 = .ok (.aload_n 0, 1) := by decide +kernel
theorem dX9_copy_60 : decode cX9_copy 60 = .ok (.getfield 51, 3) := by decide +kernel
theorem dX9_copy_63 : decode cX9_copy 63 = .ok (.getfield 302, 3) := by decide +kernel
theorem dX9_copy_66 : decode cX9_copy 66 = .ok (.iload_n 1, 1) := by decide +kernel
theorem dX9_copy_67 : decode cX9_copy 67 = .ok (.iaload, 1) := by decide +kernel
theorem dX9_copy_68 : decode cX9_copy 68 = .ok (.aload_n 0, 1) := by decide +kernel
theorem dX9_copy_69 : decode cX9_copy 69 = .ok (.getfield 51, 3) := by decide +kernel
theorem dX9_copy_72 : decode cX9_copy 72 = .ok (.getfield 302, 3) := by decide +kernel
theorem dX9_copy_75 : decode cX9_copy 75 = .ok (.iload_n 3, 1) := by decide +kernel
theorem dX9_copy_76 : decode cX9_copy 76 = .ok (.iaload, 1) := by decide +kernel
theorem dX9_copy_77 : decode cX9_copy 77 = .ok (.if_icmp .eq 10, 3) := by decide +kernel
theorem dX9_copy_80 : decode cX9_copy 80 = .ok (.aload_n 0, 1) := by decide +kernel
theorem dX9_copy_81 : decode cX9_copy 81 = .ok (.ldc 107, 2) := by decide +kernel
theorem dX9_copy_83 : decode cX9_copy 83 = .ok (.invokevirtual 60, 3) := by decide +kernel
theorem dX9_copy_86 : decode cX9_copy 86 = .ok (.ireturn, 1) := by decide +kernel
theorem dX9_copy_87 : decode cX9_copy 87 = .ok (.aload_n 0, 1) := by decide +kernel
theorem dX9_copy_88 : decode cX9_copy 88 = .ok (.getfield 51, 3) := by decide +kernel
theorem dX9_copy_91 : decode cX9_copy 91 = .ok (.iload_n 1, 1) := by decide +kernel
theorem dX9_copy_92 : decode cX9_copy 92 = .ok (.iload_n 2, 1) := by decide +kernel
theorem dX9_copy_93 : decode cX9_copy 93 = .ok (.iload 5, 2) := by decide +kernel
theorem dX9_copy_95 : decode cX9_copy 95 = .ok (.invokevirtual 295, 3) := by decide +kernel
theorem dX9_copy_98 : decode cX9_copy 98 = .ok (.ifCond .eq 18, 3) := by decide +kernel
theorem dX9_copy_101 : decode cX9_copy 101 = .ok (.aload_n 0, 1) := by decide +kernel
theorem dX9_copy_102 : decode cX9_copy 102 = .ok (.getfield 51, 3) := by decide +kernel
theorem dX9_copy_105 : decode cX9_copy 105 = .ok (.iload_n 3, 1) := by decide +kernel
theorem dX9_copy_106 : decode cX9_copy 106 = .ok (.iload 4, 2) := by decide +kernel
theorem dX9_copy_108 : decode cX9_copy 108 = .ok (.iload 5, 2) := by decide +kernel
theorem dX9_copy_110 : decode cX9_copy 110 = .ok (.invokevirtual 295, 3) := by decide +kernel
theorem dX9_copy_113 : decode cX9_copy 113 = .ok (.ifCond .ne 10, 3) := by decide +kernel
theorem dX9_copy_116 : decode cX9_copy 116 = .ok (.aload_n 0, 1) := by decide +kernel
theorem dX9_copy_117 : decode cX9_copy 117 = .ok (.ldc 59, 2) := by decide +kernel
theorem dX9_copy_119 : decode cX9_copy 119 = .ok (.invokevirtual 60, 3) := by decide +kernel
theorem dX9_copy_122 : decode cX9_copy 122 = .ok (.ireturn, 1) := by decide +kernel
theorem dX9_copy_123 : decode cX9_copy 123 = .ok (.aload_n 0, 1) := by decide +kernel
theorem dX9_copy_124 : decode cX9_copy 124 = .ok (.getfield 51, 3) := by decide +kernel
theorem dX9_copy_127 : decode cX9_copy 127 = .ok (.iload_n 1, 1) := by decide +kernel
theorem dX9_copy_128 : decode cX9_copy 128 = .ok (.iload_n 2, 1) := by decide +kernel
theorem dX9_copy_129 : decode cX9_copy 129 = .ok (.iload_n 3, 1) := by decide +kernel
theorem dX9_copy_130 : decode cX9_copy 130 = .ok (.iload 4, 2) := by decide +kernel
theorem dX9_copy_132 : decode cX9_copy 132 = .ok (.iload 5, 2) := by decide +kernel
theorem dX9_copy_134 : decode cX9_copy 134 = .ok (.invokevirtual 305, 3) := by decide +kernel
theorem dX9_copy_137 : decode cX9_copy 137 = .ok (.iload 5, 2) := by decide +kernel
theorem dX9_copy_139 : decode cX9_copy 139 = .ok (.ireturn, 1) := by decide +kernel
theorem dX9_lays_0 : decode cX9_lays 0 = .ok (.aload_n 0, 1) := by decide +kernel
theorem dX9_lays_1 : decode cX9_lays 1 = .ok (.getfield 51, 3) := by decide +kernel
theorem dX9_lays_4 : decode cX9_lays 4 = .ok (.iload_n 1, 1) := by decide +kernel
theorem dX9_lays_5 : decode cX9_lays 5 = .ok (.invokevirtual 285, 3) := by decide +kernel
theorem dX9_lays_8 : decode cX9_lays 8 = .ok (.ifCond .ne 10, 3) := by decide +kernel
theorem dX9_lays_11 : decode cX9_lays 11 = .ok (.aload_n 0, 1) := by decide +kernel
theorem dX9_lays_12 : decode cX9_lays 12 = .ok (.ldc 59, 2) := by decide +kernel
theorem dX9_lays_14 : decode cX9_lays 14 = .ok (.invokevirtual 60, 3) := by decide +kernel
theorem dX9_lays_17 : decode cX9_lays 17 = .ok (.ireturn, 1) := by decide +kernel
theorem dX9_lays_18 : decode cX9_lays 18 = .ok (.aload_n 0, 1) := by decide +kernel
theorem dX9_lays_19 : decode cX9_lays 19 = .ok (.getfield 51, 3) := by decide +kernel
theorem dX9_lays_22 : decode cX9_lays 22 = .ok (.iload_n 1, 1) := by decide +kernel
theorem dX9_lays_23 : decode cX9_lays 23 = .ok (.invokevirtual 291, 3) := by decide +kernel
theorem dX9_lays_26 : decode cX9_lays 26 = .ok (.ifCond .eq 11, 3) := by decide +kernel
theorem dX9_lays_29 : decode cX9_lays 29 = .ok (.aload_n 0, 1) := by decide +kernel
theorem dX9_lays_30 : decode cX9_lays 30 = .ok (.ldc_w 294, 3) := by decide +kernel
theorem dX9_lays_33 : decode cX9_lays 33 = .ok (.invokevirtual 60, 3) := by decide +kernel
theorem dX9_lays_36 : decode cX9_lays 36 = .ok (.ireturn, 1) := by decide +kernel
theorem dX9_lays_37 : decode cX9_lays 37 = .ok (.iconst 0, 1) := by decide +kernel
theorem dX9_lays_38 : decode cX9_lays 38 = .ok (.istore_n 2, 1) := by decide +kernel
theorem dX9_lays_39 : decode cX9_lays 39 = .ok (.aload_n 0, 1) := by decide +kernel
theorem dX9_lays_40 : decode cX9_lays 40 = .ok (.getfield 51, 3) := by decide +kernel
theorem dX9_lays_43 : decode cX9_lays 43 = .ok (.getfield 309, 3) := by decide +kernel
theorem dX9_lays_46 : decode cX9_lays 46 = .ok (.iload_n 1, 1) := by decide +kernel
theorem dX9_lays_47 : decode cX9_lays 47 = .ok (.iaload, 1) := by decide +kernel
theorem dX9_lays_48 : decode cX9_lays 48 = .ok (.aload_n 0, 1) := by decide +kernel
theorem dX9_lays_49 : decode cX9_lays 49 = .ok (.getfield 16, 3) := by decide +kernel
theorem dX9_lays_52 : decode cX9_lays 52 = .ok (.getfield 64, 3) := by decide +kernel
theorem dX9_lays_55 : decode cX9_lays 55 = .ok (.getfield 229, 3) := by decide +kernel
theorem dX9_lays_58 : decode cX9_lays 58 = .ok (.invokestatic 311, 3) := by decide +kernel
theorem dX9_lays_61 : decode cX9_lays 61 = .ok (.istore_n 3, 1) := by decide +kernel
theorem dX9_lays_62 : decode cX9_lays 62 = .ok (.iconst 0, 1) := by decide +kernel
theorem dX9_lays_63 : decode cX9_lays 63 = .ok (.istore 4, 2) := by decide +kernel
theorem dX9_lays_65 : decode cX9_lays 65 = .ok (.iload 4, 2) := by decide +kernel
theorem dX9_lays_67 : decode cX9_lays 67 = .ok (.iload_n 3, 1) := by decide +kernel
theorem dX9_lays_68 : decode cX9_lays 68 = .ok (.if_icmp .ge 56, 3) := by decide +kernel
theorem dX9_lays_71 : decode cX9_lays 71 = .ok (.aload_n 0, 1) := by decide +kernel
theorem dX9_lays_72 : decode cX9_lays 72 = .ok (.getfield 51, 3) := by decide +kernel
theorem dX9_lays_75 : decode cX9_lays 75 = .ok (.iload_n 1, 1) := by decide +kernel
theorem dX9_lays_76 : decode cX9_lays 76 = .ok (.iload 4, 2) := by decide +kernel
theorem dX9_lays_78 : decode cX9_lays 78 = .ok (.invokevirtual 317, 3) := by decide +kernel
theorem dX9_lays_81 : decode cX9_lays 81 = .ok (.lstore 5, 2) := by decide +kernel
theorem dX9_lays_83 : decode cX9_lays 83 = .ok (.lload 5, 2) := by decide +kernel
theorem dX9_lays_85 : decode cX9_lays 85 = .ok (.lconst 0, 1) := by decide +kernel
theorem dX9_lays_86 : decode cX9_lays 86 = .ok (.lcmp, 1) := by decide +kernel
theorem dX9_lays_87 : decode cX9_lays 87 = .ok (.ifCond .lt 31, 3) := by decide +kernel
theorem dX9_lays_90 : decode cX9_lays 90 = .ok (.lload 5, 2) := by decide +kernel
theorem dX9_lays_92 : decode cX9_lays 92 = .ok (.ldc2_w 321, 3) := by decide +kernel
theorem dX9_lays_95 : decode cX9_lays 95 = .ok (.lcmp, 1) := by decide +kernel
theorem dX9_lays_96 : decode cX9_lays 96 = .ok (.ifCond .gt 22, 3) := by decide +kernel
theorem dX9_lays_99 : decode cX9_lays 99 = .ok (.aload_n 0, 1) := by decide +kernel
theorem dX9_lays_100 : decode cX9_lays 100 = .ok (.getfield 16, 3) := by decide +kernel
theorem dX9_lays_103 : decode cX9_lays 103 = .ok (.getfield 64, 3) := by decide +kernel
theorem dX9_lays_106 : decode cX9_lays 106 = .ok (.getfield 108, 3) := by decide +kernel
theorem dX9_lays_109 : decode cX9_lays 109 = .ok (.iload 4, 2) := by decide +kernel
theorem dX9_lays_111 : decode cX9_lays 111 = .ok (.lload 5, 2) := by decide +kernel
theorem dX9_lays_113 : decode cX9_lays 113 = .ok (.l2i, 1) := by decide +kernel
theorem dX9_lays_114 : decode cX9_lays 114 = .ok (.iastore, 1) := by decide +kernel
theorem dX9_lays_115 : decode cX9_lays 115 = .ok (.iinc 2 1, 3) := by decide +kernel
theorem dX9_lays_118 : decode cX9_lays 118 = .ok (.iinc 4 1, 3) := by decide +kernel
theorem dX9_lays_121 : decode cX9_lays 121 = .ok (.goto (-56), 3) := by decide +kernel
theorem dX9_lays_124 : decode cX9_lays 124 = .ok (.iload_n 2, 1) := by decide +kernel
theorem dX9_lays_125 : decode cX9_lays 125 = .ok (.ireturn, 1) := by decide +kernel
theorem dX9_read_0 : decode cX9_read 0 = .ok (.aload_n 0, 1) := by decide +kernel
theorem dX9_read_1 : decode cX9_read 1 = .ok (.getfield 51, 3) := by decide +kernel
theorem dX9_read_4 : decode cX9_read 4 = .ok (.iload_n 1, 1) := by decide +kernel
theorem dX9_read_5 : decode cX9_read 5 = .ok (.invokevirtual 285, 3) := by decide +kernel
theorem dX9_read_8 : decode cX9_read 8 = .ok (.ifCond .ne 10, 3) := by decide +kernel
theorem dX9_read_11 : decode cX9_read 11 = .ok (.aload_n 0, 1) := by decide +kernel
theorem dX9_read_12 : decode cX9_read 12 = .ok (.ldc 59, 2) := by decide +kernel
theorem dX9_read_14 : decode cX9_read 14 = .ok (.invokevirtual 60, 3) := by decide +kernel
theorem dX9_read_17 : decode cX9_read 17 = .ok (.ireturn, 1) := by decide +kernel
theorem dX9_read_18 : decode cX9_read 18 = .ok (.aload_n 0, 1) := by decide +kernel
theorem dX9_read_19 : decode cX9_read 19 = .ok (.getfield 51, 3) := by decide +kernel
theorem dX9_read_22 : decode cX9_read 22 = .ok (.iload_n 1, 1) := by decide +kernel
theorem dX9_read_23 : decode cX9_read 23 = .ok (.invokevirtual 291, 3) := by decide +kernel
theorem dX9_read_26 : decode cX9_read 26 = .ok (.ifCond .eq 11, 3) := by decide +kernel
theorem dX9_read_29 : decode cX9_read 29 = .ok (.aload_n 0, 1) := by decide +kernel
theorem dX9_read_30 : decode cX9_read 30 = .ok (.ldc_w 294, 3) := by decide +kernel
theorem dX9_read_33 : decode cX9_read 33 = .ok (.invokevirtual 60, 3) := by decide +kernel
theorem dX9_read_36 : decode cX9_read 36 = .ok (.ireturn, 1) := by decide +kernel
theorem dX9_read_37 : decode cX9_read 37 = .ok (.aload_n 0, 1) := by decide +kernel
theorem dX9_read_38 : decode cX9_read 38 = .ok (.bipush 40, 2) := by decide +kernel
theorem dX9_read_40 : decode cX9_read 40 = .ok (.invokevirtual 206, 3) := by decide +kernel
theorem dX9_read_43 : decode cX9_read 43 = .ok (.ifCond .ne 10, 3) := by decide +kernel
theorem dX9_read_46 : decode cX9_read 46 = .ok (.aload_n 0, 1) := by decide +kernel
theorem dX9_read_47 : decode cX9_read 47 = .ok (.ldc 209, 2) := by decide +kernel
theorem dX9_read_49 : decode cX9_read 49 = .ok (.invokevirtual 60, 3) := by decide +kernel
theorem dX9_read_52 : decode cX9_read 52 = .ok (.ireturn, 1) := by decide +kernel
theorem dX9_read_53 : decode cX9_read 53 = .ok (.aload_n 0, 1) := by decide +kernel
theorem dX9_read_54 : decode cX9_read 54 = .ok (.getfield 37, 3) := by decide +kernel
theorem dX9_read_57 : decode cX9_read 57 = .ok (.aload_n 0, 1) := by decide +kernel
theorem dX9_read_58 : decode cX9_read 58 = .ok (.getfield 16, 3) := by decide +kernel
theorem dX9_read_61 : decode cX9_read 61 = .ok (.aload_n 0, 1) := by decide +kernel
theorem dX9_read_62 : decode cX9_read 62 = .ok (.getfield 51, 3) := by decide +kernel
theorem dX9_read_65 : decode cX9_read 65 = .ok (.iload_n 1, 1) := by decide +kernel
theorem dX9_read_66 : decode cX9_read 66 = .ok (.invokevirtual 323, 3) := by decide +kernel
theorem dX9_read_69 : decode cX9_read 69 = .ok (.ireturn, 1) := by decide +kernel
theorem dX9_image_0 : decode cX9_image 0 = .ok (.aload_n 0, 1) := by decide +kernel
theorem dX9_image_1 : decode cX9_image 1 = .ok (.getfield 20, 3) := by decide +kernel
theorem dX9_image_4 : decode cX9_image 4 = .ok (.aload_n 0, 1) := by decide +kernel
theorem dX9_image_5 : decode cX9_image 5 = .ok (.getfield 16, 3) := by decide +kernel
theorem dX9_image_8 : decode cX9_image 8 = .ok (.invokevirtual 278, 3) := by decide +kernel
theorem dX9_image_11 : decode cX9_image 11 = .ok (.aload_n 0, 1) := by decide +kernel
theorem dX9_image_12 : decode cX9_image 12 = .ok (.iconst 1, 1) := by decide +kernel
theorem dX9_image_13 : decode cX9_image 13 = .ok (.putfield 23, 3) := by decide +kernel
theorem dX9_image_16 : decode cX9_image 16 = .ok (.iconst 1, 1) := by decide +kernel
theorem dX9_image_17 : decode cX9_image 17 = .ok (.ireturn, 1) := by decide +kernel
theorem dX9_undo_0 : decode cX9_undo 0 = .ok (.aload_n 0, 1) := by decide +kernel
theorem dX9_undo_1 : decode cX9_undo 1 = .ok (.getfield 23, 3) := by decide +kernel
theorem dX9_undo_4 : decode cX9_undo 4 = .ok (.ifCond .ne 10, 3) := by decide +kernel
theorem dX9_undo_7 : decode cX9_undo 7 = .ok (.aload_n 0, 1) := by decide +kernel
theorem dX9_undo_8 : decode cX9_undo 8 = .ok (.ldc 250, 2) := by decide +kernel
theorem dX9_undo_10 : decode cX9_undo 10 = .ok (.invokevirtual 60, 3) := by decide +kernel
theorem dX9_undo_13 : decode cX9_undo 13 = .ok (.ireturn, 1) := by decide +kernel
theorem dX9_undo_14 : decode cX9_undo 14 = .ok (.aload_n 0, 1) := by decide +kernel
theorem dX9_undo_15 : decode cX9_undo 15 = .ok (.getfield 16, 3) := by decide +kernel
theorem dX9_undo_18 : decode cX9_undo 18 = .ok (.aload_n 0, 1) := by decide +kernel
theorem dX9_undo_19 : decode cX9_undo 19 = .ok (.getfield 20, 3) := by decide +kernel
theorem dX9_undo_22 : decode cX9_undo 22 = .ok (.invokevirtual 278, 3) := by decide +kernel
theorem dX9_undo_25 : decode cX9_undo 25 = .ok (.aload_n 0, 1) := by decide +kernel
theorem dX9_undo_26 : decode cX9_undo 26 = .ok (.getfield 16, 3) := by decide +kernel
theorem dX9_undo_29 : decode cX9_undo 29 = .ok (.getfield 64, 3) := by decide +kernel
theorem dX9_undo_32 : decode cX9_undo 32 = .ok (.getfield 229, 3) := by decide +kernel
theorem dX9_undo_35 : decode cX9_undo 35 = .ok (.ireturn, 1) := by decide +kernel
theorem dX9_tear_0 : decode cX9_tear 0 = .ok (.aload_n 0, 1) := by decide +kernel
theorem dX9_tear_1 : decode cX9_tear 1 = .ok (.getfield 23, 3) := by decide +kernel
theorem dX9_tear_4 : decode cX9_tear 4 = .ok (.ifCond .eq 7, 3) := by decide +kernel
theorem dX9_tear_7 : decode cX9_tear 7 = .ok (.iconst 1, 1) := by decide +kernel
theorem dX9_tear_8 : decode cX9_tear 8 = .ok (.goto 4, 3) := by decide +kernel
theorem dX9_tear_11 : decode cX9_tear 11 = .ok (.iconst 0, 1) := by decide +kernel
theorem dX9_tear_12 : decode cX9_tear 12 = .ok (.istore_n 1, 1) := by decide +kernel
theorem dX9_tear_13 : decode cX9_tear 13 = .ok (.aload_n 0, 1) := by decide +kernel
theorem dX9_tear_14 : decode cX9_tear 14 = .ok (.iconst 0, 1) := by decide +kernel
theorem dX9_tear_15 : decode cX9_tear 15 = .ok (.putfield 23, 3) := by decide +kernel
theorem dX9_tear_18 : decode cX9_tear 18 = .ok (.iload_n 1, 1) := by decide +kernel
theorem dX9_tear_19 : decode cX9_tear 19 = .ok (.ireturn, 1) := by decide +kernel
theorem dX9_count_0 : decode cX9_count 0 = .ok (.iload_n 1, 1) := by decide +kernel
theorem dX9_count_1 : decode cX9_count 1 = .ok (.tableswitch 131 0 5 #[39, 50, 61, 72, 83, 107], 39) := by decide +kernel
theorem dX9_count_40 : decode cX9_count 40 = .ok (.aload_n 0, 1) := by decide +kernel
theorem dX9_count_41 : decode cX9_count 41 = .ok (.getfield 16, 3) := by decide +kernel
theorem dX9_count_44 : decode cX9_count 44 = .ok (.getfield 64, 3) := by decide +kernel
theorem dX9_count_47 : decode cX9_count 47 = .ok (.getfield 229, 3) := by decide +kernel
theorem dX9_count_50 : decode cX9_count 50 = .ok (.ireturn, 1) := by decide +kernel
theorem dX9_count_51 : decode cX9_count 51 = .ok (.aload_n 0, 1) := by decide +kernel
theorem dX9_count_52 : decode cX9_count 52 = .ok (.getfield 16, 3) := by decide +kernel
theorem dX9_count_55 : decode cX9_count 55 = .ok (.getfield 111, 3) := by decide +kernel
theorem dX9_count_58 : decode cX9_count 58 = .ok (.getfield 327, 3) := by decide +kernel
theorem dX9_count_61 : decode cX9_count 61 = .ok (.ireturn, 1) := by decide +kernel
theorem dX9_count_62 : decode cX9_count 62 = .ok (.aload_n 0, 1) := by decide +kernel
theorem dX9_count_63 : decode cX9_count 63 = .ok (.getfield 16, 3) := by decide +kernel
theorem dX9_count_66 : decode cX9_count 66 = .ok (.getfield 173, 3) := by decide +kernel
theorem dX9_count_69 : decode cX9_count 69 = .ok (.getfield 186, 3) := by decide +kernel
theorem dX9_count_72 : decode cX9_count 72 = .ok (.ireturn, 1) := by decide +kernel
theorem dX9_count_73 : decode cX9_count 73 = .ok (.aload_n 0, 1) := by decide +kernel
theorem dX9_count_74 : decode cX9_count 74 = .ok (.getfield 44, 3) := by decide +kernel
theorem dX9_count_77 : decode cX9_count 77 = .ok (.getfield 262, 3) := by decide +kernel
theorem dX9_count_80 : decode cX9_count 80 = .ok (.getfield 272, 3) := by decide +kernel
theorem dX9_count_83 : decode cX9_count 83 = .ok (.ireturn, 1) := by decide +kernel
theorem dX9_count_84 : decode cX9_count 84 = .ok (.aload_n 0, 1) := by decide +kernel
theorem dX9_count_85 : decode cX9_count 85 = .ok (.getfield 16, 3) := by decide +kernel
theorem dX9_count_88 : decode cX9_count 88 = .ok (.getfield 64, 3) := by decide +kernel
theorem dX9_count_91 : decode cX9_count 91 = .ok (.getfield 108, 3) := by decide +kernel
theorem dX9_count_94 : decode cX9_count 94 = .ok (.aload_n 0, 1) := by decide +kernel
theorem dX9_count_95 : decode cX9_count 95 = .ok (.getfield 16, 3) := by decide +kernel
theorem dX9_count_98 : decode cX9_count 98 = .ok (.getfield 64, 3) := by decide +kernel
theorem dX9_count_101 : decode cX9_count 101 = .ok (.getfield 229, 3) := by decide +kernel
theorem dX9_count_104 : decode cX9_count 104 = .ok (.invokestatic 230, 3) := by decide +kernel
theorem dX9_count_107 : decode cX9_count 107 = .ok (.ireturn, 1) := by decide +kernel
theorem dX9_count_108 : decode cX9_count 108 = .ok (.aload_n 0, 1) := by decide +kernel
theorem dX9_count_109 : decode cX9_count 109 = .ok (.getfield 16, 3) := by decide +kernel
theorem dX9_count_112 : decode cX9_count 112 = .ok (.getfield 64, 3) := by decide +kernel
theorem dX9_count_115 : decode cX9_count 115 = .ok (.getfield 328, 3) := by decide +kernel
theorem dX9_count_118 : decode cX9_count 118 = .ok (.aload_n 0, 1) := by decide +kernel
theorem dX9_count_119 : decode cX9_count 119 = .ok (.getfield 16, 3) := by decide +kernel
theorem dX9_count_122 : decode cX9_count 122 = .ok (.getfield 64, 3) := by decide +kernel
theorem dX9_count_125 : decode cX9_count 125 = .ok (.getfield 229, 3) := by decide +kernel
theorem dX9_count_128 : decode cX9_count 128 = .ok (.invokestatic 230, 3) := by decide +kernel
theorem dX9_count_131 : decode cX9_count 131 = .ok (.ireturn, 1) := by decide +kernel
theorem dX9_count_132 : decode cX9_count 132 = .ok (.aload_n 0, 1) := by decide +kernel
theorem dX9_count_133 : decode cX9_count 133 = .ok (.ldc 59, 2) := by decide +kernel
theorem dX9_count_135 : decode cX9_count 135 = .ok (.invokevirtual 60, 3) := by decide +kernel
theorem dX9_count_138 : decode cX9_count 138 = .ok (.ireturn, 1) := by decide +kernel
theorem dX9_status_0 : decode cX9_status 0 = .ok (.iload_n 1, 1) := by decide +kernel
theorem dX9_status_1 : decode cX9_status 1 = .ok (.iconst (-1), 1) := by decide +kernel
theorem dX9_status_2 : decode cX9_status 2 = .ok (.if_icmp .ne 13, 3) := by decide +kernel
theorem dX9_status_5 : decode cX9_status 5 = .ok (.aload_n 0, 1) := by decide +kernel
theorem dX9_status_6 : decode cX9_status 6 = .ok (.getfield 9, 3) := by decide +kernel
theorem dX9_status_9 : decode cX9_status 9 = .ok (.bipush 7, 2) := by decide +kernel
theorem dX9_status_11 : decode cX9_status 11 = .ok (.invokestatic 230, 3) := by decide +kernel
theorem dX9_status_14 : decode cX9_status 14 = .ok (.ireturn, 1) := by decide +kernel
theorem dX9_status_15 : decode cX9_status 15 = .ok (.iload_n 1, 1) := by decide +kernel
theorem dX9_status_16 : decode cX9_status 16 = .ok (.iconst 0, 1) := by decide +kernel
theorem dX9_status_17 : decode cX9_status 17 = .ok (.bipush 6, 2) := by decide +kernel
theorem dX9_status_19 : decode cX9_status 19 = .ok (.invokestatic 55, 3) := by decide +kernel
theorem dX9_status_22 : decode cX9_status 22 = .ok (.ifCond .ne 10, 3) := by decide +kernel
theorem dX9_status_25 : decode cX9_status 25 = .ok (.aload_n 0, 1) := by decide +kernel
theorem dX9_status_26 : decode cX9_status 26 = .ok (.ldc 59, 2) := by decide +kernel
theorem dX9_status_28 : decode cX9_status 28 = .ok (.invokevirtual 60, 3) := by decide +kernel
theorem dX9_status_31 : decode cX9_status 31 = .ok (.ireturn, 1) := by decide +kernel
theorem dX9_status_32 : decode cX9_status 32 = .ok (.aload_n 0, 1) := by decide +kernel
theorem dX9_status_33 : decode cX9_status 33 = .ok (.getfield 9, 3) := by decide +kernel
theorem dX9_status_36 : decode cX9_status 36 = .ok (.iload_n 1, 1) := by decide +kernel
theorem dX9_status_37 : decode cX9_status 37 = .ok (.iaload, 1) := by decide +kernel
theorem dX9_status_38 : decode cX9_status 38 = .ok (.ireturn, 1) := by decide +kernel
theorem dX9_tell_0 : decode cX9_tell 0 = .ok (.ldc 59, 2) := by decide +kernel
theorem dX9_tell_2 : decode cX9_tell 2 = .ok (.iload_n 1, 1) := by decide +kernel
theorem dX9_tell_3 : decode cX9_tell 3 = .ok (.isub, 1) := by decide +kernel
theorem dX9_tell_4 : decode cX9_tell 4 = .ok (.istore_n 2, 1) := by decide +kernel
theorem dX9_tell_5 : decode cX9_tell 5 = .ok (.iload_n 2, 1) := by decide +kernel
theorem dX9_tell_6 : decode cX9_tell 6 = .ok (.ifCond .lt 19, 3) := by decide +kernel
theorem dX9_tell_9 : decode cX9_tell 9 = .ok (.iload_n 2, 1) := by decide +kernel
theorem dX9_tell_10 : decode cX9_tell 10 = .ok (.bipush 7, 2) := by decide +kernel
theorem dX9_tell_12 : decode cX9_tell 12 = .ok (.if_icmp .ge 13, 3) := by decide +kernel
theorem dX9_tell_15 : decode cX9_tell 15 = .ok (.aload_n 0, 1) := by decide +kernel
theorem dX9_tell_16 : decode cX9_tell 16 = .ok (.getfield 9, 3) := by decide +kernel
theorem dX9_tell_19 : decode cX9_tell 19 = .ok (.iload_n 2, 1) := by decide +kernel
theorem dX9_tell_20 : decode cX9_tell 20 = .ok (.dup2, 1) := by decide +kernel
theorem dX9_tell_21 : decode cX9_tell 21 = .ok (.iaload, 1) := by decide +kernel
theorem dX9_tell_22 : decode cX9_tell 22 = .ok (.iconst 1, 1) := by decide +kernel
theorem dX9_tell_23 : decode cX9_tell 23 = .ok (.iadd, 1) := by decide +kernel
theorem dX9_tell_24 : decode cX9_tell 24 = .ok (.iastore, 1) := by decide +kernel
theorem dX9_tell_25 : decode cX9_tell 25 = .ok (.iload_n 1, 1) := by decide +kernel
theorem dX9_tell_26 : decode cX9_tell 26 = .ok (.ireturn, 1) := by decide +kernel
theorem dX9_orNone_0 : decode cX9_orNone 0 = .ok (.iload_n 1, 1) := by decide +kernel
theorem dX9_orNone_1 : decode cX9_orNone 1 = .ok (.ifCond .ge 12, 3) := by decide +kernel
theorem dX9_orNone_4 : decode cX9_orNone 4 = .ok (.aload_n 0, 1) := by decide +kernel
theorem dX9_orNone_5 : decode cX9_orNone 5 = .ok (.ldc 250, 2) := by decide +kernel
theorem dX9_orNone_7 : decode cX9_orNone 7 = .ok (.invokevirtual 60, 3) := by decide +kernel
theorem dX9_orNone_10 : decode cX9_orNone 10 = .ok (.goto 4, 3) := by decide +kernel
theorem dX9_orNone_13 : decode cX9_orNone 13 = .ok (.iload_n 1, 1) := by decide +kernel
theorem dX9_orNone_14 : decode cX9_orNone 14 = .ok (.ireturn, 1) := by decide +kernel
theorem dX9_isPhrase_0 : decode cX9_isPhrase 0 = .ok (.iload_n 1, 1) := by decide +kernel
theorem dX9_isPhrase_1 : decode cX9_isPhrase 1 = .ok (.ifCond .lt 21, 3) := by decide +kernel
theorem dX9_isPhrase_4 : decode cX9_isPhrase 4 = .ok (.iload_n 1, 1) := by decide +kernel
theorem dX9_isPhrase_5 : decode cX9_isPhrase 5 = .ok (.aload_n 0, 1) := by decide +kernel
theorem dX9_isPhrase_6 : decode cX9_isPhrase 6 = .ok (.getfield 16, 3) := by decide +kernel
theorem dX9_isPhrase_9 : decode cX9_isPhrase 9 = .ok (.getfield 64, 3) := by decide +kernel
theorem dX9_isPhrase_12 : decode cX9_isPhrase 12 = .ok (.getfield 229, 3) := by decide +kernel
theorem dX9_isPhrase_15 : decode cX9_isPhrase 15 = .ok (.if_icmp .ge 7, 3) := by decide +kernel
theorem dX9_isPhrase_18 : decode cX9_isPhrase 18 = .ok (.iconst 1, 1) := by decide +kernel
theorem dX9_isPhrase_19 : decode cX9_isPhrase 19 = .ok (.goto 4, 3) := by decide +kernel
theorem dX9_isPhrase_22 : decode cX9_isPhrase 22 = .ok (.iconst 0, 1) := by decide +kernel
theorem dX9_isPhrase_23 : decode cX9_isPhrase 23 = .ok (.ireturn, 1) := by decide +kernel
theorem dX9_isWant_0 : decode cX9_isWant 0 = .ok (.iload_n 1, 1) := by decide +kernel
theorem dX9_isWant_1 : decode cX9_isWant 1 = .ok (.ifCond .lt 21, 3) := by decide +kernel
theorem dX9_isWant_4 : decode cX9_isWant 4 = .ok (.iload_n 1, 1) := by decide +kernel
theorem dX9_isWant_5 : decode cX9_isWant 5 = .ok (.aload_n 0, 1) := by decide +kernel
theorem dX9_isWant_6 : decode cX9_isWant 6 = .ok (.getfield 16, 3) := by decide +kernel
theorem dX9_isWant_9 : decode cX9_isWant 9 = .ok (.getfield 111, 3) := by decide +kernel
theorem dX9_isWant_12 : decode cX9_isWant 12 = .ok (.getfield 327, 3) := by decide +kernel
theorem dX9_isWant_15 : decode cX9_isWant 15 = .ok (.if_icmp .ge 7, 3) := by decide +kernel
theorem dX9_isWant_18 : decode cX9_isWant 18 = .ok (.iconst 1, 1) := by decide +kernel
theorem dX9_isWant_19 : decode cX9_isWant 19 = .ok (.goto 4, 3) := by decide +kernel
theorem dX9_isWant_22 : decode cX9_isWant 22 = .ok (.iconst 0, 1) := by decide +kernel
theorem dX9_isWant_23 : decode cX9_isWant 23 = .ok (.ireturn, 1) := by decide +kernel
theorem dX9_isSet_0 : decode cX9_isSet 0 = .ok (.iload_n 1, 1) := by decide +kernel
theorem dX9_isSet_1 : decode cX9_isSet 1 = .ok (.ifCond .lt 23, 3) := by decide +kernel
theorem dX9_isSet_4 : decode cX9_isSet 4 = .ok (.iload_n 1, 1) := by decide +kernel
theorem dX9_isSet_5 : decode cX9_isSet 5 = .ok (.iconst 1, 1) := by decide +kernel
theorem dX9_isSet_6 : decode cX9_isSet 6 = .ok (.aload_n 0, 1) := by decide +kernel
theorem dX9_isSet_7 : decode cX9_isSet 7 = .ok (.getfield 16, 3) := by decide +kernel
theorem dX9_isSet_10 : decode cX9_isSet 10 = .ok (.getfield 64, 3) := by decide +kernel
theorem dX9_isSet_13 : decode cX9_isSet 13 = .ok (.getfield 229, 3) := by decide +kernel
theorem dX9_isSet_16 : decode cX9_isSet 16 = .ok (.ishl, 1) := by decide +kernel
theorem dX9_isSet_17 : decode cX9_isSet 17 = .ok (.if_icmp .ge 7, 3) := by decide +kernel
theorem dX9_isSet_20 : decode cX9_isSet 20 = .ok (.iconst 1, 1) := by decide +kernel
theorem dX9_isSet_21 : decode cX9_isSet 21 = .ok (.goto 4, 3) := by decide +kernel
theorem dX9_isSet_24 : decode cX9_isSet 24 = .ok (.iconst 0, 1) := by decide +kernel
theorem dX9_isSet_25 : decode cX9_isSet 25 = .ok (.ireturn, 1) := by decide +kernel
theorem dX9_mayGo_0 : decode cX9_mayGo 0 = .ok (.aload_n 0, 1) := by decide +kernel
theorem dX9_mayGo_1 : decode cX9_mayGo 1 = .ok (.getfield 16, 3) := by decide +kernel
theorem dX9_mayGo_4 : decode cX9_mayGo 4 = .ok (.getfield 216, 3) := by decide +kernel
theorem dX9_mayGo_7 : decode cX9_mayGo 7 = .ok (.iload_n 1, 1) := by decide +kernel
theorem dX9_mayGo_8 : decode cX9_mayGo 8 = .ok (.iadd, 1) := by decide +kernel
theorem dX9_mayGo_9 : decode cX9_mayGo 9 = .ok (.bipush 99, 2) := by decide +kernel
theorem dX9_mayGo_11 : decode cX9_mayGo 11 = .ok (.if_icmp .gt 7, 3) := by decide +kernel
theorem dX9_mayGo_14 : decode cX9_mayGo 14 = .ok (.iconst 1, 1) := by decide +kernel
theorem dX9_mayGo_15 : decode cX9_mayGo 15 = .ok (.goto 4, 3) := by decide +kernel
theorem dX9_mayGo_18 : decode cX9_mayGo 18 = .ok (.iconst 0, 1) := by decide +kernel
theorem dX9_mayGo_19 : decode cX9_mayGo 19 = .ok (.ireturn, 1) := by decide +kernel
theorem dX9_within_0 : decode cX9_within 0 = .ok (.iload_n 0, 1) := by decide +kernel
theorem dX9_within_1 : decode cX9_within 1 = .ok (.iload_n 1, 1) := by decide +kernel
theorem dX9_within_2 : decode cX9_within 2 = .ok (.if_icmp .lt 12, 3) := by decide +kernel
theorem dX9_within_5 : decode cX9_within 5 = .ok (.iload_n 0, 1) := by decide +kernel
theorem dX9_within_6 : decode cX9_within 6 = .ok (.iload_n 2, 1) := by decide +kernel
theorem dX9_within_7 : decode cX9_within 7 = .ok (.if_icmp .gt 7, 3) := by decide +kernel
theorem dX9_within_10 : decode cX9_within 10 = .ok (.iconst 1, 1) := by decide +kernel
theorem dX9_within_11 : decode cX9_within 11 = .ok (.goto 4, 3) := by decide +kernel
theorem dX9_within_14 : decode cX9_within 14 = .ok (.iconst 0, 1) := by decide +kernel
theorem dX9_within_15 : decode cX9_within 15 = .ok (.ireturn, 1) := by decide +kernel
theorem dX9_isIn_0 : decode cX9_isIn 0 = .ok (.iload_n 0, 1) := by decide +kernel
theorem dX9_isIn_1 : decode cX9_isIn 1 = .ok (.iload_n 1, 1) := by decide +kernel
theorem dX9_isIn_2 : decode cX9_isIn 2 = .ok (.ishr, 1) := by decide +kernel
theorem dX9_isIn_3 : decode cX9_isIn 3 = .ok (.iconst 1, 1) := by decide +kernel
theorem dX9_isIn_4 : decode cX9_isIn 4 = .ok (.iand, 1) := by decide +kernel
theorem dX9_isIn_5 : decode cX9_isIn 5 = .ok (.ifCond .eq 7, 3) := by decide +kernel
theorem dX9_isIn_8 : decode cX9_isIn 8 = .ok (.iconst 1, 1) := by decide +kernel
theorem dX9_isIn_9 : decode cX9_isIn 9 = .ok (.goto 4, 3) := by decide +kernel
theorem dX9_isIn_12 : decode cX9_isIn 12 = .ok (.iconst 0, 1) := by decide +kernel
theorem dX9_isIn_13 : decode cX9_isIn 13 = .ok (.ireturn, 1) := by decide +kernel
theorem dX9_metFrom_0 : decode cX9_metFrom 0 = .ok (.iload_n 0, 1) := by decide +kernel
theorem dX9_metFrom_1 : decode cX9_metFrom 1 = .ok (.iload_n 2, 1) := by decide +kernel
theorem dX9_metFrom_2 : decode cX9_metFrom 2 = .ok (.ifCond .eq 11, 3) := by decide +kernel
theorem dX9_metFrom_5 : decode cX9_metFrom 5 = .ok (.iload_n 1, 1) := by decide +kernel
theorem dX9_metFrom_6 : decode cX9_metFrom 6 = .ok (.iload_n 0, 1) := by decide +kernel
theorem dX9_metFrom_7 : decode cX9_metFrom 7 = .ok (.iconst 5, 1) := by decide +kernel
theorem dX9_metFrom_8 : decode cX9_metFrom 8 = .ok (.idiv, 1) := by decide +kernel
theorem dX9_metFrom_9 : decode cX9_metFrom 9 = .ok (.iadd, 1) := by decide +kernel
theorem dX9_metFrom_10 : decode cX9_metFrom 10 = .ok (.goto 4, 3) := by decide +kernel
theorem dX9_metFrom_13 : decode cX9_metFrom 13 = .ok (.iload_n 1, 1) := by decide +kernel
theorem dX9_metFrom_14 : decode cX9_metFrom 14 = .ok (.invokestatic 311, 3) := by decide +kernel
theorem dX9_metFrom_17 : decode cX9_metFrom 17 = .ok (.ireturn, 1) := by decide +kernel
theorem dX9_exchange_0 : decode cX9_exchange 0 = .ok (.aload_n 0, 1) := by decide +kernel
theorem dX9_exchange_1 : decode cX9_exchange 1 = .ok (.iload_n 1, 1) := by decide +kernel
theorem dX9_exchange_2 : decode cX9_exchange 2 = .ok (.iaload, 1) := by decide +kernel
theorem dX9_exchange_3 : decode cX9_exchange 3 = .ok (.istore_n 3, 1) := by decide +kernel
theorem dX9_exchange_4 : decode cX9_exchange 4 = .ok (.aload_n 0, 1) := by decide +kernel
theorem dX9_exchange_5 : decode cX9_exchange 5 = .ok (.iload_n 1, 1) := by decide +kernel
theorem dX9_exchange_6 : decode cX9_exchange 6 = .ok (.iload_n 2, 1) := by decide +kernel
theorem dX9_exchange_7 : decode cX9_exchange 7 = .ok (.iastore, 1) := by decide +kernel
theorem dX9_exchange_8 : decode cX9_exchange 8 = .ok (.iload_n 3, 1) := by decide +kernel
theorem dX9_exchange_9 : decode cX9_exchange 9 = .ok (.ireturn, 1) := by decide +kernel
theorem dX9_sum_0 : decode cX9_sum 0 = .ok (.iconst 0, 1) := by decide +kernel
theorem dX9_sum_1 : decode cX9_sum 1 = .ok (.istore_n 2, 1) := by decide +kernel
theorem dX9_sum_2 : decode cX9_sum 2 = .ok (.iconst 0, 1) := by decide +kernel
theorem dX9_sum_3 : decode cX9_sum 3 = .ok (.istore_n 3, 1) := by decide +kernel
theorem dX9_sum_4 : decode cX9_sum 4 = .ok (.iload_n 3, 1) := by decide +kernel
theorem dX9_sum_5 : decode cX9_sum 5 = .ok (.iload_n 1, 1) := by decide +kernel
theorem dX9_sum_6 : decode cX9_sum 6 = .ok (.if_icmp .ge 15, 3) := by decide +kernel
theorem dX9_sum_9 : decode cX9_sum 9 = .ok (.iload_n 2, 1) := by decide +kernel
theorem dX9_sum_10 : decode cX9_sum 10 = .ok (.aload_n 0, 1) := by decide +kernel
theorem dX9_sum_11 : decode cX9_sum 11 = .ok (.iload_n 3, 1) := by decide +kernel
theorem dX9_sum_12 : decode cX9_sum 12 = .ok (.iaload, 1) := by decide +kernel
theorem dX9_sum_13 : decode cX9_sum 13 = .ok (.iadd, 1) := by decide +kernel
theorem dX9_sum_14 : decode cX9_sum 14 = .ok (.istore_n 2, 1) := by decide +kernel
theorem dX9_sum_15 : decode cX9_sum 15 = .ok (.iinc 3 1, 3) := by decide +kernel
theorem dX9_sum_18 : decode cX9_sum 18 = .ok (.goto (-14), 3) := by decide +kernel
theorem dX9_sum_21 : decode cX9_sum 21 = .ok (.iload_n 2, 1) := by decide +kernel
theorem dX9_sum_22 : decode cX9_sum 22 = .ok (.ireturn, 1) := by decide +kernel
theorem dJ6_numberOfTrailingZeros_0f7a4_0 : decode cJ6_numberOfTrailingZeros_0f7a4 0 = .ok (.iload_n 0, 1) := by decide +kernel
theorem dJ6_numberOfTrailingZeros_0f7a4_1 : decode cJ6_numberOfTrailingZeros_0f7a4 1 = .ok (.iconst (-1), 1) := by decide +kernel
theorem dJ6_numberOfTrailingZeros_0f7a4_2 : decode cJ6_numberOfTrailingZeros_0f7a4 2 = .ok (.ixor, 1) := by decide +kernel
theorem dJ6_numberOfTrailingZeros_0f7a4_3 : decode cJ6_numberOfTrailingZeros_0f7a4 3 = .ok (.iload_n 0, 1) := by decide +kernel
theorem dJ6_numberOfTrailingZeros_0f7a4_4 : decode cJ6_numberOfTrailingZeros_0f7a4 4 = .ok (.iconst 1, 1) := by decide +kernel
theorem dJ6_numberOfTrailingZeros_0f7a4_5 : decode cJ6_numberOfTrailingZeros_0f7a4 5 = .ok (.isub, 1) := by decide +kernel
theorem dJ6_numberOfTrailingZeros_0f7a4_6 : decode cJ6_numberOfTrailingZeros_0f7a4 6 = .ok (.iand, 1) := by decide +kernel
theorem dJ6_numberOfTrailingZeros_0f7a4_7 : decode cJ6_numberOfTrailingZeros_0f7a4 7 = .ok (.istore_n 0, 1) := by decide +kernel
theorem dJ6_numberOfTrailingZeros_0f7a4_8 : decode cJ6_numberOfTrailingZeros_0f7a4 8 = .ok (.iload_n 0, 1) := by decide +kernel
theorem dJ6_numberOfTrailingZeros_0f7a4_9 : decode cJ6_numberOfTrailingZeros_0f7a4 9 = .ok (.ifCond .gt 8, 3) := by decide +kernel
theorem dJ6_numberOfTrailingZeros_0f7a4_12 : decode cJ6_numberOfTrailingZeros_0f7a4 12 = .ok (.iload_n 0, 1) := by decide +kernel
theorem dJ6_numberOfTrailingZeros_0f7a4_13 : decode cJ6_numberOfTrailingZeros_0f7a4 13 = .ok (.bipush 32, 2) := by decide +kernel
theorem dJ6_numberOfTrailingZeros_0f7a4_15 : decode cJ6_numberOfTrailingZeros_0f7a4 15 = .ok (.iand, 1) := by decide +kernel
theorem dJ6_numberOfTrailingZeros_0f7a4_16 : decode cJ6_numberOfTrailingZeros_0f7a4 16 = .ok (.ireturn, 1) := by decide +kernel
theorem dJ6_numberOfTrailingZeros_0f7a4_17 : decode cJ6_numberOfTrailingZeros_0f7a4 17 = .ok (.iconst 1, 1) := by decide +kernel
theorem dJ6_numberOfTrailingZeros_0f7a4_18 : decode cJ6_numberOfTrailingZeros_0f7a4 18 = .ok (.istore_n 1, 1) := by decide +kernel
theorem dJ6_numberOfTrailingZeros_0f7a4_19 : decode cJ6_numberOfTrailingZeros_0f7a4 19 = .ok (.iload_n 0, 1) := by decide +kernel
theorem dJ6_numberOfTrailingZeros_0f7a4_20 : decode cJ6_numberOfTrailingZeros_0f7a4 20 = .ok (.ldc_w 264, 3) := by decide +kernel
theorem dJ6_numberOfTrailingZeros_0f7a4_23 : decode cJ6_numberOfTrailingZeros_0f7a4 23 = .ok (.if_icmp .le 11, 3) := by decide +kernel
theorem dJ6_numberOfTrailingZeros_0f7a4_26 : decode cJ6_numberOfTrailingZeros_0f7a4 26 = .ok (.iinc 1 16, 3) := by decide +kernel
theorem dJ6_numberOfTrailingZeros_0f7a4_29 : decode cJ6_numberOfTrailingZeros_0f7a4 29 = .ok (.iload_n 0, 1) := by decide +kernel
theorem dJ6_numberOfTrailingZeros_0f7a4_30 : decode cJ6_numberOfTrailingZeros_0f7a4 30 = .ok (.bipush 16, 2) := by decide +kernel
theorem dJ6_numberOfTrailingZeros_0f7a4_32 : decode cJ6_numberOfTrailingZeros_0f7a4 32 = .ok (.iushr, 1) := by decide +kernel
theorem dJ6_numberOfTrailingZeros_0f7a4_33 : decode cJ6_numberOfTrailingZeros_0f7a4 33 = .ok (.istore_n 0, 1) := by decide +kernel
theorem dJ6_numberOfTrailingZeros_0f7a4_34 : decode cJ6_numberOfTrailingZeros_0f7a4 34 = .ok (.iload_n 0, 1) := by decide +kernel
theorem dJ6_numberOfTrailingZeros_0f7a4_35 : decode cJ6_numberOfTrailingZeros_0f7a4 35 = .ok (.sipush 256, 3) := by decide +kernel
theorem dJ6_numberOfTrailingZeros_0f7a4_38 : decode cJ6_numberOfTrailingZeros_0f7a4 38 = .ok (.if_icmp .le 11, 3) := by decide +kernel
theorem dJ6_numberOfTrailingZeros_0f7a4_41 : decode cJ6_numberOfTrailingZeros_0f7a4 41 = .ok (.iinc 1 8, 3) := by decide +kernel
theorem dJ6_numberOfTrailingZeros_0f7a4_44 : decode cJ6_numberOfTrailingZeros_0f7a4 44 = .ok (.iload_n 0, 1) := by decide +kernel
theorem dJ6_numberOfTrailingZeros_0f7a4_45 : decode cJ6_numberOfTrailingZeros_0f7a4 45 = .ok (.bipush 8, 2) := by decide +kernel
theorem dJ6_numberOfTrailingZeros_0f7a4_47 : decode cJ6_numberOfTrailingZeros_0f7a4 47 = .ok (.iushr, 1) := by decide +kernel
theorem dJ6_numberOfTrailingZeros_0f7a4_48 : decode cJ6_numberOfTrailingZeros_0f7a4 48 = .ok (.istore_n 0, 1) := by decide +kernel
theorem dJ6_numberOfTrailingZeros_0f7a4_49 : decode cJ6_numberOfTrailingZeros_0f7a4 49 = .ok (.iload_n 0, 1) := by decide +kernel
theorem dJ6_numberOfTrailingZeros_0f7a4_50 : decode cJ6_numberOfTrailingZeros_0f7a4 50 = .ok (.bipush 16, 2) := by decide +kernel
theorem dJ6_numberOfTrailingZeros_0f7a4_52 : decode cJ6_numberOfTrailingZeros_0f7a4 52 = .ok (.if_icmp .le 10, 3) := by decide +kernel
theorem dJ6_numberOfTrailingZeros_0f7a4_55 : decode cJ6_numberOfTrailingZeros_0f7a4 55 = .ok (.iinc 1 4, 3) := by decide +kernel
theorem dJ6_numberOfTrailingZeros_0f7a4_58 : decode cJ6_numberOfTrailingZeros_0f7a4 58 = .ok (.iload_n 0, 1) := by decide +kernel
theorem dJ6_numberOfTrailingZeros_0f7a4_59 : decode cJ6_numberOfTrailingZeros_0f7a4 59 = .ok (.iconst 4, 1) := by decide +kernel
theorem dJ6_numberOfTrailingZeros_0f7a4_60 : decode cJ6_numberOfTrailingZeros_0f7a4 60 = .ok (.iushr, 1) := by decide +kernel
theorem dJ6_numberOfTrailingZeros_0f7a4_61 : decode cJ6_numberOfTrailingZeros_0f7a4 61 = .ok (.istore_n 0, 1) := by decide +kernel
theorem dJ6_numberOfTrailingZeros_0f7a4_62 : decode cJ6_numberOfTrailingZeros_0f7a4 62 = .ok (.iload_n 0, 1) := by decide +kernel
theorem dJ6_numberOfTrailingZeros_0f7a4_63 : decode cJ6_numberOfTrailingZeros_0f7a4 63 = .ok (.iconst 4, 1) := by decide +kernel
theorem dJ6_numberOfTrailingZeros_0f7a4_64 : decode cJ6_numberOfTrailingZeros_0f7a4 64 = .ok (.if_icmp .le 10, 3) := by decide +kernel
theorem dJ6_numberOfTrailingZeros_0f7a4_67 : decode cJ6_numberOfTrailingZeros_0f7a4 67 = .ok (.iinc 1 2, 3) := by decide +kernel
theorem dJ6_numberOfTrailingZeros_0f7a4_70 : decode cJ6_numberOfTrailingZeros_0f7a4 70 = .ok (.iload_n 0, 1) := by decide +kernel
theorem dJ6_numberOfTrailingZeros_0f7a4_71 : decode cJ6_numberOfTrailingZeros_0f7a4 71 = .ok (.iconst 2, 1) := by decide +kernel
theorem dJ6_numberOfTrailingZeros_0f7a4_72 : decode cJ6_numberOfTrailingZeros_0f7a4 72 = .ok (.iushr, 1) := by decide +kernel
theorem dJ6_numberOfTrailingZeros_0f7a4_73 : decode cJ6_numberOfTrailingZeros_0f7a4 73 = .ok (.istore_n 0, 1) := by decide +kernel
theorem dJ6_numberOfTrailingZeros_0f7a4_74 : decode cJ6_numberOfTrailingZeros_0f7a4 74 = .ok (.iload_n 1, 1) := by decide +kernel
theorem dJ6_numberOfTrailingZeros_0f7a4_75 : decode cJ6_numberOfTrailingZeros_0f7a4 75 = .ok (.iload_n 0, 1) := by decide +kernel
theorem dJ6_numberOfTrailingZeros_0f7a4_76 : decode cJ6_numberOfTrailingZeros_0f7a4 76 = .ok (.iconst 1, 1) := by decide +kernel
theorem dJ6_numberOfTrailingZeros_0f7a4_77 : decode cJ6_numberOfTrailingZeros_0f7a4 77 = .ok (.iushr, 1) := by decide +kernel
theorem dJ6_numberOfTrailingZeros_0f7a4_78 : decode cJ6_numberOfTrailingZeros_0f7a4 78 = .ok (.iadd, 1) := by decide +kernel
theorem dJ6_numberOfTrailingZeros_0f7a4_79 : decode cJ6_numberOfTrailingZeros_0f7a4 79 = .ok (.ireturn, 1) := by decide +kernel
theorem dJ6_bitCount_0f7a4_0 : decode cJ6_bitCount_0f7a4 0 = .ok (.iload_n 0, 1) := by decide +kernel
theorem dJ6_bitCount_0f7a4_1 : decode cJ6_bitCount_0f7a4 1 = .ok (.iload_n 0, 1) := by decide +kernel
theorem dJ6_bitCount_0f7a4_2 : decode cJ6_bitCount_0f7a4 2 = .ok (.iconst 1, 1) := by decide +kernel
theorem dJ6_bitCount_0f7a4_3 : decode cJ6_bitCount_0f7a4 3 = .ok (.iushr, 1) := by decide +kernel
theorem dJ6_bitCount_0f7a4_4 : decode cJ6_bitCount_0f7a4 4 = .ok (.ldc_w 265, 3) := by decide +kernel
theorem dJ6_bitCount_0f7a4_7 : decode cJ6_bitCount_0f7a4 7 = .ok (.iand, 1) := by decide +kernel
theorem dJ6_bitCount_0f7a4_8 : decode cJ6_bitCount_0f7a4 8 = .ok (.isub, 1) := by decide +kernel
theorem dJ6_bitCount_0f7a4_9 : decode cJ6_bitCount_0f7a4 9 = .ok (.istore_n 0, 1) := by decide +kernel
theorem dJ6_bitCount_0f7a4_10 : decode cJ6_bitCount_0f7a4 10 = .ok (.iload_n 0, 1) := by decide +kernel
theorem dJ6_bitCount_0f7a4_11 : decode cJ6_bitCount_0f7a4 11 = .ok (.ldc_w 266, 3) := by decide +kernel
theorem dJ6_bitCount_0f7a4_14 : decode cJ6_bitCount_0f7a4 14 = .ok (.iand, 1) := by decide +kernel
theorem dJ6_bitCount_0f7a4_15 : decode cJ6_bitCount_0f7a4 15 = .ok (.iload_n 0, 1) := by decide +kernel
theorem dJ6_bitCount_0f7a4_16 : decode cJ6_bitCount_0f7a4 16 = .ok (.iconst 2, 1) := by decide +kernel
theorem dJ6_bitCount_0f7a4_17 : decode cJ6_bitCount_0f7a4 17 = .ok (.iushr, 1) := by decide +kernel
theorem dJ6_bitCount_0f7a4_18 : decode cJ6_bitCount_0f7a4 18 = .ok (.ldc_w 266, 3) := by decide +kernel
theorem dJ6_bitCount_0f7a4_21 : decode cJ6_bitCount_0f7a4 21 = .ok (.iand, 1) := by decide +kernel
theorem dJ6_bitCount_0f7a4_22 : decode cJ6_bitCount_0f7a4 22 = .ok (.iadd, 1) := by decide +kernel
theorem dJ6_bitCount_0f7a4_23 : decode cJ6_bitCount_0f7a4 23 = .ok (.istore_n 0, 1) := by decide +kernel
theorem dJ6_bitCount_0f7a4_24 : decode cJ6_bitCount_0f7a4 24 = .ok (.iload_n 0, 1) := by decide +kernel
theorem dJ6_bitCount_0f7a4_25 : decode cJ6_bitCount_0f7a4 25 = .ok (.iload_n 0, 1) := by decide +kernel
theorem dJ6_bitCount_0f7a4_26 : decode cJ6_bitCount_0f7a4 26 = .ok (.iconst 4, 1) := by decide +kernel
theorem dJ6_bitCount_0f7a4_27 : decode cJ6_bitCount_0f7a4 27 = .ok (.iushr, 1) := by decide +kernel
theorem dJ6_bitCount_0f7a4_28 : decode cJ6_bitCount_0f7a4 28 = .ok (.iadd, 1) := by decide +kernel
theorem dJ6_bitCount_0f7a4_29 : decode cJ6_bitCount_0f7a4 29 = .ok (.ldc_w 267, 3) := by decide +kernel
theorem dJ6_bitCount_0f7a4_32 : decode cJ6_bitCount_0f7a4 32 = .ok (.iand, 1) := by decide +kernel
theorem dJ6_bitCount_0f7a4_33 : decode cJ6_bitCount_0f7a4 33 = .ok (.istore_n 0, 1) := by decide +kernel
theorem dJ6_bitCount_0f7a4_34 : decode cJ6_bitCount_0f7a4 34 = .ok (.iload_n 0, 1) := by decide +kernel
theorem dJ6_bitCount_0f7a4_35 : decode cJ6_bitCount_0f7a4 35 = .ok (.iload_n 0, 1) := by decide +kernel
theorem dJ6_bitCount_0f7a4_36 : decode cJ6_bitCount_0f7a4 36 = .ok (.bipush 8, 2) := by decide +kernel
theorem dJ6_bitCount_0f7a4_38 : decode cJ6_bitCount_0f7a4 38 = .ok (.iushr, 1) := by decide +kernel
theorem dJ6_bitCount_0f7a4_39 : decode cJ6_bitCount_0f7a4 39 = .ok (.iadd, 1) := by decide +kernel
theorem dJ6_bitCount_0f7a4_40 : decode cJ6_bitCount_0f7a4 40 = .ok (.istore_n 0, 1) := by decide +kernel
theorem dJ6_bitCount_0f7a4_41 : decode cJ6_bitCount_0f7a4 41 = .ok (.iload_n 0, 1) := by decide +kernel
theorem dJ6_bitCount_0f7a4_42 : decode cJ6_bitCount_0f7a4 42 = .ok (.iload_n 0, 1) := by decide +kernel
theorem dJ6_bitCount_0f7a4_43 : decode cJ6_bitCount_0f7a4 43 = .ok (.bipush 16, 2) := by decide +kernel
theorem dJ6_bitCount_0f7a4_45 : decode cJ6_bitCount_0f7a4 45 = .ok (.iushr, 1) := by decide +kernel
theorem dJ6_bitCount_0f7a4_46 : decode cJ6_bitCount_0f7a4 46 = .ok (.iadd, 1) := by decide +kernel
theorem dJ6_bitCount_0f7a4_47 : decode cJ6_bitCount_0f7a4 47 = .ok (.istore_n 0, 1) := by decide +kernel
theorem dJ6_bitCount_0f7a4_48 : decode cJ6_bitCount_0f7a4 48 = .ok (.iload_n 0, 1) := by decide +kernel
theorem dJ6_bitCount_0f7a4_49 : decode cJ6_bitCount_0f7a4 49 = .ok (.bipush 63, 2) := by decide +kernel
theorem dJ6_bitCount_0f7a4_51 : decode cJ6_bitCount_0f7a4 51 = .ok (.iand, 1) := by decide +kernel
theorem dJ6_bitCount_0f7a4_52 : decode cJ6_bitCount_0f7a4 52 = .ok (.ireturn, 1) := by decide +kernel
theorem dJ9_max_7cf53_0 : decode cJ9_max_7cf53 0 = .ok (.iload_n 0, 1) := by decide +kernel
theorem dJ9_max_7cf53_1 : decode cJ9_max_7cf53 1 = .ok (.iload_n 1, 1) := by decide +kernel
theorem dJ9_max_7cf53_2 : decode cJ9_max_7cf53 2 = .ok (.if_icmp .lt 7, 3) := by decide +kernel
theorem dJ9_max_7cf53_5 : decode cJ9_max_7cf53 5 = .ok (.iload_n 0, 1) := by decide +kernel
theorem dJ9_max_7cf53_6 : decode cJ9_max_7cf53 6 = .ok (.goto 4, 3) := by decide +kernel
theorem dJ9_max_7cf53_9 : decode cJ9_max_7cf53 9 = .ok (.iload_n 1, 1) := by decide +kernel
theorem dJ9_max_7cf53_10 : decode cJ9_max_7cf53 10 = .ok (.ireturn, 1) := by decide +kernel
theorem dJ9_min_7cf53_0 : decode cJ9_min_7cf53 0 = .ok (.iload_n 0, 1) := by decide +kernel
theorem dJ9_min_7cf53_1 : decode cJ9_min_7cf53 1 = .ok (.iload_n 1, 1) := by decide +kernel
theorem dJ9_min_7cf53_2 : decode cJ9_min_7cf53 2 = .ok (.if_icmp .gt 7, 3) := by decide +kernel
theorem dJ9_min_7cf53_5 : decode cJ9_min_7cf53 5 = .ok (.iload_n 0, 1) := by decide +kernel
theorem dJ9_min_7cf53_6 : decode cJ9_min_7cf53 6 = .ok (.goto 4, 3) := by decide +kernel
theorem dJ9_min_7cf53_9 : decode cJ9_min_7cf53 9 = .ok (.iload_n 1, 1) := by decide +kernel
theorem dJ9_min_7cf53_10 : decode cJ9_min_7cf53 10 = .ok (.ireturn, 1) := by decide +kernel
theorem dJ0_length_8abf5_0 : decode cJ0_length_8abf5 0 = .ok (.aload_n 0, 1) := by decide +kernel
theorem dJ0_length_8abf5_1 : decode cJ0_length_8abf5 1 = .ok (.getfield 9, 3) := by decide +kernel
theorem dJ0_length_8abf5_4 : decode cJ0_length_8abf5 4 = .ok (.arraylength, 1) := by decide +kernel
theorem dJ0_length_8abf5_5 : decode cJ0_length_8abf5 5 = .ok (.aload_n 0, 1) := by decide +kernel
theorem dJ0_length_8abf5_6 : decode cJ0_length_8abf5 6 = .ok (.invokevirtual 335, 3) := by decide +kernel
theorem dJ0_length_8abf5_9 : decode cJ0_length_8abf5 9 = .ok (.ishr, 1) := by decide +kernel
theorem dJ0_length_8abf5_10 : decode cJ0_length_8abf5 10 = .ok (.ireturn, 1) := by decide +kernel
theorem dJ0_charAt_5068e_0 : decode cJ0_charAt_5068e 0 = .ok (.aload_n 0, 1) := by decide +kernel
theorem dJ0_charAt_5068e_1 : decode cJ0_charAt_5068e 1 = .ok (.invokevirtual 492, 3) := by decide +kernel
theorem dJ0_charAt_5068e_4 : decode cJ0_charAt_5068e 4 = .ok (.ifCond .eq 12, 3) := by decide +kernel
theorem dJ0_charAt_5068e_7 : decode cJ0_charAt_5068e 7 = .ok (.aload_n 0, 1) := by decide +kernel
theorem dJ0_charAt_5068e_8 : decode cJ0_charAt_5068e 8 = .ok (.getfield 9, 3) := by decide +kernel
theorem dJ0_charAt_5068e_11 : decode cJ0_charAt_5068e 11 = .ok (.iload_n 1, 1) := by decide +kernel
theorem dJ0_charAt_5068e_12 : decode cJ0_charAt_5068e 12 = .ok (.invokestatic 495, 3) := by decide +kernel
theorem dJ0_charAt_5068e_15 : decode cJ0_charAt_5068e 15 = .ok (.ireturn, 1) := by decide +kernel
theorem dJ0_charAt_5068e_16 : decode cJ0_charAt_5068e 16 = .ok (.aload_n 0, 1) := by decide +kernel
theorem dJ0_charAt_5068e_17 : decode cJ0_charAt_5068e 17 = .ok (.getfield 9, 3) := by decide +kernel
theorem dJ0_charAt_5068e_20 : decode cJ0_charAt_5068e 20 = .ok (.iload_n 1, 1) := by decide +kernel
theorem dJ0_charAt_5068e_21 : decode cJ0_charAt_5068e 21 = .ok (.invokestatic 498, 3) := by decide +kernel
theorem dJ0_charAt_5068e_24 : decode cJ0_charAt_5068e 24 = .ok (.ireturn, 1) := by decide +kernel
theorem dJ0_coder_7d493_0 : decode cJ0_coder_7d493 0 = .ok (.getstatic 38, 3) := by decide +kernel
theorem dJ0_coder_7d493_3 : decode cJ0_coder_7d493 3 = .ok (.ifCond .eq 10, 3) := by decide +kernel
theorem dJ0_coder_7d493_6 : decode cJ0_coder_7d493 6 = .ok (.aload_n 0, 1) := by decide +kernel
theorem dJ0_coder_7d493_7 : decode cJ0_coder_7d493 7 = .ok (.getfield 15, 3) := by decide +kernel
theorem dJ0_coder_7d493_10 : decode cJ0_coder_7d493 10 = .ok (.goto 4, 3) := by decide +kernel
theorem dJ0_coder_7d493_13 : decode cJ0_coder_7d493 13 = .ok (.iconst 1, 1) := by decide +kernel
theorem dJ0_coder_7d493_14 : decode cJ0_coder_7d493 14 = .ok (.ireturn, 1) := by decide +kernel
theorem dJ0_isLatin1_aae02_0 : decode cJ0_isLatin1_aae02 0 = .ok (.getstatic 38, 3) := by decide +kernel
theorem dJ0_isLatin1_aae02_3 : decode cJ0_isLatin1_aae02 3 = .ok (.ifCond .eq 14, 3) := by decide +kernel
theorem dJ0_isLatin1_aae02_6 : decode cJ0_isLatin1_aae02 6 = .ok (.aload_n 0, 1) := by decide +kernel
theorem dJ0_isLatin1_aae02_7 : decode cJ0_isLatin1_aae02 7 = .ok (.getfield 15, 3) := by decide +kernel
theorem dJ0_isLatin1_aae02_10 : decode cJ0_isLatin1_aae02 10 = .ok (.ifCond .ne 7, 3) := by decide +kernel
theorem dJ0_isLatin1_aae02_13 : decode cJ0_isLatin1_aae02 13 = .ok (.iconst 1, 1) := by decide +kernel
theorem dJ0_isLatin1_aae02_14 : decode cJ0_isLatin1_aae02 14 = .ok (.goto 4, 3) := by decide +kernel
theorem dJ0_isLatin1_aae02_17 : decode cJ0_isLatin1_aae02 17 = .ok (.iconst 0, 1) := by decide +kernel
theorem dJ0_isLatin1_aae02_18 : decode cJ0_isLatin1_aae02 18 = .ok (.ireturn, 1) := by decide +kernel
theorem dJ0_checkIndex_df160_0 : decode cJ0_checkIndex_df160 0 = .ok (.iload_n 0, 1) := by decide +kernel
theorem dJ0_checkIndex_df160_1 : decode cJ0_checkIndex_df160 1 = .ok (.iload_n 1, 1) := by decide +kernel
theorem dJ0_checkIndex_df160_2 : decode cJ0_checkIndex_df160 2 = .ok (.getstatic 1053, 3) := by decide +kernel
theorem dJ0_checkIndex_df160_5 : decode cJ0_checkIndex_df160 5 = .ok (.invokestatic 1059, 3) := by decide +kernel
theorem dJ0_checkIndex_df160_8 : decode cJ0_checkIndex_df160 8 = .ok (.pop, 1) := by decide +kernel
theorem dJ0_checkIndex_df160_9 : decode cJ0_checkIndex_df160 9 = .ok (.return_, 1) := by decide +kernel
theorem dJ1_charAt_3b067_0 : decode cJ1_charAt_3b067 0 = .ok (.iload_n 1, 1) := by decide +kernel
theorem dJ1_charAt_3b067_1 : decode cJ1_charAt_3b067 1 = .ok (.aload_n 0, 1) := by decide +kernel
theorem dJ1_charAt_3b067_2 : decode cJ1_charAt_3b067 2 = .ok (.arraylength, 1) := by decide +kernel
theorem dJ1_charAt_3b067_3 : decode cJ1_charAt_3b067 3 = .ok (.invokestatic 9, 3) := by decide +kernel
theorem dJ1_charAt_3b067_6 : decode cJ1_charAt_3b067 6 = .ok (.aload_n 0, 1) := by decide +kernel
theorem dJ1_charAt_3b067_7 : decode cJ1_charAt_3b067 7 = .ok (.iload_n 1, 1) := by decide +kernel
theorem dJ1_charAt_3b067_8 : decode cJ1_charAt_3b067 8 = .ok (.baload, 1) := by decide +kernel
theorem dJ1_charAt_3b067_9 : decode cJ1_charAt_3b067 9 = .ok (.sipush 255, 3) := by decide +kernel
theorem dJ1_charAt_3b067_12 : decode cJ1_charAt_3b067 12 = .ok (.iand, 1) := by decide +kernel
theorem dJ1_charAt_3b067_13 : decode cJ1_charAt_3b067 13 = .ok (.i2c, 1) := by decide +kernel
theorem dJ1_charAt_3b067_14 : decode cJ1_charAt_3b067 14 = .ok (.ireturn, 1) := by decide +kernel
theorem dJ2_getChar_3b067_0 : decode cJ2_getChar_3b067 0 = .ok (.getstatic 44, 3) := by decide +kernel
theorem dJ2_getChar_3b067_3 : decode cJ2_getChar_3b067 3 = .ok (.ifCond .ne 25, 3) := by decide +kernel
theorem dJ2_getChar_3b067_6 : decode cJ2_getChar_3b067 6 = .ok (.iload_n 1, 1) := by decide +kernel
theorem dJ2_getChar_3b067_7 : decode cJ2_getChar_3b067 7 = .ok (.ifCond .lt 11, 3) := by decide +kernel
theorem dJ2_getChar_3b067_10 : decode cJ2_getChar_3b067 10 = .ok (.iload_n 1, 1) := by decide +kernel
theorem dJ2_getChar_3b067_11 : decode cJ2_getChar_3b067 11 = .ok (.aload_n 0, 1) := by decide +kernel
theorem dJ2_getChar_3b067_12 : decode cJ2_getChar_3b067 12 = .ok (.invokestatic 48, 3) := by decide +kernel
theorem dJ2_getChar_3b067_15 : decode cJ2_getChar_3b067 15 = .ok (.if_icmp .lt 13, 3) := by decide +kernel
theorem dJ2_getChar_3b067_18 : decode cJ2_getChar_3b067 18 = .ok (.new 52, 3) := by decide +kernel
theorem dJ2_getChar_3b067_21 : decode cJ2_getChar_3b067 21 = .ok (.dup, 1) := by decide +kernel
theorem dJ2_getChar_3b067_22 : decode cJ2_getChar_3b067 22 = .ok (.ldc 54, 2) := by decide +kernel
theorem dJ2_getChar_3b067_24 : decode cJ2_getChar_3b067 24 = .ok (.invokespecial 56, 3) := by decide +kernel
theorem dJ2_getChar_3b067_27 : decode cJ2_getChar_3b067 27 = .ok (.athrow, 1) := by decide +kernel
theorem dJ2_getChar_3b067_28 : decode cJ2_getChar_3b067 28 = .ok (.iload_n 1, 1) := by decide +kernel
theorem dJ2_getChar_3b067_29 : decode cJ2_getChar_3b067 29 = .ok (.iconst 1, 1) := by decide +kernel
theorem dJ2_getChar_3b067_30 : decode cJ2_getChar_3b067 30 = .ok (.ishl, 1) := by decide +kernel
theorem dJ2_getChar_3b067_31 : decode cJ2_getChar_3b067 31 = .ok (.istore_n 1, 1) := by decide +kernel
theorem dJ2_getChar_3b067_32 : decode cJ2_getChar_3b067 32 = .ok (.aload_n 0, 1) := by decide +kernel
theorem dJ2_getChar_3b067_33 : decode cJ2_getChar_3b067 33 = .ok (.iload_n 1, 1) := by decide +kernel
theorem dJ2_getChar_3b067_34 : decode cJ2_getChar_3b067 34 = .ok (.iinc 1 1, 3) := by decide +kernel
theorem dJ2_getChar_3b067_37 : decode cJ2_getChar_3b067 37 = .ok (.baload, 1) := by decide +kernel
theorem dJ2_getChar_3b067_38 : decode cJ2_getChar_3b067 38 = .ok (.sipush 255, 3) := by decide +kernel
theorem dJ2_getChar_3b067_41 : decode cJ2_getChar_3b067 41 = .ok (.iand, 1) := by decide +kernel
theorem dJ2_getChar_3b067_42 : decode cJ2_getChar_3b067 42 = .ok (.getstatic 59, 3) := by decide +kernel
theorem dJ2_getChar_3b067_45 : decode cJ2_getChar_3b067 45 = .ok (.ishl, 1) := by decide +kernel
theorem dJ2_getChar_3b067_46 : decode cJ2_getChar_3b067 46 = .ok (.aload_n 0, 1) := by decide +kernel
theorem dJ2_getChar_3b067_47 : decode cJ2_getChar_3b067 47 = .ok (.iload_n 1, 1) := by decide +kernel
theorem dJ2_getChar_3b067_48 : decode cJ2_getChar_3b067 48 = .ok (.baload, 1) := by decide +kernel
theorem dJ2_getChar_3b067_49 : decode cJ2_getChar_3b067 49 = .ok (.sipush 255, 3) := by decide +kernel
theorem dJ2_getChar_3b067_52 : decode cJ2_getChar_3b067 52 = .ok (.iand, 1) := by decide +kernel
theorem dJ2_getChar_3b067_53 : decode cJ2_getChar_3b067 53 = .ok (.getstatic 63, 3) := by decide +kernel
theorem dJ2_getChar_3b067_56 : decode cJ2_getChar_3b067 56 = .ok (.ishl, 1) := by decide +kernel
theorem dJ2_getChar_3b067_57 : decode cJ2_getChar_3b067 57 = .ok (.ior, 1) := by decide +kernel
theorem dJ2_getChar_3b067_58 : decode cJ2_getChar_3b067 58 = .ok (.i2c, 1) := by decide +kernel
theorem dJ2_getChar_3b067_59 : decode cJ2_getChar_3b067 59 = .ok (.ireturn, 1) := by decide +kernel
theorem dJ2_length_9d52b_0 : decode cJ2_length_9d52b 0 = .ok (.aload_n 0, 1) := by decide +kernel
theorem dJ2_length_9d52b_1 : decode cJ2_length_9d52b 1 = .ok (.arraylength, 1) := by decide +kernel
theorem dJ2_length_9d52b_2 : decode cJ2_length_9d52b 2 = .ok (.iconst 1, 1) := by decide +kernel
theorem dJ2_length_9d52b_3 : decode cJ2_length_9d52b 3 = .ok (.ishr, 1) := by decide +kernel
theorem dJ2_length_9d52b_4 : decode cJ2_length_9d52b 4 = .ok (.ireturn, 1) := by decide +kernel
theorem dJ2_charAt_3b067_0 : decode cJ2_charAt_3b067 0 = .ok (.iload_n 1, 1) := by decide +kernel
theorem dJ2_charAt_3b067_1 : decode cJ2_charAt_3b067 1 = .ok (.aload_n 0, 1) := by decide +kernel
theorem dJ2_charAt_3b067_2 : decode cJ2_charAt_3b067 2 = .ok (.invokestatic 67, 3) := by decide +kernel
theorem dJ2_charAt_3b067_5 : decode cJ2_charAt_3b067 5 = .ok (.aload_n 0, 1) := by decide +kernel
theorem dJ2_charAt_3b067_6 : decode cJ2_charAt_3b067 6 = .ok (.iload_n 1, 1) := by decide +kernel
theorem dJ2_charAt_3b067_7 : decode cJ2_charAt_3b067 7 = .ok (.invokestatic 71, 3) := by decide +kernel
theorem dJ2_charAt_3b067_10 : decode cJ2_charAt_3b067 10 = .ok (.ireturn, 1) := by decide +kernel
theorem dJ2_checkIndex_2214a_0 : decode cJ2_checkIndex_2214a 0 = .ok (.iload_n 0, 1) := by decide +kernel
theorem dJ2_checkIndex_2214a_1 : decode cJ2_checkIndex_2214a 1 = .ok (.aload_n 1, 1) := by decide +kernel
theorem dJ2_checkIndex_2214a_2 : decode cJ2_checkIndex_2214a 2 = .ok (.invokestatic 48, 3) := by decide +kernel
theorem dJ2_checkIndex_2214a_5 : decode cJ2_checkIndex_2214a 5 = .ok (.invokestatic 414, 3) := by decide +kernel
theorem dJ2_checkIndex_2214a_8 : decode cJ2_checkIndex_2214a 8 = .ok (.return_, 1) := by decide +kernel
theorem dJ3_checkIndex_8e157_0 : decode cJ3_checkIndex_8e157 0 = .ok (.iload_n 0, 1) := by decide +kernel
theorem dJ3_checkIndex_8e157_1 : decode cJ3_checkIndex_8e157 1 = .ok (.ifCond .lt 8, 3) := by decide +kernel
theorem dJ3_checkIndex_8e157_4 : decode cJ3_checkIndex_8e157 4 = .ok (.iload_n 0, 1) := by decide +kernel
theorem dJ3_checkIndex_8e157_5 : decode cJ3_checkIndex_8e157 5 = .ok (.iload_n 1, 1) := by decide +kernel
theorem dJ3_checkIndex_8e157_6 : decode cJ3_checkIndex_8e157 6 = .ok (.if_icmp .lt 10, 3) := by decide +kernel
theorem dJ3_checkIndex_8e157_9 : decode cJ3_checkIndex_8e157 9 = .ok (.aload_n 2, 1) := by decide +kernel
theorem dJ3_checkIndex_8e157_10 : decode cJ3_checkIndex_8e157 10 = .ok (.iload_n 0, 1) := by decide +kernel
theorem dJ3_checkIndex_8e157_11 : decode cJ3_checkIndex_8e157 11 = .ok (.iload_n 1, 1) := by decide +kernel
theorem dJ3_checkIndex_8e157_12 : decode cJ3_checkIndex_8e157 12 = .ok (.invokestatic 95, 3) := by decide +kernel
theorem dJ3_checkIndex_8e157_15 : decode cJ3_checkIndex_8e157 15 = .ok (.athrow, 1) := by decide +kernel
theorem dJ3_checkIndex_8e157_16 : decode cJ3_checkIndex_8e157 16 = .ok (.iload_n 0, 1) := by decide +kernel
theorem dJ3_checkIndex_8e157_17 : decode cJ3_checkIndex_8e157 17 = .ok (.ireturn, 1) := by decide +kernel
