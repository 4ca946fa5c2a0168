-- decode rows, printed (claim/NAMES.whole)
theorem dX10_init_0 : decode cX10_init 0 = .ok (.aload_n 0, 1) := by decide +kernel
theorem dX10_init_1 : decode cX10_init 1 = .ok (.invokespecial 1, 3) := by decide +kernel
theorem dX10_init_4 : decode cX10_init 4 = .ok (.aload_n 0, 1) := by decide +kernel
theorem dX10_init_5 : decode cX10_init 5 = .ok (.sipush 150, 3) := by decide +kernel
theorem dX10_init_8 : decode cX10_init 8 = .ok (.newarray .int, 2) := by decide +kernel
theorem dX10_init_10 : decode cX10_init 10 = .ok (.putfield 7, 3) := by decide +kernel
theorem dX10_init_13 : decode cX10_init 13 = .ok (.aload_n 0, 1) := by decide +kernel
theorem dX10_init_14 : decode cX10_init 14 = .ok (.sipush 150, 3) := by decide +kernel
theorem dX10_init_17 : decode cX10_init 17 = .ok (.newarray .int, 2) := by decide +kernel
theorem dX10_init_19 : decode cX10_init 19 = .ok (.putfield 13, 3) := by decide +kernel
theorem dX10_init_22 : decode cX10_init 22 = .ok (.aload_n 0, 1) := by decide +kernel
theorem dX10_init_23 : decode cX10_init 23 = .ok (.sipush 150, 3) := by decide +kernel
theorem dX10_init_26 : decode cX10_init 26 = .ok (.newarray .int, 2) := by decide +kernel
theorem dX10_init_28 : decode cX10_init 28 = .ok (.putfield 16, 3) := by decide +kernel
theorem dX10_init_31 : decode cX10_init 31 = .ok (.aload_n 0, 1) := by decide +kernel
theorem dX10_init_32 : decode cX10_init 32 = .ok (.bipush 7, 2) := by decide +kernel
theorem dX10_init_34 : decode cX10_init 34 = .ok (.newarray .int, 2) := by decide +kernel
theorem dX10_init_36 : decode cX10_init 36 = .ok (.putfield 19, 3) := by decide +kernel
theorem dX10_init_39 : decode cX10_init 39 = .ok (.aload_n 0, 1) := by decide +kernel
theorem dX10_init_40 : decode cX10_init 40 = .ok (.iconst 5, 1) := by decide +kernel
theorem dX10_init_41 : decode cX10_init 41 = .ok (.newarray .int, 2) := by decide +kernel
theorem dX10_init_43 : decode cX10_init 43 = .ok (.putfield 22, 3) := by decide +kernel
theorem dX10_init_46 : decode cX10_init 46 = .ok (.aload_n 0, 1) := by decide +kernel
theorem dX10_init_47 : decode cX10_init 47 = .ok (.iconst 5, 1) := by decide +kernel
theorem dX10_init_48 : decode cX10_init 48 = .ok (.newarray .int, 2) := by decide +kernel
theorem dX10_init_50 : decode cX10_init 50 = .ok (.putfield 25, 3) := by decide +kernel
theorem dX10_init_53 : decode cX10_init 53 = .ok (.aload_n 0, 1) := by decide +kernel
theorem dX10_init_54 : decode cX10_init 54 = .ok (.bipush 120, 2) := by decide +kernel
theorem dX10_init_56 : decode cX10_init 56 = .ok (.newarray .int, 2) := by decide +kernel
theorem dX10_init_58 : decode cX10_init 58 = .ok (.putfield 28, 3) := by decide +kernel
theorem dX10_init_61 : decode cX10_init 61 = .ok (.aload_n 0, 1) := by decide +kernel
theorem dX10_init_62 : decode cX10_init 62 = .ok (.iconst 4, 1) := by decide +kernel
theorem dX10_init_63 : decode cX10_init 63 = .ok (.newarray .int, 2) := by decide +kernel
theorem dX10_init_65 : decode cX10_init 65 = .ok (.putfield 31, 3) := by decide +kernel
theorem dX10_init_68 : decode cX10_init 68 = .ok (.aload_n 0, 1) := by decide +kernel
theorem dX10_init_69 : decode cX10_init 69 = .ok (.iconst 4, 1) := by decide +kernel
theorem dX10_init_70 : decode cX10_init 70 = .ok (.newarray .int, 2) := by decide +kernel
theorem dX10_init_72 : decode cX10_init 72 = .ok (.putfield 34, 3) := by decide +kernel
theorem dX10_init_75 : decode cX10_init 75 = .ok (.aload_n 0, 1) := by decide +kernel
theorem dX10_init_76 : decode cX10_init 76 = .ok (.sipush 160, 3) := by decide +kernel
theorem dX10_init_79 : decode cX10_init 79 = .ok (.newarray .long, 2) := by decide +kernel
theorem dX10_init_81 : decode cX10_init 81 = .ok (.putfield 37, 3) := by decide +kernel
theorem dX10_init_84 : decode cX10_init 84 = .ok (.aload_n 0, 1) := by decide +kernel
theorem dX10_init_85 : decode cX10_init 85 = .ok (.bipush 40, 2) := by decide +kernel
theorem dX10_init_87 : decode cX10_init 87 = .ok (.newarray .long, 2) := by decide +kernel
theorem dX10_init_89 : decode cX10_init 89 = .ok (.putfield 41, 3) := by decide +kernel
theorem dX10_init_92 : decode cX10_init 92 = .ok (.aload_n 0, 1) := by decide +kernel
theorem dX10_init_93 : decode cX10_init 93 = .ok (.getfield 7, 3) := by decide +kernel
theorem dX10_init_96 : decode cX10_init 96 = .ok (.iconst 2, 1) := by decide +kernel
theorem dX10_init_97 : decode cX10_init 97 = .ok (.bipush 60, 2) := by decide +kernel
theorem dX10_init_99 : decode cX10_init 99 = .ok (.iastore, 1) := by decide +kernel
theorem dX10_init_100 : decode cX10_init 100 = .ok (.return_, 1) := by decide +kernel
theorem dX10_in_0 : decode cX10_in 0 = .ok (.lload_n 0, 1) := by decide +kernel
theorem dX10_in_1 : decode cX10_in 1 = .ok (.lload_n 2, 1) := by decide +kernel
theorem dX10_in_2 : decode cX10_in 2 = .ok (.lcmp, 1) := by decide +kernel
theorem dX10_in_3 : decode cX10_in 3 = .ok (.ifCond .lt 14, 3) := by decide +kernel
theorem dX10_in_6 : decode cX10_in 6 = .ok (.lload_n 0, 1) := by decide +kernel
theorem dX10_in_7 : decode cX10_in 7 = .ok (.lload 4, 2) := by decide +kernel
theorem dX10_in_9 : decode cX10_in 9 = .ok (.lcmp, 1) := by decide +kernel
theorem dX10_in_10 : decode cX10_in 10 = .ok (.ifCond .gt 7, 3) := by decide +kernel
theorem dX10_in_13 : decode cX10_in 13 = .ok (.iconst 1, 1) := by decide +kernel
theorem dX10_in_14 : decode cX10_in 14 = .ok (.goto 4, 3) := by decide +kernel
theorem dX10_in_17 : decode cX10_in 17 = .ok (.iconst 0, 1) := by decide +kernel
theorem dX10_in_18 : decode cX10_in 18 = .ok (.ireturn, 1) := by decide +kernel
theorem dX10_finds_0 : decode cX10_finds 0 = .ok (.aload_n 0, 1) := by decide +kernel
theorem dX10_finds_1 : decode cX10_finds 1 = .ok (.getfield 19, 3) := by decide +kernel
theorem dX10_finds_4 : decode cX10_finds 4 = .ok (.ldc 44, 2) := by decide +kernel
theorem dX10_finds_6 : decode cX10_finds 6 = .ok (.iload_n 1, 1) := by decide +kernel
theorem dX10_finds_7 : decode cX10_finds 7 = .ok (.isub, 1) := by decide +kernel
theorem dX10_finds_8 : decode cX10_finds 8 = .ok (.dup2, 1) := by decide +kernel
theorem dX10_finds_9 : decode cX10_finds 9 = .ok (.iaload, 1) := by decide +kernel
theorem dX10_finds_10 : decode cX10_finds 10 = .ok (.iconst 1, 1) := by decide +kernel
theorem dX10_finds_11 : decode cX10_finds 11 = .ok (.iadd, 1) := by decide +kernel
theorem dX10_finds_12 : decode cX10_finds 12 = .ok (.iastore, 1) := by decide +kernel
theorem dX10_finds_13 : decode cX10_finds 13 = .ok (.iload_n 1, 1) := by decide +kernel
theorem dX10_finds_14 : decode cX10_finds 14 = .ok (.ireturn, 1) := by decide +kernel
theorem dX10_has_0 : decode cX10_has 0 = .ok (.iload_n 0, 1) := by decide +kernel
theorem dX10_has_1 : decode cX10_has 1 = .ok (.iload_n 1, 1) := by decide +kernel
theorem dX10_has_2 : decode cX10_has 2 = .ok (.ishr, 1) := by decide +kernel
theorem dX10_has_3 : decode cX10_has 3 = .ok (.iconst 1, 1) := by decide +kernel
theorem dX10_has_4 : decode cX10_has 4 = .ok (.iand, 1) := by decide +kernel
theorem dX10_has_5 : decode cX10_has 5 = .ok (.iconst 1, 1) := by decide +kernel
theorem dX10_has_6 : decode cX10_has 6 = .ok (.if_icmp .ne 7, 3) := by decide +kernel
theorem dX10_has_9 : decode cX10_has 9 = .ok (.iconst 1, 1) := by decide +kernel
theorem dX10_has_10 : decode cX10_has 10 = .ok (.goto 4, 3) := by decide +kernel
theorem dX10_has_13 : decode cX10_has 13 = .ok (.iconst 0, 1) := by decide +kernel
theorem dX10_has_14 : decode cX10_has 14 = .ok (.ireturn, 1) := by decide +kernel
theorem dX10_ones_0 : decode cX10_ones 0 = .ok (.iconst 0, 1) := by decide +kernel
theorem dX10_ones_1 : decode cX10_ones 1 = .ok (.istore_n 1, 1) := by decide +kernel
theorem dX10_ones_2 : decode cX10_ones 2 = .ok (.iload_n 0, 1) := by decide +kernel
theorem dX10_ones_3 : decode cX10_ones 3 = .ok (.istore_n 2, 1) := by decide +kernel
theorem dX10_ones_4 : decode cX10_ones 4 = .ok (.iload_n 2, 1) := by decide +kernel
theorem dX10_ones_5 : decode cX10_ones 5 = .ok (.ifCond .eq 15, 3) := by decide +kernel
theorem dX10_ones_8 : decode cX10_ones 8 = .ok (.iinc 1 1, 3) := by decide +kernel
theorem dX10_ones_11 : decode cX10_ones 11 = .ok (.iload_n 2, 1) := by decide +kernel
theorem dX10_ones_12 : decode cX10_ones 12 = .ok (.iload_n 2, 1) := by decide +kernel
theorem dX10_ones_13 : decode cX10_ones 13 = .ok (.iconst 1, 1) := by decide +kernel
theorem dX10_ones_14 : decode cX10_ones 14 = .ok (.isub, 1) := by decide +kernel
theorem dX10_ones_15 : decode cX10_ones 15 = .ok (.iand, 1) := by decide +kernel
theorem dX10_ones_16 : decode cX10_ones 16 = .ok (.istore_n 2, 1) := by decide +kernel
theorem dX10_ones_17 : decode cX10_ones 17 = .ok (.goto (-13), 3) := by decide +kernel
theorem dX10_ones_20 : decode cX10_ones 20 = .ok (.iload_n 1, 1) := by decide +kernel
theorem dX10_ones_21 : decode cX10_ones 21 = .ok (.ireturn, 1) := by decide +kernel
theorem dX10_isPhrase_0 : decode cX10_isPhrase 0 = .ok (.iload_n 1, 1) := by decide +kernel
theorem dX10_isPhrase_1 : decode cX10_isPhrase 1 = .ok (.i2l, 1) := by decide +kernel
theorem dX10_isPhrase_2 : decode cX10_isPhrase 2 = .ok (.lconst 0, 1) := by decide +kernel
theorem dX10_isPhrase_3 : decode cX10_isPhrase 3 = .ok (.aload_n 0, 1) := by decide +kernel
theorem dX10_isPhrase_4 : decode cX10_isPhrase 4 = .ok (.getfield 7, 3) := by decide +kernel
theorem dX10_isPhrase_7 : decode cX10_isPhrase 7 = .ok (.iconst 0, 1) := by decide +kernel
theorem dX10_isPhrase_8 : decode cX10_isPhrase 8 = .ok (.iaload, 1) := by decide +kernel
theorem dX10_isPhrase_9 : decode cX10_isPhrase 9 = .ok (.iconst 1, 1) := by decide +kernel
theorem dX10_isPhrase_10 : decode cX10_isPhrase 10 = .ok (.isub, 1) := by decide +kernel
theorem dX10_isPhrase_11 : decode cX10_isPhrase 11 = .ok (.i2l, 1) := by decide +kernel
theorem dX10_isPhrase_12 : decode cX10_isPhrase 12 = .ok (.invokestatic 45, 3) := by decide +kernel
theorem dX10_isPhrase_15 : decode cX10_isPhrase 15 = .ok (.ireturn, 1) := by decide +kernel
theorem dX10_isWant_0 : decode cX10_isWant 0 = .ok (.iload_n 1, 1) := by decide +kernel
theorem dX10_isWant_1 : decode cX10_isWant 1 = .ok (.i2l, 1) := by decide +kernel
theorem dX10_isWant_2 : decode cX10_isWant 2 = .ok (.lconst 0, 1) := by decide +kernel
theorem dX10_isWant_3 : decode cX10_isWant 3 = .ok (.aload_n 0, 1) := by decide +kernel
theorem dX10_isWant_4 : decode cX10_isWant 4 = .ok (.getfield 7, 3) := by decide +kernel
theorem dX10_isWant_7 : decode cX10_isWant 7 = .ok (.iconst 1, 1) := by decide +kernel
theorem dX10_isWant_8 : decode cX10_isWant 8 = .ok (.iaload, 1) := by decide +kernel
theorem dX10_isWant_9 : decode cX10_isWant 9 = .ok (.iconst 1, 1) := by decide +kernel
theorem dX10_isWant_10 : decode cX10_isWant 10 = .ok (.isub, 1) := by decide +kernel
theorem dX10_isWant_11 : decode cX10_isWant 11 = .ok (.i2l, 1) := by decide +kernel
theorem dX10_isWant_12 : decode cX10_isWant 12 = .ok (.invokestatic 45, 3) := by decide +kernel
theorem dX10_isWant_15 : decode cX10_isWant 15 = .ok (.ireturn, 1) := by decide +kernel
theorem dX10_isSet_0 : decode cX10_isSet 0 = .ok (.iload_n 1, 1) := by decide +kernel
theorem dX10_isSet_1 : decode cX10_isSet 1 = .ok (.i2l, 1) := by decide +kernel
theorem dX10_isSet_2 : decode cX10_isSet 2 = .ok (.lconst 0, 1) := by decide +kernel
theorem dX10_isSet_3 : decode cX10_isSet 3 = .ok (.iconst 1, 1) := by decide +kernel
theorem dX10_isSet_4 : decode cX10_isSet 4 = .ok (.aload_n 0, 1) := by decide +kernel
theorem dX10_isSet_5 : decode cX10_isSet 5 = .ok (.getfield 7, 3) := by decide +kernel
theorem dX10_isSet_8 : decode cX10_isSet 8 = .ok (.iconst 0, 1) := by decide +kernel
theorem dX10_isSet_9 : decode cX10_isSet 9 = .ok (.iaload, 1) := by decide +kernel
theorem dX10_isSet_10 : decode cX10_isSet 10 = .ok (.ishl, 1) := by decide +kernel
theorem dX10_isSet_11 : decode cX10_isSet 11 = .ok (.iconst 1, 1) := by decide +kernel
theorem dX10_isSet_12 : decode cX10_isSet 12 = .ok (.isub, 1) := by decide +kernel
theorem dX10_isSet_13 : decode cX10_isSet 13 = .ok (.i2l, 1) := by decide +kernel
theorem dX10_isSet_14 : decode cX10_isSet 14 = .ok (.invokestatic 45, 3) := by decide +kernel
theorem dX10_isSet_17 : decode cX10_isSet 17 = .ok (.ireturn, 1) := by decide +kernel
theorem dX10_at_0 : decode cX10_at 0 = .ok (.bipush 6, 2) := by decide +kernel
theorem dX10_at_2 : decode cX10_at 2 = .ok (.bipush 6, 2) := by decide +kernel
theorem dX10_at_4 : decode cX10_at 4 = .ok (.iload_n 0, 1) := by decide +kernel
theorem dX10_at_5 : decode cX10_at 5 = .ok (.imul, 1) := by decide +kernel
theorem dX10_at_6 : decode cX10_at 6 = .ok (.iadd, 1) := by decide +kernel
theorem dX10_at_7 : decode cX10_at 7 = .ok (.iload_n 1, 1) := by decide +kernel
theorem dX10_at_8 : decode cX10_at 8 = .ok (.iadd, 1) := by decide +kernel
theorem dX10_at_9 : decode cX10_at 9 = .ok (.ireturn, 1) := by decide +kernel
theorem dX10_its_0 : decode cX10_its 0 = .ok (.aload_n 0, 1) := by decide +kernel
theorem dX10_its_1 : decode cX10_its 1 = .ok (.getfield 7, 3) := by decide +kernel
theorem dX10_its_4 : decode cX10_its 4 = .ok (.iload_n 1, 1) := by decide +kernel
theorem dX10_its_5 : decode cX10_its 5 = .ok (.iload_n 2, 1) := by decide +kernel
theorem dX10_its_6 : decode cX10_its 6 = .ok (.invokestatic 49, 3) := by decide +kernel
theorem dX10_its_9 : decode cX10_its 9 = .ok (.iaload, 1) := by decide +kernel
theorem dX10_its_10 : decode cX10_its 10 = .ok (.ireturn, 1) := by decide +kernel
theorem dX10_wants_0 : decode cX10_wants 0 = .ok (.aload_n 0, 1) := by decide +kernel
theorem dX10_wants_1 : decode cX10_wants 1 = .ok (.getfield 7, 3) := by decide +kernel
theorem dX10_wants_4 : decode cX10_wants 4 = .ok (.bipush 78, 2) := by decide +kernel
theorem dX10_wants_6 : decode cX10_wants 6 = .ok (.iconst 5, 1) := by decide +kernel
theorem dX10_wants_7 : decode cX10_wants 7 = .ok (.iload_n 1, 1) := by decide +kernel
theorem dX10_wants_8 : decode cX10_wants 8 = .ok (.imul, 1) := by decide +kernel
theorem dX10_wants_9 : decode cX10_wants 9 = .ok (.iadd, 1) := by decide +kernel
theorem dX10_wants_10 : decode cX10_wants 10 = .ok (.iload_n 2, 1) := by decide +kernel
theorem dX10_wants_11 : decode cX10_wants 11 = .ok (.iadd, 1) := by decide +kernel
theorem dX10_wants_12 : decode cX10_wants 12 = .ok (.iaload, 1) := by decide +kernel
theorem dX10_wants_13 : decode cX10_wants 13 = .ok (.ireturn, 1) := by decide +kernel
theorem dX10_puts_0 : decode cX10_puts 0 = .ok (.iconst 0, 1) := by decide +kernel
theorem dX10_puts_1 : decode cX10_puts 1 = .ok (.istore_n 1, 1) := by decide +kernel
theorem dX10_puts_2 : decode cX10_puts 2 = .ok (.iload_n 1, 1) := by decide +kernel
theorem dX10_puts_3 : decode cX10_puts 3 = .ok (.sipush 150, 3) := by decide +kernel
theorem dX10_puts_6 : decode cX10_puts 6 = .ok (.if_icmp .ge 21, 3) := by decide +kernel
theorem dX10_puts_9 : decode cX10_puts 9 = .ok (.aload_n 0, 1) := by decide +kernel
theorem dX10_puts_10 : decode cX10_puts 10 = .ok (.getfield 16, 3) := by decide +kernel
theorem dX10_puts_13 : decode cX10_puts 13 = .ok (.iload_n 1, 1) := by decide +kernel
theorem dX10_puts_14 : decode cX10_puts 14 = .ok (.aload_n 0, 1) := by decide +kernel
theorem dX10_puts_15 : decode cX10_puts 15 = .ok (.getfield 7, 3) := by decide +kernel
theorem dX10_puts_18 : decode cX10_puts 18 = .ok (.iload_n 1, 1) := by decide +kernel
theorem dX10_puts_19 : decode cX10_puts 19 = .ok (.iaload, 1) := by decide +kernel
theorem dX10_puts_20 : decode cX10_puts 20 = .ok (.iastore, 1) := by decide +kernel
theorem dX10_puts_21 : decode cX10_puts 21 = .ok (.iinc 1 1, 3) := by decide +kernel
theorem dX10_puts_24 : decode cX10_puts 24 = .ok (.goto (-22), 3) := by decide +kernel
theorem dX10_puts_27 : decode cX10_puts 27 = .ok (.return_, 1) := by decide +kernel
theorem dX10_putsBack_0 : decode cX10_putsBack 0 = .ok (.iconst 0, 1) := by decide +kernel
theorem dX10_putsBack_1 : decode cX10_putsBack 1 = .ok (.istore_n 1, 1) := by decide +kernel
theorem dX10_putsBack_2 : decode cX10_putsBack 2 = .ok (.iload_n 1, 1) := by decide +kernel
theorem dX10_putsBack_3 : decode cX10_putsBack 3 = .ok (.sipush 150, 3) := by decide +kernel
theorem dX10_putsBack_6 : decode cX10_putsBack 6 = .ok (.if_icmp .ge 21, 3) := by decide +kernel
theorem dX10_putsBack_9 : decode cX10_putsBack 9 = .ok (.aload_n 0, 1) := by decide +kernel
theorem dX10_putsBack_10 : decode cX10_putsBack 10 = .ok (.getfield 7, 3) := by decide +kernel
theorem dX10_putsBack_13 : decode cX10_putsBack 13 = .ok (.iload_n 1, 1) := by decide +kernel
theorem dX10_putsBack_14 : decode cX10_putsBack 14 = .ok (.aload_n 0, 1) := by decide +kernel
theorem dX10_putsBack_15 : decode cX10_putsBack 15 = .ok (.getfield 16, 3) := by decide +kernel
theorem dX10_putsBack_18 : decode cX10_putsBack 18 = .ok (.iload_n 1, 1) := by decide +kernel
theorem dX10_putsBack_19 : decode cX10_putsBack 19 = .ok (.iaload, 1) := by decide +kernel
theorem dX10_putsBack_20 : decode cX10_putsBack 20 = .ok (.iastore, 1) := by decide +kernel
theorem dX10_putsBack_21 : decode cX10_putsBack 21 = .ok (.iinc 1 1, 3) := by decide +kernel
theorem dX10_putsBack_24 : decode cX10_putsBack 24 = .ok (.goto (-22), 3) := by decide +kernel
theorem dX10_putsBack_27 : decode cX10_putsBack 27 = .ok (.return_, 1) := by decide +kernel
theorem dX10_isPart_0 : decode cX10_isPart 0 = .ok (.iload_n 0, 1) := by decide +kernel
theorem dX10_isPart_1 : decode cX10_isPart 1 = .ok (.tableswitch 71 0 3 #[31, 41, 51, 61], 31) := by decide +kernel
theorem dX10_isPart_32 : decode cX10_isPart 32 = .ok (.iload_n 1, 1) := by decide +kernel
theorem dX10_isPart_33 : decode cX10_isPart 33 = .ok (.i2l, 1) := by decide +kernel
theorem dX10_isPart_34 : decode cX10_isPart 34 = .ok (.lconst 0, 1) := by decide +kernel
theorem dX10_isPart_35 : decode cX10_isPart 35 = .ok (.ldc2_w 53, 3) := by decide +kernel
theorem dX10_isPart_38 : decode cX10_isPart 38 = .ok (.invokestatic 45, 3) := by decide +kernel
theorem dX10_isPart_41 : decode cX10_isPart 41 = .ok (.ireturn, 1) := by decide +kernel
theorem dX10_isPart_42 : decode cX10_isPart 42 = .ok (.iload_n 1, 1) := by decide +kernel
theorem dX10_isPart_43 : decode cX10_isPart 43 = .ok (.i2l, 1) := by decide +kernel
theorem dX10_isPart_44 : decode cX10_isPart 44 = .ok (.lconst 0, 1) := by decide +kernel
theorem dX10_isPart_45 : decode cX10_isPart 45 = .ok (.ldc2_w 55, 3) := by decide +kernel
theorem dX10_isPart_48 : decode cX10_isPart 48 = .ok (.invokestatic 45, 3) := by decide +kernel
theorem dX10_isPart_51 : decode cX10_isPart 51 = .ok (.ireturn, 1) := by decide +kernel
theorem dX10_isPart_52 : decode cX10_isPart 52 = .ok (.iload_n 1, 1) := by decide +kernel
theorem dX10_isPart_53 : decode cX10_isPart 53 = .ok (.i2l, 1) := by decide +kernel
theorem dX10_isPart_54 : decode cX10_isPart 54 = .ok (.lconst 1, 1) := by decide +kernel
theorem dX10_isPart_55 : decode cX10_isPart 55 = .ok (.ldc2_w 57, 3) := by decide +kernel
theorem dX10_isPart_58 : decode cX10_isPart 58 = .ok (.invokestatic 45, 3) := by decide +kernel
theorem dX10_isPart_61 : decode cX10_isPart 61 = .ok (.ireturn, 1) := by decide +kernel
theorem dX10_isPart_62 : decode cX10_isPart 62 = .ok (.iload_n 1, 1) := by decide +kernel
theorem dX10_isPart_63 : decode cX10_isPart 63 = .ok (.i2l, 1) := by decide +kernel
theorem dX10_isPart_64 : decode cX10_isPart 64 = .ok (.lconst 0, 1) := by decide +kernel
theorem dX10_isPart_65 : decode cX10_isPart 65 = .ok (.ldc2_w 59, 3) := by decide +kernel
theorem dX10_isPart_68 : decode cX10_isPart 68 = .ok (.invokestatic 45, 3) := by decide +kernel
theorem dX10_isPart_71 : decode cX10_isPart 71 = .ok (.ireturn, 1) := by decide +kernel
theorem dX10_isPart_72 : decode cX10_isPart 72 = .ok (.iload_n 0, 1) := by decide +kernel
theorem dX10_isPart_73 : decode cX10_isPart 73 = .ok (.iconst 4, 1) := by decide +kernel
theorem dX10_isPart_74 : decode cX10_isPart 74 = .ok (.if_icmp .ne 19, 3) := by decide +kernel
theorem dX10_isPart_77 : decode cX10_isPart 77 = .ok (.iload_n 1, 1) := by decide +kernel
theorem dX10_isPart_78 : decode cX10_isPart 78 = .ok (.i2l, 1) := by decide +kernel
theorem dX10_isPart_79 : decode cX10_isPart 79 = .ok (.lconst 0, 1) := by decide +kernel
theorem dX10_isPart_80 : decode cX10_isPart 80 = .ok (.ldc2_w 61, 3) := by decide +kernel
theorem dX10_isPart_83 : decode cX10_isPart 83 = .ok (.invokestatic 45, 3) := by decide +kernel
theorem dX10_isPart_86 : decode cX10_isPart 86 = .ok (.ifCond .eq 7, 3) := by decide +kernel
theorem dX10_isPart_89 : decode cX10_isPart 89 = .ok (.iconst 1, 1) := by decide +kernel
theorem dX10_isPart_90 : decode cX10_isPart 90 = .ok (.goto 4, 3) := by decide +kernel
theorem dX10_isPart_93 : decode cX10_isPart 93 = .ok (.iconst 0, 1) := by decide +kernel
theorem dX10_isPart_94 : decode cX10_isPart 94 = .ok (.ireturn, 1) := by decide +kernel
theorem dX10_newPhrase_0 : decode cX10_newPhrase 0 = .ok (.aload_n 0, 1) := by decide +kernel
theorem dX10_newPhrase_1 : decode cX10_newPhrase 1 = .ok (.getfield 7, 3) := by decide +kernel
theorem dX10_newPhrase_4 : decode cX10_newPhrase 4 = .ok (.iconst 0, 1) := by decide +kernel
theorem dX10_newPhrase_5 : decode cX10_newPhrase 5 = .ok (.iaload, 1) := by decide +kernel
theorem dX10_newPhrase_6 : decode cX10_newPhrase 6 = .ok (.istore 5, 2) := by decide +kernel
theorem dX10_newPhrase_8 : decode cX10_newPhrase 8 = .ok (.aload_n 0, 1) := by decide +kernel
theorem dX10_newPhrase_9 : decode cX10_newPhrase 9 = .ok (.getfield 7, 3) := by decide +kernel
theorem dX10_newPhrase_12 : decode cX10_newPhrase 12 = .ok (.iload 5, 2) := by decide +kernel
theorem dX10_newPhrase_14 : decode cX10_newPhrase 14 = .ok (.iconst 0, 1) := by decide +kernel
theorem dX10_newPhrase_15 : decode cX10_newPhrase 15 = .ok (.invokestatic 49, 3) := by decide +kernel
theorem dX10_newPhrase_18 : decode cX10_newPhrase 18 = .ok (.iload_n 1, 1) := by decide +kernel
theorem dX10_newPhrase_19 : decode cX10_newPhrase 19 = .ok (.iastore, 1) := by decide +kernel
theorem dX10_newPhrase_20 : decode cX10_newPhrase 20 = .ok (.aload_n 0, 1) := by decide +kernel
theorem dX10_newPhrase_21 : decode cX10_newPhrase 21 = .ok (.getfield 7, 3) := by decide +kernel
theorem dX10_newPhrase_24 : decode cX10_newPhrase 24 = .ok (.iload 5, 2) := by decide +kernel
theorem dX10_newPhrase_26 : decode cX10_newPhrase 26 = .ok (.iconst 1, 1) := by decide +kernel
theorem dX10_newPhrase_27 : decode cX10_newPhrase 27 = .ok (.invokestatic 49, 3) := by decide +kernel
theorem dX10_newPhrase_30 : decode cX10_newPhrase 30 = .ok (.iload_n 2, 1) := by decide +kernel
theorem dX10_newPhrase_31 : decode cX10_newPhrase 31 = .ok (.iastore, 1) := by decide +kernel
theorem dX10_newPhrase_32 : decode cX10_newPhrase 32 = .ok (.aload_n 0, 1) := by decide +kernel
theorem dX10_newPhrase_33 : decode cX10_newPhrase 33 = .ok (.getfield 7, 3) := by decide +kernel
theorem dX10_newPhrase_36 : decode cX10_newPhrase 36 = .ok (.iload 5, 2) := by decide +kernel
theorem dX10_newPhrase_38 : decode cX10_newPhrase 38 = .ok (.iconst 2, 1) := by decide +kernel
theorem dX10_newPhrase_39 : decode cX10_newPhrase 39 = .ok (.invokestatic 49, 3) := by decide +kernel
theorem dX10_newPhrase_42 : decode cX10_newPhrase 42 = .ok (.iload_n 3, 1) := by decide +kernel
theorem dX10_newPhrase_43 : decode cX10_newPhrase 43 = .ok (.iastore, 1) := by decide +kernel
theorem dX10_newPhrase_44 : decode cX10_newPhrase 44 = .ok (.aload_n 0, 1) := by decide +kernel
theorem dX10_newPhrase_45 : decode cX10_newPhrase 45 = .ok (.getfield 7, 3) := by decide +kernel
theorem dX10_newPhrase_48 : decode cX10_newPhrase 48 = .ok (.iload 5, 2) := by decide +kernel
theorem dX10_newPhrase_50 : decode cX10_newPhrase 50 = .ok (.iconst 3, 1) := by decide +kernel
theorem dX10_newPhrase_51 : decode cX10_newPhrase 51 = .ok (.invokestatic 49, 3) := by decide +kernel
theorem dX10_newPhrase_54 : decode cX10_newPhrase 54 = .ok (.iload 4, 2) := by decide +kernel
theorem dX10_newPhrase_56 : decode cX10_newPhrase 56 = .ok (.iastore, 1) := by decide +kernel
theorem dX10_newPhrase_57 : decode cX10_newPhrase 57 = .ok (.aload_n 0, 1) := by decide +kernel
theorem dX10_newPhrase_58 : decode cX10_newPhrase 58 = .ok (.getfield 7, 3) := by decide +kernel
theorem dX10_newPhrase_61 : decode cX10_newPhrase 61 = .ok (.iload 5, 2) := by decide +kernel
theorem dX10_newPhrase_63 : decode cX10_newPhrase 63 = .ok (.iconst 4, 1) := by decide +kernel
theorem dX10_newPhrase_64 : decode cX10_newPhrase 64 = .ok (.invokestatic 49, 3) := by decide +kernel
theorem dX10_newPhrase_67 : decode cX10_newPhrase 67 = .ok (.iconst 0, 1) := by decide +kernel
theorem dX10_newPhrase_68 : decode cX10_newPhrase 68 = .ok (.iastore, 1) := by decide +kernel
theorem dX10_newPhrase_69 : decode cX10_newPhrase 69 = .ok (.aload_n 0, 1) := by decide +kernel
theorem dX10_newPhrase_70 : decode cX10_newPhrase 70 = .ok (.getfield 7, 3) := by decide +kernel
theorem dX10_newPhrase_73 : decode cX10_newPhrase 73 = .ok (.iload 5, 2) := by decide +kernel
theorem dX10_newPhrase_75 : decode cX10_newPhrase 75 = .ok (.iconst 5, 1) := by decide +kernel
theorem dX10_newPhrase_76 : decode cX10_newPhrase 76 = .ok (.invokestatic 49, 3) := by decide +kernel
theorem dX10_newPhrase_79 : decode cX10_newPhrase 79 = .ok (.iconst 0, 1) := by decide +kernel
theorem dX10_newPhrase_80 : decode cX10_newPhrase 80 = .ok (.iastore, 1) := by decide +kernel
theorem dX10_newPhrase_81 : decode cX10_newPhrase 81 = .ok (.aload_n 0, 1) := by decide +kernel
theorem dX10_newPhrase_82 : decode cX10_newPhrase 82 = .ok (.getfield 7, 3) := by decide +kernel
theorem dX10_newPhrase_85 : decode cX10_newPhrase 85 = .ok (.iconst 0, 1) := by decide +kernel
theorem dX10_newPhrase_86 : decode cX10_newPhrase 86 = .ok (.dup2, 1) := by decide +kernel
theorem dX10_newPhrase_87 : decode cX10_newPhrase 87 = .ok (.iaload, 1) := by decide +kernel
theorem dX10_newPhrase_88 : decode cX10_newPhrase 88 = .ok (.iconst 1, 1) := by decide +kernel
theorem dX10_newPhrase_89 : decode cX10_newPhrase 89 = .ok (.iadd, 1) := by decide +kernel
theorem dX10_newPhrase_90 : decode cX10_newPhrase 90 = .ok (.iastore, 1) := by decide +kernel
theorem dX10_newPhrase_91 : decode cX10_newPhrase 91 = .ok (.iload 5, 2) := by decide +kernel
theorem dX10_newPhrase_93 : decode cX10_newPhrase 93 = .ok (.ireturn, 1) := by decide +kernel
theorem dX10_phrase_0 : decode cX10_phrase 0 = .ok (.iconst 0, 1) := by decide +kernel
theorem dX10_phrase_1 : decode cX10_phrase 1 = .ok (.iload_n 1, 1) := by decide +kernel
theorem dX10_phrase_2 : decode cX10_phrase 2 = .ok (.invokestatic 63, 3) := by decide +kernel
theorem dX10_phrase_5 : decode cX10_phrase 5 = .ok (.ifCond .eq 28, 3) := by decide +kernel
theorem dX10_phrase_8 : decode cX10_phrase 8 = .ok (.iconst 1, 1) := by decide +kernel
theorem dX10_phrase_9 : decode cX10_phrase 9 = .ok (.iload_n 2, 1) := by decide +kernel
theorem dX10_phrase_10 : decode cX10_phrase 10 = .ok (.invokestatic 63, 3) := by decide +kernel
theorem dX10_phrase_13 : decode cX10_phrase 13 = .ok (.ifCond .eq 20, 3) := by decide +kernel
theorem dX10_phrase_16 : decode cX10_phrase 16 = .ok (.iconst 2, 1) := by decide +kernel
theorem dX10_phrase_17 : decode cX10_phrase 17 = .ok (.iload_n 3, 1) := by decide +kernel
theorem dX10_phrase_18 : decode cX10_phrase 18 = .ok (.invokestatic 63, 3) := by decide +kernel
theorem dX10_phrase_21 : decode cX10_phrase 21 = .ok (.ifCond .eq 12, 3) := by decide +kernel
theorem dX10_phrase_24 : decode cX10_phrase 24 = .ok (.iconst 3, 1) := by decide +kernel
theorem dX10_phrase_25 : decode cX10_phrase 25 = .ok (.iload 4, 2) := by decide +kernel
theorem dX10_phrase_27 : decode cX10_phrase 27 = .ok (.invokestatic 63, 3) := by decide +kernel
theorem dX10_phrase_30 : decode cX10_phrase 30 = .ok (.ifCond .ne 10, 3) := by decide +kernel
theorem dX10_phrase_33 : decode cX10_phrase 33 = .ok (.aload_n 0, 1) := by decide +kernel
theorem dX10_phrase_34 : decode cX10_phrase 34 = .ok (.ldc 44, 2) := by decide +kernel
theorem dX10_phrase_36 : decode cX10_phrase 36 = .ok (.invokevirtual 67, 3) := by decide +kernel
theorem dX10_phrase_39 : decode cX10_phrase 39 = .ok (.ireturn, 1) := by decide +kernel
theorem dX10_phrase_40 : decode cX10_phrase 40 = .ok (.aload_n 0, 1) := by decide +kernel
theorem dX10_phrase_41 : decode cX10_phrase 41 = .ok (.getfield 7, 3) := by decide +kernel
theorem dX10_phrase_44 : decode cX10_phrase 44 = .ok (.iconst 0, 1) := by decide +kernel
theorem dX10_phrase_45 : decode cX10_phrase 45 = .ok (.iaload, 1) := by decide +kernel
theorem dX10_phrase_46 : decode cX10_phrase 46 = .ok (.bipush 12, 2) := by decide +kernel
theorem dX10_phrase_48 : decode cX10_phrase 48 = .ok (.if_icmp .ne 12, 3) := by decide +kernel
theorem dX10_phrase_51 : decode cX10_phrase 51 = .ok (.aload_n 0, 1) := by decide +kernel
theorem dX10_phrase_52 : decode cX10_phrase 52 = .ok (.ldc 71, 2) := by decide +kernel
theorem dX10_phrase_54 : decode cX10_phrase 54 = .ok (.invokevirtual 67, 3) := by decide +kernel
theorem dX10_phrase_57 : decode cX10_phrase 57 = .ok (.goto 12, 3) := by decide +kernel
theorem dX10_phrase_60 : decode cX10_phrase 60 = .ok (.aload_n 0, 1) := by decide +kernel
theorem dX10_phrase_61 : decode cX10_phrase 61 = .ok (.iload_n 1, 1) := by decide +kernel
theorem dX10_phrase_62 : decode cX10_phrase 62 = .ok (.iload_n 2, 1) := by decide +kernel
theorem dX10_phrase_63 : decode cX10_phrase 63 = .ok (.iload_n 3, 1) := by decide +kernel
theorem dX10_phrase_64 : decode cX10_phrase 64 = .ok (.iload 4, 2) := by decide +kernel
theorem dX10_phrase_66 : decode cX10_phrase 66 = .ok (.invokevirtual 72, 3) := by decide +kernel
theorem dX10_phrase_69 : decode cX10_phrase 69 = .ok (.ireturn, 1) := by decide +kernel
theorem dX10_isKnown_0 : decode cX10_isKnown 0 = .ok (.aload_n 0, 1) := by decide +kernel
theorem dX10_isKnown_1 : decode cX10_isKnown 1 = .ok (.iload_n 1, 1) := by decide +kernel
theorem dX10_isKnown_2 : decode cX10_isKnown 2 = .ok (.iconst 4, 1) := by decide +kernel
theorem dX10_isKnown_3 : decode cX10_isKnown 3 = .ok (.invokevirtual 76, 3) := by decide +kernel
theorem dX10_isKnown_6 : decode cX10_isKnown 6 = .ok (.aload_n 0, 1) := by decide +kernel
theorem dX10_isKnown_7 : decode cX10_isKnown 7 = .ok (.getfield 7, 3) := by decide +kernel
theorem dX10_isKnown_10 : decode cX10_isKnown 10 = .ok (.iconst 2, 1) := by decide +kernel
theorem dX10_isKnown_11 : decode cX10_isKnown 11 = .ok (.iaload, 1) := by decide +kernel
theorem dX10_isKnown_12 : decode cX10_isKnown 12 = .ok (.if_icmp .lt 7, 3) := by decide +kernel
theorem dX10_isKnown_15 : decode cX10_isKnown 15 = .ok (.iconst 1, 1) := by decide +kernel
theorem dX10_isKnown_16 : decode cX10_isKnown 16 = .ok (.goto 4, 3) := by decide +kernel
theorem dX10_isKnown_19 : decode cX10_isKnown 19 = .ok (.iconst 0, 1) := by decide +kernel
theorem dX10_isKnown_20 : decode cX10_isKnown 20 = .ok (.ireturn, 1) := by decide +kernel
theorem dX10_forgets_0 : decode cX10_forgets 0 = .ok (.aload_n 0, 1) := by decide +kernel
theorem dX10_forgets_1 : decode cX10_forgets 1 = .ok (.iload_n 1, 1) := by decide +kernel
theorem dX10_forgets_2 : decode cX10_forgets 2 = .ok (.iconst 4, 1) := by decide +kernel
theorem dX10_forgets_3 : decode cX10_forgets 3 = .ok (.invokevirtual 76, 3) := by decide +kernel
theorem dX10_forgets_6 : decode cX10_forgets 6 = .ok (.bipush 50, 2) := by decide +kernel
theorem dX10_forgets_8 : decode cX10_forgets 8 = .ok (.if_icmp .le 15, 3) := by decide +kernel
theorem dX10_forgets_11 : decode cX10_forgets 11 = .ok (.aload_n 0, 1) := by decide +kernel
theorem dX10_forgets_12 : decode cX10_forgets 12 = .ok (.iload_n 1, 1) := by decide +kernel
theorem dX10_forgets_13 : decode cX10_forgets 13 = .ok (.iconst 4, 1) := by decide +kernel
theorem dX10_forgets_14 : decode cX10_forgets 14 = .ok (.invokevirtual 76, 3) := by decide +kernel
theorem dX10_forgets_17 : decode cX10_forgets 17 = .ok (.bipush 50, 2) := by decide +kernel
theorem dX10_forgets_19 : decode cX10_forgets 19 = .ok (.isub, 1) := by decide +kernel
theorem dX10_forgets_20 : decode cX10_forgets 20 = .ok (.goto 4, 3) := by decide +kernel
theorem dX10_forgets_23 : decode cX10_forgets 23 = .ok (.iconst 0, 1) := by decide +kernel
theorem dX10_forgets_24 : decode cX10_forgets 24 = .ok (.istore_n 2, 1) := by decide +kernel
theorem dX10_forgets_25 : decode cX10_forgets 25 = .ok (.aload_n 0, 1) := by decide +kernel
theorem dX10_forgets_26 : decode cX10_forgets 26 = .ok (.iload_n 1, 1) := by decide +kernel
theorem dX10_forgets_27 : decode cX10_forgets 27 = .ok (.iconst 0, 1) := by decide +kernel
theorem dX10_forgets_28 : decode cX10_forgets 28 = .ok (.invokevirtual 76, 3) := by decide +kernel
theorem dX10_forgets_31 : decode cX10_forgets 31 = .ok (.tableswitch 48 1 5 #[33, 36, 38, 36, 41], 33) := by decide +kernel
theorem dX10_forgets_64 : decode cX10_forgets 64 = .ok (.bipush 15, 2) := by decide +kernel
theorem dX10_forgets_66 : decode cX10_forgets 66 = .ok (.ireturn, 1) := by decide +kernel
theorem dX10_forgets_67 : decode cX10_forgets 67 = .ok (.iconst 5, 1) := by decide +kernel
theorem dX10_forgets_68 : decode cX10_forgets 68 = .ok (.ireturn, 1) := by decide +kernel
theorem dX10_forgets_69 : decode cX10_forgets 69 = .ok (.bipush 20, 2) := by decide +kernel
theorem dX10_forgets_71 : decode cX10_forgets 71 = .ok (.ireturn, 1) := by decide +kernel
theorem dX10_forgets_72 : decode cX10_forgets 72 = .ok (.bipush 10, 2) := by decide +kernel
theorem dX10_forgets_74 : decode cX10_forgets 74 = .ok (.iload_n 2, 1) := by decide +kernel
theorem dX10_forgets_75 : decode cX10_forgets 75 = .ok (.iconst 2, 1) := by decide +kernel
theorem dX10_forgets_76 : decode cX10_forgets 76 = .ok (.idiv, 1) := by decide +kernel
theorem dX10_forgets_77 : decode cX10_forgets 77 = .ok (.iadd, 1) := by decide +kernel
theorem dX10_forgets_78 : decode cX10_forgets 78 = .ok (.ireturn, 1) := by decide +kernel
theorem dX10_forgets_79 : decode cX10_forgets 79 = .ok (.bipush 10, 2) := by decide +kernel
theorem dX10_forgets_81 : decode cX10_forgets 81 = .ok (.ireturn, 1) := by decide +kernel
theorem dX10_of_0 : decode cX10_of 0 = .ok (.aload_n 0, 1) := by decide +kernel
theorem dX10_of_1 : decode cX10_of 1 = .ok (.iload_n 1, 1) := by decide +kernel
theorem dX10_of_2 : decode cX10_of 2 = .ok (.invokevirtual 79, 3) := by decide +kernel
theorem dX10_of_5 : decode cX10_of 5 = .ok (.ifCond .eq 15, 3) := by decide +kernel
theorem dX10_of_8 : decode cX10_of 8 = .ok (.iload_n 2, 1) := by decide +kernel
theorem dX10_of_9 : decode cX10_of 9 = .ok (.i2l, 1) := by decide +kernel
theorem dX10_of_10 : decode cX10_of 10 = .ok (.lconst 0, 1) := by decide +kernel
theorem dX10_of_11 : decode cX10_of 11 = .ok (.ldc2_w 83, 3) := by decide +kernel
theorem dX10_of_14 : decode cX10_of 14 = .ok (.invokestatic 45, 3) := by decide +kernel
theorem dX10_of_17 : decode cX10_of 17 = .ok (.ifCond .ne 10, 3) := by decide +kernel
theorem dX10_of_20 : decode cX10_of 20 = .ok (.aload_n 0, 1) := by decide +kernel
theorem dX10_of_21 : decode cX10_of 21 = .ok (.ldc 44, 2) := by decide +kernel
theorem dX10_of_23 : decode cX10_of 23 = .ok (.invokevirtual 67, 3) := by decide +kernel
theorem dX10_of_26 : decode cX10_of 26 = .ok (.ireturn, 1) := by decide +kernel
theorem dX10_of_27 : decode cX10_of 27 = .ok (.iload_n 2, 1) := by decide +kernel
theorem dX10_of_28 : decode cX10_of 28 = .ok (.bipush 6, 2) := by decide +kernel
theorem dX10_of_30 : decode cX10_of 30 = .ok (.if_icmp .ge 12, 3) := by decide +kernel
theorem dX10_of_33 : decode cX10_of 33 = .ok (.aload_n 0, 1) := by decide +kernel
theorem dX10_of_34 : decode cX10_of 34 = .ok (.iload_n 1, 1) := by decide +kernel
theorem dX10_of_35 : decode cX10_of 35 = .ok (.iload_n 2, 1) := by decide +kernel
theorem dX10_of_36 : decode cX10_of 36 = .ok (.invokevirtual 76, 3) := by decide +kernel
theorem dX10_of_39 : decode cX10_of 39 = .ok (.goto 30, 3) := by decide +kernel
theorem dX10_of_42 : decode cX10_of 42 = .ok (.iload_n 2, 1) := by decide +kernel
theorem dX10_of_43 : decode cX10_of 43 = .ok (.bipush 6, 2) := by decide +kernel
theorem dX10_of_45 : decode cX10_of 45 = .ok (.if_icmp .ne 19, 3) := by decide +kernel
theorem dX10_of_48 : decode cX10_of 48 = .ok (.aload_n 0, 1) := by decide +kernel
theorem dX10_of_49 : decode cX10_of 49 = .ok (.iload_n 1, 1) := by decide +kernel
theorem dX10_of_50 : decode cX10_of 50 = .ok (.invokevirtual 85, 3) := by decide +kernel
theorem dX10_of_53 : decode cX10_of 53 = .ok (.ifCond .eq 7, 3) := by decide +kernel
theorem dX10_of_56 : decode cX10_of 56 = .ok (.iconst 1, 1) := by decide +kernel
theorem dX10_of_57 : decode cX10_of 57 = .ok (.goto 12, 3) := by decide +kernel
theorem dX10_of_60 : decode cX10_of 60 = .ok (.iconst 0, 1) := by decide +kernel
theorem dX10_of_61 : decode cX10_of 61 = .ok (.goto 8, 3) := by decide +kernel
theorem dX10_of_64 : decode cX10_of 64 = .ok (.aload_n 0, 1) := by decide +kernel
theorem dX10_of_65 : decode cX10_of 65 = .ok (.iload_n 1, 1) := by decide +kernel
theorem dX10_of_66 : decode cX10_of 66 = .ok (.invokevirtual 88, 3) := by decide +kernel
theorem dX10_of_69 : decode cX10_of 69 = .ok (.ireturn, 1) := by decide +kernel
theorem dX10_set_0 : decode cX10_set 0 = .ok (.aload_n 0, 1) := by decide +kernel
theorem dX10_set_1 : decode cX10_set 1 = .ok (.iload_n 1, 1) := by decide +kernel
theorem dX10_set_2 : decode cX10_set 2 = .ok (.invokevirtual 79, 3) := by decide +kernel
theorem dX10_set_5 : decode cX10_set 5 = .ok (.ifCond .eq 23, 3) := by decide +kernel
theorem dX10_set_8 : decode cX10_set 8 = .ok (.iload_n 2, 1) := by decide +kernel
theorem dX10_set_9 : decode cX10_set 9 = .ok (.i2l, 1) := by decide +kernel
theorem dX10_set_10 : decode cX10_set 10 = .ok (.lconst 1, 1) := by decide +kernel
theorem dX10_set_11 : decode cX10_set 11 = .ok (.ldc2_w 91, 3) := by decide +kernel
theorem dX10_set_14 : decode cX10_set 14 = .ok (.invokestatic 45, 3) := by decide +kernel
theorem dX10_set_17 : decode cX10_set 17 = .ok (.ifCond .eq 11, 3) := by decide +kernel
theorem dX10_set_20 : decode cX10_set 20 = .ok (.iload_n 2, 1) := by decide +kernel
theorem dX10_set_21 : decode cX10_set 21 = .ok (.iload_n 3, 1) := by decide +kernel
theorem dX10_set_22 : decode cX10_set 22 = .ok (.invokestatic 63, 3) := by decide +kernel
theorem dX10_set_25 : decode cX10_set 25 = .ok (.ifCond .ne 10, 3) := by decide +kernel
theorem dX10_set_28 : decode cX10_set 28 = .ok (.aload_n 0, 1) := by decide +kernel
theorem dX10_set_29 : decode cX10_set 29 = .ok (.ldc 44, 2) := by decide +kernel
theorem dX10_set_31 : decode cX10_set 31 = .ok (.invokevirtual 67, 3) := by decide +kernel
theorem dX10_set_34 : decode cX10_set 34 = .ok (.ireturn, 1) := by decide +kernel
theorem dX10_set_35 : decode cX10_set 35 = .ok (.aload_n 0, 1) := by decide +kernel
theorem dX10_set_36 : decode cX10_set 36 = .ok (.iload_n 1, 1) := by decide +kernel
theorem dX10_set_37 : decode cX10_set 37 = .ok (.iload_n 2, 1) := by decide +kernel
theorem dX10_set_38 : decode cX10_set 38 = .ok (.invokevirtual 76, 3) := by decide +kernel
theorem dX10_set_41 : decode cX10_set 41 = .ok (.istore 4, 2) := by decide +kernel
theorem dX10_set_43 : decode cX10_set 43 = .ok (.aload_n 0, 1) := by decide +kernel
theorem dX10_set_44 : decode cX10_set 44 = .ok (.getfield 7, 3) := by decide +kernel
theorem dX10_set_47 : decode cX10_set 47 = .ok (.iload_n 1, 1) := by decide +kernel
theorem dX10_set_48 : decode cX10_set 48 = .ok (.iload_n 2, 1) := by decide +kernel
theorem dX10_set_49 : decode cX10_set 49 = .ok (.invokestatic 49, 3) := by decide +kernel
theorem dX10_set_52 : decode cX10_set 52 = .ok (.iload_n 3, 1) := by decide +kernel
theorem dX10_set_53 : decode cX10_set 53 = .ok (.iastore, 1) := by decide +kernel
theorem dX10_set_54 : decode cX10_set 54 = .ok (.iload 4, 2) := by decide +kernel
theorem dX10_set_56 : decode cX10_set 56 = .ok (.ireturn, 1) := by decide +kernel
theorem dX10_turn_0 : decode cX10_turn 0 = .ok (.aload_n 0, 1) := by decide +kernel
theorem dX10_turn_1 : decode cX10_turn 1 = .ok (.iload_n 1, 1) := by decide +kernel
theorem dX10_turn_2 : decode cX10_turn 2 = .ok (.invokevirtual 79, 3) := by decide +kernel
theorem dX10_turn_5 : decode cX10_turn 5 = .ok (.ifCond .eq 11, 3) := by decide +kernel
theorem dX10_turn_8 : decode cX10_turn 8 = .ok (.iconst 0, 1) := by decide +kernel
theorem dX10_turn_9 : decode cX10_turn 9 = .ok (.iload_n 2, 1) := by decide +kernel
theorem dX10_turn_10 : decode cX10_turn 10 = .ok (.invokestatic 63, 3) := by decide +kernel
theorem dX10_turn_13 : decode cX10_turn 13 = .ok (.ifCond .ne 10, 3) := by decide +kernel
theorem dX10_turn_16 : decode cX10_turn 16 = .ok (.aload_n 0, 1) := by decide +kernel
theorem dX10_turn_17 : decode cX10_turn 17 = .ok (.ldc 44, 2) := by decide +kernel
theorem dX10_turn_19 : decode cX10_turn 19 = .ok (.invokevirtual 67, 3) := by decide +kernel
theorem dX10_turn_22 : decode cX10_turn 22 = .ok (.ireturn, 1) := by decide +kernel
theorem dX10_turn_23 : decode cX10_turn 23 = .ok (.aload_n 0, 1) := by decide +kernel
theorem dX10_turn_24 : decode cX10_turn 24 = .ok (.iload_n 1, 1) := by decide +kernel
theorem dX10_turn_25 : decode cX10_turn 25 = .ok (.iconst 0, 1) := by decide +kernel
theorem dX10_turn_26 : decode cX10_turn 26 = .ok (.invokevirtual 76, 3) := by decide +kernel
theorem dX10_turn_29 : decode cX10_turn 29 = .ok (.istore_n 3, 1) := by decide +kernel
theorem dX10_turn_30 : decode cX10_turn 30 = .ok (.aload_n 0, 1) := by decide +kernel
theorem dX10_turn_31 : decode cX10_turn 31 = .ok (.getfield 7, 3) := by decide +kernel
theorem dX10_turn_34 : decode cX10_turn 34 = .ok (.iload_n 1, 1) := by decide +kernel
theorem dX10_turn_35 : decode cX10_turn 35 = .ok (.iconst 0, 1) := by decide +kernel
theorem dX10_turn_36 : decode cX10_turn 36 = .ok (.invokestatic 49, 3) := by decide +kernel
theorem dX10_turn_39 : decode cX10_turn 39 = .ok (.iload_n 2, 1) := by decide +kernel
theorem dX10_turn_40 : decode cX10_turn 40 = .ok (.iastore, 1) := by decide +kernel
theorem dX10_turn_41 : decode cX10_turn 41 = .ok (.iload_n 3, 1) := by decide +kernel
theorem dX10_turn_42 : decode cX10_turn 42 = .ok (.ireturn, 1) := by decide +kernel
theorem dX10_as_0 : decode cX10_as 0 = .ok (.aload_n 0, 1) := by decide +kernel
theorem dX10_as_1 : decode cX10_as 1 = .ok (.iload_n 1, 1) := by decide +kernel
theorem dX10_as_2 : decode cX10_as 2 = .ok (.invokevirtual 79, 3) := by decide +kernel
theorem dX10_as_5 : decode cX10_as 5 = .ok (.ifCond .eq 11, 3) := by decide +kernel
theorem dX10_as_8 : decode cX10_as 8 = .ok (.iconst 0, 1) := by decide +kernel
theorem dX10_as_9 : decode cX10_as 9 = .ok (.iload_n 2, 1) := by decide +kernel
theorem dX10_as_10 : decode cX10_as 10 = .ok (.invokestatic 63, 3) := by decide +kernel
theorem dX10_as_13 : decode cX10_as 13 = .ok (.ifCond .ne 10, 3) := by decide +kernel
theorem dX10_as_16 : decode cX10_as 16 = .ok (.aload_n 0, 1) := by decide +kernel
theorem dX10_as_17 : decode cX10_as 17 = .ok (.ldc 44, 2) := by decide +kernel
theorem dX10_as_19 : decode cX10_as 19 = .ok (.invokevirtual 67, 3) := by decide +kernel
theorem dX10_as_22 : decode cX10_as 22 = .ok (.ireturn, 1) := by decide +kernel
theorem dX10_as_23 : decode cX10_as 23 = .ok (.aload_n 0, 1) := by decide +kernel
theorem dX10_as_24 : decode cX10_as 24 = .ok (.iload_n 1, 1) := by decide +kernel
theorem dX10_as_25 : decode cX10_as 25 = .ok (.iconst 0, 1) := by decide +kernel
theorem dX10_as_26 : decode cX10_as 26 = .ok (.invokevirtual 76, 3) := by decide +kernel
theorem dX10_as_29 : decode cX10_as 29 = .ok (.istore_n 3, 1) := by decide +kernel
theorem dX10_as_30 : decode cX10_as 30 = .ok (.iload_n 2, 1) := by decide +kernel
theorem dX10_as_31 : decode cX10_as 31 = .ok (.ifCond .eq 28, 3) := by decide +kernel
theorem dX10_as_34 : decode cX10_as 34 = .ok (.iload_n 3, 1) := by decide +kernel
theorem dX10_as_35 : decode cX10_as 35 = .ok (.iload_n 2, 1) := by decide +kernel
theorem dX10_as_36 : decode cX10_as 36 = .ok (.if_icmp .eq 23, 3) := by decide +kernel
theorem dX10_as_39 : decode cX10_as 39 = .ok (.iload_n 2, 1) := by decide +kernel
theorem dX10_as_40 : decode cX10_as 40 = .ok (.iconst 1, 1) := by decide +kernel
theorem dX10_as_41 : decode cX10_as 41 = .ok (.if_icmp .ne 8, 3) := by decide +kernel
theorem dX10_as_44 : decode cX10_as 44 = .ok (.iload_n 3, 1) := by decide +kernel
theorem dX10_as_45 : decode cX10_as 45 = .ok (.iconst 3, 1) := by decide +kernel
theorem dX10_as_46 : decode cX10_as 46 = .ok (.if_icmp .eq 13, 3) := by decide +kernel
theorem dX10_as_49 : decode cX10_as 49 = .ok (.iload_n 2, 1) := by decide +kernel
theorem dX10_as_50 : decode cX10_as 50 = .ok (.iconst 2, 1) := by decide +kernel
theorem dX10_as_51 : decode cX10_as 51 = .ok (.if_icmp .ne 12, 3) := by decide +kernel
theorem dX10_as_54 : decode cX10_as 54 = .ok (.iload_n 3, 1) := by decide +kernel
theorem dX10_as_55 : decode cX10_as 55 = .ok (.iconst 4, 1) := by decide +kernel
theorem dX10_as_56 : decode cX10_as 56 = .ok (.if_icmp .ne 7, 3) := by decide +kernel
theorem dX10_as_59 : decode cX10_as 59 = .ok (.iconst 1, 1) := by decide +kernel
theorem dX10_as_60 : decode cX10_as 60 = .ok (.goto 4, 3) := by decide +kernel
theorem dX10_as_63 : decode cX10_as 63 = .ok (.iconst 0, 1) := by decide +kernel
theorem dX10_as_64 : decode cX10_as 64 = .ok (.istore 4, 2) := by decide +kernel
theorem dX10_as_66 : decode cX10_as 66 = .ok (.iload 4, 2) := by decide +kernel
theorem dX10_as_68 : decode cX10_as 68 = .ok (.ifCond .eq 12, 3) := by decide +kernel
theorem dX10_as_71 : decode cX10_as 71 = .ok (.aload_n 0, 1) := by decide +kernel
theorem dX10_as_72 : decode cX10_as 72 = .ok (.iload_n 1, 1) := by decide +kernel
theorem dX10_as_73 : decode cX10_as 73 = .ok (.iconst 4, 1) := by decide +kernel
theorem dX10_as_74 : decode cX10_as 74 = .ok (.invokevirtual 76, 3) := by decide +kernel
theorem dX10_as_77 : decode cX10_as 77 = .ok (.goto 9, 3) := by decide +kernel
theorem dX10_as_80 : decode cX10_as 80 = .ok (.aload_n 0, 1) := by decide +kernel
theorem dX10_as_81 : decode cX10_as 81 = .ok (.ldc 93, 2) := by decide +kernel
theorem dX10_as_83 : decode cX10_as 83 = .ok (.invokevirtual 67, 3) := by decide +kernel
theorem dX10_as_86 : decode cX10_as 86 = .ok (.ireturn, 1) := by decide +kernel
theorem dX10_newWant_0 : decode cX10_newWant 0 = .ok (.bipush 78, 2) := by decide +kernel
theorem dX10_newWant_2 : decode cX10_newWant 2 = .ok (.iconst 5, 1) := by decide +kernel
theorem dX10_newWant_3 : decode cX10_newWant 3 = .ok (.aload_n 0, 1) := by decide +kernel
theorem dX10_newWant_4 : decode cX10_newWant 4 = .ok (.getfield 7, 3) := by decide +kernel
theorem dX10_newWant_7 : decode cX10_newWant 7 = .ok (.iconst 1, 1) := by decide +kernel
theorem dX10_newWant_8 : decode cX10_newWant 8 = .ok (.iaload, 1) := by decide +kernel
theorem dX10_newWant_9 : decode cX10_newWant 9 = .ok (.imul, 1) := by decide +kernel
theorem dX10_newWant_10 : decode cX10_newWant 10 = .ok (.iadd, 1) := by decide +kernel
theorem dX10_newWant_11 : decode cX10_newWant 11 = .ok (.istore 4, 2) := by decide +kernel
theorem dX10_newWant_13 : decode cX10_newWant 13 = .ok (.aload_n 0, 1) := by decide +kernel
theorem dX10_newWant_14 : decode cX10_newWant 14 = .ok (.getfield 7, 3) := by decide +kernel
theorem dX10_newWant_17 : decode cX10_newWant 17 = .ok (.iload 4, 2) := by decide +kernel
theorem dX10_newWant_19 : decode cX10_newWant 19 = .ok (.iload_n 1, 1) := by decide +kernel
theorem dX10_newWant_20 : decode cX10_newWant 20 = .ok (.iastore, 1) := by decide +kernel
theorem dX10_newWant_21 : decode cX10_newWant 21 = .ok (.aload_n 0, 1) := by decide +kernel
theorem dX10_newWant_22 : decode cX10_newWant 22 = .ok (.getfield 7, 3) := by decide +kernel
theorem dX10_newWant_25 : decode cX10_newWant 25 = .ok (.iload 4, 2) := by decide +kernel
theorem dX10_newWant_27 : decode cX10_newWant 27 = .ok (.iconst 1, 1) := by decide +kernel
theorem dX10_newWant_28 : decode cX10_newWant 28 = .ok (.iadd, 1) := by decide +kernel
theorem dX10_newWant_29 : decode cX10_newWant 29 = .ok (.iload_n 2, 1) := by decide +kernel
theorem dX10_newWant_30 : decode cX10_newWant 30 = .ok (.iastore, 1) := by decide +kernel
theorem dX10_newWant_31 : decode cX10_newWant 31 = .ok (.aload_n 0, 1) := by decide +kernel
theorem dX10_newWant_32 : decode cX10_newWant 32 = .ok (.getfield 7, 3) := by decide +kernel
theorem dX10_newWant_35 : decode cX10_newWant 35 = .ok (.iload 4, 2) := by decide +kernel
theorem dX10_newWant_37 : decode cX10_newWant 37 = .ok (.iconst 2, 1) := by decide +kernel
theorem dX10_newWant_38 : decode cX10_newWant 38 = .ok (.iadd, 1) := by decide +kernel
theorem dX10_newWant_39 : decode cX10_newWant 39 = .ok (.iload_n 3, 1) := by decide +kernel
theorem dX10_newWant_40 : decode cX10_newWant 40 = .ok (.iastore, 1) := by decide +kernel
theorem dX10_newWant_41 : decode cX10_newWant 41 = .ok (.aload_n 0, 1) := by decide +kernel
theorem dX10_newWant_42 : decode cX10_newWant 42 = .ok (.getfield 7, 3) := by decide +kernel
theorem dX10_newWant_45 : decode cX10_newWant 45 = .ok (.iload 4, 2) := by decide +kernel
theorem dX10_newWant_47 : decode cX10_newWant 47 = .ok (.iconst 3, 1) := by decide +kernel
theorem dX10_newWant_48 : decode cX10_newWant 48 = .ok (.iadd, 1) := by decide +kernel
theorem dX10_newWant_49 : decode cX10_newWant 49 = .ok (.iconst 0, 1) := by decide +kernel
theorem dX10_newWant_50 : decode cX10_newWant 50 = .ok (.iastore, 1) := by decide +kernel
theorem dX10_newWant_51 : decode cX10_newWant 51 = .ok (.aload_n 0, 1) := by decide +kernel
theorem dX10_newWant_52 : decode cX10_newWant 52 = .ok (.getfield 7, 3) := by decide +kernel
theorem dX10_newWant_55 : decode cX10_newWant 55 = .ok (.iload 4, 2) := by decide +kernel
theorem dX10_newWant_57 : decode cX10_newWant 57 = .ok (.iconst 4, 1) := by decide +kernel
theorem dX10_newWant_58 : decode cX10_newWant 58 = .ok (.iadd, 1) := by decide +kernel
theorem dX10_newWant_59 : decode cX10_newWant 59 = .ok (.iconst 0, 1) := by decide +kernel
theorem dX10_newWant_60 : decode cX10_newWant 60 = .ok (.iastore, 1) := by decide +kernel
theorem dX10_newWant_61 : decode cX10_newWant 61 = .ok (.aload_n 0, 1) := by decide +kernel
theorem dX10_newWant_62 : decode cX10_newWant 62 = .ok (.getfield 7, 3) := by decide +kernel
theorem dX10_newWant_65 : decode cX10_newWant 65 = .ok (.iconst 1, 1) := by decide +kernel
theorem dX10_newWant_66 : decode cX10_newWant 66 = .ok (.dup2, 1) := by decide +kernel
theorem dX10_newWant_67 : decode cX10_newWant 67 = .ok (.iaload, 1) := by decide +kernel
theorem dX10_newWant_68 : decode cX10_newWant 68 = .ok (.iconst 1, 1) := by decide +kernel
theorem dX10_newWant_69 : decode cX10_newWant 69 = .ok (.iadd, 1) := by decide +kernel
theorem dX10_newWant_70 : decode cX10_newWant 70 = .ok (.iastore, 1) := by decide +kernel
theorem dX10_newWant_71 : decode cX10_newWant 71 = .ok (.aload_n 0, 1) := by decide +kernel
theorem dX10_newWant_72 : decode cX10_newWant 72 = .ok (.getfield 7, 3) := by decide +kernel
theorem dX10_newWant_75 : decode cX10_newWant 75 = .ok (.iconst 1, 1) := by decide +kernel
theorem dX10_newWant_76 : decode cX10_newWant 76 = .ok (.iaload, 1) := by decide +kernel
theorem dX10_newWant_77 : decode cX10_newWant 77 = .ok (.iconst 1, 1) := by decide +kernel
theorem dX10_newWant_78 : decode cX10_newWant 78 = .ok (.isub, 1) := by decide +kernel
theorem dX10_newWant_79 : decode cX10_newWant 79 = .ok (.ireturn, 1) := by decide +kernel
theorem dX10_want_0 : decode cX10_want 0 = .ok (.iload_n 1, 1) := by decide +kernel
theorem dX10_want_1 : decode cX10_want 1 = .ok (.i2l, 1) := by decide +kernel
theorem dX10_want_2 : decode cX10_want 2 = .ok (.lconst 0, 1) := by decide +kernel
theorem dX10_want_3 : decode cX10_want 3 = .ok (.ldc2_w 55, 3) := by decide +kernel
theorem dX10_want_6 : decode cX10_want 6 = .ok (.invokestatic 45, 3) := by decide +kernel
theorem dX10_want_9 : decode cX10_want 9 = .ok (.ifCond .eq 27, 3) := by decide +kernel
theorem dX10_want_12 : decode cX10_want 12 = .ok (.iload_n 2, 1) := by decide +kernel
theorem dX10_want_13 : decode cX10_want 13 = .ok (.i2l, 1) := by decide +kernel
theorem dX10_want_14 : decode cX10_want 14 = .ok (.lconst 0, 1) := by decide +kernel
theorem dX10_want_15 : decode cX10_want 15 = .ok (.ldc2_w 94, 3) := by decide +kernel
theorem dX10_want_18 : decode cX10_want 18 = .ok (.invokestatic 45, 3) := by decide +kernel
theorem dX10_want_21 : decode cX10_want 21 = .ok (.ifCond .eq 15, 3) := by decide +kernel
theorem dX10_want_24 : decode cX10_want 24 = .ok (.iload_n 3, 1) := by decide +kernel
theorem dX10_want_25 : decode cX10_want 25 = .ok (.i2l, 1) := by decide +kernel
theorem dX10_want_26 : decode cX10_want 26 = .ok (.lconst 0, 1) := by decide +kernel
theorem dX10_want_27 : decode cX10_want 27 = .ok (.ldc2_w 94, 3) := by decide +kernel
theorem dX10_want_30 : decode cX10_want 30 = .ok (.invokestatic 45, 3) := by decide +kernel
theorem dX10_want_33 : decode cX10_want 33 = .ok (.ifCond .ne 10, 3) := by decide +kernel
theorem dX10_want_36 : decode cX10_want 36 = .ok (.aload_n 0, 1) := by decide +kernel
theorem dX10_want_37 : decode cX10_want 37 = .ok (.ldc 44, 2) := by decide +kernel
theorem dX10_want_39 : decode cX10_want 39 = .ok (.invokevirtual 67, 3) := by decide +kernel
theorem dX10_want_42 : decode cX10_want 42 = .ok (.ireturn, 1) := by decide +kernel
theorem dX10_want_43 : decode cX10_want 43 = .ok (.aload_n 0, 1) := by decide +kernel
theorem dX10_want_44 : decode cX10_want 44 = .ok (.getfield 7, 3) := by decide +kernel
theorem dX10_want_47 : decode cX10_want 47 = .ok (.iconst 1, 1) := by decide +kernel
theorem dX10_want_48 : decode cX10_want 48 = .ok (.iaload, 1) := by decide +kernel
theorem dX10_want_49 : decode cX10_want 49 = .ok (.bipush 12, 2) := by decide +kernel
theorem dX10_want_51 : decode cX10_want 51 = .ok (.if_icmp .ne 12, 3) := by decide +kernel
theorem dX10_want_54 : decode cX10_want 54 = .ok (.aload_n 0, 1) := by decide +kernel
theorem dX10_want_55 : decode cX10_want 55 = .ok (.ldc 71, 2) := by decide +kernel
theorem dX10_want_57 : decode cX10_want 57 = .ok (.invokevirtual 67, 3) := by decide +kernel
theorem dX10_want_60 : decode cX10_want 60 = .ok (.goto 10, 3) := by decide +kernel
theorem dX10_want_63 : decode cX10_want 63 = .ok (.aload_n 0, 1) := by decide +kernel
theorem dX10_want_64 : decode cX10_want 64 = .ok (.iload_n 1, 1) := by decide +kernel
theorem dX10_want_65 : decode cX10_want 65 = .ok (.iload_n 2, 1) := by decide +kernel
theorem dX10_want_66 : decode cX10_want 66 = .ok (.iload_n 3, 1) := by decide +kernel
theorem dX10_want_67 : decode cX10_want 67 = .ok (.invokevirtual 96, 3) := by decide +kernel
theorem dX10_want_70 : decode cX10_want 70 = .ok (.ireturn, 1) := by decide +kernel
theorem dX10_wantOf_0 : decode cX10_wantOf 0 = .ok (.aload_n 0, 1) := by decide +kernel
theorem dX10_wantOf_1 : decode cX10_wantOf 1 = .ok (.iload_n 1, 1) := by decide +kernel
theorem dX10_wantOf_2 : decode cX10_wantOf 2 = .ok (.invokevirtual 100, 3) := by decide +kernel
theorem dX10_wantOf_5 : decode cX10_wantOf 5 = .ok (.ifCond .eq 24, 3) := by decide +kernel
theorem dX10_wantOf_8 : decode cX10_wantOf 8 = .ok (.iload_n 2, 1) := by decide +kernel
theorem dX10_wantOf_9 : decode cX10_wantOf 9 = .ok (.i2l, 1) := by decide +kernel
theorem dX10_wantOf_10 : decode cX10_wantOf 10 = .ok (.lconst 0, 1) := by decide +kernel
theorem dX10_wantOf_11 : decode cX10_wantOf 11 = .ok (.ldc2_w 91, 3) := by decide +kernel
theorem dX10_wantOf_14 : decode cX10_wantOf 14 = .ok (.invokestatic 45, 3) := by decide +kernel
theorem dX10_wantOf_17 : decode cX10_wantOf 17 = .ok (.ifCond .eq 12, 3) := by decide +kernel
theorem dX10_wantOf_20 : decode cX10_wantOf 20 = .ok (.aload_n 0, 1) := by decide +kernel
theorem dX10_wantOf_21 : decode cX10_wantOf 21 = .ok (.iload_n 1, 1) := by decide +kernel
theorem dX10_wantOf_22 : decode cX10_wantOf 22 = .ok (.iload_n 2, 1) := by decide +kernel
theorem dX10_wantOf_23 : decode cX10_wantOf 23 = .ok (.invokevirtual 103, 3) := by decide +kernel
theorem dX10_wantOf_26 : decode cX10_wantOf 26 = .ok (.goto 9, 3) := by decide +kernel
theorem dX10_wantOf_29 : decode cX10_wantOf 29 = .ok (.aload_n 0, 1) := by decide +kernel
theorem dX10_wantOf_30 : decode cX10_wantOf 30 = .ok (.ldc 44, 2) := by decide +kernel
theorem dX10_wantOf_32 : decode cX10_wantOf 32 = .ok (.invokevirtual 67, 3) := by decide +kernel
theorem dX10_wantOf_35 : decode cX10_wantOf 35 = .ok (.ireturn, 1) := by decide +kernel
theorem dX10_change_0 : decode cX10_change 0 = .ok (.aload_n 0, 1) := by decide +kernel
theorem dX10_change_1 : decode cX10_change 1 = .ok (.iload_n 1, 1) := by decide +kernel
theorem dX10_change_2 : decode cX10_change 2 = .ok (.invokevirtual 100, 3) := by decide +kernel
theorem dX10_change_5 : decode cX10_change 5 = .ok (.ifCond .eq 36, 3) := by decide +kernel
theorem dX10_change_8 : decode cX10_change 8 = .ok (.iload_n 2, 1) := by decide +kernel
theorem dX10_change_9 : decode cX10_change 9 = .ok (.i2l, 1) := by decide +kernel
theorem dX10_change_10 : decode cX10_change 10 = .ok (.lconst 1, 1) := by decide +kernel
theorem dX10_change_11 : decode cX10_change 11 = .ok (.ldc2_w 91, 3) := by decide +kernel
theorem dX10_change_14 : decode cX10_change 14 = .ok (.invokestatic 45, 3) := by decide +kernel
theorem dX10_change_17 : decode cX10_change 17 = .ok (.ifCond .eq 24, 3) := by decide +kernel
theorem dX10_change_20 : decode cX10_change 20 = .ok (.iload_n 3, 1) := by decide +kernel
theorem dX10_change_21 : decode cX10_change 21 = .ok (.i2l, 1) := by decide +kernel
theorem dX10_change_22 : decode cX10_change 22 = .ok (.lconst 0, 1) := by decide +kernel
theorem dX10_change_23 : decode cX10_change 23 = .ok (.iload_n 2, 1) := by decide +kernel
theorem dX10_change_24 : decode cX10_change 24 = .ok (.iconst 3, 1) := by decide +kernel
theorem dX10_change_25 : decode cX10_change 25 = .ok (.if_icmp .ge 9, 3) := by decide +kernel
theorem dX10_change_28 : decode cX10_change 28 = .ok (.ldc2_w 94, 3) := by decide +kernel
theorem dX10_change_31 : decode cX10_change 31 = .ok (.goto 4, 3) := by decide +kernel
theorem dX10_change_34 : decode cX10_change 34 = .ok (.lconst 1, 1) := by decide +kernel
theorem dX10_change_35 : decode cX10_change 35 = .ok (.invokestatic 45, 3) := by decide +kernel
theorem dX10_change_38 : decode cX10_change 38 = .ok (.ifCond .ne 10, 3) := by decide +kernel
theorem dX10_change_41 : decode cX10_change 41 = .ok (.aload_n 0, 1) := by decide +kernel
theorem dX10_change_42 : decode cX10_change 42 = .ok (.ldc 44, 2) := by decide +kernel
theorem dX10_change_44 : decode cX10_change 44 = .ok (.invokevirtual 67, 3) := by decide +kernel
theorem dX10_change_47 : decode cX10_change 47 = .ok (.ireturn, 1) := by decide +kernel
theorem dX10_change_48 : decode cX10_change 48 = .ok (.aload_n 0, 1) := by decide +kernel
theorem dX10_change_49 : decode cX10_change 49 = .ok (.iload_n 1, 1) := by decide +kernel
theorem dX10_change_50 : decode cX10_change 50 = .ok (.iload_n 2, 1) := by decide +kernel
theorem dX10_change_51 : decode cX10_change 51 = .ok (.invokevirtual 103, 3) := by decide +kernel
theorem dX10_change_54 : decode cX10_change 54 = .ok (.istore 4, 2) := by decide +kernel
theorem dX10_change_56 : decode cX10_change 56 = .ok (.aload_n 0, 1) := by decide +kernel
theorem dX10_change_57 : decode cX10_change 57 = .ok (.getfield 7, 3) := by decide +kernel
theorem dX10_change_60 : decode cX10_change 60 = .ok (.bipush 78, 2) := by decide +kernel
theorem dX10_change_62 : decode cX10_change 62 = .ok (.iconst 5, 1) := by decide +kernel
theorem dX10_change_63 : decode cX10_change 63 = .ok (.iload_n 1, 1) := by decide +kernel
theorem dX10_change_64 : decode cX10_change 64 = .ok (.imul, 1) := by decide +kernel
theorem dX10_change_65 : decode cX10_change 65 = .ok (.iadd, 1) := by decide +kernel
theorem dX10_change_66 : decode cX10_change 66 = .ok (.iload_n 2, 1) := by decide +kernel
theorem dX10_change_67 : decode cX10_change 67 = .ok (.iadd, 1) := by decide +kernel
theorem dX10_change_68 : decode cX10_change 68 = .ok (.iload_n 3, 1) := by decide +kernel
theorem dX10_change_69 : decode cX10_change 69 = .ok (.iastore, 1) := by decide +kernel
theorem dX10_change_70 : decode cX10_change 70 = .ok (.iload 4, 2) := by decide +kernel
theorem dX10_change_72 : decode cX10_change 72 = .ok (.ireturn, 1) := by decide +kernel
theorem dX10_hasRope_0 : decode cX10_hasRope 0 = .ok (.iconst 0, 1) := by decide +kernel
theorem dX10_hasRope_1 : decode cX10_hasRope 1 = .ok (.istore_n 2, 1) := by decide +kernel
theorem dX10_hasRope_2 : decode cX10_hasRope 2 = .ok (.iconst 0, 1) := by decide +kernel
theorem dX10_hasRope_3 : decode cX10_hasRope 3 = .ok (.istore_n 3, 1) := by decide +kernel
theorem dX10_hasRope_4 : decode cX10_hasRope 4 = .ok (.iload_n 3, 1) := by decide +kernel
theorem dX10_hasRope_5 : decode cX10_hasRope 5 = .ok (.aload_n 0, 1) := by decide +kernel
theorem dX10_hasRope_6 : decode cX10_hasRope 6 = .ok (.getfield 7, 3) := by decide +kernel
theorem dX10_hasRope_9 : decode cX10_hasRope 9 = .ok (.iconst 0, 1) := by decide +kernel
theorem dX10_hasRope_10 : decode cX10_hasRope 10 = .ok (.iaload, 1) := by decide +kernel
theorem dX10_hasRope_11 : decode cX10_hasRope 11 = .ok (.if_icmp .ge 47, 3) := by decide +kernel
theorem dX10_hasRope_14 : decode cX10_hasRope 14 = .ok (.iload_n 2, 1) := by decide +kernel
theorem dX10_hasRope_15 : decode cX10_hasRope 15 = .ok (.ifCond .ne 31, 3) := by decide +kernel
theorem dX10_hasRope_18 : decode cX10_hasRope 18 = .ok (.iload_n 1, 1) := by decide +kernel
theorem dX10_hasRope_19 : decode cX10_hasRope 19 = .ok (.iload_n 3, 1) := by decide +kernel
theorem dX10_hasRope_20 : decode cX10_hasRope 20 = .ok (.invokestatic 106, 3) := by decide +kernel
theorem dX10_hasRope_23 : decode cX10_hasRope 23 = .ok (.ifCond .eq 27, 3) := by decide +kernel
theorem dX10_hasRope_26 : decode cX10_hasRope 26 = .ok (.aload_n 0, 1) := by decide +kernel
theorem dX10_hasRope_27 : decode cX10_hasRope 27 = .ok (.iload_n 3, 1) := by decide +kernel
theorem dX10_hasRope_28 : decode cX10_hasRope 28 = .ok (.iconst 0, 1) := by decide +kernel
theorem dX10_hasRope_29 : decode cX10_hasRope 29 = .ok (.invokevirtual 76, 3) := by decide +kernel
theorem dX10_hasRope_32 : decode cX10_hasRope 32 = .ok (.iconst 2, 1) := by decide +kernel
theorem dX10_hasRope_33 : decode cX10_hasRope 33 = .ok (.if_icmp .eq 13, 3) := by decide +kernel
theorem dX10_hasRope_36 : decode cX10_hasRope 36 = .ok (.aload_n 0, 1) := by decide +kernel
theorem dX10_hasRope_37 : decode cX10_hasRope 37 = .ok (.iload_n 3, 1) := by decide +kernel
theorem dX10_hasRope_38 : decode cX10_hasRope 38 = .ok (.iconst 0, 1) := by decide +kernel
theorem dX10_hasRope_39 : decode cX10_hasRope 39 = .ok (.invokevirtual 76, 3) := by decide +kernel
theorem dX10_hasRope_42 : decode cX10_hasRope 42 = .ok (.iconst 4, 1) := by decide +kernel
theorem dX10_hasRope_43 : decode cX10_hasRope 43 = .ok (.if_icmp .ne 7, 3) := by decide +kernel
theorem dX10_hasRope_46 : decode cX10_hasRope 46 = .ok (.iconst 1, 1) := by decide +kernel
theorem dX10_hasRope_47 : decode cX10_hasRope 47 = .ok (.goto 4, 3) := by decide +kernel
theorem dX10_hasRope_50 : decode cX10_hasRope 50 = .ok (.iconst 0, 1) := by decide +kernel
theorem dX10_hasRope_51 : decode cX10_hasRope 51 = .ok (.istore_n 2, 1) := by decide +kernel
theorem dX10_hasRope_52 : decode cX10_hasRope 52 = .ok (.iinc 3 1, 3) := by decide +kernel
theorem dX10_hasRope_55 : decode cX10_hasRope 55 = .ok (.goto (-51), 3) := by decide +kernel
theorem dX10_hasRope_58 : decode cX10_hasRope 58 = .ok (.iload_n 2, 1) := by decide +kernel
theorem dX10_hasRope_59 : decode cX10_hasRope 59 = .ok (.ireturn, 1) := by decide +kernel
theorem dX10_hasMending_0 : decode cX10_hasMending 0 = .ok (.iconst 0, 1) := by decide +kernel
theorem dX10_hasMending_1 : decode cX10_hasMending 1 = .ok (.istore_n 2, 1) := by decide +kernel
theorem dX10_hasMending_2 : decode cX10_hasMending 2 = .ok (.iconst 0, 1) := by decide +kernel
theorem dX10_hasMending_3 : decode cX10_hasMending 3 = .ok (.istore_n 3, 1) := by decide +kernel
theorem dX10_hasMending_4 : decode cX10_hasMending 4 = .ok (.iload_n 3, 1) := by decide +kernel
theorem dX10_hasMending_5 : decode cX10_hasMending 5 = .ok (.aload_n 0, 1) := by decide +kernel
theorem dX10_hasMending_6 : decode cX10_hasMending 6 = .ok (.getfield 7, 3) := by decide +kernel
theorem dX10_hasMending_9 : decode cX10_hasMending 9 = .ok (.iconst 0, 1) := by decide +kernel
theorem dX10_hasMending_10 : decode cX10_hasMending 10 = .ok (.iaload, 1) := by decide +kernel
theorem dX10_hasMending_11 : decode cX10_hasMending 11 = .ok (.if_icmp .ge 37, 3) := by decide +kernel
theorem dX10_hasMending_14 : decode cX10_hasMending 14 = .ok (.iload_n 2, 1) := by decide +kernel
theorem dX10_hasMending_15 : decode cX10_hasMending 15 = .ok (.ifCond .ne 21, 3) := by decide +kernel
theorem dX10_hasMending_18 : decode cX10_hasMending 18 = .ok (.iload_n 1, 1) := by decide +kernel
theorem dX10_hasMending_19 : decode cX10_hasMending 19 = .ok (.iload_n 3, 1) := by decide +kernel
theorem dX10_hasMending_20 : decode cX10_hasMending 20 = .ok (.invokestatic 106, 3) := by decide +kernel
theorem dX10_hasMending_23 : decode cX10_hasMending 23 = .ok (.ifCond .eq 17, 3) := by decide +kernel
theorem dX10_hasMending_26 : decode cX10_hasMending 26 = .ok (.aload_n 0, 1) := by decide +kernel
theorem dX10_hasMending_27 : decode cX10_hasMending 27 = .ok (.iload_n 3, 1) := by decide +kernel
theorem dX10_hasMending_28 : decode cX10_hasMending 28 = .ok (.iconst 0, 1) := by decide +kernel
theorem dX10_hasMending_29 : decode cX10_hasMending 29 = .ok (.invokevirtual 76, 3) := by decide +kernel
theorem dX10_hasMending_32 : decode cX10_hasMending 32 = .ok (.iconst 4, 1) := by decide +kernel
theorem dX10_hasMending_33 : decode cX10_hasMending 33 = .ok (.if_icmp .ne 7, 3) := by decide +kernel
theorem dX10_hasMending_36 : decode cX10_hasMending 36 = .ok (.iconst 1, 1) := by decide +kernel
theorem dX10_hasMending_37 : decode cX10_hasMending 37 = .ok (.goto 4, 3) := by decide +kernel
theorem dX10_hasMending_40 : decode cX10_hasMending 40 = .ok (.iconst 0, 1) := by decide +kernel
theorem dX10_hasMending_41 : decode cX10_hasMending 41 = .ok (.istore_n 2, 1) := by decide +kernel
theorem dX10_hasMending_42 : decode cX10_hasMending 42 = .ok (.iinc 3 1, 3) := by decide +kernel
theorem dX10_hasMending_45 : decode cX10_hasMending 45 = .ok (.goto (-41), 3) := by decide +kernel
theorem dX10_hasMending_48 : decode cX10_hasMending 48 = .ok (.iload_n 2, 1) := by decide +kernel
theorem dX10_hasMending_49 : decode cX10_hasMending 49 = .ok (.ireturn, 1) := by decide +kernel
theorem dX10_gainOf_0 : decode cX10_gainOf 0 = .ok (.aload_n 0, 1) := by decide +kernel
theorem dX10_gainOf_1 : decode cX10_gainOf 1 = .ok (.iload_n 2, 1) := by decide +kernel
theorem dX10_gainOf_2 : decode cX10_gainOf 2 = .ok (.iconst 1, 1) := by decide +kernel
theorem dX10_gainOf_3 : decode cX10_gainOf 3 = .ok (.invokevirtual 103, 3) := by decide +kernel
theorem dX10_gainOf_6 : decode cX10_gainOf 6 = .ok (.istore 4, 2) := by decide +kernel
theorem dX10_gainOf_8 : decode cX10_gainOf 8 = .ok (.aload_n 0, 1) := by decide +kernel
theorem dX10_gainOf_9 : decode cX10_gainOf 9 = .ok (.iload_n 1, 1) := by decide +kernel
theorem dX10_gainOf_10 : decode cX10_gainOf 10 = .ok (.iconst 1, 1) := by decide +kernel
theorem dX10_gainOf_11 : decode cX10_gainOf 11 = .ok (.invokevirtual 76, 3) := by decide +kernel
theorem dX10_gainOf_14 : decode cX10_gainOf 14 = .ok (.aload_n 0, 1) := by decide +kernel
theorem dX10_gainOf_15 : decode cX10_gainOf 15 = .ok (.iload_n 2, 1) := by decide +kernel
theorem dX10_gainOf_16 : decode cX10_gainOf 16 = .ok (.iconst 0, 1) := by decide +kernel
theorem dX10_gainOf_17 : decode cX10_gainOf 17 = .ok (.invokevirtual 103, 3) := by decide +kernel
theorem dX10_gainOf_20 : decode cX10_gainOf 20 = .ok (.if_icmp .ne 18, 3) := by decide +kernel
theorem dX10_gainOf_23 : decode cX10_gainOf 23 = .ok (.iload 4, 2) := by decide +kernel
theorem dX10_gainOf_25 : decode cX10_gainOf 25 = .ok (.aload_n 0, 1) := by decide +kernel
theorem dX10_gainOf_26 : decode cX10_gainOf 26 = .ok (.iload_n 1, 1) := by decide +kernel
theorem dX10_gainOf_27 : decode cX10_gainOf 27 = .ok (.iconst 3, 1) := by decide +kernel
theorem dX10_gainOf_28 : decode cX10_gainOf 28 = .ok (.invokevirtual 76, 3) := by decide +kernel
theorem dX10_gainOf_31 : decode cX10_gainOf 31 = .ok (.imul, 1) := by decide +kernel
theorem dX10_gainOf_32 : decode cX10_gainOf 32 = .ok (.bipush 10, 2) := by decide +kernel
theorem dX10_gainOf_34 : decode cX10_gainOf 34 = .ok (.idiv, 1) := by decide +kernel
theorem dX10_gainOf_35 : decode cX10_gainOf 35 = .ok (.goto 4, 3) := by decide +kernel
theorem dX10_gainOf_38 : decode cX10_gainOf 38 = .ok (.iconst 0, 1) := by decide +kernel
theorem dX10_gainOf_39 : decode cX10_gainOf 39 = .ok (.istore 5, 2) := by decide +kernel
theorem dX10_gainOf_41 : decode cX10_gainOf 41 = .ok (.iload_n 3, 1) := by decide +kernel
theorem dX10_gainOf_42 : decode cX10_gainOf 42 = .ok (.ifCond .eq 8, 3) := by decide +kernel
theorem dX10_gainOf_45 : decode cX10_gainOf 45 = .ok (.iload 5, 2) := by decide +kernel
theorem dX10_gainOf_47 : decode cX10_gainOf 47 = .ok (.goto 7, 3) := by decide +kernel
theorem dX10_gainOf_50 : decode cX10_gainOf 50 = .ok (.iload 5, 2) := by decide +kernel
theorem dX10_gainOf_52 : decode cX10_gainOf 52 = .ok (.iconst 2, 1) := by decide +kernel
theorem dX10_gainOf_53 : decode cX10_gainOf 53 = .ok (.idiv, 1) := by decide +kernel
theorem dX10_gainOf_54 : decode cX10_gainOf 54 = .ok (.istore 6, 2) := by decide +kernel
theorem dX10_gainOf_56 : decode cX10_gainOf 56 = .ok (.aload_n 0, 1) := by decide +kernel
theorem dX10_gainOf_57 : decode cX10_gainOf 57 = .ok (.iload_n 1, 1) := by decide +kernel
theorem dX10_gainOf_58 : decode cX10_gainOf 58 = .ok (.iconst 0, 1) := by decide +kernel
theorem dX10_gainOf_59 : decode cX10_gainOf 59 = .ok (.invokevirtual 76, 3) := by decide +kernel
theorem dX10_gainOf_62 : decode cX10_gainOf 62 = .ok (.tableswitch 89 1 5 #[34, 37, 42, 62, 69], 34) := by decide +kernel
theorem dX10_gainOf_96 : decode cX10_gainOf 96 = .ok (.iload 6, 2) := by decide +kernel
theorem dX10_gainOf_98 : decode cX10_gainOf 98 = .ok (.ireturn, 1) := by decide +kernel
theorem dX10_gainOf_99 : decode cX10_gainOf 99 = .ok (.iload 4, 2) := by decide +kernel
theorem dX10_gainOf_101 : decode cX10_gainOf 101 = .ok (.iconst 4, 1) := by decide +kernel
theorem dX10_gainOf_102 : decode cX10_gainOf 102 = .ok (.idiv, 1) := by decide +kernel
theorem dX10_gainOf_103 : decode cX10_gainOf 103 = .ok (.ireturn, 1) := by decide +kernel
theorem dX10_gainOf_104 : decode cX10_gainOf 104 = .ok (.aload_n 0, 1) := by decide +kernel
theorem dX10_gainOf_105 : decode cX10_gainOf 105 = .ok (.iload_n 2, 1) := by decide +kernel
theorem dX10_gainOf_106 : decode cX10_gainOf 106 = .ok (.iconst 4, 1) := by decide +kernel
theorem dX10_gainOf_107 : decode cX10_gainOf 107 = .ok (.invokevirtual 103, 3) := by decide +kernel
theorem dX10_gainOf_110 : decode cX10_gainOf 110 = .ok (.iconst 1, 1) := by decide +kernel
theorem dX10_gainOf_111 : decode cX10_gainOf 111 = .ok (.if_icmp .ne 8, 3) := by decide +kernel
theorem dX10_gainOf_114 : decode cX10_gainOf 114 = .ok (.iload 6, 2) := by decide +kernel
theorem dX10_gainOf_116 : decode cX10_gainOf 116 = .ok (.goto 7, 3) := by decide +kernel
theorem dX10_gainOf_119 : decode cX10_gainOf 119 = .ok (.iload 6, 2) := by decide +kernel
theorem dX10_gainOf_121 : decode cX10_gainOf 121 = .ok (.iconst 3, 1) := by decide +kernel
theorem dX10_gainOf_122 : decode cX10_gainOf 122 = .ok (.idiv, 1) := by decide +kernel
theorem dX10_gainOf_123 : decode cX10_gainOf 123 = .ok (.ireturn, 1) := by decide +kernel
theorem dX10_gainOf_124 : decode cX10_gainOf 124 = .ok (.iload 4, 2) := by decide +kernel
theorem dX10_gainOf_126 : decode cX10_gainOf 126 = .ok (.iconst 4, 1) := by decide +kernel
theorem dX10_gainOf_127 : decode cX10_gainOf 127 = .ok (.idiv, 1) := by decide +kernel
theorem dX10_gainOf_128 : decode cX10_gainOf 128 = .ok (.iconst 1, 1) := by decide +kernel
theorem dX10_gainOf_129 : decode cX10_gainOf 129 = .ok (.iadd, 1) := by decide +kernel
theorem dX10_gainOf_130 : decode cX10_gainOf 130 = .ok (.ireturn, 1) := by decide +kernel
theorem dX10_gainOf_131 : decode cX10_gainOf 131 = .ok (.aload_n 0, 1) := by decide +kernel
theorem dX10_gainOf_132 : decode cX10_gainOf 132 = .ok (.iload_n 2, 1) := by decide +kernel
theorem dX10_gainOf_133 : decode cX10_gainOf 133 = .ok (.iconst 3, 1) := by decide +kernel
theorem dX10_gainOf_134 : decode cX10_gainOf 134 = .ok (.invokevirtual 103, 3) := by decide +kernel
theorem dX10_gainOf_137 : decode cX10_gainOf 137 = .ok (.iconst 1, 1) := by decide +kernel
theorem dX10_gainOf_138 : decode cX10_gainOf 138 = .ok (.if_icmp .ne 10, 3) := by decide +kernel
theorem dX10_gainOf_141 : decode cX10_gainOf 141 = .ok (.iconst 3, 1) := by decide +kernel
theorem dX10_gainOf_142 : decode cX10_gainOf 142 = .ok (.iload 5, 2) := by decide +kernel
theorem dX10_gainOf_144 : decode cX10_gainOf 144 = .ok (.imul, 1) := by decide +kernel
theorem dX10_gainOf_145 : decode cX10_gainOf 145 = .ok (.goto 5, 3) := by decide +kernel
theorem dX10_gainOf_148 : decode cX10_gainOf 148 = .ok (.iload 5, 2) := by decide +kernel
theorem dX10_gainOf_150 : decode cX10_gainOf 150 = .ok (.ireturn, 1) := by decide +kernel
theorem dX10_gainOf_151 : decode cX10_gainOf 151 = .ok (.iload 5, 2) := by decide +kernel
theorem dX10_gainOf_153 : decode cX10_gainOf 153 = .ok (.ireturn, 1) := by decide +kernel
theorem dX10_gain_0 : decode cX10_gain 0 = .ok (.aload_n 0, 1) := by decide +kernel
theorem dX10_gain_1 : decode cX10_gain 1 = .ok (.iload_n 1, 1) := by decide +kernel
theorem dX10_gain_2 : decode cX10_gain 2 = .ok (.invokevirtual 79, 3) := by decide +kernel
theorem dX10_gain_5 : decode cX10_gain 5 = .ok (.ifCond .eq 19, 3) := by decide +kernel
theorem dX10_gain_8 : decode cX10_gain 8 = .ok (.aload_n 0, 1) := by decide +kernel
theorem dX10_gain_9 : decode cX10_gain 9 = .ok (.iload_n 2, 1) := by decide +kernel
theorem dX10_gain_10 : decode cX10_gain 10 = .ok (.invokevirtual 100, 3) := by decide +kernel
theorem dX10_gain_13 : decode cX10_gain 13 = .ok (.ifCond .eq 11, 3) := by decide +kernel
theorem dX10_gain_16 : decode cX10_gain 16 = .ok (.aload_n 0, 1) := by decide +kernel
theorem dX10_gain_17 : decode cX10_gain 17 = .ok (.iload_n 3, 1) := by decide +kernel
theorem dX10_gain_18 : decode cX10_gain 18 = .ok (.invokevirtual 109, 3) := by decide +kernel
theorem dX10_gain_21 : decode cX10_gain 21 = .ok (.ifCond .ne 10, 3) := by decide +kernel
theorem dX10_gain_24 : decode cX10_gain 24 = .ok (.aload_n 0, 1) := by decide +kernel
theorem dX10_gain_25 : decode cX10_gain 25 = .ok (.ldc 44, 2) := by decide +kernel
theorem dX10_gain_27 : decode cX10_gain 27 = .ok (.invokevirtual 67, 3) := by decide +kernel
theorem dX10_gain_30 : decode cX10_gain 30 = .ok (.ireturn, 1) := by decide +kernel
theorem dX10_gain_31 : decode cX10_gain 31 = .ok (.aload_n 0, 1) := by decide +kernel
theorem dX10_gain_32 : decode cX10_gain 32 = .ok (.iload_n 1, 1) := by decide +kernel
theorem dX10_gain_33 : decode cX10_gain 33 = .ok (.iload_n 2, 1) := by decide +kernel
theorem dX10_gain_34 : decode cX10_gain 34 = .ok (.aload_n 0, 1) := by decide +kernel
theorem dX10_gain_35 : decode cX10_gain 35 = .ok (.iload_n 3, 1) := by decide +kernel
theorem dX10_gain_36 : decode cX10_gain 36 = .ok (.invokevirtual 112, 3) := by decide +kernel
theorem dX10_gain_39 : decode cX10_gain 39 = .ok (.invokevirtual 115, 3) := by decide +kernel
theorem dX10_gain_42 : decode cX10_gain 42 = .ok (.ireturn, 1) := by decide +kernel
theorem dX10_metOf_0 : decode cX10_metOf 0 = .ok (.aload_n 0, 1) := by decide +kernel
theorem dX10_metOf_1 : decode cX10_metOf 1 = .ok (.iload_n 1, 1) := by decide +kernel
theorem dX10_metOf_2 : decode cX10_metOf 2 = .ok (.iconst 1, 1) := by decide +kernel
theorem dX10_metOf_3 : decode cX10_metOf 3 = .ok (.invokevirtual 103, 3) := by decide +kernel
theorem dX10_metOf_6 : decode cX10_metOf 6 = .ok (.istore 5, 2) := by decide +kernel
theorem dX10_metOf_8 : decode cX10_metOf 8 = .ok (.iload 5, 2) := by decide +kernel
theorem dX10_metOf_10 : decode cX10_metOf 10 = .ok (.bipush 10, 2) := by decide +kernel
theorem dX10_metOf_12 : decode cX10_metOf 12 = .ok (.idiv, 1) := by decide +kernel
theorem dX10_metOf_13 : decode cX10_metOf 13 = .ok (.istore 6, 2) := by decide +kernel
theorem dX10_metOf_15 : decode cX10_metOf 15 = .ok (.iconst 0, 1) := by decide +kernel
theorem dX10_metOf_16 : decode cX10_metOf 16 = .ok (.istore 7, 2) := by decide +kernel
theorem dX10_metOf_18 : decode cX10_metOf 18 = .ok (.iload 7, 2) := by decide +kernel
theorem dX10_metOf_20 : decode cX10_metOf 20 = .ok (.aload_n 0, 1) := by decide +kernel
theorem dX10_metOf_21 : decode cX10_metOf 21 = .ok (.getfield 7, 3) := by decide +kernel
theorem dX10_metOf_24 : decode cX10_metOf 24 = .ok (.iconst 0, 1) := by decide +kernel
theorem dX10_metOf_25 : decode cX10_metOf 25 = .ok (.iaload, 1) := by decide +kernel
theorem dX10_metOf_26 : decode cX10_metOf 26 = .ok (.if_icmp .ge 48, 3) := by decide +kernel
theorem dX10_metOf_29 : decode cX10_metOf 29 = .ok (.iload_n 2, 1) := by decide +kernel
theorem dX10_metOf_30 : decode cX10_metOf 30 = .ok (.iload 7, 2) := by decide +kernel
theorem dX10_metOf_32 : decode cX10_metOf 32 = .ok (.invokestatic 106, 3) := by decide +kernel
theorem dX10_metOf_35 : decode cX10_metOf 35 = .ok (.ifCond .eq 14, 3) := by decide +kernel
theorem dX10_metOf_38 : decode cX10_metOf 38 = .ok (.aload_n 0, 1) := by decide +kernel
theorem dX10_metOf_39 : decode cX10_metOf 39 = .ok (.iload 7, 2) := by decide +kernel
theorem dX10_metOf_41 : decode cX10_metOf 41 = .ok (.iload_n 1, 1) := by decide +kernel
theorem dX10_metOf_42 : decode cX10_metOf 42 = .ok (.iload_n 3, 1) := by decide +kernel
theorem dX10_metOf_43 : decode cX10_metOf 43 = .ok (.invokevirtual 115, 3) := by decide +kernel
theorem dX10_metOf_46 : decode cX10_metOf 46 = .ok (.goto 4, 3) := by decide +kernel
theorem dX10_metOf_49 : decode cX10_metOf 49 = .ok (.iconst 0, 1) := by decide +kernel
theorem dX10_metOf_50 : decode cX10_metOf 50 = .ok (.istore 8, 2) := by decide +kernel
theorem dX10_metOf_52 : decode cX10_metOf 52 = .ok (.iload 8, 2) := by decide +kernel
theorem dX10_metOf_54 : decode cX10_metOf 54 = .ok (.iload 6, 2) := by decide +kernel
theorem dX10_metOf_56 : decode cX10_metOf 56 = .ok (.if_icmp .le 8, 3) := by decide +kernel
theorem dX10_metOf_59 : decode cX10_metOf 59 = .ok (.iload 8, 2) := by decide +kernel
theorem dX10_metOf_61 : decode cX10_metOf 61 = .ok (.goto 5, 3) := by decide +kernel
theorem dX10_metOf_64 : decode cX10_metOf 64 = .ok (.iload 6, 2) := by decide +kernel
theorem dX10_metOf_66 : decode cX10_metOf 66 = .ok (.istore 6, 2) := by decide +kernel
theorem dX10_metOf_68 : decode cX10_metOf 68 = .ok (.iinc 7 1, 3) := by decide +kernel
theorem dX10_metOf_71 : decode cX10_metOf 71 = .ok (.goto (-53), 3) := by decide +kernel
theorem dX10_metOf_74 : decode cX10_metOf 74 = .ok (.iload 6, 2) := by decide +kernel
theorem dX10_metOf_76 : decode cX10_metOf 76 = .ok (.iload 4, 2) := by decide +kernel
theorem dX10_metOf_78 : decode cX10_metOf 78 = .ok (.ifCond .eq 10, 3) := by decide +kernel
theorem dX10_metOf_81 : decode cX10_metOf 81 = .ok (.iload 5, 2) := by decide +kernel
theorem dX10_metOf_83 : decode cX10_metOf 83 = .ok (.iconst 5, 1) := by decide +kernel
theorem dX10_metOf_84 : decode cX10_metOf 84 = .ok (.idiv, 1) := by decide +kernel
theorem dX10_metOf_85 : decode cX10_metOf 85 = .ok (.goto 4, 3) := by decide +kernel
theorem dX10_metOf_88 : decode cX10_metOf 88 = .ok (.iconst 0, 1) := by decide +kernel
theorem dX10_metOf_89 : decode cX10_metOf 89 = .ok (.iadd, 1) := by decide +kernel
theorem dX10_metOf_90 : decode cX10_metOf 90 = .ok (.istore 6, 2) := by decide +kernel
theorem dX10_metOf_92 : decode cX10_metOf 92 = .ok (.iload 6, 2) := by decide +kernel
theorem dX10_metOf_94 : decode cX10_metOf 94 = .ok (.iload 5, 2) := by decide +kernel
theorem dX10_metOf_96 : decode cX10_metOf 96 = .ok (.if_icmp .ge 8, 3) := by decide +kernel
theorem dX10_metOf_99 : decode cX10_metOf 99 = .ok (.iload 6, 2) := by decide +kernel
theorem dX10_metOf_101 : decode cX10_metOf 101 = .ok (.goto 5, 3) := by decide +kernel
theorem dX10_metOf_104 : decode cX10_metOf 104 = .ok (.iload 5, 2) := by decide +kernel
theorem dX10_metOf_106 : decode cX10_metOf 106 = .ok (.ireturn, 1) := by decide +kernel
theorem dX10_met_0 : decode cX10_met 0 = .ok (.aload_n 0, 1) := by decide +kernel
theorem dX10_met_1 : decode cX10_met 1 = .ok (.iload_n 1, 1) := by decide +kernel
theorem dX10_met_2 : decode cX10_met 2 = .ok (.invokevirtual 100, 3) := by decide +kernel
theorem dX10_met_5 : decode cX10_met 5 = .ok (.ifCond .eq 11, 3) := by decide +kernel
theorem dX10_met_8 : decode cX10_met 8 = .ok (.aload_n 0, 1) := by decide +kernel
theorem dX10_met_9 : decode cX10_met 9 = .ok (.iload_n 2, 1) := by decide +kernel
theorem dX10_met_10 : decode cX10_met 10 = .ok (.invokevirtual 109, 3) := by decide +kernel
theorem dX10_met_13 : decode cX10_met 13 = .ok (.ifCond .ne 10, 3) := by decide +kernel
theorem dX10_met_16 : decode cX10_met 16 = .ok (.aload_n 0, 1) := by decide +kernel
theorem dX10_met_17 : decode cX10_met 17 = .ok (.ldc 44, 2) := by decide +kernel
theorem dX10_met_19 : decode cX10_met 19 = .ok (.invokevirtual 67, 3) := by decide +kernel
theorem dX10_met_22 : decode cX10_met 22 = .ok (.ireturn, 1) := by decide +kernel
theorem dX10_met_23 : decode cX10_met 23 = .ok (.aload_n 0, 1) := by decide +kernel
theorem dX10_met_24 : decode cX10_met 24 = .ok (.iload_n 1, 1) := by decide +kernel
theorem dX10_met_25 : decode cX10_met 25 = .ok (.iload_n 2, 1) := by decide +kernel
theorem dX10_met_26 : decode cX10_met 26 = .ok (.aload_n 0, 1) := by decide +kernel
theorem dX10_met_27 : decode cX10_met 27 = .ok (.iload_n 2, 1) := by decide +kernel
theorem dX10_met_28 : decode cX10_met 28 = .ok (.invokevirtual 112, 3) := by decide +kernel
theorem dX10_met_31 : decode cX10_met 31 = .ok (.aload_n 0, 1) := by decide +kernel
theorem dX10_met_32 : decode cX10_met 32 = .ok (.iload_n 2, 1) := by decide +kernel
theorem dX10_met_33 : decode cX10_met 33 = .ok (.invokevirtual 119, 3) := by decide +kernel
theorem dX10_met_36 : decode cX10_met 36 = .ok (.invokevirtual 122, 3) := by decide +kernel
theorem dX10_met_39 : decode cX10_met 39 = .ok (.ireturn, 1) := by decide +kernel
theorem dX10_valueOf_0 : decode cX10_valueOf 0 = .ok (.aload_n 0, 1) := by decide +kernel
theorem dX10_valueOf_1 : decode cX10_valueOf 1 = .ok (.iload_n 1, 1) := by decide +kernel
theorem dX10_valueOf_2 : decode cX10_valueOf 2 = .ok (.invokevirtual 112, 3) := by decide +kernel
theorem dX10_valueOf_5 : decode cX10_valueOf 5 = .ok (.istore_n 2, 1) := by decide +kernel
theorem dX10_valueOf_6 : decode cX10_valueOf 6 = .ok (.aload_n 0, 1) := by decide +kernel
theorem dX10_valueOf_7 : decode cX10_valueOf 7 = .ok (.iload_n 1, 1) := by decide +kernel
theorem dX10_valueOf_8 : decode cX10_valueOf 8 = .ok (.invokevirtual 119, 3) := by decide +kernel
theorem dX10_valueOf_11 : decode cX10_valueOf 11 = .ok (.istore_n 3, 1) := by decide +kernel
theorem dX10_valueOf_12 : decode cX10_valueOf 12 = .ok (.iconst 0, 1) := by decide +kernel
theorem dX10_valueOf_13 : decode cX10_valueOf 13 = .ok (.istore 4, 2) := by decide +kernel
theorem dX10_valueOf_15 : decode cX10_valueOf 15 = .ok (.iconst 0, 1) := by decide +kernel
theorem dX10_valueOf_16 : decode cX10_valueOf 16 = .ok (.istore 5, 2) := by decide +kernel
theorem dX10_valueOf_18 : decode cX10_valueOf 18 = .ok (.iload 5, 2) := by decide +kernel
theorem dX10_valueOf_20 : decode cX10_valueOf 20 = .ok (.aload_n 0, 1) := by decide +kernel
theorem dX10_valueOf_21 : decode cX10_valueOf 21 = .ok (.getfield 7, 3) := by decide +kernel
theorem dX10_valueOf_24 : decode cX10_valueOf 24 = .ok (.iconst 1, 1) := by decide +kernel
theorem dX10_valueOf_25 : decode cX10_valueOf 25 = .ok (.iaload, 1) := by decide +kernel
theorem dX10_valueOf_26 : decode cX10_valueOf 26 = .ok (.if_icmp .ge 23, 3) := by decide +kernel
theorem dX10_valueOf_29 : decode cX10_valueOf 29 = .ok (.iload 4, 2) := by decide +kernel
theorem dX10_valueOf_31 : decode cX10_valueOf 31 = .ok (.aload_n 0, 1) := by decide +kernel
theorem dX10_valueOf_32 : decode cX10_valueOf 32 = .ok (.iload 5, 2) := by decide +kernel
theorem dX10_valueOf_34 : decode cX10_valueOf 34 = .ok (.iload_n 1, 1) := by decide +kernel
theorem dX10_valueOf_35 : decode cX10_valueOf 35 = .ok (.iload_n 2, 1) := by decide +kernel
theorem dX10_valueOf_36 : decode cX10_valueOf 36 = .ok (.iload_n 3, 1) := by decide +kernel
theorem dX10_valueOf_37 : decode cX10_valueOf 37 = .ok (.invokevirtual 122, 3) := by decide +kernel
theorem dX10_valueOf_40 : decode cX10_valueOf 40 = .ok (.iadd, 1) := by decide +kernel
theorem dX10_valueOf_41 : decode cX10_valueOf 41 = .ok (.istore 4, 2) := by decide +kernel
theorem dX10_valueOf_43 : decode cX10_valueOf 43 = .ok (.iinc 5 1, 3) := by decide +kernel
theorem dX10_valueOf_46 : decode cX10_valueOf 46 = .ok (.goto (-28), 3) := by decide +kernel
theorem dX10_valueOf_49 : decode cX10_valueOf 49 = .ok (.iload 4, 2) := by decide +kernel
theorem dX10_valueOf_51 : decode cX10_valueOf 51 = .ok (.ireturn, 1) := by decide +kernel
theorem dX10_value_0 : decode cX10_value 0 = .ok (.aload_n 0, 1) := by decide +kernel
theorem dX10_value_1 : decode cX10_value 1 = .ok (.iload_n 1, 1) := by decide +kernel
theorem dX10_value_2 : decode cX10_value 2 = .ok (.invokevirtual 109, 3) := by decide +kernel
theorem dX10_value_5 : decode cX10_value 5 = .ok (.ifCond .eq 11, 3) := by decide +kernel
theorem dX10_value_8 : decode cX10_value 8 = .ok (.aload_n 0, 1) := by decide +kernel
theorem dX10_value_9 : decode cX10_value 9 = .ok (.iload_n 1, 1) := by decide +kernel
theorem dX10_value_10 : decode cX10_value 10 = .ok (.invokevirtual 126, 3) := by decide +kernel
theorem dX10_value_13 : decode cX10_value 13 = .ok (.goto 9, 3) := by decide +kernel
theorem dX10_value_16 : decode cX10_value 16 = .ok (.aload_n 0, 1) := by decide +kernel
theorem dX10_value_17 : decode cX10_value 17 = .ok (.ldc 44, 2) := by decide +kernel
theorem dX10_value_19 : decode cX10_value 19 = .ok (.invokevirtual 67, 3) := by decide +kernel
theorem dX10_value_22 : decode cX10_value 22 = .ok (.ireturn, 1) := by decide +kernel
theorem dX10_byOf_0 : decode cX10_byOf 0 = .ok (.aload_n 0, 1) := by decide +kernel
theorem dX10_byOf_1 : decode cX10_byOf 1 = .ok (.iload_n 2, 1) := by decide +kernel
theorem dX10_byOf_2 : decode cX10_byOf 2 = .ok (.invokevirtual 112, 3) := by decide +kernel
theorem dX10_byOf_5 : decode cX10_byOf 5 = .ok (.istore_n 3, 1) := by decide +kernel
theorem dX10_byOf_6 : decode cX10_byOf 6 = .ok (.iconst (-1), 1) := by decide +kernel
theorem dX10_byOf_7 : decode cX10_byOf 7 = .ok (.istore 4, 2) := by decide +kernel
theorem dX10_byOf_9 : decode cX10_byOf 9 = .ok (.aload_n 0, 1) := by decide +kernel
theorem dX10_byOf_10 : decode cX10_byOf 10 = .ok (.iload_n 1, 1) := by decide +kernel
theorem dX10_byOf_11 : decode cX10_byOf 11 = .ok (.iconst 1, 1) := by decide +kernel
theorem dX10_byOf_12 : decode cX10_byOf 12 = .ok (.invokevirtual 103, 3) := by decide +kernel
theorem dX10_byOf_15 : decode cX10_byOf 15 = .ok (.bipush 10, 2) := by decide +kernel
theorem dX10_byOf_17 : decode cX10_byOf 17 = .ok (.idiv, 1) := by decide +kernel
theorem dX10_byOf_18 : decode cX10_byOf 18 = .ok (.istore 5, 2) := by decide +kernel
theorem dX10_byOf_20 : decode cX10_byOf 20 = .ok (.iconst 0, 1) := by decide +kernel
theorem dX10_byOf_21 : decode cX10_byOf 21 = .ok (.istore 6, 2) := by decide +kernel
theorem dX10_byOf_23 : decode cX10_byOf 23 = .ok (.iload 6, 2) := by decide +kernel
theorem dX10_byOf_25 : decode cX10_byOf 25 = .ok (.aload_n 0, 1) := by decide +kernel
theorem dX10_byOf_26 : decode cX10_byOf 26 = .ok (.getfield 7, 3) := by decide +kernel
theorem dX10_byOf_29 : decode cX10_byOf 29 = .ok (.iconst 0, 1) := by decide +kernel
theorem dX10_byOf_30 : decode cX10_byOf 30 = .ok (.iaload, 1) := by decide +kernel
theorem dX10_byOf_31 : decode cX10_byOf 31 = .ok (.if_icmp .ge 64, 3) := by decide +kernel
theorem dX10_byOf_34 : decode cX10_byOf 34 = .ok (.iload_n 2, 1) := by decide +kernel
theorem dX10_byOf_35 : decode cX10_byOf 35 = .ok (.iload 6, 2) := by decide +kernel
theorem dX10_byOf_37 : decode cX10_byOf 37 = .ok (.invokestatic 106, 3) := by decide +kernel
theorem dX10_byOf_40 : decode cX10_byOf 40 = .ok (.ifCond .eq 14, 3) := by decide +kernel
theorem dX10_byOf_43 : decode cX10_byOf 43 = .ok (.aload_n 0, 1) := by decide +kernel
theorem dX10_byOf_44 : decode cX10_byOf 44 = .ok (.iload 6, 2) := by decide +kernel
theorem dX10_byOf_46 : decode cX10_byOf 46 = .ok (.iload_n 1, 1) := by decide +kernel
theorem dX10_byOf_47 : decode cX10_byOf 47 = .ok (.iload_n 3, 1) := by decide +kernel
theorem dX10_byOf_48 : decode cX10_byOf 48 = .ok (.invokevirtual 115, 3) := by decide +kernel
theorem dX10_byOf_51 : decode cX10_byOf 51 = .ok (.goto 4, 3) := by decide +kernel
theorem dX10_byOf_54 : decode cX10_byOf 54 = .ok (.iconst 0, 1) := by decide +kernel
theorem dX10_byOf_55 : decode cX10_byOf 55 = .ok (.istore 7, 2) := by decide +kernel
theorem dX10_byOf_57 : decode cX10_byOf 57 = .ok (.iload 7, 2) := by decide +kernel
theorem dX10_byOf_59 : decode cX10_byOf 59 = .ok (.iload 5, 2) := by decide +kernel
theorem dX10_byOf_61 : decode cX10_byOf 61 = .ok (.if_icmp .le 8, 3) := by decide +kernel
theorem dX10_byOf_64 : decode cX10_byOf 64 = .ok (.iload 6, 2) := by decide +kernel
theorem dX10_byOf_66 : decode cX10_byOf 66 = .ok (.goto 5, 3) := by decide +kernel
theorem dX10_byOf_69 : decode cX10_byOf 69 = .ok (.iload 4, 2) := by decide +kernel
theorem dX10_byOf_71 : decode cX10_byOf 71 = .ok (.istore 4, 2) := by decide +kernel
theorem dX10_byOf_73 : decode cX10_byOf 73 = .ok (.iload 7, 2) := by decide +kernel
theorem dX10_byOf_75 : decode cX10_byOf 75 = .ok (.iload 5, 2) := by decide +kernel
theorem dX10_byOf_77 : decode cX10_byOf 77 = .ok (.if_icmp .le 8, 3) := by decide +kernel
theorem dX10_byOf_80 : decode cX10_byOf 80 = .ok (.iload 7, 2) := by decide +kernel
theorem dX10_byOf_82 : decode cX10_byOf 82 = .ok (.goto 5, 3) := by decide +kernel
theorem dX10_byOf_85 : decode cX10_byOf 85 = .ok (.iload 5, 2) := by decide +kernel
theorem dX10_byOf_87 : decode cX10_byOf 87 = .ok (.istore 5, 2) := by decide +kernel
theorem dX10_byOf_89 : decode cX10_byOf 89 = .ok (.iinc 6 1, 3) := by decide +kernel
theorem dX10_byOf_92 : decode cX10_byOf 92 = .ok (.goto (-69), 3) := by decide +kernel
theorem dX10_byOf_95 : decode cX10_byOf 95 = .ok (.iload 4, 2) := by decide +kernel
theorem dX10_byOf_97 : decode cX10_byOf 97 = .ok (.ireturn, 1) := by decide +kernel
theorem dX10_by_0 : decode cX10_by 0 = .ok (.aload_n 0, 1) := by decide +kernel
theorem dX10_by_1 : decode cX10_by 1 = .ok (.iload_n 1, 1) := by decide +kernel
theorem dX10_by_2 : decode cX10_by 2 = .ok (.invokevirtual 100, 3) := by decide +kernel
theorem dX10_by_5 : decode cX10_by 5 = .ok (.ifCond .eq 11, 3) := by decide +kernel
theorem dX10_by_8 : decode cX10_by 8 = .ok (.aload_n 0, 1) := by decide +kernel
theorem dX10_by_9 : decode cX10_by 9 = .ok (.iload_n 2, 1) := by decide +kernel
theorem dX10_by_10 : decode cX10_by 10 = .ok (.invokevirtual 109, 3) := by decide +kernel
theorem dX10_by_13 : decode cX10_by 13 = .ok (.ifCond .ne 10, 3) := by decide +kernel
theorem dX10_by_16 : decode cX10_by 16 = .ok (.aload_n 0, 1) := by decide +kernel
theorem dX10_by_17 : decode cX10_by 17 = .ok (.ldc 44, 2) := by decide +kernel
theorem dX10_by_19 : decode cX10_by 19 = .ok (.invokevirtual 67, 3) := by decide +kernel
theorem dX10_by_22 : decode cX10_by 22 = .ok (.ireturn, 1) := by decide +kernel
theorem dX10_by_23 : decode cX10_by 23 = .ok (.aload_n 0, 1) := by decide +kernel
theorem dX10_by_24 : decode cX10_by 24 = .ok (.iload_n 1, 1) := by decide +kernel
theorem dX10_by_25 : decode cX10_by 25 = .ok (.iload_n 2, 1) := by decide +kernel
theorem dX10_by_26 : decode cX10_by 26 = .ok (.invokevirtual 129, 3) := by decide +kernel
theorem dX10_by_29 : decode cX10_by 29 = .ok (.istore_n 3, 1) := by decide +kernel
theorem dX10_by_30 : decode cX10_by 30 = .ok (.iload_n 3, 1) := by decide +kernel
theorem dX10_by_31 : decode cX10_by 31 = .ok (.ifCond .ge 12, 3) := by decide +kernel
theorem dX10_by_34 : decode cX10_by 34 = .ok (.aload_n 0, 1) := by decide +kernel
theorem dX10_by_35 : decode cX10_by 35 = .ok (.ldc 132, 2) := by decide +kernel
theorem dX10_by_37 : decode cX10_by 37 = .ok (.invokevirtual 67, 3) := by decide +kernel
theorem dX10_by_40 : decode cX10_by 40 = .ok (.goto 4, 3) := by decide +kernel
theorem dX10_by_43 : decode cX10_by 43 = .ok (.iload_n 3, 1) := by decide +kernel
theorem dX10_by_44 : decode cX10_by 44 = .ok (.ireturn, 1) := by decide +kernel
theorem dX10_minutesOf_0 : decode cX10_minutesOf 0 = .ok (.iconst 0, 1) := by decide +kernel
theorem dX10_minutesOf_1 : decode cX10_minutesOf 1 = .ok (.istore_n 2, 1) := by decide +kernel
theorem dX10_minutesOf_2 : decode cX10_minutesOf 2 = .ok (.iconst 0, 1) := by decide +kernel
theorem dX10_minutesOf_3 : decode cX10_minutesOf 3 = .ok (.istore_n 3, 1) := by decide +kernel
theorem dX10_minutesOf_4 : decode cX10_minutesOf 4 = .ok (.iload_n 3, 1) := by decide +kernel
theorem dX10_minutesOf_5 : decode cX10_minutesOf 5 = .ok (.aload_n 0, 1) := by decide +kernel
theorem dX10_minutesOf_6 : decode cX10_minutesOf 6 = .ok (.getfield 7, 3) := by decide +kernel
theorem dX10_minutesOf_9 : decode cX10_minutesOf 9 = .ok (.iconst 0, 1) := by decide +kernel
theorem dX10_minutesOf_10 : decode cX10_minutesOf 10 = .ok (.iaload, 1) := by decide +kernel
theorem dX10_minutesOf_11 : decode cX10_minutesOf 11 = .ok (.if_icmp .ge 30, 3) := by decide +kernel
theorem dX10_minutesOf_14 : decode cX10_minutesOf 14 = .ok (.iload_n 2, 1) := by decide +kernel
theorem dX10_minutesOf_15 : decode cX10_minutesOf 15 = .ok (.iload_n 1, 1) := by decide +kernel
theorem dX10_minutesOf_16 : decode cX10_minutesOf 16 = .ok (.iload_n 3, 1) := by decide +kernel
theorem dX10_minutesOf_17 : decode cX10_minutesOf 17 = .ok (.invokestatic 106, 3) := by decide +kernel
theorem dX10_minutesOf_20 : decode cX10_minutesOf 20 = .ok (.ifCond .eq 12, 3) := by decide +kernel
theorem dX10_minutesOf_23 : decode cX10_minutesOf 23 = .ok (.aload_n 0, 1) := by decide +kernel
theorem dX10_minutesOf_24 : decode cX10_minutesOf 24 = .ok (.iload_n 3, 1) := by decide +kernel
theorem dX10_minutesOf_25 : decode cX10_minutesOf 25 = .ok (.iconst 2, 1) := by decide +kernel
theorem dX10_minutesOf_26 : decode cX10_minutesOf 26 = .ok (.invokevirtual 76, 3) := by decide +kernel
theorem dX10_minutesOf_29 : decode cX10_minutesOf 29 = .ok (.goto 4, 3) := by decide +kernel
theorem dX10_minutesOf_32 : decode cX10_minutesOf 32 = .ok (.iconst 0, 1) := by decide +kernel
theorem dX10_minutesOf_33 : decode cX10_minutesOf 33 = .ok (.iadd, 1) := by decide +kernel
theorem dX10_minutesOf_34 : decode cX10_minutesOf 34 = .ok (.istore_n 2, 1) := by decide +kernel
theorem dX10_minutesOf_35 : decode cX10_minutesOf 35 = .ok (.iinc 3 1, 3) := by decide +kernel
theorem dX10_minutesOf_38 : decode cX10_minutesOf 38 = .ok (.goto (-34), 3) := by decide +kernel
theorem dX10_minutesOf_41 : decode cX10_minutesOf 41 = .ok (.iload_n 2, 1) := by decide +kernel
theorem dX10_minutesOf_42 : decode cX10_minutesOf 42 = .ok (.ireturn, 1) := by decide +kernel
theorem dX10_findBest_0 : decode cX10_findBest 0 = .ok (.aload_n 0, 1) := by decide +kernel
theorem dX10_findBest_1 : decode cX10_findBest 1 = .ok (.iconst (-1), 1) := by decide +kernel
theorem dX10_findBest_2 : decode cX10_findBest 2 = .ok (.putfield 133, 3) := by decide +kernel
theorem dX10_findBest_5 : decode cX10_findBest 5 = .ok (.iconst 0, 1) := by decide +kernel
theorem dX10_findBest_6 : decode cX10_findBest 6 = .ok (.istore_n 2, 1) := by decide +kernel
theorem dX10_findBest_7 : decode cX10_findBest 7 = .ok (.iload_n 2, 1) := by decide +kernel
theorem dX10_findBest_8 : decode cX10_findBest 8 = .ok (.iconst 1, 1) := by decide +kernel
theorem dX10_findBest_9 : decode cX10_findBest 9 = .ok (.aload_n 0, 1) := by decide +kernel
theorem dX10_findBest_10 : decode cX10_findBest 10 = .ok (.getfield 7, 3) := by decide +kernel
theorem dX10_findBest_13 : decode cX10_findBest 13 = .ok (.iconst 0, 1) := by decide +kernel
theorem dX10_findBest_14 : decode cX10_findBest 14 = .ok (.iaload, 1) := by decide +kernel
theorem dX10_findBest_15 : decode cX10_findBest 15 = .ok (.ishl, 1) := by decide +kernel
theorem dX10_findBest_16 : decode cX10_findBest 16 = .ok (.if_icmp .ge 85, 3) := by decide +kernel
theorem dX10_findBest_19 : decode cX10_findBest 19 = .ok (.aload_n 0, 1) := by decide +kernel
theorem dX10_findBest_20 : decode cX10_findBest 20 = .ok (.iload_n 2, 1) := by decide +kernel
theorem dX10_findBest_21 : decode cX10_findBest 21 = .ok (.invokevirtual 137, 3) := by decide +kernel
theorem dX10_findBest_24 : decode cX10_findBest 24 = .ok (.istore_n 3, 1) := by decide +kernel
theorem dX10_findBest_25 : decode cX10_findBest 25 = .ok (.iload_n 3, 1) := by decide +kernel
theorem dX10_findBest_26 : decode cX10_findBest 26 = .ok (.iload_n 1, 1) := by decide +kernel
theorem dX10_findBest_27 : decode cX10_findBest 27 = .ok (.if_icmp .gt 11, 3) := by decide +kernel
theorem dX10_findBest_30 : decode cX10_findBest 30 = .ok (.aload_n 0, 1) := by decide +kernel
theorem dX10_findBest_31 : decode cX10_findBest 31 = .ok (.iload_n 2, 1) := by decide +kernel
theorem dX10_findBest_32 : decode cX10_findBest 32 = .ok (.invokevirtual 126, 3) := by decide +kernel
theorem dX10_findBest_35 : decode cX10_findBest 35 = .ok (.goto 4, 3) := by decide +kernel
theorem dX10_findBest_38 : decode cX10_findBest 38 = .ok (.iconst 0, 1) := by decide +kernel
theorem dX10_findBest_39 : decode cX10_findBest 39 = .ok (.istore 4, 2) := by decide +kernel
theorem dX10_findBest_41 : decode cX10_findBest 41 = .ok (.iload_n 3, 1) := by decide +kernel
theorem dX10_findBest_42 : decode cX10_findBest 42 = .ok (.iload_n 1, 1) := by decide +kernel
theorem dX10_findBest_43 : decode cX10_findBest 43 = .ok (.if_icmp .gt 52, 3) := by decide +kernel
theorem dX10_findBest_46 : decode cX10_findBest 46 = .ok (.aload_n 0, 1) := by decide +kernel
theorem dX10_findBest_47 : decode cX10_findBest 47 = .ok (.getfield 133, 3) := by decide +kernel
theorem dX10_findBest_50 : decode cX10_findBest 50 = .ok (.ifCond .lt 29, 3) := by decide +kernel
theorem dX10_findBest_53 : decode cX10_findBest 53 = .ok (.iload 4, 2) := by decide +kernel
theorem dX10_findBest_55 : decode cX10_findBest 55 = .ok (.aload_n 0, 1) := by decide +kernel
theorem dX10_findBest_56 : decode cX10_findBest 56 = .ok (.getfield 140, 3) := by decide +kernel
theorem dX10_findBest_59 : decode cX10_findBest 59 = .ok (.if_icmp .gt 20, 3) := by decide +kernel
theorem dX10_findBest_62 : decode cX10_findBest 62 = .ok (.iload 4, 2) := by decide +kernel
theorem dX10_findBest_64 : decode cX10_findBest 64 = .ok (.aload_n 0, 1) := by decide +kernel
theorem dX10_findBest_65 : decode cX10_findBest 65 = .ok (.getfield 140, 3) := by decide +kernel
theorem dX10_findBest_68 : decode cX10_findBest 68 = .ok (.if_icmp .ne 27, 3) := by decide +kernel
theorem dX10_findBest_71 : decode cX10_findBest 71 = .ok (.iload_n 3, 1) := by decide +kernel
theorem dX10_findBest_72 : decode cX10_findBest 72 = .ok (.aload_n 0, 1) := by decide +kernel
theorem dX10_findBest_73 : decode cX10_findBest 73 = .ok (.getfield 143, 3) := by decide +kernel
theorem dX10_findBest_76 : decode cX10_findBest 76 = .ok (.if_icmp .ge 19, 3) := by decide +kernel
theorem dX10_findBest_79 : decode cX10_findBest 79 = .ok (.aload_n 0, 1) := by decide +kernel
theorem dX10_findBest_80 : decode cX10_findBest 80 = .ok (.iload_n 2, 1) := by decide +kernel
theorem dX10_findBest_81 : decode cX10_findBest 81 = .ok (.putfield 133, 3) := by decide +kernel
theorem dX10_findBest_84 : decode cX10_findBest 84 = .ok (.aload_n 0, 1) := by decide +kernel
theorem dX10_findBest_85 : decode cX10_findBest 85 = .ok (.iload 4, 2) := by decide +kernel
theorem dX10_findBest_87 : decode cX10_findBest 87 = .ok (.putfield 140, 3) := by decide +kernel
theorem dX10_findBest_90 : decode cX10_findBest 90 = .ok (.aload_n 0, 1) := by decide +kernel
theorem dX10_findBest_91 : decode cX10_findBest 91 = .ok (.iload_n 3, 1) := by decide +kernel
theorem dX10_findBest_92 : decode cX10_findBest 92 = .ok (.putfield 143, 3) := by decide +kernel
theorem dX10_findBest_95 : decode cX10_findBest 95 = .ok (.iinc 2 1, 3) := by decide +kernel
theorem dX10_findBest_98 : decode cX10_findBest 98 = .ok (.goto (-91), 3) := by decide +kernel
theorem dX10_findBest_101 : decode cX10_findBest 101 = .ok (.return_, 1) := by decide +kernel
theorem dX10_best_0 : decode cX10_best 0 = .ok (.iload_n 1, 1) := by decide +kernel
theorem dX10_best_1 : decode cX10_best 1 = .ok (.i2l, 1) := by decide +kernel
theorem dX10_best_2 : decode cX10_best 2 = .ok (.lconst 0, 1) := by decide +kernel
theorem dX10_best_3 : decode cX10_best 3 = .ok (.ldc2_w 146, 3) := by decide +kernel
theorem dX10_best_6 : decode cX10_best 6 = .ok (.invokestatic 45, 3) := by decide +kernel
theorem dX10_best_9 : decode cX10_best 9 = .ok (.ifCond .eq 15, 3) := by decide +kernel
theorem dX10_best_12 : decode cX10_best 12 = .ok (.iload_n 2, 1) := by decide +kernel
theorem dX10_best_13 : decode cX10_best 13 = .ok (.i2l, 1) := by decide +kernel
theorem dX10_best_14 : decode cX10_best 14 = .ok (.lconst 0, 1) := by decide +kernel
theorem dX10_best_15 : decode cX10_best 15 = .ok (.ldc2_w 148, 3) := by decide +kernel
theorem dX10_best_18 : decode cX10_best 18 = .ok (.invokestatic 45, 3) := by decide +kernel
theorem dX10_best_21 : decode cX10_best 21 = .ok (.ifCond .ne 10, 3) := by decide +kernel
theorem dX10_best_24 : decode cX10_best 24 = .ok (.aload_n 0, 1) := by decide +kernel
theorem dX10_best_25 : decode cX10_best 25 = .ok (.ldc 44, 2) := by decide +kernel
theorem dX10_best_27 : decode cX10_best 27 = .ok (.invokevirtual 67, 3) := by decide +kernel
theorem dX10_best_30 : decode cX10_best 30 = .ok (.ireturn, 1) := by decide +kernel
theorem dX10_best_31 : decode cX10_best 31 = .ok (.aload_n 0, 1) := by decide +kernel
theorem dX10_best_32 : decode cX10_best 32 = .ok (.iload_n 1, 1) := by decide +kernel
theorem dX10_best_33 : decode cX10_best 33 = .ok (.invokevirtual 150, 3) := by decide +kernel
theorem dX10_best_36 : decode cX10_best 36 = .ok (.iload_n 2, 1) := by decide +kernel
theorem dX10_best_37 : decode cX10_best 37 = .ok (.ifCond .ne 10, 3) := by decide +kernel
theorem dX10_best_40 : decode cX10_best 40 = .ok (.aload_n 0, 1) := by decide +kernel
theorem dX10_best_41 : decode cX10_best 41 = .ok (.getfield 140, 3) := by decide +kernel
theorem dX10_best_44 : decode cX10_best 44 = .ok (.goto 19, 3) := by decide +kernel
theorem dX10_best_47 : decode cX10_best 47 = .ok (.iload_n 2, 1) := by decide +kernel
theorem dX10_best_48 : decode cX10_best 48 = .ok (.iconst 1, 1) := by decide +kernel
theorem dX10_best_49 : decode cX10_best 49 = .ok (.if_icmp .ne 10, 3) := by decide +kernel
theorem dX10_best_52 : decode cX10_best 52 = .ok (.aload_n 0, 1) := by decide +kernel
theorem dX10_best_53 : decode cX10_best 53 = .ok (.getfield 133, 3) := by decide +kernel
theorem dX10_best_56 : decode cX10_best 56 = .ok (.goto 7, 3) := by decide +kernel
theorem dX10_best_59 : decode cX10_best 59 = .ok (.aload_n 0, 1) := by decide +kernel
theorem dX10_best_60 : decode cX10_best 60 = .ok (.getfield 143, 3) := by decide +kernel
theorem dX10_best_63 : decode cX10_best 63 = .ok (.ireturn, 1) := by decide +kernel
theorem dX10_most_0 : decode cX10_most 0 = .ok (.aload_n 0, 1) := by decide +kernel
theorem dX10_most_1 : decode cX10_most 1 = .ok (.iload_n 1, 1) := by decide +kernel
theorem dX10_most_2 : decode cX10_most 2 = .ok (.invokevirtual 126, 3) := by decide +kernel
theorem dX10_most_5 : decode cX10_most 5 = .ok (.istore 4, 2) := by decide +kernel
theorem dX10_most_7 : decode cX10_most 7 = .ok (.iconst (-1), 1) := by decide +kernel
theorem dX10_most_8 : decode cX10_most 8 = .ok (.istore 5, 2) := by decide +kernel
theorem dX10_most_10 : decode cX10_most 10 = .ok (.iconst 0, 1) := by decide +kernel
theorem dX10_most_11 : decode cX10_most 11 = .ok (.istore 6, 2) := by decide +kernel
theorem dX10_most_13 : decode cX10_most 13 = .ok (.iconst 0, 1) := by decide +kernel
theorem dX10_most_14 : decode cX10_most 14 = .ok (.istore 7, 2) := by decide +kernel
theorem dX10_most_16 : decode cX10_most 16 = .ok (.iload 7, 2) := by decide +kernel
theorem dX10_most_18 : decode cX10_most 18 = .ok (.aload_n 0, 1) := by decide +kernel
theorem dX10_most_19 : decode cX10_most 19 = .ok (.getfield 7, 3) := by decide +kernel
theorem dX10_most_22 : decode cX10_most 22 = .ok (.iconst 0, 1) := by decide +kernel
theorem dX10_most_23 : decode cX10_most 23 = .ok (.iaload, 1) := by decide +kernel
theorem dX10_most_24 : decode cX10_most 24 = .ok (.if_icmp .ge 104, 3) := by decide +kernel
theorem dX10_most_27 : decode cX10_most 27 = .ok (.iload_n 1, 1) := by decide +kernel
theorem dX10_most_28 : decode cX10_most 28 = .ok (.iload 7, 2) := by decide +kernel
theorem dX10_most_30 : decode cX10_most 30 = .ok (.invokestatic 106, 3) := by decide +kernel
theorem dX10_most_33 : decode cX10_most 33 = .ok (.ifCond .ne 89, 3) := by decide +kernel
theorem dX10_most_36 : decode cX10_most 36 = .ok (.aload_n 0, 1) := by decide +kernel
theorem dX10_most_37 : decode cX10_most 37 = .ok (.iload 7, 2) := by decide +kernel
theorem dX10_most_39 : decode cX10_most 39 = .ok (.iconst 2, 1) := by decide +kernel
theorem dX10_most_40 : decode cX10_most 40 = .ok (.invokevirtual 76, 3) := by decide +kernel
theorem dX10_most_43 : decode cX10_most 43 = .ok (.iload_n 2, 1) := by decide +kernel
theorem dX10_most_44 : decode cX10_most 44 = .ok (.if_icmp .gt 78, 3) := by decide +kernel
theorem dX10_most_47 : decode cX10_most 47 = .ok (.aload_n 0, 1) := by decide +kernel
theorem dX10_most_48 : decode cX10_most 48 = .ok (.iload_n 1, 1) := by decide +kernel
theorem dX10_most_49 : decode cX10_most 49 = .ok (.iconst 1, 1) := by decide +kernel
theorem dX10_most_50 : decode cX10_most 50 = .ok (.iload 7, 2) := by decide +kernel
theorem dX10_most_52 : decode cX10_most 52 = .ok (.ishl, 1) := by decide +kernel
theorem dX10_most_53 : decode cX10_most 53 = .ok (.ior, 1) := by decide +kernel
theorem dX10_most_54 : decode cX10_most 54 = .ok (.invokevirtual 126, 3) := by decide +kernel
theorem dX10_most_57 : decode cX10_most 57 = .ok (.iload 4, 2) := by decide +kernel
theorem dX10_most_59 : decode cX10_most 59 = .ok (.isub, 1) := by decide +kernel
theorem dX10_most_60 : decode cX10_most 60 = .ok (.istore 8, 2) := by decide +kernel
theorem dX10_most_62 : decode cX10_most 62 = .ok (.iload_n 3, 1) := by decide +kernel
theorem dX10_most_63 : decode cX10_most 63 = .ok (.ifCond .eq 36, 3) := by decide +kernel
theorem dX10_most_66 : decode cX10_most 66 = .ok (.iload 5, 2) := by decide +kernel
theorem dX10_most_68 : decode cX10_most 68 = .ok (.ifCond .lt 31, 3) := by decide +kernel
theorem dX10_most_71 : decode cX10_most 71 = .ok (.iload 8, 2) := by decide +kernel
theorem dX10_most_73 : decode cX10_most 73 = .ok (.iload 6, 2) := by decide +kernel
theorem dX10_most_75 : decode cX10_most 75 = .ok (.if_icmp .ne 24, 3) := by decide +kernel
theorem dX10_most_78 : decode cX10_most 78 = .ok (.aload_n 0, 1) := by decide +kernel
theorem dX10_most_79 : decode cX10_most 79 = .ok (.iload 7, 2) := by decide +kernel
theorem dX10_most_81 : decode cX10_most 81 = .ok (.iconst 2, 1) := by decide +kernel
theorem dX10_most_82 : decode cX10_most 82 = .ok (.invokevirtual 76, 3) := by decide +kernel
theorem dX10_most_85 : decode cX10_most 85 = .ok (.aload_n 0, 1) := by decide +kernel
theorem dX10_most_86 : decode cX10_most 86 = .ok (.iload 5, 2) := by decide +kernel
theorem dX10_most_88 : decode cX10_most 88 = .ok (.iconst 2, 1) := by decide +kernel
theorem dX10_most_89 : decode cX10_most 89 = .ok (.invokevirtual 76, 3) := by decide +kernel
theorem dX10_most_92 : decode cX10_most 92 = .ok (.if_icmp .ge 7, 3) := by decide +kernel
theorem dX10_most_95 : decode cX10_most 95 = .ok (.iconst 1, 1) := by decide +kernel
theorem dX10_most_96 : decode cX10_most 96 = .ok (.goto 4, 3) := by decide +kernel
theorem dX10_most_99 : decode cX10_most 99 = .ok (.iconst 0, 1) := by decide +kernel
theorem dX10_most_100 : decode cX10_most 100 = .ok (.istore 9, 2) := by decide +kernel
theorem dX10_most_102 : decode cX10_most 102 = .ok (.iload 8, 2) := by decide +kernel
theorem dX10_most_104 : decode cX10_most 104 = .ok (.iload 6, 2) := by decide +kernel
theorem dX10_most_106 : decode cX10_most 106 = .ok (.if_icmp .gt 8, 3) := by decide +kernel
theorem dX10_most_109 : decode cX10_most 109 = .ok (.iload 9, 2) := by decide +kernel
theorem dX10_most_111 : decode cX10_most 111 = .ok (.ifCond .eq 11, 3) := by decide +kernel
theorem dX10_most_114 : decode cX10_most 114 = .ok (.iload 7, 2) := by decide +kernel
theorem dX10_most_116 : decode cX10_most 116 = .ok (.istore 5, 2) := by decide +kernel
theorem dX10_most_118 : decode cX10_most 118 = .ok (.iload 8, 2) := by decide +kernel
theorem dX10_most_120 : decode cX10_most 120 = .ok (.istore 6, 2) := by decide +kernel
theorem dX10_most_122 : decode cX10_most 122 = .ok (.iinc 7 1, 3) := by decide +kernel
theorem dX10_most_125 : decode cX10_most 125 = .ok (.goto (-109), 3) := by decide +kernel
theorem dX10_most_128 : decode cX10_most 128 = .ok (.iload 5, 2) := by decide +kernel
theorem dX10_most_130 : decode cX10_most 130 = .ok (.ireturn, 1) := by decide +kernel
theorem dX10_greedy_0 : decode cX10_greedy 0 = .ok (.iload_n 1, 1) := by decide +kernel
theorem dX10_greedy_1 : decode cX10_greedy 1 = .ok (.i2l, 1) := by decide +kernel
theorem dX10_greedy_2 : decode cX10_greedy 2 = .ok (.lconst 0, 1) := by decide +kernel
theorem dX10_greedy_3 : decode cX10_greedy 3 = .ok (.ldc2_w 146, 3) := by decide +kernel
theorem dX10_greedy_6 : decode cX10_greedy 6 = .ok (.invokestatic 45, 3) := by decide +kernel
theorem dX10_greedy_9 : decode cX10_greedy 9 = .ok (.ifCond .eq 13, 3) := by decide +kernel
theorem dX10_greedy_12 : decode cX10_greedy 12 = .ok (.iload_n 2, 1) := by decide +kernel
theorem dX10_greedy_13 : decode cX10_greedy 13 = .ok (.i2l, 1) := by decide +kernel
theorem dX10_greedy_14 : decode cX10_greedy 14 = .ok (.lconst 0, 1) := by decide +kernel
theorem dX10_greedy_15 : decode cX10_greedy 15 = .ok (.lconst 1, 1) := by decide +kernel
theorem dX10_greedy_16 : decode cX10_greedy 16 = .ok (.invokestatic 45, 3) := by decide +kernel
theorem dX10_greedy_19 : decode cX10_greedy 19 = .ok (.ifCond .ne 10, 3) := by decide +kernel
theorem dX10_greedy_22 : decode cX10_greedy 22 = .ok (.aload_n 0, 1) := by decide +kernel
theorem dX10_greedy_23 : decode cX10_greedy 23 = .ok (.ldc 44, 2) := by decide +kernel
theorem dX10_greedy_25 : decode cX10_greedy 25 = .ok (.invokevirtual 67, 3) := by decide +kernel
theorem dX10_greedy_28 : decode cX10_greedy 28 = .ok (.ireturn, 1) := by decide +kernel
theorem dX10_greedy_29 : decode cX10_greedy 29 = .ok (.iconst 0, 1) := by decide +kernel
theorem dX10_greedy_30 : decode cX10_greedy 30 = .ok (.istore_n 3, 1) := by decide +kernel
theorem dX10_greedy_31 : decode cX10_greedy 31 = .ok (.iload_n 1, 1) := by decide +kernel
theorem dX10_greedy_32 : decode cX10_greedy 32 = .ok (.istore 4, 2) := by decide +kernel
theorem dX10_greedy_34 : decode cX10_greedy 34 = .ok (.aload_n 0, 1) := by decide +kernel
theorem dX10_greedy_35 : decode cX10_greedy 35 = .ok (.iload_n 3, 1) := by decide +kernel
theorem dX10_greedy_36 : decode cX10_greedy 36 = .ok (.iload 4, 2) := by decide +kernel
theorem dX10_greedy_38 : decode cX10_greedy 38 = .ok (.iconst 1, 1) := by decide +kernel
theorem dX10_greedy_39 : decode cX10_greedy 39 = .ok (.invokevirtual 154, 3) := by decide +kernel
theorem dX10_greedy_42 : decode cX10_greedy 42 = .ok (.istore 5, 2) := by decide +kernel
theorem dX10_greedy_44 : decode cX10_greedy 44 = .ok (.iload 5, 2) := by decide +kernel
theorem dX10_greedy_46 : decode cX10_greedy 46 = .ok (.ifCond .lt 35, 3) := by decide +kernel
theorem dX10_greedy_49 : decode cX10_greedy 49 = .ok (.iload_n 3, 1) := by decide +kernel
theorem dX10_greedy_50 : decode cX10_greedy 50 = .ok (.iconst 1, 1) := by decide +kernel
theorem dX10_greedy_51 : decode cX10_greedy 51 = .ok (.iload 5, 2) := by decide +kernel
theorem dX10_greedy_53 : decode cX10_greedy 53 = .ok (.ishl, 1) := by decide +kernel
theorem dX10_greedy_54 : decode cX10_greedy 54 = .ok (.ior, 1) := by decide +kernel
theorem dX10_greedy_55 : decode cX10_greedy 55 = .ok (.istore_n 3, 1) := by decide +kernel
theorem dX10_greedy_56 : decode cX10_greedy 56 = .ok (.iload 4, 2) := by decide +kernel
theorem dX10_greedy_58 : decode cX10_greedy 58 = .ok (.aload_n 0, 1) := by decide +kernel
theorem dX10_greedy_59 : decode cX10_greedy 59 = .ok (.iload 5, 2) := by decide +kernel
theorem dX10_greedy_61 : decode cX10_greedy 61 = .ok (.iconst 2, 1) := by decide +kernel
theorem dX10_greedy_62 : decode cX10_greedy 62 = .ok (.invokevirtual 76, 3) := by decide +kernel
theorem dX10_greedy_65 : decode cX10_greedy 65 = .ok (.isub, 1) := by decide +kernel
theorem dX10_greedy_66 : decode cX10_greedy 66 = .ok (.istore 4, 2) := by decide +kernel
theorem dX10_greedy_68 : decode cX10_greedy 68 = .ok (.aload_n 0, 1) := by decide +kernel
theorem dX10_greedy_69 : decode cX10_greedy 69 = .ok (.iload_n 3, 1) := by decide +kernel
theorem dX10_greedy_70 : decode cX10_greedy 70 = .ok (.iload 4, 2) := by decide +kernel
theorem dX10_greedy_72 : decode cX10_greedy 72 = .ok (.iconst 1, 1) := by decide +kernel
theorem dX10_greedy_73 : decode cX10_greedy 73 = .ok (.invokevirtual 154, 3) := by decide +kernel
theorem dX10_greedy_76 : decode cX10_greedy 76 = .ok (.istore 5, 2) := by decide +kernel
theorem dX10_greedy_78 : decode cX10_greedy 78 = .ok (.goto (-34), 3) := by decide +kernel
theorem dX10_greedy_81 : decode cX10_greedy 81 = .ok (.iload_n 2, 1) := by decide +kernel
theorem dX10_greedy_82 : decode cX10_greedy 82 = .ok (.ifCond .ne 11, 3) := by decide +kernel
theorem dX10_greedy_85 : decode cX10_greedy 85 = .ok (.aload_n 0, 1) := by decide +kernel
theorem dX10_greedy_86 : decode cX10_greedy 86 = .ok (.iload_n 3, 1) := by decide +kernel
theorem dX10_greedy_87 : decode cX10_greedy 87 = .ok (.invokevirtual 126, 3) := by decide +kernel
theorem dX10_greedy_90 : decode cX10_greedy 90 = .ok (.goto 4, 3) := by decide +kernel
theorem dX10_greedy_93 : decode cX10_greedy 93 = .ok (.iload_n 3, 1) := by decide +kernel
theorem dX10_greedy_94 : decode cX10_greedy 94 = .ok (.ireturn, 1) := by decide +kernel
theorem dX10_next_0 : decode cX10_next 0 = .ok (.aload_n 0, 1) := by decide +kernel
theorem dX10_next_1 : decode cX10_next 1 = .ok (.iload_n 1, 1) := by decide +kernel
theorem dX10_next_2 : decode cX10_next 2 = .ok (.invokevirtual 109, 3) := by decide +kernel
theorem dX10_next_5 : decode cX10_next 5 = .ok (.ifCond .ne 10, 3) := by decide +kernel
theorem dX10_next_8 : decode cX10_next 8 = .ok (.aload_n 0, 1) := by decide +kernel
theorem dX10_next_9 : decode cX10_next 9 = .ok (.ldc 44, 2) := by decide +kernel
theorem dX10_next_11 : decode cX10_next 11 = .ok (.invokevirtual 67, 3) := by decide +kernel
theorem dX10_next_14 : decode cX10_next 14 = .ok (.ireturn, 1) := by decide +kernel
theorem dX10_next_15 : decode cX10_next 15 = .ok (.aload_n 0, 1) := by decide +kernel
theorem dX10_next_16 : decode cX10_next 16 = .ok (.iload_n 1, 1) := by decide +kernel
theorem dX10_next_17 : decode cX10_next 17 = .ok (.bipush 60, 2) := by decide +kernel
theorem dX10_next_19 : decode cX10_next 19 = .ok (.iconst 0, 1) := by decide +kernel
theorem dX10_next_20 : decode cX10_next 20 = .ok (.invokevirtual 154, 3) := by decide +kernel
theorem dX10_next_23 : decode cX10_next 23 = .ok (.istore_n 2, 1) := by decide +kernel
theorem dX10_next_24 : decode cX10_next 24 = .ok (.iload_n 2, 1) := by decide +kernel
theorem dX10_next_25 : decode cX10_next 25 = .ok (.ifCond .ge 12, 3) := by decide +kernel
theorem dX10_next_28 : decode cX10_next 28 = .ok (.aload_n 0, 1) := by decide +kernel
theorem dX10_next_29 : decode cX10_next 29 = .ok (.ldc 132, 2) := by decide +kernel
theorem dX10_next_31 : decode cX10_next 31 = .ok (.invokevirtual 67, 3) := by decide +kernel
theorem dX10_next_34 : decode cX10_next 34 = .ok (.goto 4, 3) := by decide +kernel
theorem dX10_next_37 : decode cX10_next 37 = .ok (.iload_n 2, 1) := by decide +kernel
theorem dX10_next_38 : decode cX10_next 38 = .ok (.ireturn, 1) := by decide +kernel
theorem dX10_spare_0 : decode cX10_spare 0 = .ok (.aload_n 0, 1) := by decide +kernel
theorem dX10_spare_1 : decode cX10_spare 1 = .ok (.iload_n 1, 1) := by decide +kernel
theorem dX10_spare_2 : decode cX10_spare 2 = .ok (.invokevirtual 109, 3) := by decide +kernel
theorem dX10_spare_5 : decode cX10_spare 5 = .ok (.ifCond .ne 10, 3) := by decide +kernel
theorem dX10_spare_8 : decode cX10_spare 8 = .ok (.aload_n 0, 1) := by decide +kernel
theorem dX10_spare_9 : decode cX10_spare 9 = .ok (.ldc 44, 2) := by decide +kernel
theorem dX10_spare_11 : decode cX10_spare 11 = .ok (.invokevirtual 67, 3) := by decide +kernel
theorem dX10_spare_14 : decode cX10_spare 14 = .ok (.ireturn, 1) := by decide +kernel
theorem dX10_spare_15 : decode cX10_spare 15 = .ok (.iconst (-1), 1) := by decide +kernel
theorem dX10_spare_16 : decode cX10_spare 16 = .ok (.istore_n 2, 1) := by decide +kernel
theorem dX10_spare_17 : decode cX10_spare 17 = .ok (.iconst 0, 1) := by decide +kernel
theorem dX10_spare_18 : decode cX10_spare 18 = .ok (.istore_n 3, 1) := by decide +kernel
theorem dX10_spare_19 : decode cX10_spare 19 = .ok (.iconst 0, 1) := by decide +kernel
theorem dX10_spare_20 : decode cX10_spare 20 = .ok (.istore 4, 2) := by decide +kernel
theorem dX10_spare_22 : decode cX10_spare 22 = .ok (.iload 4, 2) := by decide +kernel
theorem dX10_spare_24 : decode cX10_spare 24 = .ok (.aload_n 0, 1) := by decide +kernel
theorem dX10_spare_25 : decode cX10_spare 25 = .ok (.getfield 7, 3) := by decide +kernel
theorem dX10_spare_28 : decode cX10_spare 28 = .ok (.iconst 0, 1) := by decide +kernel
theorem dX10_spare_29 : decode cX10_spare 29 = .ok (.iaload, 1) := by decide +kernel
theorem dX10_spare_30 : decode cX10_spare 30 = .ok (.if_icmp .ge 57, 3) := by decide +kernel
theorem dX10_spare_33 : decode cX10_spare 33 = .ok (.iload_n 1, 1) := by decide +kernel
theorem dX10_spare_34 : decode cX10_spare 34 = .ok (.iload 4, 2) := by decide +kernel
theorem dX10_spare_36 : decode cX10_spare 36 = .ok (.invokestatic 106, 3) := by decide +kernel
theorem dX10_spare_39 : decode cX10_spare 39 = .ok (.ifCond .eq 18, 3) := by decide +kernel
theorem dX10_spare_42 : decode cX10_spare 42 = .ok (.aload_n 0, 1) := by decide +kernel
theorem dX10_spare_43 : decode cX10_spare 43 = .ok (.iload_n 1, 1) := by decide +kernel
theorem dX10_spare_44 : decode cX10_spare 44 = .ok (.iconst 1, 1) := by decide +kernel
theorem dX10_spare_45 : decode cX10_spare 45 = .ok (.iload 4, 2) := by decide +kernel
theorem dX10_spare_47 : decode cX10_spare 47 = .ok (.ishl, 1) := by decide +kernel
theorem dX10_spare_48 : decode cX10_spare 48 = .ok (.iconst (-1), 1) := by decide +kernel
theorem dX10_spare_49 : decode cX10_spare 49 = .ok (.ixor, 1) := by decide +kernel
theorem dX10_spare_50 : decode cX10_spare 50 = .ok (.iand, 1) := by decide +kernel
theorem dX10_spare_51 : decode cX10_spare 51 = .ok (.invokevirtual 126, 3) := by decide +kernel
theorem dX10_spare_54 : decode cX10_spare 54 = .ok (.goto 4, 3) := by decide +kernel
theorem dX10_spare_57 : decode cX10_spare 57 = .ok (.iconst (-1), 1) := by decide +kernel
theorem dX10_spare_58 : decode cX10_spare 58 = .ok (.istore 5, 2) := by decide +kernel
theorem dX10_spare_60 : decode cX10_spare 60 = .ok (.iload 5, 2) := by decide +kernel
theorem dX10_spare_62 : decode cX10_spare 62 = .ok (.ifCond .lt 19, 3) := by decide +kernel
theorem dX10_spare_65 : decode cX10_spare 65 = .ok (.iload_n 2, 1) := by decide +kernel
theorem dX10_spare_66 : decode cX10_spare 66 = .ok (.ifCond .lt 9, 3) := by decide +kernel
theorem dX10_spare_69 : decode cX10_spare 69 = .ok (.iload 5, 2) := by decide +kernel
theorem dX10_spare_71 : decode cX10_spare 71 = .ok (.iload_n 3, 1) := by decide +kernel
theorem dX10_spare_72 : decode cX10_spare 72 = .ok (.if_icmp .le 9, 3) := by decide +kernel
theorem dX10_spare_75 : decode cX10_spare 75 = .ok (.iload 4, 2) := by decide +kernel
theorem dX10_spare_77 : decode cX10_spare 77 = .ok (.istore_n 2, 1) := by decide +kernel
theorem dX10_spare_78 : decode cX10_spare 78 = .ok (.iload 5, 2) := by decide +kernel
theorem dX10_spare_80 : decode cX10_spare 80 = .ok (.istore_n 3, 1) := by decide +kernel
theorem dX10_spare_81 : decode cX10_spare 81 = .ok (.iinc 4 1, 3) := by decide +kernel
theorem dX10_spare_84 : decode cX10_spare 84 = .ok (.goto (-62), 3) := by decide +kernel
theorem dX10_spare_87 : decode cX10_spare 87 = .ok (.iload_n 2, 1) := by decide +kernel
theorem dX10_spare_88 : decode cX10_spare 88 = .ok (.ifCond .ge 12, 3) := by decide +kernel
theorem dX10_spare_91 : decode cX10_spare 91 = .ok (.aload_n 0, 1) := by decide +kernel
theorem dX10_spare_92 : decode cX10_spare 92 = .ok (.ldc 132, 2) := by decide +kernel
theorem dX10_spare_94 : decode cX10_spare 94 = .ok (.invokevirtual 67, 3) := by decide +kernel
theorem dX10_spare_97 : decode cX10_spare 97 = .ok (.goto 4, 3) := by decide +kernel
theorem dX10_spare_100 : decode cX10_spare 100 = .ok (.iload_n 2, 1) := by decide +kernel
theorem dX10_spare_101 : decode cX10_spare 101 = .ok (.ireturn, 1) := by decide +kernel
theorem dX10_minutesFor_0 : decode cX10_minutesFor 0 = .ok (.iload_n 1, 1) := by decide +kernel
theorem dX10_minutesFor_1 : decode cX10_minutesFor 1 = .ok (.ifCond .ge 10, 3) := by decide +kernel
theorem dX10_minutesFor_4 : decode cX10_minutesFor 4 = .ok (.aload_n 0, 1) := by decide +kernel
theorem dX10_minutesFor_5 : decode cX10_minutesFor 5 = .ok (.ldc 44, 2) := by decide +kernel
theorem dX10_minutesFor_7 : decode cX10_minutesFor 7 = .ok (.invokevirtual 67, 3) := by decide +kernel
theorem dX10_minutesFor_10 : decode cX10_minutesFor 10 = .ok (.ireturn, 1) := by decide +kernel
theorem dX10_minutesFor_11 : decode cX10_minutesFor 11 = .ok (.iconst (-1), 1) := by decide +kernel
theorem dX10_minutesFor_12 : decode cX10_minutesFor 12 = .ok (.istore_n 2, 1) := by decide +kernel
theorem dX10_minutesFor_13 : decode cX10_minutesFor 13 = .ok (.iconst 0, 1) := by decide +kernel
theorem dX10_minutesFor_14 : decode cX10_minutesFor 14 = .ok (.istore_n 3, 1) := by decide +kernel
theorem dX10_minutesFor_15 : decode cX10_minutesFor 15 = .ok (.iload_n 3, 1) := by decide +kernel
theorem dX10_minutesFor_16 : decode cX10_minutesFor 16 = .ok (.iconst 1, 1) := by decide +kernel
theorem dX10_minutesFor_17 : decode cX10_minutesFor 17 = .ok (.aload_n 0, 1) := by decide +kernel
theorem dX10_minutesFor_18 : decode cX10_minutesFor 18 = .ok (.getfield 7, 3) := by decide +kernel
theorem dX10_minutesFor_21 : decode cX10_minutesFor 21 = .ok (.iconst 0, 1) := by decide +kernel
theorem dX10_minutesFor_22 : decode cX10_minutesFor 22 = .ok (.iaload, 1) := by decide +kernel
theorem dX10_minutesFor_23 : decode cX10_minutesFor 23 = .ok (.ishl, 1) := by decide +kernel
theorem dX10_minutesFor_24 : decode cX10_minutesFor 24 = .ok (.if_icmp .ge 42, 3) := by decide +kernel
theorem dX10_minutesFor_27 : decode cX10_minutesFor 27 = .ok (.aload_n 0, 1) := by decide +kernel
theorem dX10_minutesFor_28 : decode cX10_minutesFor 28 = .ok (.iload_n 3, 1) := by decide +kernel
theorem dX10_minutesFor_29 : decode cX10_minutesFor 29 = .ok (.invokevirtual 137, 3) := by decide +kernel
theorem dX10_minutesFor_32 : decode cX10_minutesFor 32 = .ok (.istore 4, 2) := by decide +kernel
theorem dX10_minutesFor_34 : decode cX10_minutesFor 34 = .ok (.iload_n 2, 1) := by decide +kernel
theorem dX10_minutesFor_35 : decode cX10_minutesFor 35 = .ok (.ifCond .lt 9, 3) := by decide +kernel
theorem dX10_minutesFor_38 : decode cX10_minutesFor 38 = .ok (.iload 4, 2) := by decide +kernel
theorem dX10_minutesFor_40 : decode cX10_minutesFor 40 = .ok (.iload_n 2, 1) := by decide +kernel
theorem dX10_minutesFor_41 : decode cX10_minutesFor 41 = .ok (.if_icmp .ge 17, 3) := by decide +kernel
theorem dX10_minutesFor_44 : decode cX10_minutesFor 44 = .ok (.aload_n 0, 1) := by decide +kernel
theorem dX10_minutesFor_45 : decode cX10_minutesFor 45 = .ok (.iload_n 3, 1) := by decide +kernel
theorem dX10_minutesFor_46 : decode cX10_minutesFor 46 = .ok (.invokevirtual 126, 3) := by decide +kernel
theorem dX10_minutesFor_49 : decode cX10_minutesFor 49 = .ok (.iload_n 1, 1) := by decide +kernel
theorem dX10_minutesFor_50 : decode cX10_minutesFor 50 = .ok (.if_icmp .lt 8, 3) := by decide +kernel
theorem dX10_minutesFor_53 : decode cX10_minutesFor 53 = .ok (.iload 4, 2) := by decide +kernel
theorem dX10_minutesFor_55 : decode cX10_minutesFor 55 = .ok (.goto 4, 3) := by decide +kernel
theorem dX10_minutesFor_58 : decode cX10_minutesFor 58 = .ok (.iload_n 2, 1) := by decide +kernel
theorem dX10_minutesFor_59 : decode cX10_minutesFor 59 = .ok (.istore_n 2, 1) := by decide +kernel
theorem dX10_minutesFor_60 : decode cX10_minutesFor 60 = .ok (.iinc 3 1, 3) := by decide +kernel
theorem dX10_minutesFor_63 : decode cX10_minutesFor 63 = .ok (.goto (-48), 3) := by decide +kernel
theorem dX10_minutesFor_66 : decode cX10_minutesFor 66 = .ok (.iload_n 2, 1) := by decide +kernel
theorem dX10_minutesFor_67 : decode cX10_minutesFor 67 = .ok (.ifCond .ge 12, 3) := by decide +kernel
theorem dX10_minutesFor_70 : decode cX10_minutesFor 70 = .ok (.aload_n 0, 1) := by decide +kernel
theorem dX10_minutesFor_71 : decode cX10_minutesFor 71 = .ok (.ldc 132, 2) := by decide +kernel
theorem dX10_minutesFor_73 : decode cX10_minutesFor 73 = .ok (.invokevirtual 67, 3) := by decide +kernel
theorem dX10_minutesFor_76 : decode cX10_minutesFor 76 = .ok (.goto 4, 3) := by decide +kernel
theorem dX10_minutesFor_79 : decode cX10_minutesFor 79 = .ok (.iload_n 2, 1) := by decide +kernel
theorem dX10_minutesFor_80 : decode cX10_minutesFor 80 = .ok (.ireturn, 1) := by decide +kernel
theorem dX10_placeOf_0 : decode cX10_placeOf 0 = .ok (.iconst (-1), 1) := by decide +kernel
theorem dX10_placeOf_1 : decode cX10_placeOf 1 = .ok (.istore_n 2, 1) := by decide +kernel
theorem dX10_placeOf_2 : decode cX10_placeOf 2 = .ok (.iconst 0, 1) := by decide +kernel
theorem dX10_placeOf_3 : decode cX10_placeOf 3 = .ok (.istore_n 3, 1) := by decide +kernel
theorem dX10_placeOf_4 : decode cX10_placeOf 4 = .ok (.iload_n 3, 1) := by decide +kernel
theorem dX10_placeOf_5 : decode cX10_placeOf 5 = .ok (.aload_n 0, 1) := by decide +kernel
theorem dX10_placeOf_6 : decode cX10_placeOf 6 = .ok (.getfield 7, 3) := by decide +kernel
theorem dX10_placeOf_9 : decode cX10_placeOf 9 = .ok (.iconst 5, 1) := by decide +kernel
theorem dX10_placeOf_10 : decode cX10_placeOf 10 = .ok (.iaload, 1) := by decide +kernel
theorem dX10_placeOf_11 : decode cX10_placeOf 11 = .ok (.if_icmp .ge 29, 3) := by decide +kernel
theorem dX10_placeOf_14 : decode cX10_placeOf 14 = .ok (.aload_n 0, 1) := by decide +kernel
theorem dX10_placeOf_15 : decode cX10_placeOf 15 = .ok (.getfield 7, 3) := by decide +kernel
theorem dX10_placeOf_18 : decode cX10_placeOf 18 = .ok (.sipush 138, 3) := by decide +kernel
theorem dX10_placeOf_21 : decode cX10_placeOf 21 = .ok (.iload_n 3, 1) := by decide +kernel
theorem dX10_placeOf_22 : decode cX10_placeOf 22 = .ok (.iadd, 1) := by decide +kernel
theorem dX10_placeOf_23 : decode cX10_placeOf 23 = .ok (.iaload, 1) := by decide +kernel
theorem dX10_placeOf_24 : decode cX10_placeOf 24 = .ok (.iload_n 1, 1) := by decide +kernel
theorem dX10_placeOf_25 : decode cX10_placeOf 25 = .ok (.if_icmp .ne 7, 3) := by decide +kernel
theorem dX10_placeOf_28 : decode cX10_placeOf 28 = .ok (.iload_n 3, 1) := by decide +kernel
theorem dX10_placeOf_29 : decode cX10_placeOf 29 = .ok (.goto 4, 3) := by decide +kernel
theorem dX10_placeOf_32 : decode cX10_placeOf 32 = .ok (.iload_n 2, 1) := by decide +kernel
theorem dX10_placeOf_33 : decode cX10_placeOf 33 = .ok (.istore_n 2, 1) := by decide +kernel
theorem dX10_placeOf_34 : decode cX10_placeOf 34 = .ok (.iinc 3 1, 3) := by decide +kernel
theorem dX10_placeOf_37 : decode cX10_placeOf 37 = .ok (.goto (-33), 3) := by decide +kernel
theorem dX10_placeOf_40 : decode cX10_placeOf 40 = .ok (.iload_n 2, 1) := by decide +kernel
theorem dX10_placeOf_41 : decode cX10_placeOf 41 = .ok (.ireturn, 1) := by decide +kernel
theorem dX10_leaves_0 : decode cX10_leaves 0 = .ok (.aload_n 0, 1) := by decide +kernel
theorem dX10_leaves_1 : decode cX10_leaves 1 = .ok (.getfield 7, 3) := by decide +kernel
theorem dX10_leaves_4 : decode cX10_leaves 4 = .ok (.iconst 5, 1) := by decide +kernel
theorem dX10_leaves_5 : decode cX10_leaves 5 = .ok (.dup2, 1) := by decide +kernel
theorem dX10_leaves_6 : decode cX10_leaves 6 = .ok (.iaload, 1) := by decide +kernel
theorem dX10_leaves_7 : decode cX10_leaves 7 = .ok (.iconst 1, 1) := by decide +kernel
theorem dX10_leaves_8 : decode cX10_leaves 8 = .ok (.isub, 1) := by decide +kernel
theorem dX10_leaves_9 : decode cX10_leaves 9 = .ok (.iastore, 1) := by decide +kernel
theorem dX10_leaves_10 : decode cX10_leaves 10 = .ok (.iload_n 1, 1) := by decide +kernel
theorem dX10_leaves_11 : decode cX10_leaves 11 = .ok (.istore_n 2, 1) := by decide +kernel
theorem dX10_leaves_12 : decode cX10_leaves 12 = .ok (.iload_n 2, 1) := by decide +kernel
theorem dX10_leaves_13 : decode cX10_leaves 13 = .ok (.aload_n 0, 1) := by decide +kernel
theorem dX10_leaves_14 : decode cX10_leaves 14 = .ok (.getfield 7, 3) := by decide +kernel
theorem dX10_leaves_17 : decode cX10_leaves 17 = .ok (.iconst 5, 1) := by decide +kernel
theorem dX10_leaves_18 : decode cX10_leaves 18 = .ok (.iaload, 1) := by decide +kernel
theorem dX10_leaves_19 : decode cX10_leaves 19 = .ok (.if_icmp .ge 31, 3) := by decide +kernel
theorem dX10_leaves_22 : decode cX10_leaves 22 = .ok (.aload_n 0, 1) := by decide +kernel
theorem dX10_leaves_23 : decode cX10_leaves 23 = .ok (.getfield 7, 3) := by decide +kernel
theorem dX10_leaves_26 : decode cX10_leaves 26 = .ok (.sipush 138, 3) := by decide +kernel
theorem dX10_leaves_29 : decode cX10_leaves 29 = .ok (.iload_n 2, 1) := by decide +kernel
theorem dX10_leaves_30 : decode cX10_leaves 30 = .ok (.iadd, 1) := by decide +kernel
theorem dX10_leaves_31 : decode cX10_leaves 31 = .ok (.aload_n 0, 1) := by decide +kernel
theorem dX10_leaves_32 : decode cX10_leaves 32 = .ok (.getfield 7, 3) := by decide +kernel
theorem dX10_leaves_35 : decode cX10_leaves 35 = .ok (.sipush 138, 3) := by decide +kernel
theorem dX10_leaves_38 : decode cX10_leaves 38 = .ok (.iload_n 2, 1) := by decide +kernel
theorem dX10_leaves_39 : decode cX10_leaves 39 = .ok (.iadd, 1) := by decide +kernel
theorem dX10_leaves_40 : decode cX10_leaves 40 = .ok (.iconst 1, 1) := by decide +kernel
theorem dX10_leaves_41 : decode cX10_leaves 41 = .ok (.iadd, 1) := by decide +kernel
theorem dX10_leaves_42 : decode cX10_leaves 42 = .ok (.iaload, 1) := by decide +kernel
theorem dX10_leaves_43 : decode cX10_leaves 43 = .ok (.iastore, 1) := by decide +kernel
theorem dX10_leaves_44 : decode cX10_leaves 44 = .ok (.iinc 2 1, 3) := by decide +kernel
theorem dX10_leaves_47 : decode cX10_leaves 47 = .ok (.goto (-35), 3) := by decide +kernel
theorem dX10_leaves_50 : decode cX10_leaves 50 = .ok (.return_, 1) := by decide +kernel
theorem dX10_queue_0 : decode cX10_queue 0 = .ok (.aload_n 0, 1) := by decide +kernel
theorem dX10_queue_1 : decode cX10_queue 1 = .ok (.iload_n 1, 1) := by decide +kernel
theorem dX10_queue_2 : decode cX10_queue 2 = .ok (.invokevirtual 79, 3) := by decide +kernel
theorem dX10_queue_5 : decode cX10_queue 5 = .ok (.ifCond .ne 10, 3) := by decide +kernel
theorem dX10_queue_8 : decode cX10_queue 8 = .ok (.aload_n 0, 1) := by decide +kernel
theorem dX10_queue_9 : decode cX10_queue 9 = .ok (.ldc 44, 2) := by decide +kernel
theorem dX10_queue_11 : decode cX10_queue 11 = .ok (.invokevirtual 67, 3) := by decide +kernel
theorem dX10_queue_14 : decode cX10_queue 14 = .ok (.ireturn, 1) := by decide +kernel
theorem dX10_queue_15 : decode cX10_queue 15 = .ok (.aload_n 0, 1) := by decide +kernel
theorem dX10_queue_16 : decode cX10_queue 16 = .ok (.iload_n 1, 1) := by decide +kernel
theorem dX10_queue_17 : decode cX10_queue 17 = .ok (.invokevirtual 157, 3) := by decide +kernel
theorem dX10_queue_20 : decode cX10_queue 20 = .ok (.istore_n 2, 1) := by decide +kernel
theorem dX10_queue_21 : decode cX10_queue 21 = .ok (.iload_n 2, 1) := by decide +kernel
theorem dX10_queue_22 : decode cX10_queue 22 = .ok (.ifCond .lt 8, 3) := by decide +kernel
theorem dX10_queue_25 : decode cX10_queue 25 = .ok (.aload_n 0, 1) := by decide +kernel
theorem dX10_queue_26 : decode cX10_queue 26 = .ok (.iload_n 2, 1) := by decide +kernel
theorem dX10_queue_27 : decode cX10_queue 27 = .ok (.invokevirtual 160, 3) := by decide +kernel
theorem dX10_queue_30 : decode cX10_queue 30 = .ok (.aload_n 0, 1) := by decide +kernel
theorem dX10_queue_31 : decode cX10_queue 31 = .ok (.getfield 7, 3) := by decide +kernel
theorem dX10_queue_34 : decode cX10_queue 34 = .ok (.sipush 138, 3) := by decide +kernel
theorem dX10_queue_37 : decode cX10_queue 37 = .ok (.aload_n 0, 1) := by decide +kernel
theorem dX10_queue_38 : decode cX10_queue 38 = .ok (.getfield 7, 3) := by decide +kernel
theorem dX10_queue_41 : decode cX10_queue 41 = .ok (.iconst 5, 1) := by decide +kernel
theorem dX10_queue_42 : decode cX10_queue 42 = .ok (.iaload, 1) := by decide +kernel
theorem dX10_queue_43 : decode cX10_queue 43 = .ok (.iadd, 1) := by decide +kernel
theorem dX10_queue_44 : decode cX10_queue 44 = .ok (.iload_n 1, 1) := by decide +kernel
theorem dX10_queue_45 : decode cX10_queue 45 = .ok (.iastore, 1) := by decide +kernel
theorem dX10_queue_46 : decode cX10_queue 46 = .ok (.aload_n 0, 1) := by decide +kernel
theorem dX10_queue_47 : decode cX10_queue 47 = .ok (.getfield 7, 3) := by decide +kernel
theorem dX10_queue_50 : decode cX10_queue 50 = .ok (.iconst 5, 1) := by decide +kernel
theorem dX10_queue_51 : decode cX10_queue 51 = .ok (.dup2, 1) := by decide +kernel
theorem dX10_queue_52 : decode cX10_queue 52 = .ok (.iaload, 1) := by decide +kernel
theorem dX10_queue_53 : decode cX10_queue 53 = .ok (.iconst 1, 1) := by decide +kernel
theorem dX10_queue_54 : decode cX10_queue 54 = .ok (.iadd, 1) := by decide +kernel
theorem dX10_queue_55 : decode cX10_queue 55 = .ok (.iastore, 1) := by decide +kernel
theorem dX10_queue_56 : decode cX10_queue 56 = .ok (.aload_n 0, 1) := by decide +kernel
theorem dX10_queue_57 : decode cX10_queue 57 = .ok (.getfield 7, 3) := by decide +kernel
theorem dX10_queue_60 : decode cX10_queue 60 = .ok (.iconst 5, 1) := by decide +kernel
theorem dX10_queue_61 : decode cX10_queue 61 = .ok (.iaload, 1) := by decide +kernel
theorem dX10_queue_62 : decode cX10_queue 62 = .ok (.ireturn, 1) := by decide +kernel
theorem dX10_skip_0 : decode cX10_skip 0 = .ok (.aload_n 0, 1) := by decide +kernel
theorem dX10_skip_1 : decode cX10_skip 1 = .ok (.iload_n 1, 1) := by decide +kernel
theorem dX10_skip_2 : decode cX10_skip 2 = .ok (.invokevirtual 79, 3) := by decide +kernel
theorem dX10_skip_5 : decode cX10_skip 5 = .ok (.ifCond .ne 10, 3) := by decide +kernel
theorem dX10_skip_8 : decode cX10_skip 8 = .ok (.aload_n 0, 1) := by decide +kernel
theorem dX10_skip_9 : decode cX10_skip 9 = .ok (.ldc 44, 2) := by decide +kernel
theorem dX10_skip_11 : decode cX10_skip 11 = .ok (.invokevirtual 67, 3) := by decide +kernel
theorem dX10_skip_14 : decode cX10_skip 14 = .ok (.ireturn, 1) := by decide +kernel
theorem dX10_skip_15 : decode cX10_skip 15 = .ok (.aload_n 0, 1) := by decide +kernel
theorem dX10_skip_16 : decode cX10_skip 16 = .ok (.iload_n 1, 1) := by decide +kernel
theorem dX10_skip_17 : decode cX10_skip 17 = .ok (.invokevirtual 157, 3) := by decide +kernel
theorem dX10_skip_20 : decode cX10_skip 20 = .ok (.istore_n 2, 1) := by decide +kernel
theorem dX10_skip_21 : decode cX10_skip 21 = .ok (.iload_n 2, 1) := by decide +kernel
theorem dX10_skip_22 : decode cX10_skip 22 = .ok (.ifCond .ge 10, 3) := by decide +kernel
theorem dX10_skip_25 : decode cX10_skip 25 = .ok (.aload_n 0, 1) := by decide +kernel
theorem dX10_skip_26 : decode cX10_skip 26 = .ok (.ldc 132, 2) := by decide +kernel
theorem dX10_skip_28 : decode cX10_skip 28 = .ok (.invokevirtual 67, 3) := by decide +kernel
theorem dX10_skip_31 : decode cX10_skip 31 = .ok (.ireturn, 1) := by decide +kernel
theorem dX10_skip_32 : decode cX10_skip 32 = .ok (.aload_n 0, 1) := by decide +kernel
theorem dX10_skip_33 : decode cX10_skip 33 = .ok (.iload_n 2, 1) := by decide +kernel
theorem dX10_skip_34 : decode cX10_skip 34 = .ok (.invokevirtual 160, 3) := by decide +kernel
theorem dX10_skip_37 : decode cX10_skip 37 = .ok (.iload_n 2, 1) := by decide +kernel
theorem dX10_skip_38 : decode cX10_skip 38 = .ok (.ireturn, 1) := by decide +kernel
theorem dX10_ith_0 : decode cX10_ith 0 = .ok (.iload_n 1, 1) := by decide +kernel
theorem dX10_ith_1 : decode cX10_ith 1 = .ok (.i2l, 1) := by decide +kernel
theorem dX10_ith_2 : decode cX10_ith 2 = .ok (.lconst 0, 1) := by decide +kernel
theorem dX10_ith_3 : decode cX10_ith 3 = .ok (.aload_n 0, 1) := by decide +kernel
theorem dX10_ith_4 : decode cX10_ith 4 = .ok (.getfield 7, 3) := by decide +kernel
theorem dX10_ith_7 : decode cX10_ith 7 = .ok (.iconst 5, 1) := by decide +kernel
theorem dX10_ith_8 : decode cX10_ith 8 = .ok (.iaload, 1) := by decide +kernel
theorem dX10_ith_9 : decode cX10_ith 9 = .ok (.iconst 1, 1) := by decide +kernel
theorem dX10_ith_10 : decode cX10_ith 10 = .ok (.isub, 1) := by decide +kernel
theorem dX10_ith_11 : decode cX10_ith 11 = .ok (.i2l, 1) := by decide +kernel
theorem dX10_ith_12 : decode cX10_ith 12 = .ok (.invokestatic 45, 3) := by decide +kernel
theorem dX10_ith_15 : decode cX10_ith 15 = .ok (.ifCond .eq 16, 3) := by decide +kernel
theorem dX10_ith_18 : decode cX10_ith 18 = .ok (.aload_n 0, 1) := by decide +kernel
theorem dX10_ith_19 : decode cX10_ith 19 = .ok (.getfield 7, 3) := by decide +kernel
theorem dX10_ith_22 : decode cX10_ith 22 = .ok (.sipush 138, 3) := by decide +kernel
theorem dX10_ith_25 : decode cX10_ith 25 = .ok (.iload_n 1, 1) := by decide +kernel
theorem dX10_ith_26 : decode cX10_ith 26 = .ok (.iadd, 1) := by decide +kernel
theorem dX10_ith_27 : decode cX10_ith 27 = .ok (.iaload, 1) := by decide +kernel
theorem dX10_ith_28 : decode cX10_ith 28 = .ok (.goto 9, 3) := by decide +kernel
theorem dX10_ith_31 : decode cX10_ith 31 = .ok (.aload_n 0, 1) := by decide +kernel
theorem dX10_ith_32 : decode cX10_ith 32 = .ok (.ldc 44, 2) := by decide +kernel
theorem dX10_ith_34 : decode cX10_ith 34 = .ok (.invokevirtual 67, 3) := by decide +kernel
theorem dX10_ith_37 : decode cX10_ith 37 = .ok (.ireturn, 1) := by decide +kernel
theorem dX10_learns_0 : decode cX10_learns 0 = .ok (.aload_n 0, 1) := by decide +kernel
theorem dX10_learns_1 : decode cX10_learns 1 = .ok (.iload_n 1, 1) := by decide +kernel
theorem dX10_learns_2 : decode cX10_learns 2 = .ok (.iconst 4, 1) := by decide +kernel
theorem dX10_learns_3 : decode cX10_learns 3 = .ok (.invokevirtual 76, 3) := by decide +kernel
theorem dX10_learns_6 : decode cX10_learns 6 = .ok (.bipush 100, 2) := by decide +kernel
theorem dX10_learns_8 : decode cX10_learns 8 = .ok (.iload_n 2, 1) := by decide +kernel
theorem dX10_learns_9 : decode cX10_learns 9 = .ok (.imul, 1) := by decide +kernel
theorem dX10_learns_10 : decode cX10_learns 10 = .ok (.aload_n 0, 1) := by decide +kernel
theorem dX10_learns_11 : decode cX10_learns 11 = .ok (.iload_n 1, 1) := by decide +kernel
theorem dX10_learns_12 : decode cX10_learns 12 = .ok (.iconst 2, 1) := by decide +kernel
theorem dX10_learns_13 : decode cX10_learns 13 = .ok (.invokevirtual 76, 3) := by decide +kernel
theorem dX10_learns_16 : decode cX10_learns 16 = .ok (.idiv, 1) := by decide +kernel
theorem dX10_learns_17 : decode cX10_learns 17 = .ok (.iadd, 1) := by decide +kernel
theorem dX10_learns_18 : decode cX10_learns 18 = .ok (.istore_n 3, 1) := by decide +kernel
theorem dX10_learns_19 : decode cX10_learns 19 = .ok (.aload_n 0, 1) := by decide +kernel
theorem dX10_learns_20 : decode cX10_learns 20 = .ok (.getfield 7, 3) := by decide +kernel
theorem dX10_learns_23 : decode cX10_learns 23 = .ok (.iload_n 1, 1) := by decide +kernel
theorem dX10_learns_24 : decode cX10_learns 24 = .ok (.iconst 4, 1) := by decide +kernel
theorem dX10_learns_25 : decode cX10_learns 25 = .ok (.invokestatic 49, 3) := by decide +kernel
theorem dX10_learns_28 : decode cX10_learns 28 = .ok (.iload_n 3, 1) := by decide +kernel
theorem dX10_learns_29 : decode cX10_learns 29 = .ok (.bipush 100, 2) := by decide +kernel
theorem dX10_learns_31 : decode cX10_learns 31 = .ok (.if_icmp .ge 7, 3) := by decide +kernel
theorem dX10_learns_34 : decode cX10_learns 34 = .ok (.iload_n 3, 1) := by decide +kernel
theorem dX10_learns_35 : decode cX10_learns 35 = .ok (.goto 5, 3) := by decide +kernel
theorem dX10_learns_38 : decode cX10_learns 38 = .ok (.bipush 100, 2) := by decide +kernel
theorem dX10_learns_40 : decode cX10_learns 40 = .ok (.iastore, 1) := by decide +kernel
theorem dX10_learns_41 : decode cX10_learns 41 = .ok (.return_, 1) := by decide +kernel
theorem dX10_learn_0 : decode cX10_learn 0 = .ok (.aload_n 0, 1) := by decide +kernel
theorem dX10_learn_1 : decode cX10_learn 1 = .ok (.iload_n 1, 1) := by decide +kernel
theorem dX10_learn_2 : decode cX10_learn 2 = .ok (.invokevirtual 79, 3) := by decide +kernel
theorem dX10_learn_5 : decode cX10_learn 5 = .ok (.ifCond .eq 15, 3) := by decide +kernel
theorem dX10_learn_8 : decode cX10_learn 8 = .ok (.iload_n 2, 1) := by decide +kernel
theorem dX10_learn_9 : decode cX10_learn 9 = .ok (.i2l, 1) := by decide +kernel
theorem dX10_learn_10 : decode cX10_learn 10 = .ok (.lconst 1, 1) := by decide +kernel
theorem dX10_learn_11 : decode cX10_learn 11 = .ok (.ldc2_w 163, 3) := by decide +kernel
theorem dX10_learn_14 : decode cX10_learn 14 = .ok (.invokestatic 45, 3) := by decide +kernel
theorem dX10_learn_17 : decode cX10_learn 17 = .ok (.ifCond .ne 10, 3) := by decide +kernel
theorem dX10_learn_20 : decode cX10_learn 20 = .ok (.aload_n 0, 1) := by decide +kernel
theorem dX10_learn_21 : decode cX10_learn 21 = .ok (.ldc 44, 2) := by decide +kernel
theorem dX10_learn_23 : decode cX10_learn 23 = .ok (.invokevirtual 67, 3) := by decide +kernel
theorem dX10_learn_26 : decode cX10_learn 26 = .ok (.ireturn, 1) := by decide +kernel
theorem dX10_learn_27 : decode cX10_learn 27 = .ok (.aload_n 0, 1) := by decide +kernel
theorem dX10_learn_28 : decode cX10_learn 28 = .ok (.iload_n 1, 1) := by decide +kernel
theorem dX10_learn_29 : decode cX10_learn 29 = .ok (.iload_n 2, 1) := by decide +kernel
theorem dX10_learn_30 : decode cX10_learn 30 = .ok (.invokevirtual 165, 3) := by decide +kernel
theorem dX10_learn_33 : decode cX10_learn 33 = .ok (.aload_n 0, 1) := by decide +kernel
theorem dX10_learn_34 : decode cX10_learn 34 = .ok (.iload_n 1, 1) := by decide +kernel
theorem dX10_learn_35 : decode cX10_learn 35 = .ok (.iconst 4, 1) := by decide +kernel
theorem dX10_learn_36 : decode cX10_learn 36 = .ok (.invokevirtual 76, 3) := by decide +kernel
theorem dX10_learn_39 : decode cX10_learn 39 = .ok (.ireturn, 1) := by decide +kernel
theorem dX10_eveningOf_0 : decode cX10_eveningOf 0 = .ok (.iload_n 1, 1) := by decide +kernel
theorem dX10_eveningOf_1 : decode cX10_eveningOf 1 = .ok (.istore_n 2, 1) := by decide +kernel
theorem dX10_eveningOf_2 : decode cX10_eveningOf 2 = .ok (.iconst 0, 1) := by decide +kernel
theorem dX10_eveningOf_3 : decode cX10_eveningOf 3 = .ok (.istore_n 3, 1) := by decide +kernel
theorem dX10_eveningOf_4 : decode cX10_eveningOf 4 = .ok (.iload_n 3, 1) := by decide +kernel
theorem dX10_eveningOf_5 : decode cX10_eveningOf 5 = .ok (.aload_n 0, 1) := by decide +kernel
theorem dX10_eveningOf_6 : decode cX10_eveningOf 6 = .ok (.getfield 7, 3) := by decide +kernel
theorem dX10_eveningOf_9 : decode cX10_eveningOf 9 = .ok (.iconst 5, 1) := by decide +kernel
theorem dX10_eveningOf_10 : decode cX10_eveningOf 10 = .ok (.iaload, 1) := by decide +kernel
theorem dX10_eveningOf_11 : decode cX10_eveningOf 11 = .ok (.if_icmp .ge 71, 3) := by decide +kernel
theorem dX10_eveningOf_14 : decode cX10_eveningOf 14 = .ok (.iload_n 2, 1) := by decide +kernel
theorem dX10_eveningOf_15 : decode cX10_eveningOf 15 = .ok (.ifCond .le 67, 3) := by decide +kernel
theorem dX10_eveningOf_18 : decode cX10_eveningOf 18 = .ok (.aload_n 0, 1) := by decide +kernel
theorem dX10_eveningOf_19 : decode cX10_eveningOf 19 = .ok (.getfield 7, 3) := by decide +kernel
theorem dX10_eveningOf_22 : decode cX10_eveningOf 22 = .ok (.sipush 138, 3) := by decide +kernel
theorem dX10_eveningOf_25 : decode cX10_eveningOf 25 = .ok (.iload_n 3, 1) := by decide +kernel
theorem dX10_eveningOf_26 : decode cX10_eveningOf 26 = .ok (.iadd, 1) := by decide +kernel
theorem dX10_eveningOf_27 : decode cX10_eveningOf 27 = .ok (.iaload, 1) := by decide +kernel
theorem dX10_eveningOf_28 : decode cX10_eveningOf 28 = .ok (.istore 4, 2) := by decide +kernel
theorem dX10_eveningOf_30 : decode cX10_eveningOf 30 = .ok (.aload_n 0, 1) := by decide +kernel
theorem dX10_eveningOf_31 : decode cX10_eveningOf 31 = .ok (.iload 4, 2) := by decide +kernel
theorem dX10_eveningOf_33 : decode cX10_eveningOf 33 = .ok (.invokevirtual 85, 3) := by decide +kernel
theorem dX10_eveningOf_36 : decode cX10_eveningOf 36 = .ok (.ifCond .ne 40, 3) := by decide +kernel
theorem dX10_eveningOf_39 : decode cX10_eveningOf 39 = .ok (.aload_n 0, 1) := by decide +kernel
theorem dX10_eveningOf_40 : decode cX10_eveningOf 40 = .ok (.iload 4, 2) := by decide +kernel
theorem dX10_eveningOf_42 : decode cX10_eveningOf 42 = .ok (.iconst 2, 1) := by decide +kernel
theorem dX10_eveningOf_43 : decode cX10_eveningOf 43 = .ok (.invokevirtual 76, 3) := by decide +kernel
theorem dX10_eveningOf_46 : decode cX10_eveningOf 46 = .ok (.iload_n 2, 1) := by decide +kernel
theorem dX10_eveningOf_47 : decode cX10_eveningOf 47 = .ok (.if_icmp .ge 13, 3) := by decide +kernel
theorem dX10_eveningOf_50 : decode cX10_eveningOf 50 = .ok (.aload_n 0, 1) := by decide +kernel
theorem dX10_eveningOf_51 : decode cX10_eveningOf 51 = .ok (.iload 4, 2) := by decide +kernel
theorem dX10_eveningOf_53 : decode cX10_eveningOf 53 = .ok (.iconst 2, 1) := by decide +kernel
theorem dX10_eveningOf_54 : decode cX10_eveningOf 54 = .ok (.invokevirtual 76, 3) := by decide +kernel
theorem dX10_eveningOf_57 : decode cX10_eveningOf 57 = .ok (.goto 4, 3) := by decide +kernel
theorem dX10_eveningOf_60 : decode cX10_eveningOf 60 = .ok (.iload_n 2, 1) := by decide +kernel
theorem dX10_eveningOf_61 : decode cX10_eveningOf 61 = .ok (.istore 5, 2) := by decide +kernel
theorem dX10_eveningOf_63 : decode cX10_eveningOf 63 = .ok (.aload_n 0, 1) := by decide +kernel
theorem dX10_eveningOf_64 : decode cX10_eveningOf 64 = .ok (.iload 4, 2) := by decide +kernel
theorem dX10_eveningOf_66 : decode cX10_eveningOf 66 = .ok (.iload 5, 2) := by decide +kernel
theorem dX10_eveningOf_68 : decode cX10_eveningOf 68 = .ok (.invokevirtual 165, 3) := by decide +kernel
theorem dX10_eveningOf_71 : decode cX10_eveningOf 71 = .ok (.iload_n 2, 1) := by decide +kernel
theorem dX10_eveningOf_72 : decode cX10_eveningOf 72 = .ok (.iload 5, 2) := by decide +kernel
theorem dX10_eveningOf_74 : decode cX10_eveningOf 74 = .ok (.isub, 1) := by decide +kernel
theorem dX10_eveningOf_75 : decode cX10_eveningOf 75 = .ok (.istore_n 2, 1) := by decide +kernel
theorem dX10_eveningOf_76 : decode cX10_eveningOf 76 = .ok (.iinc 3 1, 3) := by decide +kernel
theorem dX10_eveningOf_79 : decode cX10_eveningOf 79 = .ok (.goto (-75), 3) := by decide +kernel
theorem dX10_eveningOf_82 : decode cX10_eveningOf 82 = .ok (.iload_n 2, 1) := by decide +kernel
theorem dX10_eveningOf_83 : decode cX10_eveningOf 83 = .ok (.ireturn, 1) := by decide +kernel
theorem dX10_evening_0 : decode cX10_evening 0 = .ok (.iload_n 1, 1) := by decide +kernel
theorem dX10_evening_1 : decode cX10_evening 1 = .ok (.i2l, 1) := by decide +kernel
theorem dX10_evening_2 : decode cX10_evening 2 = .ok (.lconst 0, 1) := by decide +kernel
theorem dX10_evening_3 : decode cX10_evening 3 = .ok (.ldc2_w 163, 3) := by decide +kernel
theorem dX10_evening_6 : decode cX10_evening 6 = .ok (.invokestatic 45, 3) := by decide +kernel
theorem dX10_evening_9 : decode cX10_evening 9 = .ok (.ifCond .eq 11, 3) := by decide +kernel
theorem dX10_evening_12 : decode cX10_evening 12 = .ok (.aload_n 0, 1) := by decide +kernel
theorem dX10_evening_13 : decode cX10_evening 13 = .ok (.iload_n 1, 1) := by decide +kernel
theorem dX10_evening_14 : decode cX10_evening 14 = .ok (.invokevirtual 169, 3) := by decide +kernel
theorem dX10_evening_17 : decode cX10_evening 17 = .ok (.goto 9, 3) := by decide +kernel
theorem dX10_evening_20 : decode cX10_evening 20 = .ok (.aload_n 0, 1) := by decide +kernel
theorem dX10_evening_21 : decode cX10_evening 21 = .ok (.ldc 44, 2) := by decide +kernel
theorem dX10_evening_23 : decode cX10_evening 23 = .ok (.invokevirtual 67, 3) := by decide +kernel
theorem dX10_evening_26 : decode cX10_evening 26 = .ok (.ireturn, 1) := by decide +kernel
theorem dX10_line_0 : decode cX10_line 0 = .ok (.iload_n 1, 1) := by decide +kernel
theorem dX10_line_1 : decode cX10_line 1 = .ok (.i2l, 1) := by decide +kernel
theorem dX10_line_2 : decode cX10_line 2 = .ok (.lconst 1, 1) := by decide +kernel
theorem dX10_line_3 : decode cX10_line 3 = .ok (.ldc2_w 61, 3) := by decide +kernel
theorem dX10_line_6 : decode cX10_line 6 = .ok (.invokestatic 45, 3) := by decide +kernel
theorem dX10_line_9 : decode cX10_line 9 = .ok (.ifCond .ne 10, 3) := by decide +kernel
theorem dX10_line_12 : decode cX10_line 12 = .ok (.aload_n 0, 1) := by decide +kernel
theorem dX10_line_13 : decode cX10_line 13 = .ok (.ldc 44, 2) := by decide +kernel
theorem dX10_line_15 : decode cX10_line 15 = .ok (.invokevirtual 67, 3) := by decide +kernel
theorem dX10_line_18 : decode cX10_line 18 = .ok (.ireturn, 1) := by decide +kernel
theorem dX10_line_19 : decode cX10_line 19 = .ok (.aload_n 0, 1) := by decide +kernel
theorem dX10_line_20 : decode cX10_line 20 = .ok (.getfield 7, 3) := by decide +kernel
theorem dX10_line_23 : decode cX10_line 23 = .ok (.iconst 2, 1) := by decide +kernel
theorem dX10_line_24 : decode cX10_line 24 = .ok (.iaload, 1) := by decide +kernel
theorem dX10_line_25 : decode cX10_line 25 = .ok (.istore_n 2, 1) := by decide +kernel
theorem dX10_line_26 : decode cX10_line 26 = .ok (.aload_n 0, 1) := by decide +kernel
theorem dX10_line_27 : decode cX10_line 27 = .ok (.getfield 7, 3) := by decide +kernel
theorem dX10_line_30 : decode cX10_line 30 = .ok (.iconst 2, 1) := by decide +kernel
theorem dX10_line_31 : decode cX10_line 31 = .ok (.iload_n 1, 1) := by decide +kernel
theorem dX10_line_32 : decode cX10_line 32 = .ok (.iastore, 1) := by decide +kernel
theorem dX10_line_33 : decode cX10_line 33 = .ok (.iload_n 2, 1) := by decide +kernel
theorem dX10_line_34 : decode cX10_line 34 = .ok (.ireturn, 1) := by decide +kernel
theorem dX10_knownSet_0 : decode cX10_knownSet 0 = .ok (.iconst 0, 1) := by decide +kernel
theorem dX10_knownSet_1 : decode cX10_knownSet 1 = .ok (.istore_n 1, 1) := by decide +kernel
theorem dX10_knownSet_2 : decode cX10_knownSet 2 = .ok (.iconst 0, 1) := by decide +kernel
theorem dX10_knownSet_3 : decode cX10_knownSet 3 = .ok (.istore_n 2, 1) := by decide +kernel
theorem dX10_knownSet_4 : decode cX10_knownSet 4 = .ok (.iload_n 2, 1) := by decide +kernel
theorem dX10_knownSet_5 : decode cX10_knownSet 5 = .ok (.aload_n 0, 1) := by decide +kernel
theorem dX10_knownSet_6 : decode cX10_knownSet 6 = .ok (.getfield 7, 3) := by decide +kernel
theorem dX10_knownSet_9 : decode cX10_knownSet 9 = .ok (.iconst 0, 1) := by decide +kernel
theorem dX10_knownSet_10 : decode cX10_knownSet 10 = .ok (.iaload, 1) := by decide +kernel
theorem dX10_knownSet_11 : decode cX10_knownSet 11 = .ok (.if_icmp .ge 27, 3) := by decide +kernel
theorem dX10_knownSet_14 : decode cX10_knownSet 14 = .ok (.iload_n 1, 1) := by decide +kernel
theorem dX10_knownSet_15 : decode cX10_knownSet 15 = .ok (.aload_n 0, 1) := by decide +kernel
theorem dX10_knownSet_16 : decode cX10_knownSet 16 = .ok (.iload_n 2, 1) := by decide +kernel
theorem dX10_knownSet_17 : decode cX10_knownSet 17 = .ok (.invokevirtual 85, 3) := by decide +kernel
theorem dX10_knownSet_20 : decode cX10_knownSet 20 = .ok (.ifCond .eq 9, 3) := by decide +kernel
theorem dX10_knownSet_23 : decode cX10_knownSet 23 = .ok (.iconst 1, 1) := by decide +kernel
theorem dX10_knownSet_24 : decode cX10_knownSet 24 = .ok (.iload_n 2, 1) := by decide +kernel
theorem dX10_knownSet_25 : decode cX10_knownSet 25 = .ok (.ishl, 1) := by decide +kernel
theorem dX10_knownSet_26 : decode cX10_knownSet 26 = .ok (.goto 4, 3) := by decide +kernel
theorem dX10_knownSet_29 : decode cX10_knownSet 29 = .ok (.iconst 0, 1) := by decide +kernel
theorem dX10_knownSet_30 : decode cX10_knownSet 30 = .ok (.ior, 1) := by decide +kernel
theorem dX10_knownSet_31 : decode cX10_knownSet 31 = .ok (.istore_n 1, 1) := by decide +kernel
theorem dX10_knownSet_32 : decode cX10_knownSet 32 = .ok (.iinc 2 1, 3) := by decide +kernel
theorem dX10_knownSet_35 : decode cX10_knownSet 35 = .ok (.goto (-31), 3) := by decide +kernel
theorem dX10_knownSet_38 : decode cX10_knownSet 38 = .ok (.iload_n 1, 1) := by decide +kernel
theorem dX10_knownSet_39 : decode cX10_knownSet 39 = .ok (.ireturn, 1) := by decide +kernel
theorem dX10_known_0 : decode cX10_known 0 = .ok (.aload_n 0, 1) := by decide +kernel
theorem dX10_known_1 : decode cX10_known 1 = .ok (.invokevirtual 172, 3) := by decide +kernel
theorem dX10_known_4 : decode cX10_known 4 = .ok (.ireturn, 1) := by decide +kernel
theorem dX10_day_0 : decode cX10_day 0 = .ok (.aload_n 0, 1) := by decide +kernel
theorem dX10_day_1 : decode cX10_day 1 = .ok (.invokevirtual 172, 3) := by decide +kernel
theorem dX10_day_4 : decode cX10_day 4 = .ok (.istore_n 1, 1) := by decide +kernel
theorem dX10_day_5 : decode cX10_day 5 = .ok (.aload_n 0, 1) := by decide +kernel
theorem dX10_day_6 : decode cX10_day 6 = .ok (.iload_n 1, 1) := by decide +kernel
theorem dX10_day_7 : decode cX10_day 7 = .ok (.invokevirtual 112, 3) := by decide +kernel
theorem dX10_day_10 : decode cX10_day 10 = .ok (.istore_n 2, 1) := by decide +kernel
theorem dX10_day_11 : decode cX10_day 11 = .ok (.aload_n 0, 1) := by decide +kernel
theorem dX10_day_12 : decode cX10_day 12 = .ok (.iload_n 1, 1) := by decide +kernel
theorem dX10_day_13 : decode cX10_day 13 = .ok (.invokevirtual 119, 3) := by decide +kernel
theorem dX10_day_16 : decode cX10_day 16 = .ok (.istore_n 3, 1) := by decide +kernel
theorem dX10_day_17 : decode cX10_day 17 = .ok (.iconst 0, 1) := by decide +kernel
theorem dX10_day_18 : decode cX10_day 18 = .ok (.istore 4, 2) := by decide +kernel
theorem dX10_day_20 : decode cX10_day 20 = .ok (.iconst 0, 1) := by decide +kernel
theorem dX10_day_21 : decode cX10_day 21 = .ok (.istore 5, 2) := by decide +kernel
theorem dX10_day_23 : decode cX10_day 23 = .ok (.iload 5, 2) := by decide +kernel
theorem dX10_day_25 : decode cX10_day 25 = .ok (.aload_n 0, 1) := by decide +kernel
theorem dX10_day_26 : decode cX10_day 26 = .ok (.getfield 7, 3) := by decide +kernel
theorem dX10_day_29 : decode cX10_day 29 = .ok (.iconst 1, 1) := by decide +kernel
theorem dX10_day_30 : decode cX10_day 30 = .ok (.iaload, 1) := by decide +kernel
theorem dX10_day_31 : decode cX10_day 31 = .ok (.if_icmp .ge 81, 3) := by decide +kernel
theorem dX10_day_34 : decode cX10_day 34 = .ok (.aload_n 0, 1) := by decide +kernel
theorem dX10_day_35 : decode cX10_day 35 = .ok (.iload 5, 2) := by decide +kernel
theorem dX10_day_37 : decode cX10_day 37 = .ok (.iconst 2, 1) := by decide +kernel
theorem dX10_day_38 : decode cX10_day 38 = .ok (.invokevirtual 103, 3) := by decide +kernel
theorem dX10_day_41 : decode cX10_day 41 = .ok (.aload_n 0, 1) := by decide +kernel
theorem dX10_day_42 : decode cX10_day 42 = .ok (.getfield 7, 3) := by decide +kernel
theorem dX10_day_45 : decode cX10_day 45 = .ok (.iconst 3, 1) := by decide +kernel
theorem dX10_day_46 : decode cX10_day 46 = .ok (.iaload, 1) := by decide +kernel
theorem dX10_day_47 : decode cX10_day 47 = .ok (.if_icmp .ne 59, 3) := by decide +kernel
theorem dX10_day_50 : decode cX10_day 50 = .ok (.aload_n 0, 1) := by decide +kernel
theorem dX10_day_51 : decode cX10_day 51 = .ok (.getfield 7, 3) := by decide +kernel
theorem dX10_day_54 : decode cX10_day 54 = .ok (.iconst 4, 1) := by decide +kernel
theorem dX10_day_55 : decode cX10_day 55 = .ok (.dup2, 1) := by decide +kernel
theorem dX10_day_56 : decode cX10_day 56 = .ok (.iaload, 1) := by decide +kernel
theorem dX10_day_57 : decode cX10_day 57 = .ok (.aload_n 0, 1) := by decide +kernel
theorem dX10_day_58 : decode cX10_day 58 = .ok (.iload 5, 2) := by decide +kernel
theorem dX10_day_60 : decode cX10_day 60 = .ok (.iload_n 1, 1) := by decide +kernel
theorem dX10_day_61 : decode cX10_day 61 = .ok (.iload_n 2, 1) := by decide +kernel
theorem dX10_day_62 : decode cX10_day 62 = .ok (.iload_n 3, 1) := by decide +kernel
theorem dX10_day_63 : decode cX10_day 63 = .ok (.invokevirtual 122, 3) := by decide +kernel
theorem dX10_day_66 : decode cX10_day 66 = .ok (.iadd, 1) := by decide +kernel
theorem dX10_day_67 : decode cX10_day 67 = .ok (.iastore, 1) := by decide +kernel
theorem dX10_day_68 : decode cX10_day 68 = .ok (.aload_n 0, 1) := by decide +kernel
theorem dX10_day_69 : decode cX10_day 69 = .ok (.iload 5, 2) := by decide +kernel
theorem dX10_day_71 : decode cX10_day 71 = .ok (.iload_n 1, 1) := by decide +kernel
theorem dX10_day_72 : decode cX10_day 72 = .ok (.invokevirtual 129, 3) := by decide +kernel
theorem dX10_day_75 : decode cX10_day 75 = .ok (.istore 6, 2) := by decide +kernel
theorem dX10_day_77 : decode cX10_day 77 = .ok (.iload 6, 2) := by decide +kernel
theorem dX10_day_79 : decode cX10_day 79 = .ok (.ifCond .lt 27, 3) := by decide +kernel
theorem dX10_day_82 : decode cX10_day 82 = .ok (.aload_n 0, 1) := by decide +kernel
theorem dX10_day_83 : decode cX10_day 83 = .ok (.getfield 7, 3) := by decide +kernel
theorem dX10_day_86 : decode cX10_day 86 = .ok (.iload 6, 2) := by decide +kernel
theorem dX10_day_88 : decode cX10_day 88 = .ok (.iconst 5, 1) := by decide +kernel
theorem dX10_day_89 : decode cX10_day 89 = .ok (.invokestatic 49, 3) := by decide +kernel
theorem dX10_day_92 : decode cX10_day 92 = .ok (.dup2, 1) := by decide +kernel
theorem dX10_day_93 : decode cX10_day 93 = .ok (.iaload, 1) := by decide +kernel
theorem dX10_day_94 : decode cX10_day 94 = .ok (.iconst 1, 1) := by decide +kernel
theorem dX10_day_95 : decode cX10_day 95 = .ok (.iadd, 1) := by decide +kernel
theorem dX10_day_96 : decode cX10_day 96 = .ok (.iastore, 1) := by decide +kernel
theorem dX10_day_97 : decode cX10_day 97 = .ok (.iload 4, 2) := by decide +kernel
theorem dX10_day_99 : decode cX10_day 99 = .ok (.iconst 1, 1) := by decide +kernel
theorem dX10_day_100 : decode cX10_day 100 = .ok (.iload 6, 2) := by decide +kernel
theorem dX10_day_102 : decode cX10_day 102 = .ok (.ishl, 1) := by decide +kernel
theorem dX10_day_103 : decode cX10_day 103 = .ok (.ior, 1) := by decide +kernel
theorem dX10_day_104 : decode cX10_day 104 = .ok (.istore 4, 2) := by decide +kernel
theorem dX10_day_106 : decode cX10_day 106 = .ok (.iinc 5 1, 3) := by decide +kernel
theorem dX10_day_109 : decode cX10_day 109 = .ok (.goto (-86), 3) := by decide +kernel
theorem dX10_day_112 : decode cX10_day 112 = .ok (.iconst 0, 1) := by decide +kernel
theorem dX10_day_113 : decode cX10_day 113 = .ok (.istore 5, 2) := by decide +kernel
theorem dX10_day_115 : decode cX10_day 115 = .ok (.iload 5, 2) := by decide +kernel
theorem dX10_day_117 : decode cX10_day 117 = .ok (.aload_n 0, 1) := by decide +kernel
theorem dX10_day_118 : decode cX10_day 118 = .ok (.getfield 7, 3) := by decide +kernel
theorem dX10_day_121 : decode cX10_day 121 = .ok (.iconst 0, 1) := by decide +kernel
theorem dX10_day_122 : decode cX10_day 122 = .ok (.iaload, 1) := by decide +kernel
theorem dX10_day_123 : decode cX10_day 123 = .ok (.if_icmp .ge 82, 3) := by decide +kernel
theorem dX10_day_126 : decode cX10_day 126 = .ok (.iload 4, 2) := by decide +kernel
theorem dX10_day_128 : decode cX10_day 128 = .ok (.iload 5, 2) := by decide +kernel
theorem dX10_day_130 : decode cX10_day 130 = .ok (.invokestatic 106, 3) := by decide +kernel
theorem dX10_day_133 : decode cX10_day 133 = .ok (.ifCond .eq 16, 3) := by decide +kernel
theorem dX10_day_136 : decode cX10_day 136 = .ok (.aload_n 0, 1) := by decide +kernel
theorem dX10_day_137 : decode cX10_day 137 = .ok (.iload 5, 2) := by decide +kernel
theorem dX10_day_139 : decode cX10_day 139 = .ok (.iconst 4, 1) := by decide +kernel
theorem dX10_day_140 : decode cX10_day 140 = .ok (.invokevirtual 76, 3) := by decide +kernel
theorem dX10_day_143 : decode cX10_day 143 = .ok (.bipush 10, 2) := by decide +kernel
theorem dX10_day_145 : decode cX10_day 145 = .ok (.iadd, 1) := by decide +kernel
theorem dX10_day_146 : decode cX10_day 146 = .ok (.goto 17, 3) := by decide +kernel
theorem dX10_day_149 : decode cX10_day 149 = .ok (.aload_n 0, 1) := by decide +kernel
theorem dX10_day_150 : decode cX10_day 150 = .ok (.iload 5, 2) := by decide +kernel
theorem dX10_day_152 : decode cX10_day 152 = .ok (.iconst 4, 1) := by decide +kernel
theorem dX10_day_153 : decode cX10_day 153 = .ok (.invokevirtual 76, 3) := by decide +kernel
theorem dX10_day_156 : decode cX10_day 156 = .ok (.aload_n 0, 1) := by decide +kernel
theorem dX10_day_157 : decode cX10_day 157 = .ok (.iload 5, 2) := by decide +kernel
theorem dX10_day_159 : decode cX10_day 159 = .ok (.invokevirtual 88, 3) := by decide +kernel
theorem dX10_day_162 : decode cX10_day 162 = .ok (.isub, 1) := by decide +kernel
theorem dX10_day_163 : decode cX10_day 163 = .ok (.istore 6, 2) := by decide +kernel
theorem dX10_day_165 : decode cX10_day 165 = .ok (.aload_n 0, 1) := by decide +kernel
theorem dX10_day_166 : decode cX10_day 166 = .ok (.getfield 7, 3) := by decide +kernel
theorem dX10_day_169 : decode cX10_day 169 = .ok (.iload 5, 2) := by decide +kernel
theorem dX10_day_171 : decode cX10_day 171 = .ok (.iconst 4, 1) := by decide +kernel
theorem dX10_day_172 : decode cX10_day 172 = .ok (.invokestatic 49, 3) := by decide +kernel
theorem dX10_day_175 : decode cX10_day 175 = .ok (.iload 6, 2) := by decide +kernel
theorem dX10_day_177 : decode cX10_day 177 = .ok (.ifCond .ge 7, 3) := by decide +kernel
theorem dX10_day_180 : decode cX10_day 180 = .ok (.iconst 0, 1) := by decide +kernel
theorem dX10_day_181 : decode cX10_day 181 = .ok (.goto 17, 3) := by decide +kernel
theorem dX10_day_184 : decode cX10_day 184 = .ok (.iload 6, 2) := by decide +kernel
theorem dX10_day_186 : decode cX10_day 186 = .ok (.bipush 100, 2) := by decide +kernel
theorem dX10_day_188 : decode cX10_day 188 = .ok (.if_icmp .le 8, 3) := by decide +kernel
theorem dX10_day_191 : decode cX10_day 191 = .ok (.bipush 100, 2) := by decide +kernel
theorem dX10_day_193 : decode cX10_day 193 = .ok (.goto 5, 3) := by decide +kernel
theorem dX10_day_196 : decode cX10_day 196 = .ok (.iload 6, 2) := by decide +kernel
theorem dX10_day_198 : decode cX10_day 198 = .ok (.iastore, 1) := by decide +kernel
theorem dX10_day_199 : decode cX10_day 199 = .ok (.iinc 5 1, 3) := by decide +kernel
theorem dX10_day_202 : decode cX10_day 202 = .ok (.goto (-87), 3) := by decide +kernel
theorem dX10_day_205 : decode cX10_day 205 = .ok (.aload_n 0, 1) := by decide +kernel
theorem dX10_day_206 : decode cX10_day 206 = .ok (.getfield 7, 3) := by decide +kernel
theorem dX10_day_209 : decode cX10_day 209 = .ok (.iconst 3, 1) := by decide +kernel
theorem dX10_day_210 : decode cX10_day 210 = .ok (.dup2, 1) := by decide +kernel
theorem dX10_day_211 : decode cX10_day 211 = .ok (.iaload, 1) := by decide +kernel
theorem dX10_day_212 : decode cX10_day 212 = .ok (.iconst 1, 1) := by decide +kernel
theorem dX10_day_213 : decode cX10_day 213 = .ok (.iadd, 1) := by decide +kernel
theorem dX10_day_214 : decode cX10_day 214 = .ok (.iastore, 1) := by decide +kernel
theorem dX10_day_215 : decode cX10_day 215 = .ok (.iload 4, 2) := by decide +kernel
theorem dX10_day_217 : decode cX10_day 217 = .ok (.ireturn, 1) := by decide +kernel
theorem dX10_daysGo_0 : decode cX10_daysGo 0 = .ok (.iconst 0, 1) := by decide +kernel
theorem dX10_daysGo_1 : decode cX10_daysGo 1 = .ok (.istore_n 2, 1) := by decide +kernel
theorem dX10_daysGo_2 : decode cX10_daysGo 2 = .ok (.iconst 0, 1) := by decide +kernel
theorem dX10_daysGo_3 : decode cX10_daysGo 3 = .ok (.istore_n 3, 1) := by decide +kernel
theorem dX10_daysGo_4 : decode cX10_daysGo 4 = .ok (.iload_n 3, 1) := by decide +kernel
theorem dX10_daysGo_5 : decode cX10_daysGo 5 = .ok (.iload_n 1, 1) := by decide +kernel
theorem dX10_daysGo_6 : decode cX10_daysGo 6 = .ok (.if_icmp .ge 16, 3) := by decide +kernel
theorem dX10_daysGo_9 : decode cX10_daysGo 9 = .ok (.iload_n 2, 1) := by decide +kernel
theorem dX10_daysGo_10 : decode cX10_daysGo 10 = .ok (.aload_n 0, 1) := by decide +kernel
theorem dX10_daysGo_11 : decode cX10_daysGo 11 = .ok (.invokevirtual 176, 3) := by decide +kernel
theorem dX10_daysGo_14 : decode cX10_daysGo 14 = .ok (.ior, 1) := by decide +kernel
theorem dX10_daysGo_15 : decode cX10_daysGo 15 = .ok (.istore_n 2, 1) := by decide +kernel
theorem dX10_daysGo_16 : decode cX10_daysGo 16 = .ok (.iinc 3 1, 3) := by decide +kernel
theorem dX10_daysGo_19 : decode cX10_daysGo 19 = .ok (.goto (-15), 3) := by decide +kernel
theorem dX10_daysGo_22 : decode cX10_daysGo 22 = .ok (.iload_n 2, 1) := by decide +kernel
theorem dX10_daysGo_23 : decode cX10_daysGo 23 = .ok (.ireturn, 1) := by decide +kernel
theorem dX10_isTooLate_0 : decode cX10_isTooLate 0 = .ok (.aload_n 0, 1) := by decide +kernel
theorem dX10_isTooLate_1 : decode cX10_isTooLate 1 = .ok (.getfield 7, 3) := by decide +kernel
theorem dX10_isTooLate_4 : decode cX10_isTooLate 4 = .ok (.iconst 3, 1) := by decide +kernel
theorem dX10_isTooLate_5 : decode cX10_isTooLate 5 = .ok (.iaload, 1) := by decide +kernel
theorem dX10_isTooLate_6 : decode cX10_isTooLate 6 = .ok (.iload_n 1, 1) := by decide +kernel
theorem dX10_isTooLate_7 : decode cX10_isTooLate 7 = .ok (.iadd, 1) := by decide +kernel
theorem dX10_isTooLate_8 : decode cX10_isTooLate 8 = .ok (.bipush 99, 2) := by decide +kernel
theorem dX10_isTooLate_10 : decode cX10_isTooLate 10 = .ok (.if_icmp .le 7, 3) := by decide +kernel
theorem dX10_isTooLate_13 : decode cX10_isTooLate 13 = .ok (.iconst 1, 1) := by decide +kernel
theorem dX10_isTooLate_14 : decode cX10_isTooLate 14 = .ok (.goto 4, 3) := by decide +kernel
theorem dX10_isTooLate_17 : decode cX10_isTooLate 17 = .ok (.iconst 0, 1) := by decide +kernel
theorem dX10_isTooLate_18 : decode cX10_isTooLate 18 = .ok (.ireturn, 1) := by decide +kernel
theorem dX10_days_0 : decode cX10_days 0 = .ok (.iload_n 1, 1) := by decide +kernel
theorem dX10_days_1 : decode cX10_days 1 = .ok (.i2l, 1) := by decide +kernel
theorem dX10_days_2 : decode cX10_days 2 = .ok (.lconst 1, 1) := by decide +kernel
theorem dX10_days_3 : decode cX10_days 3 = .ok (.ldc2_w 179, 3) := by decide +kernel
theorem dX10_days_6 : decode cX10_days 6 = .ok (.invokestatic 45, 3) := by decide +kernel
theorem dX10_days_9 : decode cX10_days 9 = .ok (.ifCond .ne 10, 3) := by decide +kernel
theorem dX10_days_12 : decode cX10_days 12 = .ok (.aload_n 0, 1) := by decide +kernel
theorem dX10_days_13 : decode cX10_days 13 = .ok (.ldc 44, 2) := by decide +kernel
theorem dX10_days_15 : decode cX10_days 15 = .ok (.invokevirtual 67, 3) := by decide +kernel
theorem dX10_days_18 : decode cX10_days 18 = .ok (.ireturn, 1) := by decide +kernel
theorem dX10_days_19 : decode cX10_days 19 = .ok (.aload_n 0, 1) := by decide +kernel
theorem dX10_days_20 : decode cX10_days 20 = .ok (.iload_n 1, 1) := by decide +kernel
theorem dX10_days_21 : decode cX10_days 21 = .ok (.invokevirtual 181, 3) := by decide +kernel
theorem dX10_days_24 : decode cX10_days 24 = .ok (.ifCond .eq 10, 3) := by decide +kernel
theorem dX10_days_27 : decode cX10_days 27 = .ok (.aload_n 0, 1) := by decide +kernel
theorem dX10_days_28 : decode cX10_days 28 = .ok (.ldc 184, 2) := by decide +kernel
theorem dX10_days_30 : decode cX10_days 30 = .ok (.invokevirtual 67, 3) := by decide +kernel
theorem dX10_days_33 : decode cX10_days 33 = .ok (.ireturn, 1) := by decide +kernel
theorem dX10_days_34 : decode cX10_days 34 = .ok (.aload_n 0, 1) := by decide +kernel
theorem dX10_days_35 : decode cX10_days 35 = .ok (.getfield 7, 3) := by decide +kernel
theorem dX10_days_38 : decode cX10_days 38 = .ok (.iconst 4, 1) := by decide +kernel
theorem dX10_days_39 : decode cX10_days 39 = .ok (.iaload, 1) := by decide +kernel
theorem dX10_days_40 : decode cX10_days 40 = .ok (.istore_n 2, 1) := by decide +kernel
theorem dX10_days_41 : decode cX10_days 41 = .ok (.aload_n 0, 1) := by decide +kernel
theorem dX10_days_42 : decode cX10_days 42 = .ok (.iload_n 1, 1) := by decide +kernel
theorem dX10_days_43 : decode cX10_days 43 = .ok (.invokevirtual 185, 3) := by decide +kernel
theorem dX10_days_46 : decode cX10_days 46 = .ok (.istore_n 3, 1) := by decide +kernel
theorem dX10_days_47 : decode cX10_days 47 = .ok (.aload_n 0, 1) := by decide +kernel
theorem dX10_days_48 : decode cX10_days 48 = .ok (.getfield 7, 3) := by decide +kernel
theorem dX10_days_51 : decode cX10_days 51 = .ok (.iconst 4, 1) := by decide +kernel
theorem dX10_days_52 : decode cX10_days 52 = .ok (.iaload, 1) := by decide +kernel
theorem dX10_days_53 : decode cX10_days 53 = .ok (.iload_n 2, 1) := by decide +kernel
theorem dX10_days_54 : decode cX10_days 54 = .ok (.isub, 1) := by decide +kernel
theorem dX10_days_55 : decode cX10_days 55 = .ok (.ireturn, 1) := by decide +kernel
theorem dX10_now_0 : decode cX10_now 0 = .ok (.iload_n 1, 1) := by decide +kernel
theorem dX10_now_1 : decode cX10_now 1 = .ok (.tableswitch 97 0 3 #[31, 38, 45, 52], 31) := by decide +kernel
theorem dX10_now_32 : decode cX10_now 32 = .ok (.aload_n 0, 1) := by decide +kernel
theorem dX10_now_33 : decode cX10_now 33 = .ok (.getfield 7, 3) := by decide +kernel
theorem dX10_now_36 : decode cX10_now 36 = .ok (.iconst 3, 1) := by decide +kernel
theorem dX10_now_37 : decode cX10_now 37 = .ok (.iaload, 1) := by decide +kernel
theorem dX10_now_38 : decode cX10_now 38 = .ok (.ireturn, 1) := by decide +kernel
theorem dX10_now_39 : decode cX10_now 39 = .ok (.aload_n 0, 1) := by decide +kernel
theorem dX10_now_40 : decode cX10_now 40 = .ok (.getfield 7, 3) := by decide +kernel
theorem dX10_now_43 : decode cX10_now 43 = .ok (.iconst 2, 1) := by decide +kernel
theorem dX10_now_44 : decode cX10_now 44 = .ok (.iaload, 1) := by decide +kernel
theorem dX10_now_45 : decode cX10_now 45 = .ok (.ireturn, 1) := by decide +kernel
theorem dX10_now_46 : decode cX10_now 46 = .ok (.aload_n 0, 1) := by decide +kernel
theorem dX10_now_47 : decode cX10_now 47 = .ok (.getfield 7, 3) := by decide +kernel
theorem dX10_now_50 : decode cX10_now 50 = .ok (.iconst 4, 1) := by decide +kernel
theorem dX10_now_51 : decode cX10_now 51 = .ok (.iaload, 1) := by decide +kernel
theorem dX10_now_52 : decode cX10_now 52 = .ok (.ireturn, 1) := by decide +kernel
theorem dX10_now_53 : decode cX10_now 53 = .ok (.iconst 0, 1) := by decide +kernel
theorem dX10_now_54 : decode cX10_now 54 = .ok (.istore_n 2, 1) := by decide +kernel
theorem dX10_now_55 : decode cX10_now 55 = .ok (.iconst 0, 1) := by decide +kernel
theorem dX10_now_56 : decode cX10_now 56 = .ok (.istore_n 3, 1) := by decide +kernel
theorem dX10_now_57 : decode cX10_now 57 = .ok (.iload_n 3, 1) := by decide +kernel
theorem dX10_now_58 : decode cX10_now 58 = .ok (.aload_n 0, 1) := by decide +kernel
theorem dX10_now_59 : decode cX10_now 59 = .ok (.getfield 7, 3) := by decide +kernel
theorem dX10_now_62 : decode cX10_now 62 = .ok (.iconst 1, 1) := by decide +kernel
theorem dX10_now_63 : decode cX10_now 63 = .ok (.iaload, 1) := by decide +kernel
theorem dX10_now_64 : decode cX10_now 64 = .ok (.if_icmp .ge 32, 3) := by decide +kernel
theorem dX10_now_67 : decode cX10_now 67 = .ok (.iload_n 2, 1) := by decide +kernel
theorem dX10_now_68 : decode cX10_now 68 = .ok (.aload_n 0, 1) := by decide +kernel
theorem dX10_now_69 : decode cX10_now 69 = .ok (.iload_n 3, 1) := by decide +kernel
theorem dX10_now_70 : decode cX10_now 70 = .ok (.iconst 2, 1) := by decide +kernel
theorem dX10_now_71 : decode cX10_now 71 = .ok (.invokevirtual 103, 3) := by decide +kernel
theorem dX10_now_74 : decode cX10_now 74 = .ok (.aload_n 0, 1) := by decide +kernel
theorem dX10_now_75 : decode cX10_now 75 = .ok (.getfield 7, 3) := by decide +kernel
theorem dX10_now_78 : decode cX10_now 78 = .ok (.iconst 3, 1) := by decide +kernel
theorem dX10_now_79 : decode cX10_now 79 = .ok (.iaload, 1) := by decide +kernel
theorem dX10_now_80 : decode cX10_now 80 = .ok (.if_icmp .ne 7, 3) := by decide +kernel
theorem dX10_now_83 : decode cX10_now 83 = .ok (.iconst 1, 1) := by decide +kernel
theorem dX10_now_84 : decode cX10_now 84 = .ok (.goto 4, 3) := by decide +kernel
theorem dX10_now_87 : decode cX10_now 87 = .ok (.iconst 0, 1) := by decide +kernel
theorem dX10_now_88 : decode cX10_now 88 = .ok (.iadd, 1) := by decide +kernel
theorem dX10_now_89 : decode cX10_now 89 = .ok (.istore_n 2, 1) := by decide +kernel
theorem dX10_now_90 : decode cX10_now 90 = .ok (.iinc 3 1, 3) := by decide +kernel
theorem dX10_now_93 : decode cX10_now 93 = .ok (.goto (-36), 3) := by decide +kernel
theorem dX10_now_96 : decode cX10_now 96 = .ok (.iload_n 2, 1) := by decide +kernel
theorem dX10_now_97 : decode cX10_now 97 = .ok (.ireturn, 1) := by decide +kernel
theorem dX10_now_98 : decode cX10_now 98 = .ok (.aload_n 0, 1) := by decide +kernel
theorem dX10_now_99 : decode cX10_now 99 = .ok (.ldc 44, 2) := by decide +kernel
theorem dX10_now_101 : decode cX10_now 101 = .ok (.invokevirtual 67, 3) := by decide +kernel
theorem dX10_now_104 : decode cX10_now 104 = .ok (.ireturn, 1) := by decide +kernel
theorem dX10_sumOf_0 : decode cX10_sumOf 0 = .ok (.iconst 0, 1) := by decide +kernel
theorem dX10_sumOf_1 : decode cX10_sumOf 1 = .ok (.istore_n 2, 1) := by decide +kernel
theorem dX10_sumOf_2 : decode cX10_sumOf 2 = .ok (.iconst 0, 1) := by decide +kernel
theorem dX10_sumOf_3 : decode cX10_sumOf 3 = .ok (.istore_n 3, 1) := by decide +kernel
theorem dX10_sumOf_4 : decode cX10_sumOf 4 = .ok (.iload_n 3, 1) := by decide +kernel
theorem dX10_sumOf_5 : decode cX10_sumOf 5 = .ok (.aload_n 0, 1) := by decide +kernel
theorem dX10_sumOf_6 : decode cX10_sumOf 6 = .ok (.getfield 7, 3) := by decide +kernel
theorem dX10_sumOf_9 : decode cX10_sumOf 9 = .ok (.iconst 0, 1) := by decide +kernel
theorem dX10_sumOf_10 : decode cX10_sumOf 10 = .ok (.iaload, 1) := by decide +kernel
theorem dX10_sumOf_11 : decode cX10_sumOf 11 = .ok (.if_icmp .ge 18, 3) := by decide +kernel
theorem dX10_sumOf_14 : decode cX10_sumOf 14 = .ok (.iload_n 2, 1) := by decide +kernel
theorem dX10_sumOf_15 : decode cX10_sumOf 15 = .ok (.aload_n 0, 1) := by decide +kernel
theorem dX10_sumOf_16 : decode cX10_sumOf 16 = .ok (.iload_n 3, 1) := by decide +kernel
theorem dX10_sumOf_17 : decode cX10_sumOf 17 = .ok (.iload_n 1, 1) := by decide +kernel
theorem dX10_sumOf_18 : decode cX10_sumOf 18 = .ok (.invokevirtual 76, 3) := by decide +kernel
theorem dX10_sumOf_21 : decode cX10_sumOf 21 = .ok (.iadd, 1) := by decide +kernel
theorem dX10_sumOf_22 : decode cX10_sumOf 22 = .ok (.istore_n 2, 1) := by decide +kernel
theorem dX10_sumOf_23 : decode cX10_sumOf 23 = .ok (.iinc 3 1, 3) := by decide +kernel
theorem dX10_sumOf_26 : decode cX10_sumOf 26 = .ok (.goto (-22), 3) := by decide +kernel
theorem dX10_sumOf_29 : decode cX10_sumOf 29 = .ok (.iload_n 2, 1) := by decide +kernel
theorem dX10_sumOf_30 : decode cX10_sumOf 30 = .ok (.ireturn, 1) := by decide +kernel
theorem dX10_on_0 : decode cX10_on 0 = .ok (.iload_n 1, 1) := by decide +kernel
theorem dX10_on_1 : decode cX10_on 1 = .ok (.i2l, 1) := by decide +kernel
theorem dX10_on_2 : decode cX10_on 2 = .ok (.lconst 0, 1) := by decide +kernel
theorem dX10_on_3 : decode cX10_on 3 = .ok (.ldc2_w 57, 3) := by decide +kernel
theorem dX10_on_6 : decode cX10_on 6 = .ok (.invokestatic 45, 3) := by decide +kernel
theorem dX10_on_9 : decode cX10_on 9 = .ok (.ifCond .eq 15, 3) := by decide +kernel
theorem dX10_on_12 : decode cX10_on 12 = .ok (.iload_n 2, 1) := by decide +kernel
theorem dX10_on_13 : decode cX10_on 13 = .ok (.i2l, 1) := by decide +kernel
theorem dX10_on_14 : decode cX10_on 14 = .ok (.lconst 0, 1) := by decide +kernel
theorem dX10_on_15 : decode cX10_on 15 = .ok (.ldc2_w 148, 3) := by decide +kernel
theorem dX10_on_18 : decode cX10_on 18 = .ok (.invokestatic 45, 3) := by decide +kernel
theorem dX10_on_21 : decode cX10_on 21 = .ok (.ifCond .ne 10, 3) := by decide +kernel
theorem dX10_on_24 : decode cX10_on 24 = .ok (.aload_n 0, 1) := by decide +kernel
theorem dX10_on_25 : decode cX10_on 25 = .ok (.ldc 44, 2) := by decide +kernel
theorem dX10_on_27 : decode cX10_on 27 = .ok (.invokevirtual 67, 3) := by decide +kernel
theorem dX10_on_30 : decode cX10_on 30 = .ok (.ireturn, 1) := by decide +kernel
theorem dX10_on_31 : decode cX10_on 31 = .ok (.aload_n 0, 1) := by decide +kernel
theorem dX10_on_32 : decode cX10_on 32 = .ok (.iload_n 1, 1) := by decide +kernel
theorem dX10_on_33 : decode cX10_on 33 = .ok (.invokevirtual 181, 3) := by decide +kernel
theorem dX10_on_36 : decode cX10_on 36 = .ok (.ifCond .eq 10, 3) := by decide +kernel
theorem dX10_on_39 : decode cX10_on 39 = .ok (.aload_n 0, 1) := by decide +kernel
theorem dX10_on_40 : decode cX10_on 40 = .ok (.ldc 184, 2) := by decide +kernel
theorem dX10_on_42 : decode cX10_on 42 = .ok (.invokevirtual 67, 3) := by decide +kernel
theorem dX10_on_45 : decode cX10_on 45 = .ok (.ireturn, 1) := by decide +kernel
theorem dX10_on_46 : decode cX10_on 46 = .ok (.aload_n 0, 1) := by decide +kernel
theorem dX10_on_47 : decode cX10_on 47 = .ok (.invokevirtual 188, 3) := by decide +kernel
theorem dX10_on_50 : decode cX10_on 50 = .ok (.aload_n 0, 1) := by decide +kernel
theorem dX10_on_51 : decode cX10_on 51 = .ok (.iload_n 1, 1) := by decide +kernel
theorem dX10_on_52 : decode cX10_on 52 = .ok (.invokevirtual 185, 3) := by decide +kernel
theorem dX10_on_55 : decode cX10_on 55 = .ok (.istore_n 3, 1) := by decide +kernel
theorem dX10_on_56 : decode cX10_on 56 = .ok (.iload_n 2, 1) := by decide +kernel
theorem dX10_on_57 : decode cX10_on 57 = .ok (.ifCond .ne 12, 3) := by decide +kernel
theorem dX10_on_60 : decode cX10_on 60 = .ok (.aload_n 0, 1) := by decide +kernel
theorem dX10_on_61 : decode cX10_on 61 = .ok (.getfield 7, 3) := by decide +kernel
theorem dX10_on_64 : decode cX10_on 64 = .ok (.iconst 4, 1) := by decide +kernel
theorem dX10_on_65 : decode cX10_on 65 = .ok (.iaload, 1) := by decide +kernel
theorem dX10_on_66 : decode cX10_on 66 = .ok (.goto 20, 3) := by decide +kernel
theorem dX10_on_69 : decode cX10_on 69 = .ok (.iload_n 2, 1) := by decide +kernel
theorem dX10_on_70 : decode cX10_on 70 = .ok (.iconst 1, 1) := by decide +kernel
theorem dX10_on_71 : decode cX10_on 71 = .ok (.if_icmp .ne 10, 3) := by decide +kernel
theorem dX10_on_74 : decode cX10_on 74 = .ok (.aload_n 0, 1) := by decide +kernel
theorem dX10_on_75 : decode cX10_on 75 = .ok (.invokevirtual 172, 3) := by decide +kernel
theorem dX10_on_78 : decode cX10_on 78 = .ok (.goto 8, 3) := by decide +kernel
theorem dX10_on_81 : decode cX10_on 81 = .ok (.aload_n 0, 1) := by decide +kernel
theorem dX10_on_82 : decode cX10_on 82 = .ok (.iconst 4, 1) := by decide +kernel
theorem dX10_on_83 : decode cX10_on 83 = .ok (.invokevirtual 191, 3) := by decide +kernel
theorem dX10_on_86 : decode cX10_on 86 = .ok (.istore 4, 2) := by decide +kernel
theorem dX10_on_88 : decode cX10_on 88 = .ok (.aload_n 0, 1) := by decide +kernel
theorem dX10_on_89 : decode cX10_on 89 = .ok (.invokevirtual 194, 3) := by decide +kernel
theorem dX10_on_92 : decode cX10_on 92 = .ok (.iload 4, 2) := by decide +kernel
theorem dX10_on_94 : decode cX10_on 94 = .ok (.ireturn, 1) := by decide +kernel
theorem dX10_forgot_0 : decode cX10_forgot 0 = .ok (.aload_n 0, 1) := by decide +kernel
theorem dX10_forgot_1 : decode cX10_forgot 1 = .ok (.iload_n 1, 1) := by decide +kernel
theorem dX10_forgot_2 : decode cX10_forgot 2 = .ok (.invokevirtual 79, 3) := by decide +kernel
theorem dX10_forgot_5 : decode cX10_forgot 5 = .ok (.ifCond .ne 10, 3) := by decide +kernel
theorem dX10_forgot_8 : decode cX10_forgot 8 = .ok (.aload_n 0, 1) := by decide +kernel
theorem dX10_forgot_9 : decode cX10_forgot 9 = .ok (.ldc 44, 2) := by decide +kernel
theorem dX10_forgot_11 : decode cX10_forgot 11 = .ok (.invokevirtual 67, 3) := by decide +kernel
theorem dX10_forgot_14 : decode cX10_forgot 14 = .ok (.ireturn, 1) := by decide +kernel
theorem dX10_forgot_15 : decode cX10_forgot 15 = .ok (.aload_n 0, 1) := by decide +kernel
theorem dX10_forgot_16 : decode cX10_forgot 16 = .ok (.getfield 7, 3) := by decide +kernel
theorem dX10_forgot_19 : decode cX10_forgot 19 = .ok (.iconst 3, 1) := by decide +kernel
theorem dX10_forgot_20 : decode cX10_forgot 20 = .ok (.iaload, 1) := by decide +kernel
theorem dX10_forgot_21 : decode cX10_forgot 21 = .ok (.bipush 39, 2) := by decide +kernel
theorem dX10_forgot_23 : decode cX10_forgot 23 = .ok (.if_icmp .le 10, 3) := by decide +kernel
theorem dX10_forgot_26 : decode cX10_forgot 26 = .ok (.aload_n 0, 1) := by decide +kernel
theorem dX10_forgot_27 : decode cX10_forgot 27 = .ok (.ldc 184, 2) := by decide +kernel
theorem dX10_forgot_29 : decode cX10_forgot 29 = .ok (.invokevirtual 67, 3) := by decide +kernel
theorem dX10_forgot_32 : decode cX10_forgot 32 = .ok (.ireturn, 1) := by decide +kernel
theorem dX10_forgot_33 : decode cX10_forgot 33 = .ok (.aload_n 0, 1) := by decide +kernel
theorem dX10_forgot_34 : decode cX10_forgot 34 = .ok (.invokevirtual 188, 3) := by decide +kernel
theorem dX10_forgot_37 : decode cX10_forgot 37 = .ok (.iconst 0, 1) := by decide +kernel
theorem dX10_forgot_38 : decode cX10_forgot 38 = .ok (.istore_n 2, 1) := by decide +kernel
theorem dX10_forgot_39 : decode cX10_forgot 39 = .ok (.iload_n 2, 1) := by decide +kernel
theorem dX10_forgot_40 : decode cX10_forgot 40 = .ok (.bipush 60, 2) := by decide +kernel
theorem dX10_forgot_42 : decode cX10_forgot 42 = .ok (.if_icmp .ge 22, 3) := by decide +kernel
theorem dX10_forgot_45 : decode cX10_forgot 45 = .ok (.aload_n 0, 1) := by decide +kernel
theorem dX10_forgot_46 : decode cX10_forgot 46 = .ok (.iload_n 1, 1) := by decide +kernel
theorem dX10_forgot_47 : decode cX10_forgot 47 = .ok (.invokevirtual 85, 3) := by decide +kernel
theorem dX10_forgot_50 : decode cX10_forgot 50 = .ok (.ifCond .eq 14, 3) := by decide +kernel
theorem dX10_forgot_53 : decode cX10_forgot 53 = .ok (.aload_n 0, 1) := by decide +kernel
theorem dX10_forgot_54 : decode cX10_forgot 54 = .ok (.invokevirtual 176, 3) := by decide +kernel
theorem dX10_forgot_57 : decode cX10_forgot 57 = .ok (.istore_n 3, 1) := by decide +kernel
theorem dX10_forgot_58 : decode cX10_forgot 58 = .ok (.iinc 2 1, 3) := by decide +kernel
theorem dX10_forgot_61 : decode cX10_forgot 61 = .ok (.goto (-22), 3) := by decide +kernel
theorem dX10_forgot_64 : decode cX10_forgot 64 = .ok (.aload_n 0, 1) := by decide +kernel
theorem dX10_forgot_65 : decode cX10_forgot 65 = .ok (.iload_n 1, 1) := by decide +kernel
theorem dX10_forgot_66 : decode cX10_forgot 66 = .ok (.invokevirtual 85, 3) := by decide +kernel
theorem dX10_forgot_69 : decode cX10_forgot 69 = .ok (.ifCond .ne 7, 3) := by decide +kernel
theorem dX10_forgot_72 : decode cX10_forgot 72 = .ok (.iconst 1, 1) := by decide +kernel
theorem dX10_forgot_73 : decode cX10_forgot 73 = .ok (.goto 4, 3) := by decide +kernel
theorem dX10_forgot_76 : decode cX10_forgot 76 = .ok (.iconst 0, 1) := by decide +kernel
theorem dX10_forgot_77 : decode cX10_forgot 77 = .ok (.istore_n 3, 1) := by decide +kernel
theorem dX10_forgot_78 : decode cX10_forgot 78 = .ok (.aload_n 0, 1) := by decide +kernel
theorem dX10_forgot_79 : decode cX10_forgot 79 = .ok (.invokevirtual 194, 3) := by decide +kernel
theorem dX10_forgot_82 : decode cX10_forgot 82 = .ok (.iload_n 3, 1) := by decide +kernel
theorem dX10_forgot_83 : decode cX10_forgot 83 = .ok (.ifCond .eq 7, 3) := by decide +kernel
theorem dX10_forgot_86 : decode cX10_forgot 86 = .ok (.iload_n 2, 1) := by decide +kernel
theorem dX10_forgot_87 : decode cX10_forgot 87 = .ok (.goto 9, 3) := by decide +kernel
theorem dX10_forgot_90 : decode cX10_forgot 90 = .ok (.aload_n 0, 1) := by decide +kernel
theorem dX10_forgot_91 : decode cX10_forgot 91 = .ok (.ldc 132, 2) := by decide +kernel
theorem dX10_forgot_93 : decode cX10_forgot 93 = .ok (.invokevirtual 67, 3) := by decide +kernel
theorem dX10_forgot_96 : decode cX10_forgot 96 = .ok (.ireturn, 1) := by decide +kernel
theorem dX10_useless_0 : decode cX10_useless 0 = .ok (.iload_n 1, 1) := by decide +kernel
theorem dX10_useless_1 : decode cX10_useless 1 = .ok (.i2l, 1) := by decide +kernel
theorem dX10_useless_2 : decode cX10_useless 2 = .ok (.lconst 1, 1) := by decide +kernel
theorem dX10_useless_3 : decode cX10_useless 3 = .ok (.ldc2_w 57, 3) := by decide +kernel
theorem dX10_useless_6 : decode cX10_useless 6 = .ok (.invokestatic 45, 3) := by decide +kernel
theorem dX10_useless_9 : decode cX10_useless 9 = .ok (.ifCond .ne 10, 3) := by decide +kernel
theorem dX10_useless_12 : decode cX10_useless 12 = .ok (.aload_n 0, 1) := by decide +kernel
theorem dX10_useless_13 : decode cX10_useless 13 = .ok (.ldc 44, 2) := by decide +kernel
theorem dX10_useless_15 : decode cX10_useless 15 = .ok (.invokevirtual 67, 3) := by decide +kernel
theorem dX10_useless_18 : decode cX10_useless 18 = .ok (.ireturn, 1) := by decide +kernel
theorem dX10_useless_19 : decode cX10_useless 19 = .ok (.aload_n 0, 1) := by decide +kernel
theorem dX10_useless_20 : decode cX10_useless 20 = .ok (.iload_n 1, 1) := by decide +kernel
theorem dX10_useless_21 : decode cX10_useless 21 = .ok (.invokevirtual 181, 3) := by decide +kernel
theorem dX10_useless_24 : decode cX10_useless 24 = .ok (.ifCond .eq 10, 3) := by decide +kernel
theorem dX10_useless_27 : decode cX10_useless 27 = .ok (.aload_n 0, 1) := by decide +kernel
theorem dX10_useless_28 : decode cX10_useless 28 = .ok (.ldc 184, 2) := by decide +kernel
theorem dX10_useless_30 : decode cX10_useless 30 = .ok (.invokevirtual 67, 3) := by decide +kernel
theorem dX10_useless_33 : decode cX10_useless 33 = .ok (.ireturn, 1) := by decide +kernel
theorem dX10_useless_34 : decode cX10_useless 34 = .ok (.aload_n 0, 1) := by decide +kernel
theorem dX10_useless_35 : decode cX10_useless 35 = .ok (.invokevirtual 188, 3) := by decide +kernel
theorem dX10_useless_38 : decode cX10_useless 38 = .ok (.aload_n 0, 1) := by decide +kernel
theorem dX10_useless_39 : decode cX10_useless 39 = .ok (.iload_n 1, 1) := by decide +kernel
theorem dX10_useless_40 : decode cX10_useless 40 = .ok (.invokevirtual 185, 3) := by decide +kernel
theorem dX10_useless_43 : decode cX10_useless 43 = .ok (.istore_n 2, 1) := by decide +kernel
theorem dX10_useless_44 : decode cX10_useless 44 = .ok (.aload_n 0, 1) := by decide +kernel
theorem dX10_useless_45 : decode cX10_useless 45 = .ok (.invokevirtual 194, 3) := by decide +kernel
theorem dX10_useless_48 : decode cX10_useless 48 = .ok (.iconst 1, 1) := by decide +kernel
theorem dX10_useless_49 : decode cX10_useless 49 = .ok (.aload_n 0, 1) := by decide +kernel
theorem dX10_useless_50 : decode cX10_useless 50 = .ok (.getfield 7, 3) := by decide +kernel
theorem dX10_useless_53 : decode cX10_useless 53 = .ok (.iconst 0, 1) := by decide +kernel
theorem dX10_useless_54 : decode cX10_useless 54 = .ok (.iaload, 1) := by decide +kernel
theorem dX10_useless_55 : decode cX10_useless 55 = .ok (.ishl, 1) := by decide +kernel
theorem dX10_useless_56 : decode cX10_useless 56 = .ok (.iconst 1, 1) := by decide +kernel
theorem dX10_useless_57 : decode cX10_useless 57 = .ok (.isub, 1) := by decide +kernel
theorem dX10_useless_58 : decode cX10_useless 58 = .ok (.iload_n 2, 1) := by decide +kernel
theorem dX10_useless_59 : decode cX10_useless 59 = .ok (.iconst (-1), 1) := by decide +kernel
theorem dX10_useless_60 : decode cX10_useless 60 = .ok (.ixor, 1) := by decide +kernel
theorem dX10_useless_61 : decode cX10_useless 61 = .ok (.iand, 1) := by decide +kernel
theorem dX10_useless_62 : decode cX10_useless 62 = .ok (.ireturn, 1) := by decide +kernel
theorem dX10_scoreOn_0 : decode cX10_scoreOn 0 = .ok (.aload_n 0, 1) := by decide +kernel
theorem dX10_scoreOn_1 : decode cX10_scoreOn 1 = .ok (.iload_n 1, 1) := by decide +kernel
theorem dX10_scoreOn_2 : decode cX10_scoreOn 2 = .ok (.invokevirtual 185, 3) := by decide +kernel
theorem dX10_scoreOn_5 : decode cX10_scoreOn 5 = .ok (.istore_n 2, 1) := by decide +kernel
theorem dX10_scoreOn_6 : decode cX10_scoreOn 6 = .ok (.aload_n 0, 1) := by decide +kernel
theorem dX10_scoreOn_7 : decode cX10_scoreOn 7 = .ok (.getfield 7, 3) := by decide +kernel
theorem dX10_scoreOn_10 : decode cX10_scoreOn 10 = .ok (.iconst 4, 1) := by decide +kernel
theorem dX10_scoreOn_11 : decode cX10_scoreOn 11 = .ok (.iaload, 1) := by decide +kernel
theorem dX10_scoreOn_12 : decode cX10_scoreOn 12 = .ok (.istore_n 3, 1) := by decide +kernel
theorem dX10_scoreOn_13 : decode cX10_scoreOn 13 = .ok (.aload_n 0, 1) := by decide +kernel
theorem dX10_scoreOn_14 : decode cX10_scoreOn 14 = .ok (.invokevirtual 194, 3) := by decide +kernel
theorem dX10_scoreOn_17 : decode cX10_scoreOn 17 = .ok (.iload_n 3, 1) := by decide +kernel
theorem dX10_scoreOn_18 : decode cX10_scoreOn 18 = .ok (.ireturn, 1) := by decide +kernel
theorem dX10_tonight_0 : decode cX10_tonight 0 = .ok (.iload_n 1, 1) := by decide +kernel
theorem dX10_tonight_1 : decode cX10_tonight 1 = .ok (.i2l, 1) := by decide +kernel
theorem dX10_tonight_2 : decode cX10_tonight 2 = .ok (.lconst 1, 1) := by decide +kernel
theorem dX10_tonight_3 : decode cX10_tonight 3 = .ok (.ldc2_w 57, 3) := by decide +kernel
theorem dX10_tonight_6 : decode cX10_tonight 6 = .ok (.invokestatic 45, 3) := by decide +kernel
theorem dX10_tonight_9 : decode cX10_tonight 9 = .ok (.ifCond .ne 10, 3) := by decide +kernel
theorem dX10_tonight_12 : decode cX10_tonight 12 = .ok (.aload_n 0, 1) := by decide +kernel
theorem dX10_tonight_13 : decode cX10_tonight 13 = .ok (.ldc 44, 2) := by decide +kernel
theorem dX10_tonight_15 : decode cX10_tonight 15 = .ok (.invokevirtual 67, 3) := by decide +kernel
theorem dX10_tonight_18 : decode cX10_tonight 18 = .ok (.ireturn, 1) := by decide +kernel
theorem dX10_tonight_19 : decode cX10_tonight 19 = .ok (.aload_n 0, 1) := by decide +kernel
theorem dX10_tonight_20 : decode cX10_tonight 20 = .ok (.iload_n 1, 1) := by decide +kernel
theorem dX10_tonight_21 : decode cX10_tonight 21 = .ok (.invokevirtual 181, 3) := by decide +kernel
theorem dX10_tonight_24 : decode cX10_tonight 24 = .ok (.ifCond .eq 10, 3) := by decide +kernel
theorem dX10_tonight_27 : decode cX10_tonight 27 = .ok (.aload_n 0, 1) := by decide +kernel
theorem dX10_tonight_28 : decode cX10_tonight 28 = .ok (.ldc 184, 2) := by decide +kernel
theorem dX10_tonight_30 : decode cX10_tonight 30 = .ok (.invokevirtual 67, 3) := by decide +kernel
theorem dX10_tonight_33 : decode cX10_tonight 33 = .ok (.ireturn, 1) := by decide +kernel
theorem dX10_tonight_34 : decode cX10_tonight 34 = .ok (.aload_n 0, 1) := by decide +kernel
theorem dX10_tonight_35 : decode cX10_tonight 35 = .ok (.invokevirtual 188, 3) := by decide +kernel
theorem dX10_tonight_38 : decode cX10_tonight 38 = .ok (.iconst (-1), 1) := by decide +kernel
theorem dX10_tonight_39 : decode cX10_tonight 39 = .ok (.istore_n 2, 1) := by decide +kernel
theorem dX10_tonight_40 : decode cX10_tonight 40 = .ok (.aload_n 0, 1) := by decide +kernel
theorem dX10_tonight_41 : decode cX10_tonight 41 = .ok (.iload_n 1, 1) := by decide +kernel
theorem dX10_tonight_42 : decode cX10_tonight 42 = .ok (.invokevirtual 197, 3) := by decide +kernel
theorem dX10_tonight_45 : decode cX10_tonight 45 = .ok (.istore_n 3, 1) := by decide +kernel
theorem dX10_tonight_46 : decode cX10_tonight 46 = .ok (.iconst 0, 1) := by decide +kernel
theorem dX10_tonight_47 : decode cX10_tonight 47 = .ok (.istore 4, 2) := by decide +kernel
theorem dX10_tonight_49 : decode cX10_tonight 49 = .ok (.iload 4, 2) := by decide +kernel
theorem dX10_tonight_51 : decode cX10_tonight 51 = .ok (.aload_n 0, 1) := by decide +kernel
theorem dX10_tonight_52 : decode cX10_tonight 52 = .ok (.getfield 7, 3) := by decide +kernel
theorem dX10_tonight_55 : decode cX10_tonight 55 = .ok (.iconst 0, 1) := by decide +kernel
theorem dX10_tonight_56 : decode cX10_tonight 56 = .ok (.iaload, 1) := by decide +kernel
theorem dX10_tonight_57 : decode cX10_tonight 57 = .ok (.if_icmp .ge 55, 3) := by decide +kernel
theorem dX10_tonight_60 : decode cX10_tonight 60 = .ok (.aload_n 0, 1) := by decide +kernel
theorem dX10_tonight_61 : decode cX10_tonight 61 = .ok (.iload 4, 2) := by decide +kernel
theorem dX10_tonight_63 : decode cX10_tonight 63 = .ok (.aload_n 0, 1) := by decide +kernel
theorem dX10_tonight_64 : decode cX10_tonight 64 = .ok (.iload 4, 2) := by decide +kernel
theorem dX10_tonight_66 : decode cX10_tonight 66 = .ok (.iconst 2, 1) := by decide +kernel
theorem dX10_tonight_67 : decode cX10_tonight 67 = .ok (.invokevirtual 76, 3) := by decide +kernel
theorem dX10_tonight_70 : decode cX10_tonight 70 = .ok (.invokevirtual 165, 3) := by decide +kernel
theorem dX10_tonight_73 : decode cX10_tonight 73 = .ok (.aload_n 0, 1) := by decide +kernel
theorem dX10_tonight_74 : decode cX10_tonight 74 = .ok (.iload_n 1, 1) := by decide +kernel
theorem dX10_tonight_75 : decode cX10_tonight 75 = .ok (.invokevirtual 197, 3) := by decide +kernel
theorem dX10_tonight_78 : decode cX10_tonight 78 = .ok (.istore 5, 2) := by decide +kernel
theorem dX10_tonight_80 : decode cX10_tonight 80 = .ok (.iload 5, 2) := by decide +kernel
theorem dX10_tonight_82 : decode cX10_tonight 82 = .ok (.iload_n 3, 1) := by decide +kernel
theorem dX10_tonight_83 : decode cX10_tonight 83 = .ok (.if_icmp .le 8, 3) := by decide +kernel
theorem dX10_tonight_86 : decode cX10_tonight 86 = .ok (.iload 4, 2) := by decide +kernel
theorem dX10_tonight_88 : decode cX10_tonight 88 = .ok (.goto 4, 3) := by decide +kernel
theorem dX10_tonight_91 : decode cX10_tonight 91 = .ok (.iload_n 2, 1) := by decide +kernel
theorem dX10_tonight_92 : decode cX10_tonight 92 = .ok (.istore_n 2, 1) := by decide +kernel
theorem dX10_tonight_93 : decode cX10_tonight 93 = .ok (.iload 5, 2) := by decide +kernel
theorem dX10_tonight_95 : decode cX10_tonight 95 = .ok (.iload_n 3, 1) := by decide +kernel
theorem dX10_tonight_96 : decode cX10_tonight 96 = .ok (.if_icmp .le 8, 3) := by decide +kernel
theorem dX10_tonight_99 : decode cX10_tonight 99 = .ok (.iload 5, 2) := by decide +kernel
theorem dX10_tonight_101 : decode cX10_tonight 101 = .ok (.goto 4, 3) := by decide +kernel
theorem dX10_tonight_104 : decode cX10_tonight 104 = .ok (.iload_n 3, 1) := by decide +kernel
theorem dX10_tonight_105 : decode cX10_tonight 105 = .ok (.istore_n 3, 1) := by decide +kernel
theorem dX10_tonight_106 : decode cX10_tonight 106 = .ok (.iinc 4 1, 3) := by decide +kernel
theorem dX10_tonight_109 : decode cX10_tonight 109 = .ok (.goto (-60), 3) := by decide +kernel
theorem dX10_tonight_112 : decode cX10_tonight 112 = .ok (.iload_n 2, 1) := by decide +kernel
theorem dX10_tonight_113 : decode cX10_tonight 113 = .ok (.ifCond .ge 12, 3) := by decide +kernel
theorem dX10_tonight_116 : decode cX10_tonight 116 = .ok (.aload_n 0, 1) := by decide +kernel
theorem dX10_tonight_117 : decode cX10_tonight 117 = .ok (.ldc 132, 2) := by decide +kernel
theorem dX10_tonight_119 : decode cX10_tonight 119 = .ok (.invokevirtual 67, 3) := by decide +kernel
theorem dX10_tonight_122 : decode cX10_tonight 122 = .ok (.goto 4, 3) := by decide +kernel
theorem dX10_tonight_125 : decode cX10_tonight 125 = .ok (.iload_n 2, 1) := by decide +kernel
theorem dX10_tonight_126 : decode cX10_tonight 126 = .ok (.ireturn, 1) := by decide +kernel
theorem dX10_goesOn_0 : decode cX10_goesOn 0 = .ok (.iload_n 1, 1) := by decide +kernel
theorem dX10_goesOn_1 : decode cX10_goesOn 1 = .ok (.iconst 2, 1) := by decide +kernel
theorem dX10_goesOn_2 : decode cX10_goesOn 2 = .ok (.isub, 1) := by decide +kernel
theorem dX10_goesOn_3 : decode cX10_goesOn 3 = .ok (.istore_n 2, 1) := by decide +kernel
theorem dX10_goesOn_4 : decode cX10_goesOn 4 = .ok (.iload_n 2, 1) := by decide +kernel
theorem dX10_goesOn_5 : decode cX10_goesOn 5 = .ok (.ifCond .lt 26, 3) := by decide +kernel
theorem dX10_goesOn_8 : decode cX10_goesOn 8 = .ok (.aload_n 0, 1) := by decide +kernel
theorem dX10_goesOn_9 : decode cX10_goesOn 9 = .ok (.getfield 22, 3) := by decide +kernel
theorem dX10_goesOn_12 : decode cX10_goesOn 12 = .ok (.iload_n 2, 1) := by decide +kernel
theorem dX10_goesOn_13 : decode cX10_goesOn 13 = .ok (.iaload, 1) := by decide +kernel
theorem dX10_goesOn_14 : decode cX10_goesOn 14 = .ok (.aload_n 0, 1) := by decide +kernel
theorem dX10_goesOn_15 : decode cX10_goesOn 15 = .ok (.getfield 22, 3) := by decide +kernel
theorem dX10_goesOn_18 : decode cX10_goesOn 18 = .ok (.iload_n 2, 1) := by decide +kernel
theorem dX10_goesOn_19 : decode cX10_goesOn 19 = .ok (.iconst 1, 1) := by decide +kernel
theorem dX10_goesOn_20 : decode cX10_goesOn 20 = .ok (.iadd, 1) := by decide +kernel
theorem dX10_goesOn_21 : decode cX10_goesOn 21 = .ok (.iaload, 1) := by decide +kernel
theorem dX10_goesOn_22 : decode cX10_goesOn 22 = .ok (.if_icmp .le 9, 3) := by decide +kernel
theorem dX10_goesOn_25 : decode cX10_goesOn 25 = .ok (.iinc 2 (-1), 3) := by decide +kernel
theorem dX10_goesOn_28 : decode cX10_goesOn 28 = .ok (.goto (-24), 3) := by decide +kernel
theorem dX10_goesOn_31 : decode cX10_goesOn 31 = .ok (.iload_n 2, 1) := by decide +kernel
theorem dX10_goesOn_32 : decode cX10_goesOn 32 = .ok (.ifCond .ge 5, 3) := by decide +kernel
theorem dX10_goesOn_35 : decode cX10_goesOn 35 = .ok (.iconst 0, 1) := by decide +kernel
theorem dX10_goesOn_36 : decode cX10_goesOn 36 = .ok (.ireturn, 1) := by decide +kernel
theorem dX10_goesOn_37 : decode cX10_goesOn 37 = .ok (.iload_n 1, 1) := by decide +kernel
theorem dX10_goesOn_38 : decode cX10_goesOn 38 = .ok (.iconst 1, 1) := by decide +kernel
theorem dX10_goesOn_39 : decode cX10_goesOn 39 = .ok (.isub, 1) := by decide +kernel
theorem dX10_goesOn_40 : decode cX10_goesOn 40 = .ok (.istore_n 3, 1) := by decide +kernel
theorem dX10_goesOn_41 : decode cX10_goesOn 41 = .ok (.aload_n 0, 1) := by decide +kernel
theorem dX10_goesOn_42 : decode cX10_goesOn 42 = .ok (.getfield 22, 3) := by decide +kernel
theorem dX10_goesOn_45 : decode cX10_goesOn 45 = .ok (.iload_n 3, 1) := by decide +kernel
theorem dX10_goesOn_46 : decode cX10_goesOn 46 = .ok (.iaload, 1) := by decide +kernel
theorem dX10_goesOn_47 : decode cX10_goesOn 47 = .ok (.aload_n 0, 1) := by decide +kernel
theorem dX10_goesOn_48 : decode cX10_goesOn 48 = .ok (.getfield 22, 3) := by decide +kernel
theorem dX10_goesOn_51 : decode cX10_goesOn 51 = .ok (.iload_n 2, 1) := by decide +kernel
theorem dX10_goesOn_52 : decode cX10_goesOn 52 = .ok (.iaload, 1) := by decide +kernel
theorem dX10_goesOn_53 : decode cX10_goesOn 53 = .ok (.if_icmp .ge 9, 3) := by decide +kernel
theorem dX10_goesOn_56 : decode cX10_goesOn 56 = .ok (.iinc 3 (-1), 3) := by decide +kernel
theorem dX10_goesOn_59 : decode cX10_goesOn 59 = .ok (.goto (-18), 3) := by decide +kernel
theorem dX10_goesOn_62 : decode cX10_goesOn 62 = .ok (.aload_n 0, 1) := by decide +kernel
theorem dX10_goesOn_63 : decode cX10_goesOn 63 = .ok (.iload_n 2, 1) := by decide +kernel
theorem dX10_goesOn_64 : decode cX10_goesOn 64 = .ok (.iload_n 3, 1) := by decide +kernel
theorem dX10_goesOn_65 : decode cX10_goesOn 65 = .ok (.invokevirtual 200, 3) := by decide +kernel
theorem dX10_goesOn_68 : decode cX10_goesOn 68 = .ok (.iload_n 2, 1) := by decide +kernel
theorem dX10_goesOn_69 : decode cX10_goesOn 69 = .ok (.iconst 1, 1) := by decide +kernel
theorem dX10_goesOn_70 : decode cX10_goesOn 70 = .ok (.iadd, 1) := by decide +kernel
theorem dX10_goesOn_71 : decode cX10_goesOn 71 = .ok (.istore 4, 2) := by decide +kernel
theorem dX10_goesOn_73 : decode cX10_goesOn 73 = .ok (.iload_n 1, 1) := by decide +kernel
theorem dX10_goesOn_74 : decode cX10_goesOn 74 = .ok (.iconst 1, 1) := by decide +kernel
theorem dX10_goesOn_75 : decode cX10_goesOn 75 = .ok (.isub, 1) := by decide +kernel
theorem dX10_goesOn_76 : decode cX10_goesOn 76 = .ok (.istore 5, 2) := by decide +kernel
theorem dX10_goesOn_78 : decode cX10_goesOn 78 = .ok (.iload 4, 2) := by decide +kernel
theorem dX10_goesOn_80 : decode cX10_goesOn 80 = .ok (.iload 5, 2) := by decide +kernel
theorem dX10_goesOn_82 : decode cX10_goesOn 82 = .ok (.if_icmp .ge 20, 3) := by decide +kernel
theorem dX10_goesOn_85 : decode cX10_goesOn 85 = .ok (.aload_n 0, 1) := by decide +kernel
theorem dX10_goesOn_86 : decode cX10_goesOn 86 = .ok (.iload 4, 2) := by decide +kernel
theorem dX10_goesOn_88 : decode cX10_goesOn 88 = .ok (.iload 5, 2) := by decide +kernel
theorem dX10_goesOn_90 : decode cX10_goesOn 90 = .ok (.invokevirtual 200, 3) := by decide +kernel
theorem dX10_goesOn_93 : decode cX10_goesOn 93 = .ok (.iinc 4 1, 3) := by decide +kernel
theorem dX10_goesOn_96 : decode cX10_goesOn 96 = .ok (.iinc 5 (-1), 3) := by decide +kernel
theorem dX10_goesOn_99 : decode cX10_goesOn 99 = .ok (.goto (-21), 3) := by decide +kernel
theorem dX10_goesOn_102 : decode cX10_goesOn 102 = .ok (.iconst 1, 1) := by decide +kernel
theorem dX10_goesOn_103 : decode cX10_goesOn 103 = .ok (.ireturn, 1) := by decide +kernel
theorem dX10_swaps_0 : decode cX10_swaps 0 = .ok (.aload_n 0, 1) := by decide +kernel
theorem dX10_swaps_1 : decode cX10_swaps 1 = .ok (.getfield 22, 3) := by decide +kernel
theorem dX10_swaps_4 : decode cX10_swaps 4 = .ok (.iload_n 1, 1) := by decide +kernel
theorem dX10_swaps_5 : decode cX10_swaps 5 = .ok (.iaload, 1) := by decide +kernel
theorem dX10_swaps_6 : decode cX10_swaps 6 = .ok (.istore_n 3, 1) := by decide +kernel
theorem dX10_swaps_7 : decode cX10_swaps 7 = .ok (.aload_n 0, 1) := by decide +kernel
theorem dX10_swaps_8 : decode cX10_swaps 8 = .ok (.getfield 22, 3) := by decide +kernel
theorem dX10_swaps_11 : decode cX10_swaps 11 = .ok (.iload_n 1, 1) := by decide +kernel
theorem dX10_swaps_12 : decode cX10_swaps 12 = .ok (.aload_n 0, 1) := by decide +kernel
theorem dX10_swaps_13 : decode cX10_swaps 13 = .ok (.getfield 22, 3) := by decide +kernel
theorem dX10_swaps_16 : decode cX10_swaps 16 = .ok (.iload_n 2, 1) := by decide +kernel
theorem dX10_swaps_17 : decode cX10_swaps 17 = .ok (.iaload, 1) := by decide +kernel
theorem dX10_swaps_18 : decode cX10_swaps 18 = .ok (.iastore, 1) := by decide +kernel
theorem dX10_swaps_19 : decode cX10_swaps 19 = .ok (.aload_n 0, 1) := by decide +kernel
theorem dX10_swaps_20 : decode cX10_swaps 20 = .ok (.getfield 22, 3) := by decide +kernel
theorem dX10_swaps_23 : decode cX10_swaps 23 = .ok (.iload_n 2, 1) := by decide +kernel
theorem dX10_swaps_24 : decode cX10_swaps 24 = .ok (.iload_n 3, 1) := by decide +kernel
theorem dX10_swaps_25 : decode cX10_swaps 25 = .ok (.iastore, 1) := by decide +kernel
theorem dX10_swaps_26 : decode cX10_swaps 26 = .ok (.return_, 1) := by decide +kernel
theorem dX10_triesRow_0 : decode cX10_triesRow 0 = .ok (.aload_n 0, 1) := by decide +kernel
theorem dX10_triesRow_1 : decode cX10_triesRow 1 = .ok (.getfield 7, 3) := by decide +kernel
theorem dX10_triesRow_4 : decode cX10_triesRow 4 = .ok (.iconst 5, 1) := by decide +kernel
theorem dX10_triesRow_5 : decode cX10_triesRow 5 = .ok (.iload_n 1, 1) := by decide +kernel
theorem dX10_triesRow_6 : decode cX10_triesRow 6 = .ok (.iastore, 1) := by decide +kernel
theorem dX10_triesRow_7 : decode cX10_triesRow 7 = .ok (.iconst 0, 1) := by decide +kernel
theorem dX10_triesRow_8 : decode cX10_triesRow 8 = .ok (.istore 5, 2) := by decide +kernel
theorem dX10_triesRow_10 : decode cX10_triesRow 10 = .ok (.iload 5, 2) := by decide +kernel
theorem dX10_triesRow_12 : decode cX10_triesRow 12 = .ok (.iload_n 1, 1) := by decide +kernel
theorem dX10_triesRow_13 : decode cX10_triesRow 13 = .ok (.if_icmp .ge 27, 3) := by decide +kernel
theorem dX10_triesRow_16 : decode cX10_triesRow 16 = .ok (.aload_n 0, 1) := by decide +kernel
theorem dX10_triesRow_17 : decode cX10_triesRow 17 = .ok (.getfield 7, 3) := by decide +kernel
theorem dX10_triesRow_20 : decode cX10_triesRow 20 = .ok (.sipush 138, 3) := by decide +kernel
theorem dX10_triesRow_23 : decode cX10_triesRow 23 = .ok (.iload 5, 2) := by decide +kernel
theorem dX10_triesRow_25 : decode cX10_triesRow 25 = .ok (.iadd, 1) := by decide +kernel
theorem dX10_triesRow_26 : decode cX10_triesRow 26 = .ok (.aload_n 0, 1) := by decide +kernel
theorem dX10_triesRow_27 : decode cX10_triesRow 27 = .ok (.getfield 22, 3) := by decide +kernel
theorem dX10_triesRow_30 : decode cX10_triesRow 30 = .ok (.iload 5, 2) := by decide +kernel
theorem dX10_triesRow_32 : decode cX10_triesRow 32 = .ok (.iaload, 1) := by decide +kernel
theorem dX10_triesRow_33 : decode cX10_triesRow 33 = .ok (.iastore, 1) := by decide +kernel
theorem dX10_triesRow_34 : decode cX10_triesRow 34 = .ok (.iinc 5 1, 3) := by decide +kernel
theorem dX10_triesRow_37 : decode cX10_triesRow 37 = .ok (.goto (-27), 3) := by decide +kernel
theorem dX10_triesRow_40 : decode cX10_triesRow 40 = .ok (.aload_n 0, 1) := by decide +kernel
theorem dX10_triesRow_41 : decode cX10_triesRow 41 = .ok (.iload_n 2, 1) := by decide +kernel
theorem dX10_triesRow_42 : decode cX10_triesRow 42 = .ok (.invokevirtual 169, 3) := by decide +kernel
theorem dX10_triesRow_45 : decode cX10_triesRow 45 = .ok (.istore 5, 2) := by decide +kernel
theorem dX10_triesRow_47 : decode cX10_triesRow 47 = .ok (.aload_n 0, 1) := by decide +kernel
theorem dX10_triesRow_48 : decode cX10_triesRow 48 = .ok (.iload_n 3, 1) := by decide +kernel
theorem dX10_triesRow_49 : decode cX10_triesRow 49 = .ok (.invokevirtual 197, 3) := by decide +kernel
theorem dX10_triesRow_52 : decode cX10_triesRow 52 = .ok (.istore 6, 2) := by decide +kernel
theorem dX10_triesRow_54 : decode cX10_triesRow 54 = .ok (.iload 4, 2) := by decide +kernel
theorem dX10_triesRow_56 : decode cX10_triesRow 56 = .ok (.ifCond .ne 12, 3) := by decide +kernel
theorem dX10_triesRow_59 : decode cX10_triesRow 59 = .ok (.iload 6, 2) := by decide +kernel
theorem dX10_triesRow_61 : decode cX10_triesRow 61 = .ok (.aload_n 0, 1) := by decide +kernel
theorem dX10_triesRow_62 : decode cX10_triesRow 62 = .ok (.getfield 203, 3) := by decide +kernel
theorem dX10_triesRow_65 : decode cX10_triesRow 65 = .ok (.if_icmp .le 38, 3) := by decide +kernel
theorem dX10_triesRow_68 : decode cX10_triesRow 68 = .ok (.aload_n 0, 1) := by decide +kernel
theorem dX10_triesRow_69 : decode cX10_triesRow 69 = .ok (.iload 6, 2) := by decide +kernel
theorem dX10_triesRow_71 : decode cX10_triesRow 71 = .ok (.putfield 203, 3) := by decide +kernel
theorem dX10_triesRow_74 : decode cX10_triesRow 74 = .ok (.iconst 0, 1) := by decide +kernel
theorem dX10_triesRow_75 : decode cX10_triesRow 75 = .ok (.istore 7, 2) := by decide +kernel
theorem dX10_triesRow_77 : decode cX10_triesRow 77 = .ok (.iload 7, 2) := by decide +kernel
theorem dX10_triesRow_79 : decode cX10_triesRow 79 = .ok (.iload_n 1, 1) := by decide +kernel
theorem dX10_triesRow_80 : decode cX10_triesRow 80 = .ok (.if_icmp .ge 23, 3) := by decide +kernel
theorem dX10_triesRow_83 : decode cX10_triesRow 83 = .ok (.aload_n 0, 1) := by decide +kernel
theorem dX10_triesRow_84 : decode cX10_triesRow 84 = .ok (.getfield 25, 3) := by decide +kernel
theorem dX10_triesRow_87 : decode cX10_triesRow 87 = .ok (.iload 7, 2) := by decide +kernel
theorem dX10_triesRow_89 : decode cX10_triesRow 89 = .ok (.aload_n 0, 1) := by decide +kernel
theorem dX10_triesRow_90 : decode cX10_triesRow 90 = .ok (.getfield 22, 3) := by decide +kernel
theorem dX10_triesRow_93 : decode cX10_triesRow 93 = .ok (.iload 7, 2) := by decide +kernel
theorem dX10_triesRow_95 : decode cX10_triesRow 95 = .ok (.iaload, 1) := by decide +kernel
theorem dX10_triesRow_96 : decode cX10_triesRow 96 = .ok (.iastore, 1) := by decide +kernel
theorem dX10_triesRow_97 : decode cX10_triesRow 97 = .ok (.iinc 7 1, 3) := by decide +kernel
theorem dX10_triesRow_100 : decode cX10_triesRow 100 = .ok (.goto (-23), 3) := by decide +kernel
theorem dX10_triesRow_103 : decode cX10_triesRow 103 = .ok (.return_, 1) := by decide +kernel
theorem dX10_plan_0 : decode cX10_plan 0 = .ok (.aload_n 0, 1) := by decide +kernel
theorem dX10_plan_1 : decode cX10_plan 1 = .ok (.iload_n 1, 1) := by decide +kernel
theorem dX10_plan_2 : decode cX10_plan 2 = .ok (.invokevirtual 109, 3) := by decide +kernel
theorem dX10_plan_5 : decode cX10_plan 5 = .ok (.ifCond .eq 42, 3) := by decide +kernel
theorem dX10_plan_8 : decode cX10_plan 8 = .ok (.iload_n 2, 1) := by decide +kernel
theorem dX10_plan_9 : decode cX10_plan 9 = .ok (.i2l, 1) := by decide +kernel
theorem dX10_plan_10 : decode cX10_plan 10 = .ok (.lconst 0, 1) := by decide +kernel
theorem dX10_plan_11 : decode cX10_plan 11 = .ok (.ldc2_w 163, 3) := by decide +kernel
theorem dX10_plan_14 : decode cX10_plan 14 = .ok (.invokestatic 45, 3) := by decide +kernel
theorem dX10_plan_17 : decode cX10_plan 17 = .ok (.ifCond .eq 30, 3) := by decide +kernel
theorem dX10_plan_20 : decode cX10_plan 20 = .ok (.iload_n 3, 1) := by decide +kernel
theorem dX10_plan_21 : decode cX10_plan 21 = .ok (.i2l, 1) := by decide +kernel
theorem dX10_plan_22 : decode cX10_plan 22 = .ok (.lconst 1, 1) := by decide +kernel
theorem dX10_plan_23 : decode cX10_plan 23 = .ok (.ldc2_w 57, 3) := by decide +kernel
theorem dX10_plan_26 : decode cX10_plan 26 = .ok (.invokestatic 45, 3) := by decide +kernel
theorem dX10_plan_29 : decode cX10_plan 29 = .ok (.ifCond .eq 18, 3) := by decide +kernel
theorem dX10_plan_32 : decode cX10_plan 32 = .ok (.iload 4, 2) := by decide +kernel
theorem dX10_plan_34 : decode cX10_plan 34 = .ok (.i2l, 1) := by decide +kernel
theorem dX10_plan_35 : decode cX10_plan 35 = .ok (.ldc2_w 206, 3) := by decide +kernel
theorem dX10_plan_38 : decode cX10_plan 38 = .ok (.ldc2_w 91, 3) := by decide +kernel
theorem dX10_plan_41 : decode cX10_plan 41 = .ok (.invokestatic 45, 3) := by decide +kernel
theorem dX10_plan_44 : decode cX10_plan 44 = .ok (.ifCond .ne 10, 3) := by decide +kernel
theorem dX10_plan_47 : decode cX10_plan 47 = .ok (.aload_n 0, 1) := by decide +kernel
theorem dX10_plan_48 : decode cX10_plan 48 = .ok (.ldc 44, 2) := by decide +kernel
theorem dX10_plan_50 : decode cX10_plan 50 = .ok (.invokevirtual 67, 3) := by decide +kernel
theorem dX10_plan_53 : decode cX10_plan 53 = .ok (.ireturn, 1) := by decide +kernel
theorem dX10_plan_54 : decode cX10_plan 54 = .ok (.iload_n 1, 1) := by decide +kernel
theorem dX10_plan_55 : decode cX10_plan 55 = .ok (.invokestatic 208, 3) := by decide +kernel
theorem dX10_plan_58 : decode cX10_plan 58 = .ok (.istore 5, 2) := by decide +kernel
theorem dX10_plan_60 : decode cX10_plan 60 = .ok (.iload 5, 2) := by decide +kernel
theorem dX10_plan_62 : decode cX10_plan 62 = .ok (.iconst 5, 1) := by decide +kernel
theorem dX10_plan_63 : decode cX10_plan 63 = .ok (.if_icmp .le 10, 3) := by decide +kernel
theorem dX10_plan_66 : decode cX10_plan 66 = .ok (.aload_n 0, 1) := by decide +kernel
theorem dX10_plan_67 : decode cX10_plan 67 = .ok (.ldc 211, 2) := by decide +kernel
theorem dX10_plan_69 : decode cX10_plan 69 = .ok (.invokevirtual 67, 3) := by decide +kernel
theorem dX10_plan_72 : decode cX10_plan 72 = .ok (.ireturn, 1) := by decide +kernel
theorem dX10_plan_73 : decode cX10_plan 73 = .ok (.aload_n 0, 1) := by decide +kernel
theorem dX10_plan_74 : decode cX10_plan 74 = .ok (.iload_n 3, 1) := by decide +kernel
theorem dX10_plan_75 : decode cX10_plan 75 = .ok (.invokevirtual 181, 3) := by decide +kernel
theorem dX10_plan_78 : decode cX10_plan 78 = .ok (.ifCond .eq 10, 3) := by decide +kernel
theorem dX10_plan_81 : decode cX10_plan 81 = .ok (.aload_n 0, 1) := by decide +kernel
theorem dX10_plan_82 : decode cX10_plan 82 = .ok (.ldc 184, 2) := by decide +kernel
theorem dX10_plan_84 : decode cX10_plan 84 = .ok (.invokevirtual 67, 3) := by decide +kernel
theorem dX10_plan_87 : decode cX10_plan 87 = .ok (.ireturn, 1) := by decide +kernel
theorem dX10_plan_88 : decode cX10_plan 88 = .ok (.iload 4, 2) := by decide +kernel
theorem dX10_plan_90 : decode cX10_plan 90 = .ok (.iload 5, 2) := by decide +kernel
theorem dX10_plan_92 : decode cX10_plan 92 = .ok (.if_icmp .lt 10, 3) := by decide +kernel
theorem dX10_plan_95 : decode cX10_plan 95 = .ok (.aload_n 0, 1) := by decide +kernel
theorem dX10_plan_96 : decode cX10_plan 96 = .ok (.ldc 132, 2) := by decide +kernel
theorem dX10_plan_98 : decode cX10_plan 98 = .ok (.invokevirtual 67, 3) := by decide +kernel
theorem dX10_plan_101 : decode cX10_plan 101 = .ok (.ireturn, 1) := by decide +kernel
theorem dX10_plan_102 : decode cX10_plan 102 = .ok (.iconst 0, 1) := by decide +kernel
theorem dX10_plan_103 : decode cX10_plan 103 = .ok (.istore 6, 2) := by decide +kernel
theorem dX10_plan_105 : decode cX10_plan 105 = .ok (.iconst 0, 1) := by decide +kernel
theorem dX10_plan_106 : decode cX10_plan 106 = .ok (.istore 7, 2) := by decide +kernel
theorem dX10_plan_108 : decode cX10_plan 108 = .ok (.iload 7, 2) := by decide +kernel
theorem dX10_plan_110 : decode cX10_plan 110 = .ok (.aload_n 0, 1) := by decide +kernel
theorem dX10_plan_111 : decode cX10_plan 111 = .ok (.getfield 7, 3) := by decide +kernel
theorem dX10_plan_114 : decode cX10_plan 114 = .ok (.iconst 0, 1) := by decide +kernel
theorem dX10_plan_115 : decode cX10_plan 115 = .ok (.iaload, 1) := by decide +kernel
theorem dX10_plan_116 : decode cX10_plan 116 = .ok (.if_icmp .ge 30, 3) := by decide +kernel
theorem dX10_plan_119 : decode cX10_plan 119 = .ok (.iload_n 1, 1) := by decide +kernel
theorem dX10_plan_120 : decode cX10_plan 120 = .ok (.iload 7, 2) := by decide +kernel
theorem dX10_plan_122 : decode cX10_plan 122 = .ok (.invokestatic 106, 3) := by decide +kernel
theorem dX10_plan_125 : decode cX10_plan 125 = .ok (.ifCond .eq 15, 3) := by decide +kernel
theorem dX10_plan_128 : decode cX10_plan 128 = .ok (.aload_n 0, 1) := by decide +kernel
theorem dX10_plan_129 : decode cX10_plan 129 = .ok (.getfield 22, 3) := by decide +kernel
theorem dX10_plan_132 : decode cX10_plan 132 = .ok (.iload 6, 2) := by decide +kernel
theorem dX10_plan_134 : decode cX10_plan 134 = .ok (.iload 7, 2) := by decide +kernel
theorem dX10_plan_136 : decode cX10_plan 136 = .ok (.iastore, 1) := by decide +kernel
theorem dX10_plan_137 : decode cX10_plan 137 = .ok (.iinc 6 1, 3) := by decide +kernel
theorem dX10_plan_140 : decode cX10_plan 140 = .ok (.iinc 7 1, 3) := by decide +kernel
theorem dX10_plan_143 : decode cX10_plan 143 = .ok (.goto (-35), 3) := by decide +kernel
theorem dX10_plan_146 : decode cX10_plan 146 = .ok (.aload_n 0, 1) := by decide +kernel
theorem dX10_plan_147 : decode cX10_plan 147 = .ok (.invokevirtual 188, 3) := by decide +kernel
theorem dX10_plan_150 : decode cX10_plan 150 = .ok (.aload_n 0, 1) := by decide +kernel
theorem dX10_plan_151 : decode cX10_plan 151 = .ok (.iload 5, 2) := by decide +kernel
theorem dX10_plan_153 : decode cX10_plan 153 = .ok (.iload_n 2, 1) := by decide +kernel
theorem dX10_plan_154 : decode cX10_plan 154 = .ok (.iload_n 3, 1) := by decide +kernel
theorem dX10_plan_155 : decode cX10_plan 155 = .ok (.iconst 1, 1) := by decide +kernel
theorem dX10_plan_156 : decode cX10_plan 156 = .ok (.invokevirtual 212, 3) := by decide +kernel
theorem dX10_plan_159 : decode cX10_plan 159 = .ok (.aload_n 0, 1) := by decide +kernel
theorem dX10_plan_160 : decode cX10_plan 160 = .ok (.iload 5, 2) := by decide +kernel
theorem dX10_plan_162 : decode cX10_plan 162 = .ok (.invokevirtual 216, 3) := by decide +kernel
theorem dX10_plan_165 : decode cX10_plan 165 = .ok (.ifCond .eq 15, 3) := by decide +kernel
theorem dX10_plan_168 : decode cX10_plan 168 = .ok (.aload_n 0, 1) := by decide +kernel
theorem dX10_plan_169 : decode cX10_plan 169 = .ok (.iload 5, 2) := by decide +kernel
theorem dX10_plan_171 : decode cX10_plan 171 = .ok (.iload_n 2, 1) := by decide +kernel
theorem dX10_plan_172 : decode cX10_plan 172 = .ok (.iload_n 3, 1) := by decide +kernel
theorem dX10_plan_173 : decode cX10_plan 173 = .ok (.iconst 0, 1) := by decide +kernel
theorem dX10_plan_174 : decode cX10_plan 174 = .ok (.invokevirtual 212, 3) := by decide +kernel
theorem dX10_plan_177 : decode cX10_plan 177 = .ok (.goto (-18), 3) := by decide +kernel
theorem dX10_plan_180 : decode cX10_plan 180 = .ok (.iload 4, 2) := by decide +kernel
theorem dX10_plan_182 : decode cX10_plan 182 = .ok (.ifCond .ge 10, 3) := by decide +kernel
theorem dX10_plan_185 : decode cX10_plan 185 = .ok (.aload_n 0, 1) := by decide +kernel
theorem dX10_plan_186 : decode cX10_plan 186 = .ok (.getfield 203, 3) := by decide +kernel
theorem dX10_plan_189 : decode cX10_plan 189 = .ok (.goto 10, 3) := by decide +kernel
theorem dX10_plan_192 : decode cX10_plan 192 = .ok (.aload_n 0, 1) := by decide +kernel
theorem dX10_plan_193 : decode cX10_plan 193 = .ok (.getfield 25, 3) := by decide +kernel
theorem dX10_plan_196 : decode cX10_plan 196 = .ok (.iload 4, 2) := by decide +kernel
theorem dX10_plan_198 : decode cX10_plan 198 = .ok (.iaload, 1) := by decide +kernel
theorem dX10_plan_199 : decode cX10_plan 199 = .ok (.ireturn, 1) := by decide +kernel
theorem dX10_feed_0 : decode cX10_feed 0 = .ok (.iload_n 2, 1) := by decide +kernel
theorem dX10_feed_1 : decode cX10_feed 1 = .ok (.i2l, 1) := by decide +kernel
theorem dX10_feed_2 : decode cX10_feed 2 = .ok (.lconst 1, 1) := by decide +kernel
theorem dX10_feed_3 : decode cX10_feed 3 = .ok (.ldc2_w 91, 3) := by decide +kernel
theorem dX10_feed_6 : decode cX10_feed 6 = .ok (.invokestatic 45, 3) := by decide +kernel
theorem dX10_feed_9 : decode cX10_feed 9 = .ok (.ifCond .ne 10, 3) := by decide +kernel
theorem dX10_feed_12 : decode cX10_feed 12 = .ok (.aload_n 0, 1) := by decide +kernel
theorem dX10_feed_13 : decode cX10_feed 13 = .ok (.ldc 44, 2) := by decide +kernel
theorem dX10_feed_15 : decode cX10_feed 15 = .ok (.invokevirtual 67, 3) := by decide +kernel
theorem dX10_feed_18 : decode cX10_feed 18 = .ok (.ireturn, 1) := by decide +kernel
theorem dX10_feed_19 : decode cX10_feed 19 = .ok (.aload_n 0, 1) := by decide +kernel
theorem dX10_feed_20 : decode cX10_feed 20 = .ok (.getfield 219, 3) := by decide +kernel
theorem dX10_feed_23 : decode cX10_feed 23 = .ok (.iload_n 2, 1) := by decide +kernel
theorem dX10_feed_24 : decode cX10_feed 24 = .ok (.iadd, 1) := by decide +kernel
theorem dX10_feed_25 : decode cX10_feed 25 = .ok (.bipush 120, 2) := by decide +kernel
theorem dX10_feed_27 : decode cX10_feed 27 = .ok (.if_icmp .le 10, 3) := by decide +kernel
theorem dX10_feed_30 : decode cX10_feed 30 = .ok (.aload_n 0, 1) := by decide +kernel
theorem dX10_feed_31 : decode cX10_feed 31 = .ok (.ldc 71, 2) := by decide +kernel
theorem dX10_feed_33 : decode cX10_feed 33 = .ok (.invokevirtual 67, 3) := by decide +kernel
theorem dX10_feed_36 : decode cX10_feed 36 = .ok (.ireturn, 1) := by decide +kernel
theorem dX10_feed_37 : decode cX10_feed 37 = .ok (.iload_n 2, 1) := by decide +kernel
theorem dX10_feed_38 : decode cX10_feed 38 = .ok (.iconst 1, 1) := by decide +kernel
theorem dX10_feed_39 : decode cX10_feed 39 = .ok (.isub, 1) := by decide +kernel
theorem dX10_feed_40 : decode cX10_feed 40 = .ok (.istore_n 3, 1) := by decide +kernel
theorem dX10_feed_41 : decode cX10_feed 41 = .ok (.iload_n 3, 1) := by decide +kernel
theorem dX10_feed_42 : decode cX10_feed 42 = .ok (.ifCond .lt 38, 3) := by decide +kernel
theorem dX10_feed_45 : decode cX10_feed 45 = .ok (.aload_n 0, 1) := by decide +kernel
theorem dX10_feed_46 : decode cX10_feed 46 = .ok (.getfield 28, 3) := by decide +kernel
theorem dX10_feed_49 : decode cX10_feed 49 = .ok (.aload_n 0, 1) := by decide +kernel
theorem dX10_feed_50 : decode cX10_feed 50 = .ok (.getfield 219, 3) := by decide +kernel
theorem dX10_feed_53 : decode cX10_feed 53 = .ok (.iload_n 1, 1) := by decide +kernel
theorem dX10_feed_54 : decode cX10_feed 54 = .ok (.bipush 8, 2) := by decide +kernel
theorem dX10_feed_56 : decode cX10_feed 56 = .ok (.iload_n 3, 1) := by decide +kernel
theorem dX10_feed_57 : decode cX10_feed 57 = .ok (.imul, 1) := by decide +kernel
theorem dX10_feed_58 : decode cX10_feed 58 = .ok (.ishr, 1) := by decide +kernel
theorem dX10_feed_59 : decode cX10_feed 59 = .ok (.sipush 255, 3) := by decide +kernel
theorem dX10_feed_62 : decode cX10_feed 62 = .ok (.iand, 1) := by decide +kernel
theorem dX10_feed_63 : decode cX10_feed 63 = .ok (.iastore, 1) := by decide +kernel
theorem dX10_feed_64 : decode cX10_feed 64 = .ok (.aload_n 0, 1) := by decide +kernel
theorem dX10_feed_65 : decode cX10_feed 65 = .ok (.dup, 1) := by decide +kernel
theorem dX10_feed_66 : decode cX10_feed 66 = .ok (.getfield 219, 3) := by decide +kernel
theorem dX10_feed_69 : decode cX10_feed 69 = .ok (.iconst 1, 1) := by decide +kernel
theorem dX10_feed_70 : decode cX10_feed 70 = .ok (.iadd, 1) := by decide +kernel
theorem dX10_feed_71 : decode cX10_feed 71 = .ok (.putfield 219, 3) := by decide +kernel
theorem dX10_feed_74 : decode cX10_feed 74 = .ok (.iinc 3 (-1), 3) := by decide +kernel
theorem dX10_feed_77 : decode cX10_feed 77 = .ok (.goto (-36), 3) := by decide +kernel
theorem dX10_feed_80 : decode cX10_feed 80 = .ok (.aload_n 0, 1) := by decide +kernel
theorem dX10_feed_81 : decode cX10_feed 81 = .ok (.getfield 219, 3) := by decide +kernel
theorem dX10_feed_84 : decode cX10_feed 84 = .ok (.ireturn, 1) := by decide +kernel
theorem dX10_wipe_0 : decode cX10_wipe 0 = .ok (.aload_n 0, 1) := by decide +kernel
theorem dX10_wipe_1 : decode cX10_wipe 1 = .ok (.getfield 219, 3) := by decide +kernel
theorem dX10_wipe_4 : decode cX10_wipe 4 = .ok (.istore_n 1, 1) := by decide +kernel
theorem dX10_wipe_5 : decode cX10_wipe 5 = .ok (.aload_n 0, 1) := by decide +kernel
theorem dX10_wipe_6 : decode cX10_wipe 6 = .ok (.iconst 0, 1) := by decide +kernel
theorem dX10_wipe_7 : decode cX10_wipe 7 = .ok (.putfield 219, 3) := by decide +kernel
theorem dX10_wipe_10 : decode cX10_wipe 10 = .ok (.iload_n 1, 1) := by decide +kernel
theorem dX10_wipe_11 : decode cX10_wipe 11 = .ok (.ireturn, 1) := by decide +kernel
theorem dX10_byteAt_0 : decode cX10_byteAt 0 = .ok (.iload_n 1, 1) := by decide +kernel
theorem dX10_byteAt_1 : decode cX10_byteAt 1 = .ok (.aload_n 0, 1) := by decide +kernel
theorem dX10_byteAt_2 : decode cX10_byteAt 2 = .ok (.getfield 219, 3) := by decide +kernel
theorem dX10_byteAt_5 : decode cX10_byteAt 5 = .ok (.if_icmp .ge 12, 3) := by decide +kernel
theorem dX10_byteAt_8 : decode cX10_byteAt 8 = .ok (.aload_n 0, 1) := by decide +kernel
theorem dX10_byteAt_9 : decode cX10_byteAt 9 = .ok (.getfield 28, 3) := by decide +kernel
theorem dX10_byteAt_12 : decode cX10_byteAt 12 = .ok (.iload_n 1, 1) := by decide +kernel
theorem dX10_byteAt_13 : decode cX10_byteAt 13 = .ok (.iaload, 1) := by decide +kernel
theorem dX10_byteAt_14 : decode cX10_byteAt 14 = .ok (.goto 4, 3) := by decide +kernel
theorem dX10_byteAt_17 : decode cX10_byteAt 17 = .ok (.iconst (-1), 1) := by decide +kernel
theorem dX10_byteAt_18 : decode cX10_byteAt 18 = .ok (.ireturn, 1) := by decide +kernel
theorem dX10_isLetter_0 : decode cX10_isLetter 0 = .ok (.iload_n 0, 1) := by decide +kernel
theorem dX10_isLetter_1 : decode cX10_isLetter 1 = .ok (.i2l, 1) := by decide +kernel
theorem dX10_isLetter_2 : decode cX10_isLetter 2 = .ok (.ldc2_w 222, 3) := by decide +kernel
theorem dX10_isLetter_5 : decode cX10_isLetter 5 = .ok (.ldc2_w 224, 3) := by decide +kernel
theorem dX10_isLetter_8 : decode cX10_isLetter 8 = .ok (.invokestatic 45, 3) := by decide +kernel
theorem dX10_isLetter_11 : decode cX10_isLetter 11 = .ok (.ireturn, 1) := by decide +kernel
theorem dX10_isDigit_0 : decode cX10_isDigit 0 = .ok (.iload_n 0, 1) := by decide +kernel
theorem dX10_isDigit_1 : decode cX10_isDigit 1 = .ok (.i2l, 1) := by decide +kernel
theorem dX10_isDigit_2 : decode cX10_isDigit 2 = .ok (.ldc2_w 226, 3) := by decide +kernel
theorem dX10_isDigit_5 : decode cX10_isDigit 5 = .ok (.ldc2_w 228, 3) := by decide +kernel
theorem dX10_isDigit_8 : decode cX10_isDigit 8 = .ok (.invokestatic 45, 3) := by decide +kernel
theorem dX10_isDigit_11 : decode cX10_isDigit 11 = .ok (.ireturn, 1) := by decide +kernel
theorem dX10_token_0 : decode cX10_token 0 = .ok (.aload_n 0, 1) := by decide +kernel
theorem dX10_token_1 : decode cX10_token 1 = .ok (.aload_n 0, 1) := by decide +kernel
theorem dX10_token_2 : decode cX10_token 2 = .ok (.getfield 230, 3) := by decide +kernel
theorem dX10_token_5 : decode cX10_token 5 = .ok (.putfield 233, 3) := by decide +kernel
theorem dX10_token_8 : decode cX10_token 8 = .ok (.aload_n 0, 1) := by decide +kernel
theorem dX10_token_9 : decode cX10_token 9 = .ok (.aload_n 0, 1) := by decide +kernel
theorem dX10_token_10 : decode cX10_token 10 = .ok (.getfield 233, 3) := by decide +kernel
theorem dX10_token_13 : decode cX10_token 13 = .ok (.invokevirtual 236, 3) := by decide +kernel
theorem dX10_token_16 : decode cX10_token 16 = .ok (.bipush 32, 2) := by decide +kernel
theorem dX10_token_18 : decode cX10_token 18 = .ok (.if_icmp .ne 16, 3) := by decide +kernel
theorem dX10_token_21 : decode cX10_token 21 = .ok (.aload_n 0, 1) := by decide +kernel
theorem dX10_token_22 : decode cX10_token 22 = .ok (.dup, 1) := by decide +kernel
theorem dX10_token_23 : decode cX10_token 23 = .ok (.getfield 233, 3) := by decide +kernel
theorem dX10_token_26 : decode cX10_token 26 = .ok (.iconst 1, 1) := by decide +kernel
theorem dX10_token_27 : decode cX10_token 27 = .ok (.iadd, 1) := by decide +kernel
theorem dX10_token_28 : decode cX10_token 28 = .ok (.putfield 233, 3) := by decide +kernel
theorem dX10_token_31 : decode cX10_token 31 = .ok (.goto (-23), 3) := by decide +kernel
theorem dX10_token_34 : decode cX10_token 34 = .ok (.aload_n 0, 1) := by decide +kernel
theorem dX10_token_35 : decode cX10_token 35 = .ok (.aload_n 0, 1) := by decide +kernel
theorem dX10_token_36 : decode cX10_token 36 = .ok (.getfield 233, 3) := by decide +kernel
theorem dX10_token_39 : decode cX10_token 39 = .ok (.invokevirtual 236, 3) := by decide +kernel
theorem dX10_token_42 : decode cX10_token 42 = .ok (.invokestatic 239, 3) := by decide +kernel
theorem dX10_token_45 : decode cX10_token 45 = .ok (.istore_n 1, 1) := by decide +kernel
theorem dX10_token_46 : decode cX10_token 46 = .ok (.aload_n 0, 1) := by decide +kernel
theorem dX10_token_47 : decode cX10_token 47 = .ok (.aload_n 0, 1) := by decide +kernel
theorem dX10_token_48 : decode cX10_token 48 = .ok (.getfield 233, 3) := by decide +kernel
theorem dX10_token_51 : decode cX10_token 51 = .ok (.invokevirtual 236, 3) := by decide +kernel
theorem dX10_token_54 : decode cX10_token 54 = .ok (.invokestatic 242, 3) := by decide +kernel
theorem dX10_token_57 : decode cX10_token 57 = .ok (.istore_n 2, 1) := by decide +kernel
theorem dX10_token_58 : decode cX10_token 58 = .ok (.aload_n 0, 1) := by decide +kernel
theorem dX10_token_59 : decode cX10_token 59 = .ok (.aload_n 0, 1) := by decide +kernel
theorem dX10_token_60 : decode cX10_token 60 = .ok (.getfield 233, 3) := by decide +kernel
theorem dX10_token_63 : decode cX10_token 63 = .ok (.aload_n 0, 1) := by decide +kernel
theorem dX10_token_64 : decode cX10_token 64 = .ok (.getfield 219, 3) := by decide +kernel
theorem dX10_token_67 : decode cX10_token 67 = .ok (.if_icmp .ge 12, 3) := by decide +kernel
theorem dX10_token_70 : decode cX10_token 70 = .ok (.aload_n 0, 1) := by decide +kernel
theorem dX10_token_71 : decode cX10_token 71 = .ok (.getfield 233, 3) := by decide +kernel
theorem dX10_token_74 : decode cX10_token 74 = .ok (.iconst 1, 1) := by decide +kernel
theorem dX10_token_75 : decode cX10_token 75 = .ok (.iadd, 1) := by decide +kernel
theorem dX10_token_76 : decode cX10_token 76 = .ok (.goto 7, 3) := by decide +kernel
theorem dX10_token_79 : decode cX10_token 79 = .ok (.aload_n 0, 1) := by decide +kernel
theorem dX10_token_80 : decode cX10_token 80 = .ok (.getfield 233, 3) := by decide +kernel
theorem dX10_token_83 : decode cX10_token 83 = .ok (.putfield 230, 3) := by decide +kernel
theorem dX10_token_86 : decode cX10_token 86 = .ok (.iload_n 1, 1) := by decide +kernel
theorem dX10_token_87 : decode cX10_token 87 = .ok (.ifCond .eq 17, 3) := by decide +kernel
theorem dX10_token_90 : decode cX10_token 90 = .ok (.aload_n 0, 1) := by decide +kernel
theorem dX10_token_91 : decode cX10_token 91 = .ok (.aload_n 0, 1) := by decide +kernel
theorem dX10_token_92 : decode cX10_token 92 = .ok (.getfield 230, 3) := by decide +kernel
theorem dX10_token_95 : decode cX10_token 95 = .ok (.invokevirtual 236, 3) := by decide +kernel
theorem dX10_token_98 : decode cX10_token 98 = .ok (.invokestatic 239, 3) := by decide +kernel
theorem dX10_token_101 : decode cX10_token 101 = .ok (.ifCond .ne 21, 3) := by decide +kernel
theorem dX10_token_104 : decode cX10_token 104 = .ok (.iload_n 2, 1) := by decide +kernel
theorem dX10_token_105 : decode cX10_token 105 = .ok (.ifCond .eq 30, 3) := by decide +kernel
theorem dX10_token_108 : decode cX10_token 108 = .ok (.aload_n 0, 1) := by decide +kernel
theorem dX10_token_109 : decode cX10_token 109 = .ok (.aload_n 0, 1) := by decide +kernel
theorem dX10_token_110 : decode cX10_token 110 = .ok (.getfield 230, 3) := by decide +kernel
theorem dX10_token_113 : decode cX10_token 113 = .ok (.invokevirtual 236, 3) := by decide +kernel
theorem dX10_token_116 : decode cX10_token 116 = .ok (.invokestatic 242, 3) := by decide +kernel
theorem dX10_token_119 : decode cX10_token 119 = .ok (.ifCond .eq 16, 3) := by decide +kernel
theorem dX10_token_122 : decode cX10_token 122 = .ok (.aload_n 0, 1) := by decide +kernel
theorem dX10_token_123 : decode cX10_token 123 = .ok (.dup, 1) := by decide +kernel
theorem dX10_token_124 : decode cX10_token 124 = .ok (.getfield 230, 3) := by decide +kernel
theorem dX10_token_127 : decode cX10_token 127 = .ok (.iconst 1, 1) := by decide +kernel
theorem dX10_token_128 : decode cX10_token 128 = .ok (.iadd, 1) := by decide +kernel
theorem dX10_token_129 : decode cX10_token 129 = .ok (.putfield 230, 3) := by decide +kernel
theorem dX10_token_132 : decode cX10_token 132 = .ok (.goto (-46), 3) := by decide +kernel
theorem dX10_token_135 : decode cX10_token 135 = .ok (.return_, 1) := by decide +kernel
theorem dX10_needs_0 : decode cX10_needs 0 = .ok (.aload_n 0, 1) := by decide +kernel
theorem dX10_needs_1 : decode cX10_needs 1 = .ok (.aload_n 0, 1) := by decide +kernel
theorem dX10_needs_2 : decode cX10_needs 2 = .ok (.getfield 245, 3) := by decide +kernel
theorem dX10_needs_5 : decode cX10_needs 5 = .ok (.ifCond .ne 7, 3) := by decide +kernel
theorem dX10_needs_8 : decode cX10_needs 8 = .ok (.iload_n 1, 1) := by decide +kernel
theorem dX10_needs_9 : decode cX10_needs 9 = .ok (.ifCond .ne 7, 3) := by decide +kernel
theorem dX10_needs_12 : decode cX10_needs 12 = .ok (.iconst 1, 1) := by decide +kernel
theorem dX10_needs_13 : decode cX10_needs 13 = .ok (.goto 4, 3) := by decide +kernel
theorem dX10_needs_16 : decode cX10_needs 16 = .ok (.iconst 0, 1) := by decide +kernel
theorem dX10_needs_17 : decode cX10_needs 17 = .ok (.putfield 245, 3) := by decide +kernel
theorem dX10_needs_20 : decode cX10_needs 20 = .ok (.aload_n 0, 1) := by decide +kernel
theorem dX10_needs_21 : decode cX10_needs 21 = .ok (.getfield 245, 3) := by decide +kernel
theorem dX10_needs_24 : decode cX10_needs 24 = .ok (.ifCond .ne 7, 3) := by decide +kernel
theorem dX10_needs_27 : decode cX10_needs 27 = .ok (.aload_n 0, 1) := by decide +kernel
theorem dX10_needs_28 : decode cX10_needs 28 = .ok (.invokevirtual 249, 3) := by decide +kernel
theorem dX10_needs_31 : decode cX10_needs 31 = .ok (.return_, 1) := by decide +kernel
theorem dX10_word_0 : decode cX10_word 0 = .ok (.lconst 0, 1) := by decide +kernel
theorem dX10_word_1 : decode cX10_word 1 = .ok (.lstore_n 1, 1) := by decide +kernel
theorem dX10_word_2 : decode cX10_word 2 = .ok (.aload_n 0, 1) := by decide +kernel
theorem dX10_word_3 : decode cX10_word 3 = .ok (.getfield 233, 3) := by decide +kernel
theorem dX10_word_6 : decode cX10_word 6 = .ok (.istore_n 3, 1) := by decide +kernel
theorem dX10_word_7 : decode cX10_word 7 = .ok (.iload_n 3, 1) := by decide +kernel
theorem dX10_word_8 : decode cX10_word 8 = .ok (.aload_n 0, 1) := by decide +kernel
theorem dX10_word_9 : decode cX10_word 9 = .ok (.getfield 230, 3) := by decide +kernel
theorem dX10_word_12 : decode cX10_word 12 = .ok (.if_icmp .ge 38, 3) := by decide +kernel
theorem dX10_word_15 : decode cX10_word 15 = .ok (.lload_n 1, 1) := by decide +kernel
theorem dX10_word_16 : decode cX10_word 16 = .ok (.ldc2_w 252, 3) := by decide +kernel
theorem dX10_word_19 : decode cX10_word 19 = .ok (.lcmp, 1) := by decide +kernel
theorem dX10_word_20 : decode cX10_word 20 = .ok (.ifCond .le 7, 3) := by decide +kernel
theorem dX10_word_23 : decode cX10_word 23 = .ok (.lload_n 1, 1) := by decide +kernel
theorem dX10_word_24 : decode cX10_word 24 = .ok (.goto 19, 3) := by decide +kernel
theorem dX10_word_27 : decode cX10_word 27 = .ok (.ldc2_w 254, 3) := by decide +kernel
theorem dX10_word_30 : decode cX10_word 30 = .ok (.lload_n 1, 1) := by decide +kernel
theorem dX10_word_31 : decode cX10_word 31 = .ok (.lmul, 1) := by decide +kernel
theorem dX10_word_32 : decode cX10_word 32 = .ok (.aload_n 0, 1) := by decide +kernel
theorem dX10_word_33 : decode cX10_word 33 = .ok (.getfield 28, 3) := by decide +kernel
theorem dX10_word_36 : decode cX10_word 36 = .ok (.iload_n 3, 1) := by decide +kernel
theorem dX10_word_37 : decode cX10_word 37 = .ok (.iaload, 1) := by decide +kernel
theorem dX10_word_38 : decode cX10_word 38 = .ok (.bipush 96, 2) := by decide +kernel
theorem dX10_word_40 : decode cX10_word 40 = .ok (.isub, 1) := by decide +kernel
theorem dX10_word_41 : decode cX10_word 41 = .ok (.i2l, 1) := by decide +kernel
theorem dX10_word_42 : decode cX10_word 42 = .ok (.ladd, 1) := by decide +kernel
theorem dX10_word_43 : decode cX10_word 43 = .ok (.lstore_n 1, 1) := by decide +kernel
theorem dX10_word_44 : decode cX10_word 44 = .ok (.iinc 3 1, 3) := by decide +kernel
theorem dX10_word_47 : decode cX10_word 47 = .ok (.goto (-40), 3) := by decide +kernel
theorem dX10_word_50 : decode cX10_word 50 = .ok (.aload_n 0, 1) := by decide +kernel
theorem dX10_word_51 : decode cX10_word 51 = .ok (.getfield 245, 3) := by decide +kernel
theorem dX10_word_54 : decode cX10_word 54 = .ok (.ifCond .ne 17, 3) := by decide +kernel
theorem dX10_word_57 : decode cX10_word 57 = .ok (.aload_n 0, 1) := by decide +kernel
theorem dX10_word_58 : decode cX10_word 58 = .ok (.aload_n 0, 1) := by decide +kernel
theorem dX10_word_59 : decode cX10_word 59 = .ok (.getfield 233, 3) := by decide +kernel
theorem dX10_word_62 : decode cX10_word 62 = .ok (.invokevirtual 236, 3) := by decide +kernel
theorem dX10_word_65 : decode cX10_word 65 = .ok (.invokestatic 239, 3) := by decide +kernel
theorem dX10_word_68 : decode cX10_word 68 = .ok (.ifCond .ne 7, 3) := by decide +kernel
theorem dX10_word_71 : decode cX10_word 71 = .ok (.lconst 0, 1) := by decide +kernel
theorem dX10_word_72 : decode cX10_word 72 = .ok (.goto 4, 3) := by decide +kernel
theorem dX10_word_75 : decode cX10_word 75 = .ok (.lload_n 1, 1) := by decide +kernel
theorem dX10_word_76 : decode cX10_word 76 = .ok (.lreturn, 1) := by decide +kernel
theorem dX10_number_0 : decode cX10_number 0 = .ok (.aload_n 0, 1) := by decide +kernel
theorem dX10_number_1 : decode cX10_number 1 = .ok (.getfield 245, 3) := by decide +kernel
theorem dX10_number_4 : decode cX10_number 4 = .ok (.ifCond .eq 4, 3) := by decide +kernel
theorem dX10_number_7 : decode cX10_number 7 = .ok (.return_, 1) := by decide +kernel
theorem dX10_number_8 : decode cX10_number 8 = .ok (.aload_n 0, 1) := by decide +kernel
theorem dX10_number_9 : decode cX10_number 9 = .ok (.aload_n 0, 1) := by decide +kernel
theorem dX10_number_10 : decode cX10_number 10 = .ok (.getfield 233, 3) := by decide +kernel
theorem dX10_number_13 : decode cX10_number 13 = .ok (.invokevirtual 236, 3) := by decide +kernel
theorem dX10_number_16 : decode cX10_number 16 = .ok (.invokestatic 242, 3) := by decide +kernel
theorem dX10_number_19 : decode cX10_number 19 = .ok (.istore_n 3, 1) := by decide +kernel
theorem dX10_number_20 : decode cX10_number 20 = .ok (.iconst 0, 1) := by decide +kernel
theorem dX10_number_21 : decode cX10_number 21 = .ok (.istore 4, 2) := by decide +kernel
theorem dX10_number_23 : decode cX10_number 23 = .ok (.aload_n 0, 1) := by decide +kernel
theorem dX10_number_24 : decode cX10_number 24 = .ok (.getfield 233, 3) := by decide +kernel
theorem dX10_number_27 : decode cX10_number 27 = .ok (.istore 5, 2) := by decide +kernel
theorem dX10_number_29 : decode cX10_number 29 = .ok (.iload 5, 2) := by decide +kernel
theorem dX10_number_31 : decode cX10_number 31 = .ok (.aload_n 0, 1) := by decide +kernel
theorem dX10_number_32 : decode cX10_number 32 = .ok (.getfield 230, 3) := by decide +kernel
theorem dX10_number_35 : decode cX10_number 35 = .ok (.if_icmp .ge 44, 3) := by decide +kernel
theorem dX10_number_38 : decode cX10_number 38 = .ok (.iload_n 3, 1) := by decide +kernel
theorem dX10_number_39 : decode cX10_number 39 = .ok (.ifCond .eq 40, 3) := by decide +kernel
theorem dX10_number_42 : decode cX10_number 42 = .ok (.iload 4, 2) := by decide +kernel
theorem dX10_number_44 : decode cX10_number 44 = .ok (.sipush 999, 3) := by decide +kernel
theorem dX10_number_47 : decode cX10_number 47 = .ok (.if_icmp .le 8, 3) := by decide +kernel
theorem dX10_number_50 : decode cX10_number 50 = .ok (.iload 4, 2) := by decide +kernel
theorem dX10_number_52 : decode cX10_number 52 = .ok (.goto 19, 3) := by decide +kernel
theorem dX10_number_55 : decode cX10_number 55 = .ok (.bipush 10, 2) := by decide +kernel
theorem dX10_number_57 : decode cX10_number 57 = .ok (.iload 4, 2) := by decide +kernel
theorem dX10_number_59 : decode cX10_number 59 = .ok (.imul, 1) := by decide +kernel
theorem dX10_number_60 : decode cX10_number 60 = .ok (.aload_n 0, 1) := by decide +kernel
theorem dX10_number_61 : decode cX10_number 61 = .ok (.getfield 28, 3) := by decide +kernel
theorem dX10_number_64 : decode cX10_number 64 = .ok (.iload 5, 2) := by decide +kernel
theorem dX10_number_66 : decode cX10_number 66 = .ok (.iaload, 1) := by decide +kernel
theorem dX10_number_67 : decode cX10_number 67 = .ok (.iadd, 1) := by decide +kernel
theorem dX10_number_68 : decode cX10_number 68 = .ok (.bipush 48, 2) := by decide +kernel
theorem dX10_number_70 : decode cX10_number 70 = .ok (.isub, 1) := by decide +kernel
theorem dX10_number_71 : decode cX10_number 71 = .ok (.istore 4, 2) := by decide +kernel
theorem dX10_number_73 : decode cX10_number 73 = .ok (.iinc 5 1, 3) := by decide +kernel
theorem dX10_number_76 : decode cX10_number 76 = .ok (.goto (-47), 3) := by decide +kernel
theorem dX10_number_79 : decode cX10_number 79 = .ok (.aload_n 0, 1) := by decide +kernel
theorem dX10_number_80 : decode cX10_number 80 = .ok (.iload 4, 2) := by decide +kernel
theorem dX10_number_82 : decode cX10_number 82 = .ok (.putfield 256, 3) := by decide +kernel
theorem dX10_number_85 : decode cX10_number 85 = .ok (.aload_n 0, 1) := by decide +kernel
theorem dX10_number_86 : decode cX10_number 86 = .ok (.iload_n 3, 1) := by decide +kernel
theorem dX10_number_87 : decode cX10_number 87 = .ok (.ifCond .eq 20, 3) := by decide +kernel
theorem dX10_number_90 : decode cX10_number 90 = .ok (.iload 4, 2) := by decide +kernel
theorem dX10_number_92 : decode cX10_number 92 = .ok (.i2l, 1) := by decide +kernel
theorem dX10_number_93 : decode cX10_number 93 = .ok (.iload_n 1, 1) := by decide +kernel
theorem dX10_number_94 : decode cX10_number 94 = .ok (.i2l, 1) := by decide +kernel
theorem dX10_number_95 : decode cX10_number 95 = .ok (.iload_n 2, 1) := by decide +kernel
theorem dX10_number_96 : decode cX10_number 96 = .ok (.i2l, 1) := by decide +kernel
theorem dX10_number_97 : decode cX10_number 97 = .ok (.invokestatic 45, 3) := by decide +kernel
theorem dX10_number_100 : decode cX10_number 100 = .ok (.ifCond .eq 7, 3) := by decide +kernel
theorem dX10_number_103 : decode cX10_number 103 = .ok (.iconst 1, 1) := by decide +kernel
theorem dX10_number_104 : decode cX10_number 104 = .ok (.goto 4, 3) := by decide +kernel
theorem dX10_number_107 : decode cX10_number 107 = .ok (.iconst 0, 1) := by decide +kernel
theorem dX10_number_108 : decode cX10_number 108 = .ok (.invokevirtual 259, 3) := by decide +kernel
theorem dX10_number_111 : decode cX10_number 111 = .ok (.return_, 1) := by decide +kernel
theorem dX10_kindHere_0 : decode cX10_kindHere 0 = .ok (.aload_n 0, 1) := by decide +kernel
theorem dX10_kindHere_1 : decode cX10_kindHere 1 = .ok (.invokevirtual 263, 3) := by decide +kernel
theorem dX10_kindHere_4 : decode cX10_kindHere 4 = .ok (.lstore_n 1, 1) := by decide +kernel
theorem dX10_kindHere_5 : decode cX10_kindHere 5 = .ok (.lload_n 1, 1) := by decide +kernel
theorem dX10_kindHere_6 : decode cX10_kindHere 6 = .ok (.ldc2_w 267, 3) := by decide +kernel
theorem dX10_kindHere_9 : decode cX10_kindHere 9 = .ok (.lcmp, 1) := by decide +kernel
theorem dX10_kindHere_10 : decode cX10_kindHere 10 = .ok (.ifCond .ne 7, 3) := by decide +kernel
theorem dX10_kindHere_13 : decode cX10_kindHere 13 = .ok (.iconst 0, 1) := by decide +kernel
theorem dX10_kindHere_14 : decode cX10_kindHere 14 = .ok (.goto 64, 3) := by decide +kernel
theorem dX10_kindHere_17 : decode cX10_kindHere 17 = .ok (.lload_n 1, 1) := by decide +kernel
theorem dX10_kindHere_18 : decode cX10_kindHere 18 = .ok (.ldc2_w 269, 3) := by decide +kernel
theorem dX10_kindHere_21 : decode cX10_kindHere 21 = .ok (.lcmp, 1) := by decide +kernel
theorem dX10_kindHere_22 : decode cX10_kindHere 22 = .ok (.ifCond .ne 7, 3) := by decide +kernel
theorem dX10_kindHere_25 : decode cX10_kindHere 25 = .ok (.iconst 1, 1) := by decide +kernel
theorem dX10_kindHere_26 : decode cX10_kindHere 26 = .ok (.goto 52, 3) := by decide +kernel
theorem dX10_kindHere_29 : decode cX10_kindHere 29 = .ok (.lload_n 1, 1) := by decide +kernel
theorem dX10_kindHere_30 : decode cX10_kindHere 30 = .ok (.ldc2_w 271, 3) := by decide +kernel
theorem dX10_kindHere_33 : decode cX10_kindHere 33 = .ok (.lcmp, 1) := by decide +kernel
theorem dX10_kindHere_34 : decode cX10_kindHere 34 = .ok (.ifCond .ne 7, 3) := by decide +kernel
theorem dX10_kindHere_37 : decode cX10_kindHere 37 = .ok (.iconst 2, 1) := by decide +kernel
theorem dX10_kindHere_38 : decode cX10_kindHere 38 = .ok (.goto 40, 3) := by decide +kernel
theorem dX10_kindHere_41 : decode cX10_kindHere 41 = .ok (.lload_n 1, 1) := by decide +kernel
theorem dX10_kindHere_42 : decode cX10_kindHere 42 = .ok (.ldc2_w 273, 3) := by decide +kernel
theorem dX10_kindHere_45 : decode cX10_kindHere 45 = .ok (.lcmp, 1) := by decide +kernel
theorem dX10_kindHere_46 : decode cX10_kindHere 46 = .ok (.ifCond .ne 7, 3) := by decide +kernel
theorem dX10_kindHere_49 : decode cX10_kindHere 49 = .ok (.iconst 3, 1) := by decide +kernel
theorem dX10_kindHere_50 : decode cX10_kindHere 50 = .ok (.goto 28, 3) := by decide +kernel
theorem dX10_kindHere_53 : decode cX10_kindHere 53 = .ok (.lload_n 1, 1) := by decide +kernel
theorem dX10_kindHere_54 : decode cX10_kindHere 54 = .ok (.ldc2_w 275, 3) := by decide +kernel
theorem dX10_kindHere_57 : decode cX10_kindHere 57 = .ok (.lcmp, 1) := by decide +kernel
theorem dX10_kindHere_58 : decode cX10_kindHere 58 = .ok (.ifCond .ne 7, 3) := by decide +kernel
theorem dX10_kindHere_61 : decode cX10_kindHere 61 = .ok (.iconst 4, 1) := by decide +kernel
theorem dX10_kindHere_62 : decode cX10_kindHere 62 = .ok (.goto 16, 3) := by decide +kernel
theorem dX10_kindHere_65 : decode cX10_kindHere 65 = .ok (.lload_n 1, 1) := by decide +kernel
theorem dX10_kindHere_66 : decode cX10_kindHere 66 = .ok (.ldc2_w 277, 3) := by decide +kernel
theorem dX10_kindHere_69 : decode cX10_kindHere 69 = .ok (.lcmp, 1) := by decide +kernel
theorem dX10_kindHere_70 : decode cX10_kindHere 70 = .ok (.ifCond .ne 7, 3) := by decide +kernel
theorem dX10_kindHere_73 : decode cX10_kindHere 73 = .ok (.iconst 5, 1) := by decide +kernel
theorem dX10_kindHere_74 : decode cX10_kindHere 74 = .ok (.goto 4, 3) := by decide +kernel
theorem dX10_kindHere_77 : decode cX10_kindHere 77 = .ok (.iconst (-1), 1) := by decide +kernel
theorem dX10_kindHere_78 : decode cX10_kindHere 78 = .ok (.ireturn, 1) := by decide +kernel
theorem dX10_perhaps_0 : decode cX10_perhaps 0 = .ok (.iload_n 1, 1) := by decide +kernel
theorem dX10_perhaps_1 : decode cX10_perhaps 1 = .ok (.ifCond .ne 6, 3) := by decide +kernel
theorem dX10_perhaps_4 : decode cX10_perhaps 4 = .ok (.iload 4, 2) := by decide +kernel
theorem dX10_perhaps_6 : decode cX10_perhaps 6 = .ok (.ireturn, 1) := by decide +kernel
theorem dX10_perhaps_7 : decode cX10_perhaps 7 = .ok (.aload_n 0, 1) := by decide +kernel
theorem dX10_perhaps_8 : decode cX10_perhaps 8 = .ok (.iconst 1, 1) := by decide +kernel
theorem dX10_perhaps_9 : decode cX10_perhaps 9 = .ok (.invokevirtual 259, 3) := by decide +kernel
theorem dX10_perhaps_12 : decode cX10_perhaps 12 = .ok (.aload_n 0, 1) := by decide +kernel
theorem dX10_perhaps_13 : decode cX10_perhaps 13 = .ok (.iload_n 2, 1) := by decide +kernel
theorem dX10_perhaps_14 : decode cX10_perhaps 14 = .ok (.iload_n 3, 1) := by decide +kernel
theorem dX10_perhaps_15 : decode cX10_perhaps 15 = .ok (.invokevirtual 279, 3) := by decide +kernel
theorem dX10_perhaps_18 : decode cX10_perhaps 18 = .ok (.aload_n 0, 1) := by decide +kernel
theorem dX10_perhaps_19 : decode cX10_perhaps 19 = .ok (.getfield 256, 3) := by decide +kernel
theorem dX10_perhaps_22 : decode cX10_perhaps 22 = .ok (.ireturn, 1) := by decide +kernel
theorem dX10_phraseItem_0 : decode cX10_phraseItem 0 = .ok (.aload_n 0, 1) := by decide +kernel
theorem dX10_phraseItem_1 : decode cX10_phraseItem 1 = .ok (.aload_n 0, 1) := by decide +kernel
theorem dX10_phraseItem_2 : decode cX10_phraseItem 2 = .ok (.getfield 7, 3) := by decide +kernel
theorem dX10_phraseItem_5 : decode cX10_phraseItem 5 = .ok (.iconst 0, 1) := by decide +kernel
theorem dX10_phraseItem_6 : decode cX10_phraseItem 6 = .ok (.iaload, 1) := by decide +kernel
theorem dX10_phraseItem_7 : decode cX10_phraseItem 7 = .ok (.bipush 12, 2) := by decide +kernel
theorem dX10_phraseItem_9 : decode cX10_phraseItem 9 = .ok (.if_icmp .ge 7, 3) := by decide +kernel
theorem dX10_phraseItem_12 : decode cX10_phraseItem 12 = .ok (.iconst 1, 1) := by decide +kernel
theorem dX10_phraseItem_13 : decode cX10_phraseItem 13 = .ok (.goto 4, 3) := by decide +kernel
theorem dX10_phraseItem_16 : decode cX10_phraseItem 16 = .ok (.iconst 0, 1) := by decide +kernel
theorem dX10_phraseItem_17 : decode cX10_phraseItem 17 = .ok (.invokevirtual 259, 3) := by decide +kernel
theorem dX10_phraseItem_20 : decode cX10_phraseItem 20 = .ok (.aload_n 0, 1) := by decide +kernel
theorem dX10_phraseItem_21 : decode cX10_phraseItem 21 = .ok (.iconst 0, 1) := by decide +kernel
theorem dX10_phraseItem_22 : decode cX10_phraseItem 22 = .ok (.bipush 9, 2) := by decide +kernel
theorem dX10_phraseItem_24 : decode cX10_phraseItem 24 = .ok (.invokevirtual 279, 3) := by decide +kernel
theorem dX10_phraseItem_27 : decode cX10_phraseItem 27 = .ok (.aload_n 0, 1) := by decide +kernel
theorem dX10_phraseItem_28 : decode cX10_phraseItem 28 = .ok (.getfield 256, 3) := by decide +kernel
theorem dX10_phraseItem_31 : decode cX10_phraseItem 31 = .ok (.istore_n 2, 1) := by decide +kernel
theorem dX10_phraseItem_32 : decode cX10_phraseItem 32 = .ok (.aload_n 0, 1) := by decide +kernel
theorem dX10_phraseItem_33 : decode cX10_phraseItem 33 = .ok (.aload_n 0, 1) := by decide +kernel
theorem dX10_phraseItem_34 : decode cX10_phraseItem 34 = .ok (.invokevirtual 263, 3) := by decide +kernel
theorem dX10_phraseItem_37 : decode cX10_phraseItem 37 = .ok (.ldc2_w 281, 3) := by decide +kernel
theorem dX10_phraseItem_40 : decode cX10_phraseItem 40 = .ok (.lcmp, 1) := by decide +kernel
theorem dX10_phraseItem_41 : decode cX10_phraseItem 41 = .ok (.ifCond .ne 7, 3) := by decide +kernel
theorem dX10_phraseItem_44 : decode cX10_phraseItem 44 = .ok (.iconst 1, 1) := by decide +kernel
theorem dX10_phraseItem_45 : decode cX10_phraseItem 45 = .ok (.goto 4, 3) := by decide +kernel
theorem dX10_phraseItem_48 : decode cX10_phraseItem 48 = .ok (.iconst 0, 1) := by decide +kernel
theorem dX10_phraseItem_49 : decode cX10_phraseItem 49 = .ok (.iconst 1, 1) := by decide +kernel
theorem dX10_phraseItem_50 : decode cX10_phraseItem 50 = .ok (.bipush 60, 2) := by decide +kernel
theorem dX10_phraseItem_52 : decode cX10_phraseItem 52 = .ok (.iconst 5, 1) := by decide +kernel
theorem dX10_phraseItem_53 : decode cX10_phraseItem 53 = .ok (.invokevirtual 283, 3) := by decide +kernel
theorem dX10_phraseItem_56 : decode cX10_phraseItem 56 = .ok (.istore_n 3, 1) := by decide +kernel
theorem dX10_phraseItem_57 : decode cX10_phraseItem 57 = .ok (.aload_n 0, 1) := by decide +kernel
theorem dX10_phraseItem_58 : decode cX10_phraseItem 58 = .ok (.aload_n 0, 1) := by decide +kernel
theorem dX10_phraseItem_59 : decode cX10_phraseItem 59 = .ok (.invokevirtual 263, 3) := by decide +kernel
theorem dX10_phraseItem_62 : decode cX10_phraseItem 62 = .ok (.ldc2_w 287, 3) := by decide +kernel
theorem dX10_phraseItem_65 : decode cX10_phraseItem 65 = .ok (.lcmp, 1) := by decide +kernel
theorem dX10_phraseItem_66 : decode cX10_phraseItem 66 = .ok (.ifCond .ne 7, 3) := by decide +kernel
theorem dX10_phraseItem_69 : decode cX10_phraseItem 69 = .ok (.iconst 1, 1) := by decide +kernel
theorem dX10_phraseItem_70 : decode cX10_phraseItem 70 = .ok (.goto 4, 3) := by decide +kernel
theorem dX10_phraseItem_73 : decode cX10_phraseItem 73 = .ok (.iconst 0, 1) := by decide +kernel
theorem dX10_phraseItem_74 : decode cX10_phraseItem 74 = .ok (.iconst 0, 1) := by decide +kernel
theorem dX10_phraseItem_75 : decode cX10_phraseItem 75 = .ok (.bipush 10, 2) := by decide +kernel
theorem dX10_phraseItem_77 : decode cX10_phraseItem 77 = .ok (.bipush 7, 2) := by decide +kernel
theorem dX10_phraseItem_79 : decode cX10_phraseItem 79 = .ok (.invokevirtual 283, 3) := by decide +kernel
theorem dX10_phraseItem_82 : decode cX10_phraseItem 82 = .ok (.istore 4, 2) := by decide +kernel
theorem dX10_phraseItem_84 : decode cX10_phraseItem 84 = .ok (.aload_n 0, 1) := by decide +kernel
theorem dX10_phraseItem_85 : decode cX10_phraseItem 85 = .ok (.getfield 245, 3) := by decide +kernel
theorem dX10_phraseItem_88 : decode cX10_phraseItem 88 = .ok (.ifCond .ne 14, 3) := by decide +kernel
theorem dX10_phraseItem_91 : decode cX10_phraseItem 91 = .ok (.aload_n 0, 1) := by decide +kernel
theorem dX10_phraseItem_92 : decode cX10_phraseItem 92 = .ok (.iload_n 1, 1) := by decide +kernel
theorem dX10_phraseItem_93 : decode cX10_phraseItem 93 = .ok (.iload_n 2, 1) := by decide +kernel
theorem dX10_phraseItem_94 : decode cX10_phraseItem 94 = .ok (.iload_n 3, 1) := by decide +kernel
theorem dX10_phraseItem_95 : decode cX10_phraseItem 95 = .ok (.iload 4, 2) := by decide +kernel
theorem dX10_phraseItem_97 : decode cX10_phraseItem 97 = .ok (.invokevirtual 72, 3) := by decide +kernel
theorem dX10_phraseItem_100 : decode cX10_phraseItem 100 = .ok (.istore 5, 2) := by decide +kernel
theorem dX10_phraseItem_102 : decode cX10_phraseItem 102 = .ok (.return_, 1) := by decide +kernel
theorem dX10_wantItem_0 : decode cX10_wantItem 0 = .ok (.aload_n 0, 1) := by decide +kernel
theorem dX10_wantItem_1 : decode cX10_wantItem 1 = .ok (.aload_n 0, 1) := by decide +kernel
theorem dX10_wantItem_2 : decode cX10_wantItem 2 = .ok (.getfield 7, 3) := by decide +kernel
theorem dX10_wantItem_5 : decode cX10_wantItem 5 = .ok (.iconst 1, 1) := by decide +kernel
theorem dX10_wantItem_6 : decode cX10_wantItem 6 = .ok (.iaload, 1) := by decide +kernel
theorem dX10_wantItem_7 : decode cX10_wantItem 7 = .ok (.bipush 12, 2) := by decide +kernel
theorem dX10_wantItem_9 : decode cX10_wantItem 9 = .ok (.if_icmp .ge 7, 3) := by decide +kernel
theorem dX10_wantItem_12 : decode cX10_wantItem 12 = .ok (.iconst 1, 1) := by decide +kernel
theorem dX10_wantItem_13 : decode cX10_wantItem 13 = .ok (.goto 4, 3) := by decide +kernel
theorem dX10_wantItem_16 : decode cX10_wantItem 16 = .ok (.iconst 0, 1) := by decide +kernel
theorem dX10_wantItem_17 : decode cX10_wantItem 17 = .ok (.invokevirtual 259, 3) := by decide +kernel
theorem dX10_wantItem_20 : decode cX10_wantItem 20 = .ok (.aload_n 0, 1) := by decide +kernel
theorem dX10_wantItem_21 : decode cX10_wantItem 21 = .ok (.iconst 0, 1) := by decide +kernel
theorem dX10_wantItem_22 : decode cX10_wantItem 22 = .ok (.bipush 9, 2) := by decide +kernel
theorem dX10_wantItem_24 : decode cX10_wantItem 24 = .ok (.invokevirtual 279, 3) := by decide +kernel
theorem dX10_wantItem_27 : decode cX10_wantItem 27 = .ok (.aload_n 0, 1) := by decide +kernel
theorem dX10_wantItem_28 : decode cX10_wantItem 28 = .ok (.getfield 256, 3) := by decide +kernel
theorem dX10_wantItem_31 : decode cX10_wantItem 31 = .ok (.istore_n 1, 1) := by decide +kernel
theorem dX10_wantItem_32 : decode cX10_wantItem 32 = .ok (.aload_n 0, 1) := by decide +kernel
theorem dX10_wantItem_33 : decode cX10_wantItem 33 = .ok (.aload_n 0, 1) := by decide +kernel
theorem dX10_wantItem_34 : decode cX10_wantItem 34 = .ok (.invokevirtual 263, 3) := by decide +kernel
theorem dX10_wantItem_37 : decode cX10_wantItem 37 = .ok (.ldc2_w 289, 3) := by decide +kernel
theorem dX10_wantItem_40 : decode cX10_wantItem 40 = .ok (.lcmp, 1) := by decide +kernel
theorem dX10_wantItem_41 : decode cX10_wantItem 41 = .ok (.ifCond .ne 7, 3) := by decide +kernel
theorem dX10_wantItem_44 : decode cX10_wantItem 44 = .ok (.iconst 1, 1) := by decide +kernel
theorem dX10_wantItem_45 : decode cX10_wantItem 45 = .ok (.goto 4, 3) := by decide +kernel
theorem dX10_wantItem_48 : decode cX10_wantItem 48 = .ok (.iconst 0, 1) := by decide +kernel
theorem dX10_wantItem_49 : decode cX10_wantItem 49 = .ok (.invokevirtual 259, 3) := by decide +kernel
theorem dX10_wantItem_52 : decode cX10_wantItem 52 = .ok (.aload_n 0, 1) := by decide +kernel
theorem dX10_wantItem_53 : decode cX10_wantItem 53 = .ok (.iconst 0, 1) := by decide +kernel
theorem dX10_wantItem_54 : decode cX10_wantItem 54 = .ok (.bipush 99, 2) := by decide +kernel
theorem dX10_wantItem_56 : decode cX10_wantItem 56 = .ok (.invokevirtual 279, 3) := by decide +kernel
theorem dX10_wantItem_59 : decode cX10_wantItem 59 = .ok (.aload_n 0, 1) := by decide +kernel
theorem dX10_wantItem_60 : decode cX10_wantItem 60 = .ok (.getfield 256, 3) := by decide +kernel
theorem dX10_wantItem_63 : decode cX10_wantItem 63 = .ok (.istore_n 2, 1) := by decide +kernel
theorem dX10_wantItem_64 : decode cX10_wantItem 64 = .ok (.aload_n 0, 1) := by decide +kernel
theorem dX10_wantItem_65 : decode cX10_wantItem 65 = .ok (.aload_n 0, 1) := by decide +kernel
theorem dX10_wantItem_66 : decode cX10_wantItem 66 = .ok (.invokevirtual 263, 3) := by decide +kernel
theorem dX10_wantItem_69 : decode cX10_wantItem 69 = .ok (.ldc2_w 291, 3) := by decide +kernel
theorem dX10_wantItem_72 : decode cX10_wantItem 72 = .ok (.lcmp, 1) := by decide +kernel
theorem dX10_wantItem_73 : decode cX10_wantItem 73 = .ok (.ifCond .ne 7, 3) := by decide +kernel
theorem dX10_wantItem_76 : decode cX10_wantItem 76 = .ok (.iconst 1, 1) := by decide +kernel
theorem dX10_wantItem_77 : decode cX10_wantItem 77 = .ok (.goto 4, 3) := by decide +kernel
theorem dX10_wantItem_80 : decode cX10_wantItem 80 = .ok (.iconst 0, 1) := by decide +kernel
theorem dX10_wantItem_81 : decode cX10_wantItem 81 = .ok (.invokevirtual 259, 3) := by decide +kernel
theorem dX10_wantItem_84 : decode cX10_wantItem 84 = .ok (.aload_n 0, 1) := by decide +kernel
theorem dX10_wantItem_85 : decode cX10_wantItem 85 = .ok (.iconst 0, 1) := by decide +kernel
theorem dX10_wantItem_86 : decode cX10_wantItem 86 = .ok (.bipush 99, 2) := by decide +kernel
theorem dX10_wantItem_88 : decode cX10_wantItem 88 = .ok (.invokevirtual 279, 3) := by decide +kernel
theorem dX10_wantItem_91 : decode cX10_wantItem 91 = .ok (.aload_n 0, 1) := by decide +kernel
theorem dX10_wantItem_92 : decode cX10_wantItem 92 = .ok (.getfield 256, 3) := by decide +kernel
theorem dX10_wantItem_95 : decode cX10_wantItem 95 = .ok (.istore_n 3, 1) := by decide +kernel
theorem dX10_wantItem_96 : decode cX10_wantItem 96 = .ok (.aload_n 0, 1) := by decide +kernel
theorem dX10_wantItem_97 : decode cX10_wantItem 97 = .ok (.invokevirtual 263, 3) := by decide +kernel
theorem dX10_wantItem_100 : decode cX10_wantItem 100 = .ok (.ldc2_w 293, 3) := by decide +kernel
theorem dX10_wantItem_103 : decode cX10_wantItem 103 = .ok (.lcmp, 1) := by decide +kernel
theorem dX10_wantItem_104 : decode cX10_wantItem 104 = .ok (.ifCond .ne 7, 3) := by decide +kernel
theorem dX10_wantItem_107 : decode cX10_wantItem 107 = .ok (.iconst 1, 1) := by decide +kernel
theorem dX10_wantItem_108 : decode cX10_wantItem 108 = .ok (.goto 4, 3) := by decide +kernel
theorem dX10_wantItem_111 : decode cX10_wantItem 111 = .ok (.iconst 0, 1) := by decide +kernel
theorem dX10_wantItem_112 : decode cX10_wantItem 112 = .ok (.istore 4, 2) := by decide +kernel
theorem dX10_wantItem_114 : decode cX10_wantItem 114 = .ok (.iload 4, 2) := by decide +kernel
theorem dX10_wantItem_116 : decode cX10_wantItem 116 = .ok (.ifCond .eq 8, 3) := by decide +kernel
theorem dX10_wantItem_119 : decode cX10_wantItem 119 = .ok (.aload_n 0, 1) := by decide +kernel
theorem dX10_wantItem_120 : decode cX10_wantItem 120 = .ok (.iconst 1, 1) := by decide +kernel
theorem dX10_wantItem_121 : decode cX10_wantItem 121 = .ok (.invokevirtual 259, 3) := by decide +kernel
theorem dX10_wantItem_124 : decode cX10_wantItem 124 = .ok (.aload_n 0, 1) := by decide +kernel
theorem dX10_wantItem_125 : decode cX10_wantItem 125 = .ok (.invokevirtual 263, 3) := by decide +kernel
theorem dX10_wantItem_128 : decode cX10_wantItem 128 = .ok (.ldc2_w 295, 3) := by decide +kernel
theorem dX10_wantItem_131 : decode cX10_wantItem 131 = .ok (.lcmp, 1) := by decide +kernel
theorem dX10_wantItem_132 : decode cX10_wantItem 132 = .ok (.ifCond .ne 7, 3) := by decide +kernel
theorem dX10_wantItem_135 : decode cX10_wantItem 135 = .ok (.iconst 1, 1) := by decide +kernel
theorem dX10_wantItem_136 : decode cX10_wantItem 136 = .ok (.goto 4, 3) := by decide +kernel
theorem dX10_wantItem_139 : decode cX10_wantItem 139 = .ok (.iconst 0, 1) := by decide +kernel
theorem dX10_wantItem_140 : decode cX10_wantItem 140 = .ok (.istore 5, 2) := by decide +kernel
theorem dX10_wantItem_142 : decode cX10_wantItem 142 = .ok (.iload 5, 2) := by decide +kernel
theorem dX10_wantItem_144 : decode cX10_wantItem 144 = .ok (.ifCond .eq 8, 3) := by decide +kernel
theorem dX10_wantItem_147 : decode cX10_wantItem 147 = .ok (.aload_n 0, 1) := by decide +kernel
theorem dX10_wantItem_148 : decode cX10_wantItem 148 = .ok (.iconst 1, 1) := by decide +kernel
theorem dX10_wantItem_149 : decode cX10_wantItem 149 = .ok (.invokevirtual 259, 3) := by decide +kernel
theorem dX10_wantItem_152 : decode cX10_wantItem 152 = .ok (.aload_n 0, 1) := by decide +kernel
theorem dX10_wantItem_153 : decode cX10_wantItem 153 = .ok (.getfield 245, 3) := by decide +kernel
theorem dX10_wantItem_156 : decode cX10_wantItem 156 = .ok (.ifCond .ne 60, 3) := by decide +kernel
theorem dX10_wantItem_159 : decode cX10_wantItem 159 = .ok (.aload_n 0, 1) := by decide +kernel
theorem dX10_wantItem_160 : decode cX10_wantItem 160 = .ok (.iload_n 1, 1) := by decide +kernel
theorem dX10_wantItem_161 : decode cX10_wantItem 161 = .ok (.iload_n 2, 1) := by decide +kernel
theorem dX10_wantItem_162 : decode cX10_wantItem 162 = .ok (.iload_n 3, 1) := by decide +kernel
theorem dX10_wantItem_163 : decode cX10_wantItem 163 = .ok (.invokevirtual 96, 3) := by decide +kernel
theorem dX10_wantItem_166 : decode cX10_wantItem 166 = .ok (.istore 6, 2) := by decide +kernel
theorem dX10_wantItem_168 : decode cX10_wantItem 168 = .ok (.aload_n 0, 1) := by decide +kernel
theorem dX10_wantItem_169 : decode cX10_wantItem 169 = .ok (.getfield 7, 3) := by decide +kernel
theorem dX10_wantItem_172 : decode cX10_wantItem 172 = .ok (.bipush 78, 2) := by decide +kernel
theorem dX10_wantItem_174 : decode cX10_wantItem 174 = .ok (.iconst 5, 1) := by decide +kernel
theorem dX10_wantItem_175 : decode cX10_wantItem 175 = .ok (.iload 6, 2) := by decide +kernel
theorem dX10_wantItem_177 : decode cX10_wantItem 177 = .ok (.imul, 1) := by decide +kernel
theorem dX10_wantItem_178 : decode cX10_wantItem 178 = .ok (.iadd, 1) := by decide +kernel
theorem dX10_wantItem_179 : decode cX10_wantItem 179 = .ok (.iconst 3, 1) := by decide +kernel
theorem dX10_wantItem_180 : decode cX10_wantItem 180 = .ok (.iadd, 1) := by decide +kernel
theorem dX10_wantItem_181 : decode cX10_wantItem 181 = .ok (.iload 4, 2) := by decide +kernel
theorem dX10_wantItem_183 : decode cX10_wantItem 183 = .ok (.ifCond .eq 7, 3) := by decide +kernel
theorem dX10_wantItem_186 : decode cX10_wantItem 186 = .ok (.iconst 1, 1) := by decide +kernel
theorem dX10_wantItem_187 : decode cX10_wantItem 187 = .ok (.goto 4, 3) := by decide +kernel
theorem dX10_wantItem_190 : decode cX10_wantItem 190 = .ok (.iconst 0, 1) := by decide +kernel
theorem dX10_wantItem_191 : decode cX10_wantItem 191 = .ok (.iastore, 1) := by decide +kernel
theorem dX10_wantItem_192 : decode cX10_wantItem 192 = .ok (.aload_n 0, 1) := by decide +kernel
theorem dX10_wantItem_193 : decode cX10_wantItem 193 = .ok (.getfield 7, 3) := by decide +kernel
theorem dX10_wantItem_196 : decode cX10_wantItem 196 = .ok (.bipush 78, 2) := by decide +kernel
theorem dX10_wantItem_198 : decode cX10_wantItem 198 = .ok (.iconst 5, 1) := by decide +kernel
theorem dX10_wantItem_199 : decode cX10_wantItem 199 = .ok (.iload 6, 2) := by decide +kernel
theorem dX10_wantItem_201 : decode cX10_wantItem 201 = .ok (.imul, 1) := by decide +kernel
theorem dX10_wantItem_202 : decode cX10_wantItem 202 = .ok (.iadd, 1) := by decide +kernel
theorem dX10_wantItem_203 : decode cX10_wantItem 203 = .ok (.iconst 4, 1) := by decide +kernel
theorem dX10_wantItem_204 : decode cX10_wantItem 204 = .ok (.iadd, 1) := by decide +kernel
theorem dX10_wantItem_205 : decode cX10_wantItem 205 = .ok (.iload 5, 2) := by decide +kernel
theorem dX10_wantItem_207 : decode cX10_wantItem 207 = .ok (.ifCond .eq 7, 3) := by decide +kernel
theorem dX10_wantItem_210 : decode cX10_wantItem 210 = .ok (.iconst 1, 1) := by decide +kernel
theorem dX10_wantItem_211 : decode cX10_wantItem 211 = .ok (.goto 4, 3) := by decide +kernel
theorem dX10_wantItem_214 : decode cX10_wantItem 214 = .ok (.iconst 0, 1) := by decide +kernel
theorem dX10_wantItem_215 : decode cX10_wantItem 215 = .ok (.iastore, 1) := by decide +kernel
theorem dX10_wantItem_216 : decode cX10_wantItem 216 = .ok (.return_, 1) := by decide +kernel
theorem dX10_orderOne_0 : decode cX10_orderOne 0 = .ok (.iconst 0, 1) := by decide +kernel
theorem dX10_orderOne_1 : decode cX10_orderOne 1 = .ok (.istore_n 1, 1) := by decide +kernel
theorem dX10_orderOne_2 : decode cX10_orderOne 2 = .ok (.aload_n 0, 1) := by decide +kernel
theorem dX10_orderOne_3 : decode cX10_orderOne 3 = .ok (.getfield 233, 3) := by decide +kernel
theorem dX10_orderOne_6 : decode cX10_orderOne 6 = .ok (.istore_n 2, 1) := by decide +kernel
theorem dX10_orderOne_7 : decode cX10_orderOne 7 = .ok (.iload_n 2, 1) := by decide +kernel
theorem dX10_orderOne_8 : decode cX10_orderOne 8 = .ok (.aload_n 0, 1) := by decide +kernel
theorem dX10_orderOne_9 : decode cX10_orderOne 9 = .ok (.getfield 230, 3) := by decide +kernel
theorem dX10_orderOne_12 : decode cX10_orderOne 12 = .ok (.if_icmp .ge 49, 3) := by decide +kernel
theorem dX10_orderOne_15 : decode cX10_orderOne 15 = .ok (.aload_n 0, 1) := by decide +kernel
theorem dX10_orderOne_16 : decode cX10_orderOne 16 = .ok (.aload_n 0, 1) := by decide +kernel
theorem dX10_orderOne_17 : decode cX10_orderOne 17 = .ok (.getfield 233, 3) := by decide +kernel
theorem dX10_orderOne_20 : decode cX10_orderOne 20 = .ok (.invokevirtual 236, 3) := by decide +kernel
theorem dX10_orderOne_23 : decode cX10_orderOne 23 = .ok (.invokestatic 242, 3) := by decide +kernel
theorem dX10_orderOne_26 : decode cX10_orderOne 26 = .ok (.ifCond .eq 35, 3) := by decide +kernel
theorem dX10_orderOne_29 : decode cX10_orderOne 29 = .ok (.iload_n 1, 1) := by decide +kernel
theorem dX10_orderOne_30 : decode cX10_orderOne 30 = .ok (.sipush 999, 3) := by decide +kernel
theorem dX10_orderOne_33 : decode cX10_orderOne 33 = .ok (.if_icmp .le 7, 3) := by decide +kernel
theorem dX10_orderOne_36 : decode cX10_orderOne 36 = .ok (.iload_n 1, 1) := by decide +kernel
theorem dX10_orderOne_37 : decode cX10_orderOne 37 = .ok (.goto 17, 3) := by decide +kernel
theorem dX10_orderOne_40 : decode cX10_orderOne 40 = .ok (.bipush 10, 2) := by decide +kernel
theorem dX10_orderOne_42 : decode cX10_orderOne 42 = .ok (.iload_n 1, 1) := by decide +kernel
theorem dX10_orderOne_43 : decode cX10_orderOne 43 = .ok (.imul, 1) := by decide +kernel
theorem dX10_orderOne_44 : decode cX10_orderOne 44 = .ok (.aload_n 0, 1) := by decide +kernel
theorem dX10_orderOne_45 : decode cX10_orderOne 45 = .ok (.getfield 28, 3) := by decide +kernel
theorem dX10_orderOne_48 : decode cX10_orderOne 48 = .ok (.iload_n 2, 1) := by decide +kernel
theorem dX10_orderOne_49 : decode cX10_orderOne 49 = .ok (.iaload, 1) := by decide +kernel
theorem dX10_orderOne_50 : decode cX10_orderOne 50 = .ok (.iadd, 1) := by decide +kernel
theorem dX10_orderOne_51 : decode cX10_orderOne 51 = .ok (.bipush 48, 2) := by decide +kernel
theorem dX10_orderOne_53 : decode cX10_orderOne 53 = .ok (.isub, 1) := by decide +kernel
theorem dX10_orderOne_54 : decode cX10_orderOne 54 = .ok (.istore_n 1, 1) := by decide +kernel
theorem dX10_orderOne_55 : decode cX10_orderOne 55 = .ok (.iinc 2 1, 3) := by decide +kernel
theorem dX10_orderOne_58 : decode cX10_orderOne 58 = .ok (.goto (-51), 3) := by decide +kernel
theorem dX10_orderOne_61 : decode cX10_orderOne 61 = .ok (.aload_n 0, 1) := by decide +kernel
theorem dX10_orderOne_62 : decode cX10_orderOne 62 = .ok (.aload_n 0, 1) := by decide +kernel
theorem dX10_orderOne_63 : decode cX10_orderOne 63 = .ok (.aload_n 0, 1) := by decide +kernel
theorem dX10_orderOne_64 : decode cX10_orderOne 64 = .ok (.getfield 233, 3) := by decide +kernel
theorem dX10_orderOne_67 : decode cX10_orderOne 67 = .ok (.invokevirtual 236, 3) := by decide +kernel
theorem dX10_orderOne_70 : decode cX10_orderOne 70 = .ok (.invokestatic 242, 3) := by decide +kernel
theorem dX10_orderOne_73 : decode cX10_orderOne 73 = .ok (.ifCond .eq 23, 3) := by decide +kernel
theorem dX10_orderOne_76 : decode cX10_orderOne 76 = .ok (.aload_n 0, 1) := by decide +kernel
theorem dX10_orderOne_77 : decode cX10_orderOne 77 = .ok (.iload_n 1, 1) := by decide +kernel
theorem dX10_orderOne_78 : decode cX10_orderOne 78 = .ok (.invokevirtual 79, 3) := by decide +kernel
theorem dX10_orderOne_81 : decode cX10_orderOne 81 = .ok (.ifCond .eq 15, 3) := by decide +kernel
theorem dX10_orderOne_84 : decode cX10_orderOne 84 = .ok (.aload_n 0, 1) := by decide +kernel
theorem dX10_orderOne_85 : decode cX10_orderOne 85 = .ok (.iload_n 1, 1) := by decide +kernel
theorem dX10_orderOne_86 : decode cX10_orderOne 86 = .ok (.invokevirtual 157, 3) := by decide +kernel
theorem dX10_orderOne_89 : decode cX10_orderOne 89 = .ok (.ifCond .ge 7, 3) := by decide +kernel
theorem dX10_orderOne_92 : decode cX10_orderOne 92 = .ok (.iconst 1, 1) := by decide +kernel
theorem dX10_orderOne_93 : decode cX10_orderOne 93 = .ok (.goto 4, 3) := by decide +kernel
theorem dX10_orderOne_96 : decode cX10_orderOne 96 = .ok (.iconst 0, 1) := by decide +kernel
theorem dX10_orderOne_97 : decode cX10_orderOne 97 = .ok (.invokevirtual 259, 3) := by decide +kernel
theorem dX10_orderOne_100 : decode cX10_orderOne 100 = .ok (.aload_n 0, 1) := by decide +kernel
theorem dX10_orderOne_101 : decode cX10_orderOne 101 = .ok (.getfield 245, 3) := by decide +kernel
theorem dX10_orderOne_104 : decode cX10_orderOne 104 = .ok (.ifCond .ne 29, 3) := by decide +kernel
theorem dX10_orderOne_107 : decode cX10_orderOne 107 = .ok (.aload_n 0, 1) := by decide +kernel
theorem dX10_orderOne_108 : decode cX10_orderOne 108 = .ok (.getfield 7, 3) := by decide +kernel
theorem dX10_orderOne_111 : decode cX10_orderOne 111 = .ok (.sipush 138, 3) := by decide +kernel
theorem dX10_orderOne_114 : decode cX10_orderOne 114 = .ok (.aload_n 0, 1) := by decide +kernel
theorem dX10_orderOne_115 : decode cX10_orderOne 115 = .ok (.getfield 7, 3) := by decide +kernel
theorem dX10_orderOne_118 : decode cX10_orderOne 118 = .ok (.iconst 5, 1) := by decide +kernel
theorem dX10_orderOne_119 : decode cX10_orderOne 119 = .ok (.iaload, 1) := by decide +kernel
theorem dX10_orderOne_120 : decode cX10_orderOne 120 = .ok (.iadd, 1) := by decide +kernel
theorem dX10_orderOne_121 : decode cX10_orderOne 121 = .ok (.iload_n 1, 1) := by decide +kernel
theorem dX10_orderOne_122 : decode cX10_orderOne 122 = .ok (.iastore, 1) := by decide +kernel
theorem dX10_orderOne_123 : decode cX10_orderOne 123 = .ok (.aload_n 0, 1) := by decide +kernel
theorem dX10_orderOne_124 : decode cX10_orderOne 124 = .ok (.getfield 7, 3) := by decide +kernel
theorem dX10_orderOne_127 : decode cX10_orderOne 127 = .ok (.iconst 5, 1) := by decide +kernel
theorem dX10_orderOne_128 : decode cX10_orderOne 128 = .ok (.dup2, 1) := by decide +kernel
theorem dX10_orderOne_129 : decode cX10_orderOne 129 = .ok (.iaload, 1) := by decide +kernel
theorem dX10_orderOne_130 : decode cX10_orderOne 130 = .ok (.iconst 1, 1) := by decide +kernel
theorem dX10_orderOne_131 : decode cX10_orderOne 131 = .ok (.iadd, 1) := by decide +kernel
theorem dX10_orderOne_132 : decode cX10_orderOne 132 = .ok (.iastore, 1) := by decide +kernel
theorem dX10_orderOne_133 : decode cX10_orderOne 133 = .ok (.return_, 1) := by decide +kernel
theorem dX10_orderItem_0 : decode cX10_orderItem 0 = .ok (.aload_n 0, 1) := by decide +kernel
theorem dX10_orderItem_1 : decode cX10_orderItem 1 = .ok (.aload_n 0, 1) := by decide +kernel
theorem dX10_orderItem_2 : decode cX10_orderItem 2 = .ok (.invokevirtual 263, 3) := by decide +kernel
theorem dX10_orderItem_5 : decode cX10_orderItem 5 = .ok (.ldc2_w 297, 3) := by decide +kernel
theorem dX10_orderItem_8 : decode cX10_orderItem 8 = .ok (.lcmp, 1) := by decide +kernel
theorem dX10_orderItem_9 : decode cX10_orderItem 9 = .ok (.ifCond .ne 7, 3) := by decide +kernel
theorem dX10_orderItem_12 : decode cX10_orderItem 12 = .ok (.iconst 1, 1) := by decide +kernel
theorem dX10_orderItem_13 : decode cX10_orderItem 13 = .ok (.goto 4, 3) := by decide +kernel
theorem dX10_orderItem_16 : decode cX10_orderItem 16 = .ok (.iconst 0, 1) := by decide +kernel
theorem dX10_orderItem_17 : decode cX10_orderItem 17 = .ok (.invokevirtual 259, 3) := by decide +kernel
theorem dX10_orderItem_20 : decode cX10_orderItem 20 = .ok (.aload_n 0, 1) := by decide +kernel
theorem dX10_orderItem_21 : decode cX10_orderItem 21 = .ok (.getfield 7, 3) := by decide +kernel
theorem dX10_orderItem_24 : decode cX10_orderItem 24 = .ok (.iconst 5, 1) := by decide +kernel
theorem dX10_orderItem_25 : decode cX10_orderItem 25 = .ok (.iconst 0, 1) := by decide +kernel
theorem dX10_orderItem_26 : decode cX10_orderItem 26 = .ok (.iastore, 1) := by decide +kernel
theorem dX10_orderItem_27 : decode cX10_orderItem 27 = .ok (.aload_n 0, 1) := by decide +kernel
theorem dX10_orderItem_28 : decode cX10_orderItem 28 = .ok (.invokevirtual 299, 3) := by decide +kernel
theorem dX10_orderItem_31 : decode cX10_orderItem 31 = .ok (.aload_n 0, 1) := by decide +kernel
theorem dX10_orderItem_32 : decode cX10_orderItem 32 = .ok (.getfield 245, 3) := by decide +kernel
theorem dX10_orderItem_35 : decode cX10_orderItem 35 = .ok (.ifCond .ne 24, 3) := by decide +kernel
theorem dX10_orderItem_38 : decode cX10_orderItem 38 = .ok (.aload_n 0, 1) := by decide +kernel
theorem dX10_orderItem_39 : decode cX10_orderItem 39 = .ok (.aload_n 0, 1) := by decide +kernel
theorem dX10_orderItem_40 : decode cX10_orderItem 40 = .ok (.getfield 233, 3) := by decide +kernel
theorem dX10_orderItem_43 : decode cX10_orderItem 43 = .ok (.invokevirtual 236, 3) := by decide +kernel
theorem dX10_orderItem_46 : decode cX10_orderItem 46 = .ok (.invokestatic 242, 3) := by decide +kernel
theorem dX10_orderItem_49 : decode cX10_orderItem 49 = .ok (.ifCond .eq 10, 3) := by decide +kernel
theorem dX10_orderItem_52 : decode cX10_orderItem 52 = .ok (.aload_n 0, 1) := by decide +kernel
theorem dX10_orderItem_53 : decode cX10_orderItem 53 = .ok (.invokevirtual 299, 3) := by decide +kernel
theorem dX10_orderItem_56 : decode cX10_orderItem 56 = .ok (.goto (-25), 3) := by decide +kernel
theorem dX10_orderItem_59 : decode cX10_orderItem 59 = .ok (.return_, 1) := by decide +kernel
theorem dX10_item_0 : decode cX10_item 0 = .ok (.aload_n 0, 1) := by decide +kernel
theorem dX10_item_1 : decode cX10_item 1 = .ok (.invokevirtual 302, 3) := by decide +kernel
theorem dX10_item_4 : decode cX10_item 4 = .ok (.istore_n 1, 1) := by decide +kernel
theorem dX10_item_5 : decode cX10_item 5 = .ok (.iload_n 1, 1) := by decide +kernel
theorem dX10_item_6 : decode cX10_item 6 = .ok (.ifCond .lt 11, 3) := by decide +kernel
theorem dX10_item_9 : decode cX10_item 9 = .ok (.aload_n 0, 1) := by decide +kernel
theorem dX10_item_10 : decode cX10_item 10 = .ok (.iload_n 1, 1) := by decide +kernel
theorem dX10_item_11 : decode cX10_item 11 = .ok (.invokevirtual 305, 3) := by decide +kernel
theorem dX10_item_14 : decode cX10_item 14 = .ok (.goto 54, 3) := by decide +kernel
theorem dX10_item_17 : decode cX10_item 17 = .ok (.aload_n 0, 1) := by decide +kernel
theorem dX10_item_18 : decode cX10_item 18 = .ok (.invokevirtual 263, 3) := by decide +kernel
theorem dX10_item_21 : decode cX10_item 21 = .ok (.ldc2_w 308, 3) := by decide +kernel
theorem dX10_item_24 : decode cX10_item 24 = .ok (.lcmp, 1) := by decide +kernel
theorem dX10_item_25 : decode cX10_item 25 = .ok (.ifCond .ne 10, 3) := by decide +kernel
theorem dX10_item_28 : decode cX10_item 28 = .ok (.aload_n 0, 1) := by decide +kernel
theorem dX10_item_29 : decode cX10_item 29 = .ok (.invokevirtual 310, 3) := by decide +kernel
theorem dX10_item_32 : decode cX10_item 32 = .ok (.goto 36, 3) := by decide +kernel
theorem dX10_item_35 : decode cX10_item 35 = .ok (.aload_n 0, 1) := by decide +kernel
theorem dX10_item_36 : decode cX10_item 36 = .ok (.invokevirtual 263, 3) := by decide +kernel
theorem dX10_item_39 : decode cX10_item 39 = .ok (.ldc2_w 313, 3) := by decide +kernel
theorem dX10_item_42 : decode cX10_item 42 = .ok (.lcmp, 1) := by decide +kernel
theorem dX10_item_43 : decode cX10_item 43 = .ok (.ifCond .ne 21, 3) := by decide +kernel
theorem dX10_item_46 : decode cX10_item 46 = .ok (.aload_n 0, 1) := by decide +kernel
theorem dX10_item_47 : decode cX10_item 47 = .ok (.getfield 7, 3) := by decide +kernel
theorem dX10_item_50 : decode cX10_item 50 = .ok (.iconst 2, 1) := by decide +kernel
theorem dX10_item_51 : decode cX10_item 51 = .ok (.aload_n 0, 1) := by decide +kernel
theorem dX10_item_52 : decode cX10_item 52 = .ok (.iconst 1, 1) := by decide +kernel
theorem dX10_item_53 : decode cX10_item 53 = .ok (.iconst 1, 1) := by decide +kernel
theorem dX10_item_54 : decode cX10_item 54 = .ok (.bipush 100, 2) := by decide +kernel
theorem dX10_item_56 : decode cX10_item 56 = .ok (.iconst 0, 1) := by decide +kernel
theorem dX10_item_57 : decode cX10_item 57 = .ok (.invokevirtual 283, 3) := by decide +kernel
theorem dX10_item_60 : decode cX10_item 60 = .ok (.iastore, 1) := by decide +kernel
theorem dX10_item_61 : decode cX10_item 61 = .ok (.goto 7, 3) := by decide +kernel
theorem dX10_item_64 : decode cX10_item 64 = .ok (.aload_n 0, 1) := by decide +kernel
theorem dX10_item_65 : decode cX10_item 65 = .ok (.invokevirtual 315, 3) := by decide +kernel
theorem dX10_item_68 : decode cX10_item 68 = .ok (.return_, 1) := by decide +kernel
theorem dX10_book_0 : decode cX10_book 0 = .ok (.aload_n 0, 1) := by decide +kernel
theorem dX10_book_1 : decode cX10_book 1 = .ok (.invokevirtual 188, 3) := by decide +kernel
theorem dX10_book_4 : decode cX10_book 4 = .ok (.aload_n 0, 1) := by decide +kernel
theorem dX10_book_5 : decode cX10_book 5 = .ok (.iconst 0, 1) := by decide +kernel
theorem dX10_book_6 : decode cX10_book 6 = .ok (.putfield 230, 3) := by decide +kernel
theorem dX10_book_9 : decode cX10_book 9 = .ok (.aload_n 0, 1) := by decide +kernel
theorem dX10_book_10 : decode cX10_book 10 = .ok (.iconst 0, 1) := by decide +kernel
theorem dX10_book_11 : decode cX10_book 11 = .ok (.putfield 245, 3) := by decide +kernel
theorem dX10_book_14 : decode cX10_book 14 = .ok (.aload_n 0, 1) := by decide +kernel
theorem dX10_book_15 : decode cX10_book 15 = .ok (.invokevirtual 249, 3) := by decide +kernel
theorem dX10_book_18 : decode cX10_book 18 = .ok (.iconst 1, 1) := by decide +kernel
theorem dX10_book_19 : decode cX10_book 19 = .ok (.istore_n 1, 1) := by decide +kernel
theorem dX10_book_20 : decode cX10_book 20 = .ok (.aload_n 0, 1) := by decide +kernel
theorem dX10_book_21 : decode cX10_book 21 = .ok (.invokevirtual 318, 3) := by decide +kernel
theorem dX10_book_24 : decode cX10_book 24 = .ok (.aload_n 0, 1) := by decide +kernel
theorem dX10_book_25 : decode cX10_book 25 = .ok (.getfield 245, 3) := by decide +kernel
theorem dX10_book_28 : decode cX10_book 28 = .ok (.ifCond .ne 46, 3) := by decide +kernel
theorem dX10_book_31 : decode cX10_book 31 = .ok (.aload_n 0, 1) := by decide +kernel
theorem dX10_book_32 : decode cX10_book 32 = .ok (.getfield 233, 3) := by decide +kernel
theorem dX10_book_35 : decode cX10_book 35 = .ok (.aload_n 0, 1) := by decide +kernel
theorem dX10_book_36 : decode cX10_book 36 = .ok (.getfield 219, 3) := by decide +kernel
theorem dX10_book_39 : decode cX10_book 39 = .ok (.if_icmp .ge 35, 3) := by decide +kernel
theorem dX10_book_42 : decode cX10_book 42 = .ok (.aload_n 0, 1) := by decide +kernel
theorem dX10_book_43 : decode cX10_book 43 = .ok (.aload_n 0, 1) := by decide +kernel
theorem dX10_book_44 : decode cX10_book 44 = .ok (.aload_n 0, 1) := by decide +kernel
theorem dX10_book_45 : decode cX10_book 45 = .ok (.getfield 233, 3) := by decide +kernel
theorem dX10_book_48 : decode cX10_book 48 = .ok (.invokevirtual 236, 3) := by decide +kernel
theorem dX10_book_51 : decode cX10_book 51 = .ok (.bipush 59, 2) := by decide +kernel
theorem dX10_book_53 : decode cX10_book 53 = .ok (.if_icmp .ne 7, 3) := by decide +kernel
theorem dX10_book_56 : decode cX10_book 56 = .ok (.iconst 1, 1) := by decide +kernel
theorem dX10_book_57 : decode cX10_book 57 = .ok (.goto 4, 3) := by decide +kernel
theorem dX10_book_60 : decode cX10_book 60 = .ok (.iconst 0, 1) := by decide +kernel
theorem dX10_book_61 : decode cX10_book 61 = .ok (.invokevirtual 259, 3) := by decide +kernel
theorem dX10_book_64 : decode cX10_book 64 = .ok (.aload_n 0, 1) := by decide +kernel
theorem dX10_book_65 : decode cX10_book 65 = .ok (.invokevirtual 318, 3) := by decide +kernel
theorem dX10_book_68 : decode cX10_book 68 = .ok (.iinc 1 1, 3) := by decide +kernel
theorem dX10_book_71 : decode cX10_book 71 = .ok (.goto (-47), 3) := by decide +kernel
theorem dX10_book_74 : decode cX10_book 74 = .ok (.aload_n 0, 1) := by decide +kernel
theorem dX10_book_75 : decode cX10_book 75 = .ok (.iconst 0, 1) := by decide +kernel
theorem dX10_book_76 : decode cX10_book 76 = .ok (.putfield 219, 3) := by decide +kernel
theorem dX10_book_79 : decode cX10_book 79 = .ok (.aload_n 0, 1) := by decide +kernel
theorem dX10_book_80 : decode cX10_book 80 = .ok (.getfield 245, 3) := by decide +kernel
theorem dX10_book_83 : decode cX10_book 83 = .ok (.ifCond .eq 14, 3) := by decide +kernel
theorem dX10_book_86 : decode cX10_book 86 = .ok (.aload_n 0, 1) := by decide +kernel
theorem dX10_book_87 : decode cX10_book 87 = .ok (.invokevirtual 194, 3) := by decide +kernel
theorem dX10_book_90 : decode cX10_book 90 = .ok (.iconst (-1), 1) := by decide +kernel
theorem dX10_book_91 : decode cX10_book 91 = .ok (.aload_n 0, 1) := by decide +kernel
theorem dX10_book_92 : decode cX10_book 92 = .ok (.getfield 233, 3) := by decide +kernel
theorem dX10_book_95 : decode cX10_book 95 = .ok (.isub, 1) := by decide +kernel
theorem dX10_book_96 : decode cX10_book 96 = .ok (.ireturn, 1) := by decide +kernel
theorem dX10_book_97 : decode cX10_book 97 = .ok (.iload_n 1, 1) := by decide +kernel
theorem dX10_book_98 : decode cX10_book 98 = .ok (.ireturn, 1) := by decide +kernel
theorem dX10_isOne_0 : decode cX10_isOne 0 = .ok (.iload_n 0, 1) := by decide +kernel
theorem dX10_isOne_1 : decode cX10_isOne 1 = .ok (.i2l, 1) := by decide +kernel
theorem dX10_isOne_2 : decode cX10_isOne 2 = .ok (.lconst 0, 1) := by decide +kernel
theorem dX10_isOne_3 : decode cX10_isOne 3 = .ok (.ldc2_w 321, 3) := by decide +kernel
theorem dX10_isOne_6 : decode cX10_isOne 6 = .ok (.invokestatic 45, 3) := by decide +kernel
theorem dX10_isOne_9 : decode cX10_isOne 9 = .ok (.ireturn, 1) := by decide +kernel
theorem dX10_sheet_0 : decode cX10_sheet 0 = .ok (.iload_n 1, 1) := by decide +kernel
theorem dX10_sheet_1 : decode cX10_sheet 1 = .ok (.invokestatic 323, 3) := by decide +kernel
theorem dX10_sheet_4 : decode cX10_sheet 4 = .ok (.ifCond .eq 25, 3) := by decide +kernel
theorem dX10_sheet_7 : decode cX10_sheet 7 = .ok (.iload_n 2, 1) := by decide +kernel
theorem dX10_sheet_8 : decode cX10_sheet 8 = .ok (.ifCond .eq 28, 3) := by decide +kernel
theorem dX10_sheet_11 : decode cX10_sheet 11 = .ok (.iload_n 2, 1) := by decide +kernel
theorem dX10_sheet_12 : decode cX10_sheet 12 = .ok (.bipush 8, 2) := by decide +kernel
theorem dX10_sheet_14 : decode cX10_sheet 14 = .ok (.if_icmp .eq 22, 3) := by decide +kernel
theorem dX10_sheet_17 : decode cX10_sheet 17 = .ok (.iload_n 2, 1) := by decide +kernel
theorem dX10_sheet_18 : decode cX10_sheet 18 = .ok (.bipush 16, 2) := by decide +kernel
theorem dX10_sheet_20 : decode cX10_sheet 20 = .ok (.if_icmp .eq 16, 3) := by decide +kernel
theorem dX10_sheet_23 : decode cX10_sheet 23 = .ok (.iload_n 2, 1) := by decide +kernel
theorem dX10_sheet_24 : decode cX10_sheet 24 = .ok (.bipush 64, 2) := by decide +kernel
theorem dX10_sheet_26 : decode cX10_sheet 26 = .ok (.if_icmp .eq 10, 3) := by decide +kernel
theorem dX10_sheet_29 : decode cX10_sheet 29 = .ok (.aload_n 0, 1) := by decide +kernel
theorem dX10_sheet_30 : decode cX10_sheet 30 = .ok (.ldc 44, 2) := by decide +kernel
theorem dX10_sheet_32 : decode cX10_sheet 32 = .ok (.invokevirtual 67, 3) := by decide +kernel
theorem dX10_sheet_35 : decode cX10_sheet 35 = .ok (.ireturn, 1) := by decide +kernel
theorem dX10_sheet_36 : decode cX10_sheet 36 = .ok (.iload_n 3, 1) := by decide +kernel
theorem dX10_sheet_37 : decode cX10_sheet 37 = .ok (.ifCond .ge 10, 3) := by decide +kernel
theorem dX10_sheet_40 : decode cX10_sheet 40 = .ok (.aload_n 0, 1) := by decide +kernel
theorem dX10_sheet_41 : decode cX10_sheet 41 = .ok (.ldc 211, 2) := by decide +kernel
theorem dX10_sheet_43 : decode cX10_sheet 43 = .ok (.invokevirtual 67, 3) := by decide +kernel
theorem dX10_sheet_46 : decode cX10_sheet 46 = .ok (.ireturn, 1) := by decide +kernel
theorem dX10_sheet_47 : decode cX10_sheet 47 = .ok (.iload_n 3, 1) := by decide +kernel
theorem dX10_sheet_48 : decode cX10_sheet 48 = .ok (.bipush 40, 2) := by decide +kernel
theorem dX10_sheet_50 : decode cX10_sheet 50 = .ok (.if_icmp .le 10, 3) := by decide +kernel
theorem dX10_sheet_53 : decode cX10_sheet 53 = .ok (.aload_n 0, 1) := by decide +kernel
theorem dX10_sheet_54 : decode cX10_sheet 54 = .ok (.ldc 44, 2) := by decide +kernel
theorem dX10_sheet_56 : decode cX10_sheet 56 = .ok (.invokevirtual 67, 3) := by decide +kernel
theorem dX10_sheet_59 : decode cX10_sheet 59 = .ok (.ireturn, 1) := by decide +kernel
theorem dX10_sheet_60 : decode cX10_sheet 60 = .ok (.aload_n 0, 1) := by decide +kernel
theorem dX10_sheet_61 : decode cX10_sheet 61 = .ok (.getfield 31, 3) := by decide +kernel
theorem dX10_sheet_64 : decode cX10_sheet 64 = .ok (.iload_n 1, 1) := by decide +kernel
theorem dX10_sheet_65 : decode cX10_sheet 65 = .ok (.iload_n 2, 1) := by decide +kernel
theorem dX10_sheet_66 : decode cX10_sheet 66 = .ok (.iastore, 1) := by decide +kernel
theorem dX10_sheet_67 : decode cX10_sheet 67 = .ok (.aload_n 0, 1) := by decide +kernel
theorem dX10_sheet_68 : decode cX10_sheet 68 = .ok (.getfield 34, 3) := by decide +kernel
theorem dX10_sheet_71 : decode cX10_sheet 71 = .ok (.iload_n 1, 1) := by decide +kernel
theorem dX10_sheet_72 : decode cX10_sheet 72 = .ok (.iload_n 2, 1) := by decide +kernel
theorem dX10_sheet_73 : decode cX10_sheet 73 = .ok (.ifCond .ne 7, 3) := by decide +kernel
theorem dX10_sheet_76 : decode cX10_sheet 76 = .ok (.iconst 0, 1) := by decide +kernel
theorem dX10_sheet_77 : decode cX10_sheet 77 = .ok (.goto 4, 3) := by decide +kernel
theorem dX10_sheet_80 : decode cX10_sheet 80 = .ok (.iload_n 3, 1) := by decide +kernel
theorem dX10_sheet_81 : decode cX10_sheet 81 = .ok (.iastore, 1) := by decide +kernel
theorem dX10_sheet_82 : decode cX10_sheet 82 = .ok (.iconst 0, 1) := by decide +kernel
theorem dX10_sheet_83 : decode cX10_sheet 83 = .ok (.istore 4, 2) := by decide +kernel
theorem dX10_sheet_85 : decode cX10_sheet 85 = .ok (.iload 4, 2) := by decide +kernel
theorem dX10_sheet_87 : decode cX10_sheet 87 = .ok (.bipush 40, 2) := by decide +kernel
theorem dX10_sheet_89 : decode cX10_sheet 89 = .ok (.if_icmp .ge 22, 3) := by decide +kernel
theorem dX10_sheet_92 : decode cX10_sheet 92 = .ok (.aload_n 0, 1) := by decide +kernel
theorem dX10_sheet_93 : decode cX10_sheet 93 = .ok (.getfield 37, 3) := by decide +kernel
theorem dX10_sheet_96 : decode cX10_sheet 96 = .ok (.bipush 40, 2) := by decide +kernel
theorem dX10_sheet_98 : decode cX10_sheet 98 = .ok (.iload_n 1, 1) := by decide +kernel
theorem dX10_sheet_99 : decode cX10_sheet 99 = .ok (.imul, 1) := by decide +kernel
theorem dX10_sheet_100 : decode cX10_sheet 100 = .ok (.iload 4, 2) := by decide +kernel
theorem dX10_sheet_102 : decode cX10_sheet 102 = .ok (.iadd, 1) := by decide +kernel
theorem dX10_sheet_103 : decode cX10_sheet 103 = .ok (.lconst 0, 1) := by decide +kernel
theorem dX10_sheet_104 : decode cX10_sheet 104 = .ok (.lastore, 1) := by decide +kernel
theorem dX10_sheet_105 : decode cX10_sheet 105 = .ok (.iinc 4 1, 3) := by decide +kernel
theorem dX10_sheet_108 : decode cX10_sheet 108 = .ok (.goto (-23), 3) := by decide +kernel
theorem dX10_sheet_111 : decode cX10_sheet 111 = .ok (.aload_n 0, 1) := by decide +kernel
theorem dX10_sheet_112 : decode cX10_sheet 112 = .ok (.getfield 34, 3) := by decide +kernel
theorem dX10_sheet_115 : decode cX10_sheet 115 = .ok (.iload_n 1, 1) := by decide +kernel
theorem dX10_sheet_116 : decode cX10_sheet 116 = .ok (.iaload, 1) := by decide +kernel
theorem dX10_sheet_117 : decode cX10_sheet 117 = .ok (.ireturn, 1) := by decide +kernel
theorem dX10_narrowed_0 : decode cX10_narrowed 0 = .ok (.iload_n 0, 1) := by decide +kernel
theorem dX10_narrowed_1 : decode cX10_narrowed 1 = .ok (.bipush 8, 2) := by decide +kernel
theorem dX10_narrowed_3 : decode cX10_narrowed 3 = .ok (.if_icmp .ne 10, 3) := by decide +kernel
theorem dX10_narrowed_6 : decode cX10_narrowed 6 = .ok (.lload_n 1, 1) := by decide +kernel
theorem dX10_narrowed_7 : decode cX10_narrowed 7 = .ok (.l2i, 1) := by decide +kernel
theorem dX10_narrowed_8 : decode cX10_narrowed 8 = .ok (.i2b, 1) := by decide +kernel
theorem dX10_narrowed_9 : decode cX10_narrowed 9 = .ok (.i2l, 1) := by decide +kernel
theorem dX10_narrowed_10 : decode cX10_narrowed 10 = .ok (.goto 17, 3) := by decide +kernel
theorem dX10_narrowed_13 : decode cX10_narrowed 13 = .ok (.iload_n 0, 1) := by decide +kernel
theorem dX10_narrowed_14 : decode cX10_narrowed 14 = .ok (.bipush 16, 2) := by decide +kernel
theorem dX10_narrowed_16 : decode cX10_narrowed 16 = .ok (.if_icmp .ne 10, 3) := by decide +kernel
theorem dX10_narrowed_19 : decode cX10_narrowed 19 = .ok (.lload_n 1, 1) := by decide +kernel
theorem dX10_narrowed_20 : decode cX10_narrowed 20 = .ok (.l2i, 1) := by decide +kernel
theorem dX10_narrowed_21 : decode cX10_narrowed 21 = .ok (.i2s, 1) := by decide +kernel
theorem dX10_narrowed_22 : decode cX10_narrowed 22 = .ok (.i2l, 1) := by decide +kernel
theorem dX10_narrowed_23 : decode cX10_narrowed 23 = .ok (.goto 4, 3) := by decide +kernel
theorem dX10_narrowed_26 : decode cX10_narrowed 26 = .ok (.lload_n 1, 1) := by decide +kernel
theorem dX10_narrowed_27 : decode cX10_narrowed 27 = .ok (.lreturn, 1) := by decide +kernel
theorem dX10_wrong_0 : decode cX10_wrong 0 = .ok (.iload_n 1, 1) := by decide +kernel
theorem dX10_wrong_1 : decode cX10_wrong 1 = .ok (.invokestatic 323, 3) := by decide +kernel
theorem dX10_wrong_4 : decode cX10_wrong 4 = .ok (.ifCond .ne 8, 3) := by decide +kernel
theorem dX10_wrong_7 : decode cX10_wrong 7 = .ok (.ldc 44, 2) := by decide +kernel
theorem dX10_wrong_9 : decode cX10_wrong 9 = .ok (.goto 19, 3) := by decide +kernel
theorem dX10_wrong_12 : decode cX10_wrong 12 = .ok (.aload_n 0, 1) := by decide +kernel
theorem dX10_wrong_13 : decode cX10_wrong 13 = .ok (.getfield 31, 3) := by decide +kernel
theorem dX10_wrong_16 : decode cX10_wrong 16 = .ok (.iload_n 1, 1) := by decide +kernel
theorem dX10_wrong_17 : decode cX10_wrong 17 = .ok (.iaload, 1) := by decide +kernel
theorem dX10_wrong_18 : decode cX10_wrong 18 = .ok (.ifCond .ne 9, 3) := by decide +kernel
theorem dX10_wrong_21 : decode cX10_wrong 21 = .ok (.ldc_w 326, 3) := by decide +kernel
theorem dX10_wrong_24 : decode cX10_wrong 24 = .ok (.goto 4, 3) := by decide +kernel
theorem dX10_wrong_27 : decode cX10_wrong 27 = .ok (.iconst 0, 1) := by decide +kernel
theorem dX10_wrong_28 : decode cX10_wrong 28 = .ok (.ireturn, 1) := by decide +kernel
theorem dX10_write_0 : decode cX10_write 0 = .ok (.aload_n 0, 1) := by decide +kernel
theorem dX10_write_1 : decode cX10_write 1 = .ok (.iload_n 1, 1) := by decide +kernel
theorem dX10_write_2 : decode cX10_write 2 = .ok (.invokevirtual 327, 3) := by decide +kernel
theorem dX10_write_5 : decode cX10_write 5 = .ok (.istore 5, 2) := by decide +kernel
theorem dX10_write_7 : decode cX10_write 7 = .ok (.iload 5, 2) := by decide +kernel
theorem dX10_write_9 : decode cX10_write 9 = .ok (.ifCond .eq 11, 3) := by decide +kernel
theorem dX10_write_12 : decode cX10_write 12 = .ok (.aload_n 0, 1) := by decide +kernel
theorem dX10_write_13 : decode cX10_write 13 = .ok (.iload 5, 2) := by decide +kernel
theorem dX10_write_15 : decode cX10_write 15 = .ok (.invokevirtual 67, 3) := by decide +kernel
theorem dX10_write_18 : decode cX10_write 18 = .ok (.i2l, 1) := by decide +kernel
theorem dX10_write_19 : decode cX10_write 19 = .ok (.lreturn, 1) := by decide +kernel
theorem dX10_write_20 : decode cX10_write 20 = .ok (.iload_n 2, 1) := by decide +kernel
theorem dX10_write_21 : decode cX10_write 21 = .ok (.i2l, 1) := by decide +kernel
theorem dX10_write_22 : decode cX10_write 22 = .ok (.lconst 0, 1) := by decide +kernel
theorem dX10_write_23 : decode cX10_write 23 = .ok (.aload_n 0, 1) := by decide +kernel
theorem dX10_write_24 : decode cX10_write 24 = .ok (.getfield 34, 3) := by decide +kernel
theorem dX10_write_27 : decode cX10_write 27 = .ok (.iload_n 1, 1) := by decide +kernel
theorem dX10_write_28 : decode cX10_write 28 = .ok (.iaload, 1) := by decide +kernel
theorem dX10_write_29 : decode cX10_write 29 = .ok (.iconst 1, 1) := by decide +kernel
theorem dX10_write_30 : decode cX10_write 30 = .ok (.isub, 1) := by decide +kernel
theorem dX10_write_31 : decode cX10_write 31 = .ok (.i2l, 1) := by decide +kernel
theorem dX10_write_32 : decode cX10_write 32 = .ok (.invokestatic 45, 3) := by decide +kernel
theorem dX10_write_35 : decode cX10_write 35 = .ok (.ifCond .ne 11, 3) := by decide +kernel
theorem dX10_write_38 : decode cX10_write 38 = .ok (.aload_n 0, 1) := by decide +kernel
theorem dX10_write_39 : decode cX10_write 39 = .ok (.ldc 44, 2) := by decide +kernel
theorem dX10_write_41 : decode cX10_write 41 = .ok (.invokevirtual 67, 3) := by decide +kernel
theorem dX10_write_44 : decode cX10_write 44 = .ok (.i2l, 1) := by decide +kernel
theorem dX10_write_45 : decode cX10_write 45 = .ok (.lreturn, 1) := by decide +kernel
theorem dX10_write_46 : decode cX10_write 46 = .ok (.aload_n 0, 1) := by decide +kernel
theorem dX10_write_47 : decode cX10_write 47 = .ok (.getfield 37, 3) := by decide +kernel
theorem dX10_write_50 : decode cX10_write 50 = .ok (.bipush 40, 2) := by decide +kernel
theorem dX10_write_52 : decode cX10_write 52 = .ok (.iload_n 1, 1) := by decide +kernel
theorem dX10_write_53 : decode cX10_write 53 = .ok (.imul, 1) := by decide +kernel
theorem dX10_write_54 : decode cX10_write 54 = .ok (.iload_n 2, 1) := by decide +kernel
theorem dX10_write_55 : decode cX10_write 55 = .ok (.iadd, 1) := by decide +kernel
theorem dX10_write_56 : decode cX10_write 56 = .ok (.laload, 1) := by decide +kernel
theorem dX10_write_57 : decode cX10_write 57 = .ok (.lstore 6, 2) := by decide +kernel
theorem dX10_write_59 : decode cX10_write 59 = .ok (.aload_n 0, 1) := by decide +kernel
theorem dX10_write_60 : decode cX10_write 60 = .ok (.getfield 37, 3) := by decide +kernel
theorem dX10_write_63 : decode cX10_write 63 = .ok (.bipush 40, 2) := by decide +kernel
theorem dX10_write_65 : decode cX10_write 65 = .ok (.iload_n 1, 1) := by decide +kernel
theorem dX10_write_66 : decode cX10_write 66 = .ok (.imul, 1) := by decide +kernel
theorem dX10_write_67 : decode cX10_write 67 = .ok (.iload_n 2, 1) := by decide +kernel
theorem dX10_write_68 : decode cX10_write 68 = .ok (.iadd, 1) := by decide +kernel
theorem dX10_write_69 : decode cX10_write 69 = .ok (.aload_n 0, 1) := by decide +kernel
theorem dX10_write_70 : decode cX10_write 70 = .ok (.getfield 31, 3) := by decide +kernel
theorem dX10_write_73 : decode cX10_write 73 = .ok (.iload_n 1, 1) := by decide +kernel
theorem dX10_write_74 : decode cX10_write 74 = .ok (.iaload, 1) := by decide +kernel
theorem dX10_write_75 : decode cX10_write 75 = .ok (.lload_n 3, 1) := by decide +kernel
theorem dX10_write_76 : decode cX10_write 76 = .ok (.invokestatic 330, 3) := by decide +kernel
theorem dX10_write_79 : decode cX10_write 79 = .ok (.lastore, 1) := by decide +kernel
theorem dX10_write_80 : decode cX10_write 80 = .ok (.lload 6, 2) := by decide +kernel
theorem dX10_write_82 : decode cX10_write 82 = .ok (.lreturn, 1) := by decide +kernel
theorem dX10_copy_0 : decode cX10_copy 0 = .ok (.iload_n 1, 1) := by decide +kernel
theorem dX10_copy_1 : decode cX10_copy 1 = .ok (.invokestatic 323, 3) := by decide +kernel
theorem dX10_copy_4 : decode cX10_copy 4 = .ok (.ifCond .eq 10, 3) := by decide +kernel
theorem dX10_copy_7 : decode cX10_copy 7 = .ok (.iload_n 3, 1) := by decide +kernel
theorem dX10_copy_8 : decode cX10_copy 8 = .ok (.invokestatic 323, 3) := by decide +kernel
theorem dX10_copy_11 : decode cX10_copy 11 = .ok (.ifCond .ne 10, 3) := by decide +kernel
theorem dX10_copy_14 : decode cX10_copy 14 = .ok (.aload_n 0, 1) := by decide +kernel
theorem dX10_copy_15 : decode cX10_copy 15 = .ok (.ldc 44, 2) := by decide +kernel
theorem dX10_copy_17 : decode cX10_copy 17 = .ok (.invokevirtual 67, 3) := by decide +kernel
theorem dX10_copy_20 : decode cX10_copy 20 = .ok (.ireturn, 1) := by decide +kernel
theorem dX10_copy_21 : decode cX10_copy 21 = .ok (.aload_n 0, 1) := by decide +kernel
theorem dX10_copy_22 : decode cX10_copy 22 = .ok (.getfield 31, 3) := by decide +kernel
theorem dX10_copy_25 : decode cX10_copy 25 = .ok (.iload_n 1, 1) := by decide +kernel
theorem dX10_copy_26 : decode cX10_copy 26 = .ok (.iaload, 1) := by decide +kernel
theorem dX10_copy_27 : decode cX10_copy 27 = .ok (.ifCond .eq 12, 3) := by decide +kernel
theorem dX10_copy_30 : decode cX10_copy 30 = .ok (.aload_n 0, 1) := by decide +kernel
theorem dX10_copy_31 : decode cX10_copy 31 = .ok (.getfield 31, 3) := by decide +kernel
theorem dX10_copy_34 : decode cX10_copy 34 = .ok (.iload_n 3, 1) := by decide +kernel
theorem dX10_copy_35 : decode cX10_copy 35 = .ok (.iaload, 1) := by decide +kernel
theorem dX10_copy_36 : decode cX10_copy 36 = .ok (.ifCond .ne 11, 3) := by decide +kernel
theorem dX10_copy_39 : decode cX10_copy 39 = .ok (.aload_n 0, 1) := by decide +kernel
theorem dX10_copy_40 : decode cX10_copy 40 = .ok (.ldc_w 326, 3) := by decide +kernel
theorem dX10_copy_43 : decode cX10_copy 43 = .ok (.invokevirtual 67, 3) := by decide +kernel
theorem dX10_copy_46 : decode cX10_copy 46 = .ok (.ireturn, 1) := by decide +kernel
theorem dX10_copy_47 : decode cX10_copy 47 = .ok (.aload_n 0, 1) := by decide +kernel
theorem dX10_copy_48 : decode cX10_copy 48 = .ok (.getfield 31, 3) := by decide +kernel
theorem dX10_copy_51 : decode cX10_copy 51 = .ok (.iload_n 1, 1) := by decide +kernel
theorem dX10_copy_52 : decode cX10_copy 52 = .ok (.iaload, 1) := by decide +kernel
theorem dX10_copy_53 : decode cX10_copy 53 = .ok (.aload_n 0, 1) := by decide +kernel
theorem dX10_copy_54 : decode cX10_copy 54 = .ok (.getfield 31, 3) := by decide +kernel
theorem dX10_copy_57 : decode cX10_copy 57 = .ok (.iload_n 3, 1) := by decide +kernel
theorem dX10_copy_58 : decode cX10_copy 58 = .ok (.iaload, 1) := by decide +kernel
theorem dX10_copy_59 : decode cX10_copy 59 = .ok (.if_icmp .eq 10, 3) := by decide +kernel
theorem dX10_copy_62 : decode cX10_copy 62 = .ok (.aload_n 0, 1) := by decide +kernel
theorem dX10_copy_63 : decode cX10_copy 63 = .ok (.ldc 93, 2) := by decide +kernel
theorem dX10_copy_65 : decode cX10_copy 65 = .ok (.invokevirtual 67, 3) := by decide +kernel
theorem dX10_copy_68 : decode cX10_copy 68 = .ok (.ireturn, 1) := by decide +kernel
theorem dX10_copy_69 : decode cX10_copy 69 = .ok (.iload_n 2, 1) := by decide +kernel
theorem dX10_copy_70 : decode cX10_copy 70 = .ok (.ifCond .lt 40, 3) := by decide +kernel
theorem dX10_copy_73 : decode cX10_copy 73 = .ok (.iload 4, 2) := by decide +kernel
theorem dX10_copy_75 : decode cX10_copy 75 = .ok (.ifCond .lt 35, 3) := by decide +kernel
theorem dX10_copy_78 : decode cX10_copy 78 = .ok (.iload 5, 2) := by decide +kernel
theorem dX10_copy_80 : decode cX10_copy 80 = .ok (.ifCond .lt 30, 3) := by decide +kernel
theorem dX10_copy_83 : decode cX10_copy 83 = .ok (.iload 5, 2) := by decide +kernel
theorem dX10_copy_85 : decode cX10_copy 85 = .ok (.aload_n 0, 1) := by decide +kernel
theorem dX10_copy_86 : decode cX10_copy 86 = .ok (.getfield 34, 3) := by decide +kernel
theorem dX10_copy_89 : decode cX10_copy 89 = .ok (.iload_n 1, 1) := by decide +kernel
theorem dX10_copy_90 : decode cX10_copy 90 = .ok (.iaload, 1) := by decide +kernel
theorem dX10_copy_91 : decode cX10_copy 91 = .ok (.iload_n 2, 1) := by decide +kernel
theorem dX10_copy_92 : decode cX10_copy 92 = .ok (.isub, 1) := by decide +kernel
theorem dX10_copy_93 : decode cX10_copy 93 = .ok (.if_icmp .gt 17, 3) := by decide +kernel
theorem dX10_copy_96 : decode cX10_copy 96 = .ok (.iload 5, 2) := by decide +kernel
theorem dX10_copy_98 : decode cX10_copy 98 = .ok (.aload_n 0, 1) := by decide +kernel
theorem dX10_copy_99 : decode cX10_copy 99 = .ok (.getfield 34, 3) := by decide +kernel
theorem dX10_copy_102 : decode cX10_copy 102 = .ok (.iload_n 3, 1) := by decide +kernel
theorem dX10_copy_103 : decode cX10_copy 103 = .ok (.iaload, 1) := by decide +kernel
theorem dX10_copy_104 : decode cX10_copy 104 = .ok (.iload 4, 2) := by decide +kernel
theorem dX10_copy_106 : decode cX10_copy 106 = .ok (.isub, 1) := by decide +kernel
theorem dX10_copy_107 : decode cX10_copy 107 = .ok (.if_icmp .le 10, 3) := by decide +kernel
theorem dX10_copy_110 : decode cX10_copy 110 = .ok (.aload_n 0, 1) := by decide +kernel
theorem dX10_copy_111 : decode cX10_copy 111 = .ok (.ldc 44, 2) := by decide +kernel
theorem dX10_copy_113 : decode cX10_copy 113 = .ok (.invokevirtual 67, 3) := by decide +kernel
theorem dX10_copy_116 : decode cX10_copy 116 = .ok (.ireturn, 1) := by decide +kernel
theorem dX10_copy_117 : decode cX10_copy 117 = .ok (.iconst 0, 1) := by decide +kernel
theorem dX10_copy_118 : decode cX10_copy 118 = .ok (.istore 6, 2) := by decide +kernel
theorem dX10_copy_120 : decode cX10_copy 120 = .ok (.iload 6, 2) := by decide +kernel
theorem dX10_copy_122 : decode cX10_copy 122 = .ok (.iload 5, 2) := by decide +kernel
theorem dX10_copy_124 : decode cX10_copy 124 = .ok (.if_icmp .ge 30, 3) := by decide +kernel
theorem dX10_copy_127 : decode cX10_copy 127 = .ok (.aload_n 0, 1) := by decide +kernel
theorem dX10_copy_128 : decode cX10_copy 128 = .ok (.getfield 41, 3) := by decide +kernel
theorem dX10_copy_131 : decode cX10_copy 131 = .ok (.iload 6, 2) := by decide +kernel
theorem dX10_copy_133 : decode cX10_copy 133 = .ok (.aload_n 0, 1) := by decide +kernel
theorem dX10_copy_134 : decode cX10_copy 134 = .ok (.getfield 37, 3) := by decide +kernel
theorem dX10_copy_137 : decode cX10_copy 137 = .ok (.bipush 40, 2) := by decide +kernel
theorem dX10_copy_139 : decode cX10_copy 139 = .ok (.iload_n 1, 1) := by decide +kernel
theorem dX10_copy_140 : decode cX10_copy 140 = .ok (.imul, 1) := by decide +kernel
theorem dX10_copy_141 : decode cX10_copy 141 = .ok (.iload_n 2, 1) := by decide +kernel
theorem dX10_copy_142 : decode cX10_copy 142 = .ok (.iadd, 1) := by decide +kernel
theorem dX10_copy_143 : decode cX10_copy 143 = .ok (.iload 6, 2) := by decide +kernel
theorem dX10_copy_145 : decode cX10_copy 145 = .ok (.iadd, 1) := by decide +kernel
theorem dX10_copy_146 : decode cX10_copy 146 = .ok (.laload, 1) := by decide +kernel
theorem dX10_copy_147 : decode cX10_copy 147 = .ok (.lastore, 1) := by decide +kernel
theorem dX10_copy_148 : decode cX10_copy 148 = .ok (.iinc 6 1, 3) := by decide +kernel
theorem dX10_copy_151 : decode cX10_copy 151 = .ok (.goto (-31), 3) := by decide +kernel
theorem dX10_copy_154 : decode cX10_copy 154 = .ok (.iconst 0, 1) := by decide +kernel
theorem dX10_copy_155 : decode cX10_copy 155 = .ok (.istore 6, 2) := by decide +kernel
theorem dX10_copy_157 : decode cX10_copy 157 = .ok (.iload 6, 2) := by decide +kernel
theorem dX10_copy_159 : decode cX10_copy 159 = .ok (.iload 5, 2) := by decide +kernel
theorem dX10_copy_161 : decode cX10_copy 161 = .ok (.if_icmp .ge 31, 3) := by decide +kernel
theorem dX10_copy_164 : decode cX10_copy 164 = .ok (.aload_n 0, 1) := by decide +kernel
theorem dX10_copy_165 : decode cX10_copy 165 = .ok (.getfield 37, 3) := by decide +kernel
theorem dX10_copy_168 : decode cX10_copy 168 = .ok (.bipush 40, 2) := by decide +kernel
theorem dX10_copy_170 : decode cX10_copy 170 = .ok (.iload_n 3, 1) := by decide +kernel
theorem dX10_copy_171 : decode cX10_copy 171 = .ok (.imul, 1) := by decide +kernel
theorem dX10_copy_172 : decode cX10_copy 172 = .ok (.iload 4, 2) := by decide +kernel
theorem dX10_copy_174 : decode cX10_copy 174 = .ok (.iadd, 1) := by decide +kernel
theorem dX10_copy_175 : decode cX10_copy 175 = .ok (.iload 6, 2) := by decide +kernel
theorem dX10_copy_177 : decode cX10_copy 177 = .ok (.iadd, 1) := by decide +kernel
theorem dX10_copy_178 : decode cX10_copy 178 = .ok (.aload_n 0, 1) := by decide +kernel
theorem dX10_copy_179 : decode cX10_copy 179 = .ok (.getfield 41, 3) := by decide +kernel
theorem dX10_copy_182 : decode cX10_copy 182 = .ok (.iload 6, 2) := by decide +kernel
theorem dX10_copy_184 : decode cX10_copy 184 = .ok (.laload, 1) := by decide +kernel
theorem dX10_copy_185 : decode cX10_copy 185 = .ok (.lastore, 1) := by decide +kernel
theorem dX10_copy_186 : decode cX10_copy 186 = .ok (.iinc 6 1, 3) := by decide +kernel
theorem dX10_copy_189 : decode cX10_copy 189 = .ok (.goto (-32), 3) := by decide +kernel
theorem dX10_copy_192 : decode cX10_copy 192 = .ok (.iload 5, 2) := by decide +kernel
theorem dX10_copy_194 : decode cX10_copy 194 = .ok (.ireturn, 1) := by decide +kernel
theorem dX10_lays_0 : decode cX10_lays 0 = .ok (.aload_n 0, 1) := by decide +kernel
theorem dX10_lays_1 : decode cX10_lays 1 = .ok (.iload_n 1, 1) := by decide +kernel
theorem dX10_lays_2 : decode cX10_lays 2 = .ok (.invokevirtual 327, 3) := by decide +kernel
theorem dX10_lays_5 : decode cX10_lays 5 = .ok (.istore_n 2, 1) := by decide +kernel
theorem dX10_lays_6 : decode cX10_lays 6 = .ok (.iload_n 2, 1) := by decide +kernel
theorem dX10_lays_7 : decode cX10_lays 7 = .ok (.ifCond .eq 9, 3) := by decide +kernel
theorem dX10_lays_10 : decode cX10_lays 10 = .ok (.aload_n 0, 1) := by decide +kernel
theorem dX10_lays_11 : decode cX10_lays 11 = .ok (.iload_n 2, 1) := by decide +kernel
theorem dX10_lays_12 : decode cX10_lays 12 = .ok (.invokevirtual 67, 3) := by decide +kernel
theorem dX10_lays_15 : decode cX10_lays 15 = .ok (.ireturn, 1) := by decide +kernel
theorem dX10_lays_16 : decode cX10_lays 16 = .ok (.iconst 0, 1) := by decide +kernel
theorem dX10_lays_17 : decode cX10_lays 17 = .ok (.istore_n 3, 1) := by decide +kernel
theorem dX10_lays_18 : decode cX10_lays 18 = .ok (.iconst 0, 1) := by decide +kernel
theorem dX10_lays_19 : decode cX10_lays 19 = .ok (.istore 4, 2) := by decide +kernel
theorem dX10_lays_21 : decode cX10_lays 21 = .ok (.iload 4, 2) := by decide +kernel
theorem dX10_lays_23 : decode cX10_lays 23 = .ok (.aload_n 0, 1) := by decide +kernel
theorem dX10_lays_24 : decode cX10_lays 24 = .ok (.getfield 34, 3) := by decide +kernel
theorem dX10_lays_27 : decode cX10_lays 27 = .ok (.iload_n 1, 1) := by decide +kernel
theorem dX10_lays_28 : decode cX10_lays 28 = .ok (.iaload, 1) := by decide +kernel
theorem dX10_lays_29 : decode cX10_lays 29 = .ok (.if_icmp .ge 69, 3) := by decide +kernel
theorem dX10_lays_32 : decode cX10_lays 32 = .ok (.iload 4, 2) := by decide +kernel
theorem dX10_lays_34 : decode cX10_lays 34 = .ok (.aload_n 0, 1) := by decide +kernel
theorem dX10_lays_35 : decode cX10_lays 35 = .ok (.getfield 7, 3) := by decide +kernel
theorem dX10_lays_38 : decode cX10_lays 38 = .ok (.iconst 0, 1) := by decide +kernel
theorem dX10_lays_39 : decode cX10_lays 39 = .ok (.iaload, 1) := by decide +kernel
theorem dX10_lays_40 : decode cX10_lays 40 = .ok (.if_icmp .ge 58, 3) := by decide +kernel
theorem dX10_lays_43 : decode cX10_lays 43 = .ok (.aload_n 0, 1) := by decide +kernel
theorem dX10_lays_44 : decode cX10_lays 44 = .ok (.getfield 37, 3) := by decide +kernel
theorem dX10_lays_47 : decode cX10_lays 47 = .ok (.bipush 40, 2) := by decide +kernel
theorem dX10_lays_49 : decode cX10_lays 49 = .ok (.iload_n 1, 1) := by decide +kernel
theorem dX10_lays_50 : decode cX10_lays 50 = .ok (.imul, 1) := by decide +kernel
theorem dX10_lays_51 : decode cX10_lays 51 = .ok (.iload 4, 2) := by decide +kernel
theorem dX10_lays_53 : decode cX10_lays 53 = .ok (.iadd, 1) := by decide +kernel
theorem dX10_lays_54 : decode cX10_lays 54 = .ok (.laload, 1) := by decide +kernel
theorem dX10_lays_55 : decode cX10_lays 55 = .ok (.lconst 0, 1) := by decide +kernel
theorem dX10_lays_56 : decode cX10_lays 56 = .ok (.ldc2_w 61, 3) := by decide +kernel
theorem dX10_lays_59 : decode cX10_lays 59 = .ok (.invokestatic 45, 3) := by decide +kernel
theorem dX10_lays_62 : decode cX10_lays 62 = .ok (.ifCond .eq 30, 3) := by decide +kernel
theorem dX10_lays_65 : decode cX10_lays 65 = .ok (.aload_n 0, 1) := by decide +kernel
theorem dX10_lays_66 : decode cX10_lays 66 = .ok (.getfield 7, 3) := by decide +kernel
theorem dX10_lays_69 : decode cX10_lays 69 = .ok (.iload 4, 2) := by decide +kernel
theorem dX10_lays_71 : decode cX10_lays 71 = .ok (.iconst 4, 1) := by decide +kernel
theorem dX10_lays_72 : decode cX10_lays 72 = .ok (.invokestatic 49, 3) := by decide +kernel
theorem dX10_lays_75 : decode cX10_lays 75 = .ok (.aload_n 0, 1) := by decide +kernel
theorem dX10_lays_76 : decode cX10_lays 76 = .ok (.getfield 37, 3) := by decide +kernel
theorem dX10_lays_79 : decode cX10_lays 79 = .ok (.bipush 40, 2) := by decide +kernel
theorem dX10_lays_81 : decode cX10_lays 81 = .ok (.iload_n 1, 1) := by decide +kernel
theorem dX10_lays_82 : decode cX10_lays 82 = .ok (.imul, 1) := by decide +kernel
theorem dX10_lays_83 : decode cX10_lays 83 = .ok (.iload 4, 2) := by decide +kernel
theorem dX10_lays_85 : decode cX10_lays 85 = .ok (.iadd, 1) := by decide +kernel
theorem dX10_lays_86 : decode cX10_lays 86 = .ok (.laload, 1) := by decide +kernel
theorem dX10_lays_87 : decode cX10_lays 87 = .ok (.l2i, 1) := by decide +kernel
theorem dX10_lays_88 : decode cX10_lays 88 = .ok (.iastore, 1) := by decide +kernel
theorem dX10_lays_89 : decode cX10_lays 89 = .ok (.iinc 3 1, 3) := by decide +kernel
theorem dX10_lays_92 : decode cX10_lays 92 = .ok (.iinc 4 1, 3) := by decide +kernel
theorem dX10_lays_95 : decode cX10_lays 95 = .ok (.goto (-74), 3) := by decide +kernel
theorem dX10_lays_98 : decode cX10_lays 98 = .ok (.iload_n 3, 1) := by decide +kernel
theorem dX10_lays_99 : decode cX10_lays 99 = .ok (.ireturn, 1) := by decide +kernel
theorem dX10_read_0 : decode cX10_read 0 = .ok (.aload_n 0, 1) := by decide +kernel
theorem dX10_read_1 : decode cX10_read 1 = .ok (.iload_n 1, 1) := by decide +kernel
theorem dX10_read_2 : decode cX10_read 2 = .ok (.invokevirtual 327, 3) := by decide +kernel
theorem dX10_read_5 : decode cX10_read 5 = .ok (.istore_n 2, 1) := by decide +kernel
theorem dX10_read_6 : decode cX10_read 6 = .ok (.iload_n 2, 1) := by decide +kernel
theorem dX10_read_7 : decode cX10_read 7 = .ok (.ifCond .eq 9, 3) := by decide +kernel
theorem dX10_read_10 : decode cX10_read 10 = .ok (.aload_n 0, 1) := by decide +kernel
theorem dX10_read_11 : decode cX10_read 11 = .ok (.iload_n 2, 1) := by decide +kernel
theorem dX10_read_12 : decode cX10_read 12 = .ok (.invokevirtual 67, 3) := by decide +kernel
theorem dX10_read_15 : decode cX10_read 15 = .ok (.ireturn, 1) := by decide +kernel
theorem dX10_read_16 : decode cX10_read 16 = .ok (.aload_n 0, 1) := by decide +kernel
theorem dX10_read_17 : decode cX10_read 17 = .ok (.getfield 7, 3) := by decide +kernel
theorem dX10_read_20 : decode cX10_read 20 = .ok (.iconst 3, 1) := by decide +kernel
theorem dX10_read_21 : decode cX10_read 21 = .ok (.iaload, 1) := by decide +kernel
theorem dX10_read_22 : decode cX10_read 22 = .ok (.bipush 59, 2) := by decide +kernel
theorem dX10_read_24 : decode cX10_read 24 = .ok (.if_icmp .le 10, 3) := by decide +kernel
theorem dX10_read_27 : decode cX10_read 27 = .ok (.aload_n 0, 1) := by decide +kernel
theorem dX10_read_28 : decode cX10_read 28 = .ok (.ldc 184, 2) := by decide +kernel
theorem dX10_read_30 : decode cX10_read 30 = .ok (.invokevirtual 67, 3) := by decide +kernel
theorem dX10_read_33 : decode cX10_read 33 = .ok (.ireturn, 1) := by decide +kernel
theorem dX10_read_34 : decode cX10_read 34 = .ok (.aload_n 0, 1) := by decide +kernel
theorem dX10_read_35 : decode cX10_read 35 = .ok (.invokevirtual 188, 3) := by decide +kernel
theorem dX10_read_38 : decode cX10_read 38 = .ok (.iconst 0, 1) := by decide +kernel
theorem dX10_read_39 : decode cX10_read 39 = .ok (.istore_n 3, 1) := by decide +kernel
theorem dX10_read_40 : decode cX10_read 40 = .ok (.iload_n 3, 1) := by decide +kernel
theorem dX10_read_41 : decode cX10_read 41 = .ok (.aload_n 0, 1) := by decide +kernel
theorem dX10_read_42 : decode cX10_read 42 = .ok (.getfield 34, 3) := by decide +kernel
theorem dX10_read_45 : decode cX10_read 45 = .ok (.iload_n 1, 1) := by decide +kernel
theorem dX10_read_46 : decode cX10_read 46 = .ok (.iaload, 1) := by decide +kernel
theorem dX10_read_47 : decode cX10_read 47 = .ok (.if_icmp .ge 37, 3) := by decide +kernel
theorem dX10_read_50 : decode cX10_read 50 = .ok (.aload_n 0, 1) := by decide +kernel
theorem dX10_read_51 : decode cX10_read 51 = .ok (.getfield 37, 3) := by decide +kernel
theorem dX10_read_54 : decode cX10_read 54 = .ok (.bipush 40, 2) := by decide +kernel
theorem dX10_read_56 : decode cX10_read 56 = .ok (.iload_n 1, 1) := by decide +kernel
theorem dX10_read_57 : decode cX10_read 57 = .ok (.imul, 1) := by decide +kernel
theorem dX10_read_58 : decode cX10_read 58 = .ok (.iload_n 3, 1) := by decide +kernel
theorem dX10_read_59 : decode cX10_read 59 = .ok (.iadd, 1) := by decide +kernel
theorem dX10_read_60 : decode cX10_read 60 = .ok (.laload, 1) := by decide +kernel
theorem dX10_read_61 : decode cX10_read 61 = .ok (.aload_n 0, 1) := by decide +kernel
theorem dX10_read_62 : decode cX10_read 62 = .ok (.getfield 7, 3) := by decide +kernel
theorem dX10_read_65 : decode cX10_read 65 = .ok (.iconst 4, 1) := by decide +kernel
theorem dX10_read_66 : decode cX10_read 66 = .ok (.iaload, 1) := by decide +kernel
theorem dX10_read_67 : decode cX10_read 67 = .ok (.i2l, 1) := by decide +kernel
theorem dX10_read_68 : decode cX10_read 68 = .ok (.lcmp, 1) := by decide +kernel
theorem dX10_read_69 : decode cX10_read 69 = .ok (.ifCond .ne 15, 3) := by decide +kernel
theorem dX10_read_72 : decode cX10_read 72 = .ok (.aload_n 0, 1) := by decide +kernel
theorem dX10_read_73 : decode cX10_read 73 = .ok (.invokevirtual 176, 3) := by decide +kernel
theorem dX10_read_76 : decode cX10_read 76 = .ok (.istore 4, 2) := by decide +kernel
theorem dX10_read_78 : decode cX10_read 78 = .ok (.iinc 3 1, 3) := by decide +kernel
theorem dX10_read_81 : decode cX10_read 81 = .ok (.goto (-41), 3) := by decide +kernel
theorem dX10_read_84 : decode cX10_read 84 = .ok (.aload_n 0, 1) := by decide +kernel
theorem dX10_read_85 : decode cX10_read 85 = .ok (.invokevirtual 194, 3) := by decide +kernel
theorem dX10_read_88 : decode cX10_read 88 = .ok (.iload_n 3, 1) := by decide +kernel
theorem dX10_read_89 : decode cX10_read 89 = .ok (.aload_n 0, 1) := by decide +kernel
theorem dX10_read_90 : decode cX10_read 90 = .ok (.getfield 34, 3) := by decide +kernel
theorem dX10_read_93 : decode cX10_read 93 = .ok (.iload_n 1, 1) := by decide +kernel
theorem dX10_read_94 : decode cX10_read 94 = .ok (.iaload, 1) := by decide +kernel
theorem dX10_read_95 : decode cX10_read 95 = .ok (.if_icmp .ne 7, 3) := by decide +kernel
theorem dX10_read_98 : decode cX10_read 98 = .ok (.iconst 0, 1) := by decide +kernel
theorem dX10_read_99 : decode cX10_read 99 = .ok (.goto 6, 3) := by decide +kernel
theorem dX10_read_102 : decode cX10_read 102 = .ok (.iconst 1, 1) := by decide +kernel
theorem dX10_read_103 : decode cX10_read 103 = .ok (.iload_n 3, 1) := by decide +kernel
theorem dX10_read_104 : decode cX10_read 104 = .ok (.iadd, 1) := by decide +kernel
theorem dX10_read_105 : decode cX10_read 105 = .ok (.ireturn, 1) := by decide +kernel
theorem dX10_image_0 : decode cX10_image 0 = .ok (.iconst 0, 1) := by decide +kernel
theorem dX10_image_1 : decode cX10_image 1 = .ok (.istore_n 1, 1) := by decide +kernel
theorem dX10_image_2 : decode cX10_image 2 = .ok (.iload_n 1, 1) := by decide +kernel
theorem dX10_image_3 : decode cX10_image 3 = .ok (.sipush 150, 3) := by decide +kernel
theorem dX10_image_6 : decode cX10_image 6 = .ok (.if_icmp .ge 21, 3) := by decide +kernel
theorem dX10_image_9 : decode cX10_image 9 = .ok (.aload_n 0, 1) := by decide +kernel
theorem dX10_image_10 : decode cX10_image 10 = .ok (.getfield 13, 3) := by decide +kernel
theorem dX10_image_13 : decode cX10_image 13 = .ok (.iload_n 1, 1) := by decide +kernel
theorem dX10_image_14 : decode cX10_image 14 = .ok (.aload_n 0, 1) := by decide +kernel
theorem dX10_image_15 : decode cX10_image 15 = .ok (.getfield 7, 3) := by decide +kernel
theorem dX10_image_18 : decode cX10_image 18 = .ok (.iload_n 1, 1) := by decide +kernel
theorem dX10_image_19 : decode cX10_image 19 = .ok (.iaload, 1) := by decide +kernel
theorem dX10_image_20 : decode cX10_image 20 = .ok (.iastore, 1) := by decide +kernel
theorem dX10_image_21 : decode cX10_image 21 = .ok (.iinc 1 1, 3) := by decide +kernel
theorem dX10_image_24 : decode cX10_image 24 = .ok (.goto (-22), 3) := by decide +kernel
theorem dX10_image_27 : decode cX10_image 27 = .ok (.aload_n 0, 1) := by decide +kernel
theorem dX10_image_28 : decode cX10_image 28 = .ok (.iconst 1, 1) := by decide +kernel
theorem dX10_image_29 : decode cX10_image 29 = .ok (.putfield 334, 3) := by decide +kernel
theorem dX10_image_32 : decode cX10_image 32 = .ok (.iconst 1, 1) := by decide +kernel
theorem dX10_image_33 : decode cX10_image 33 = .ok (.ireturn, 1) := by decide +kernel
theorem dX10_undo_0 : decode cX10_undo 0 = .ok (.aload_n 0, 1) := by decide +kernel
theorem dX10_undo_1 : decode cX10_undo 1 = .ok (.getfield 334, 3) := by decide +kernel
theorem dX10_undo_4 : decode cX10_undo 4 = .ok (.ifCond .ne 10, 3) := by decide +kernel
theorem dX10_undo_7 : decode cX10_undo 7 = .ok (.aload_n 0, 1) := by decide +kernel
theorem dX10_undo_8 : decode cX10_undo 8 = .ok (.ldc 132, 2) := by decide +kernel
theorem dX10_undo_10 : decode cX10_undo 10 = .ok (.invokevirtual 67, 3) := by decide +kernel
theorem dX10_undo_13 : decode cX10_undo 13 = .ok (.ireturn, 1) := by decide +kernel
theorem dX10_undo_14 : decode cX10_undo 14 = .ok (.iconst 0, 1) := by decide +kernel
theorem dX10_undo_15 : decode cX10_undo 15 = .ok (.istore_n 1, 1) := by decide +kernel
theorem dX10_undo_16 : decode cX10_undo 16 = .ok (.iload_n 1, 1) := by decide +kernel
theorem dX10_undo_17 : decode cX10_undo 17 = .ok (.sipush 150, 3) := by decide +kernel
theorem dX10_undo_20 : decode cX10_undo 20 = .ok (.if_icmp .ge 21, 3) := by decide +kernel
theorem dX10_undo_23 : decode cX10_undo 23 = .ok (.aload_n 0, 1) := by decide +kernel
theorem dX10_undo_24 : decode cX10_undo 24 = .ok (.getfield 7, 3) := by decide +kernel
theorem dX10_undo_27 : decode cX10_undo 27 = .ok (.iload_n 1, 1) := by decide +kernel
theorem dX10_undo_28 : decode cX10_undo 28 = .ok (.aload_n 0, 1) := by decide +kernel
theorem dX10_undo_29 : decode cX10_undo 29 = .ok (.getfield 13, 3) := by decide +kernel
theorem dX10_undo_32 : decode cX10_undo 32 = .ok (.iload_n 1, 1) := by decide +kernel
theorem dX10_undo_33 : decode cX10_undo 33 = .ok (.iaload, 1) := by decide +kernel
theorem dX10_undo_34 : decode cX10_undo 34 = .ok (.iastore, 1) := by decide +kernel
theorem dX10_undo_35 : decode cX10_undo 35 = .ok (.iinc 1 1, 3) := by decide +kernel
theorem dX10_undo_38 : decode cX10_undo 38 = .ok (.goto (-22), 3) := by decide +kernel
theorem dX10_undo_41 : decode cX10_undo 41 = .ok (.aload_n 0, 1) := by decide +kernel
theorem dX10_undo_42 : decode cX10_undo 42 = .ok (.getfield 7, 3) := by decide +kernel
theorem dX10_undo_45 : decode cX10_undo 45 = .ok (.iconst 0, 1) := by decide +kernel
theorem dX10_undo_46 : decode cX10_undo 46 = .ok (.iaload, 1) := by decide +kernel
theorem dX10_undo_47 : decode cX10_undo 47 = .ok (.ireturn, 1) := by decide +kernel
theorem dX10_tear_0 : decode cX10_tear 0 = .ok (.aload_n 0, 1) := by decide +kernel
theorem dX10_tear_1 : decode cX10_tear 1 = .ok (.getfield 334, 3) := by decide +kernel
theorem dX10_tear_4 : decode cX10_tear 4 = .ok (.ifCond .eq 7, 3) := by decide +kernel
theorem dX10_tear_7 : decode cX10_tear 7 = .ok (.iconst 1, 1) := by decide +kernel
theorem dX10_tear_8 : decode cX10_tear 8 = .ok (.goto 4, 3) := by decide +kernel
theorem dX10_tear_11 : decode cX10_tear 11 = .ok (.iconst 0, 1) := by decide +kernel
theorem dX10_tear_12 : decode cX10_tear 12 = .ok (.istore_n 1, 1) := by decide +kernel
theorem dX10_tear_13 : decode cX10_tear 13 = .ok (.aload_n 0, 1) := by decide +kernel
theorem dX10_tear_14 : decode cX10_tear 14 = .ok (.iconst 0, 1) := by decide +kernel
theorem dX10_tear_15 : decode cX10_tear 15 = .ok (.putfield 334, 3) := by decide +kernel
theorem dX10_tear_18 : decode cX10_tear 18 = .ok (.iload_n 1, 1) := by decide +kernel
theorem dX10_tear_19 : decode cX10_tear 19 = .ok (.ireturn, 1) := by decide +kernel
theorem dX10_count_0 : decode cX10_count 0 = .ok (.iload_n 1, 1) := by decide +kernel
theorem dX10_count_1 : decode cX10_count 1 = .ok (.tableswitch 77 0 5 #[39, 46, 53, 60, 65, 71], 39) := by decide +kernel
theorem dX10_count_40 : decode cX10_count 40 = .ok (.aload_n 0, 1) := by decide +kernel
theorem dX10_count_41 : decode cX10_count 41 = .ok (.getfield 7, 3) := by decide +kernel
theorem dX10_count_44 : decode cX10_count 44 = .ok (.iconst 0, 1) := by decide +kernel
theorem dX10_count_45 : decode cX10_count 45 = .ok (.iaload, 1) := by decide +kernel
theorem dX10_count_46 : decode cX10_count 46 = .ok (.ireturn, 1) := by decide +kernel
theorem dX10_count_47 : decode cX10_count 47 = .ok (.aload_n 0, 1) := by decide +kernel
theorem dX10_count_48 : decode cX10_count 48 = .ok (.getfield 7, 3) := by decide +kernel
theorem dX10_count_51 : decode cX10_count 51 = .ok (.iconst 1, 1) := by decide +kernel
theorem dX10_count_52 : decode cX10_count 52 = .ok (.iaload, 1) := by decide +kernel
theorem dX10_count_53 : decode cX10_count 53 = .ok (.ireturn, 1) := by decide +kernel
theorem dX10_count_54 : decode cX10_count 54 = .ok (.aload_n 0, 1) := by decide +kernel
theorem dX10_count_55 : decode cX10_count 55 = .ok (.getfield 7, 3) := by decide +kernel
theorem dX10_count_58 : decode cX10_count 58 = .ok (.iconst 5, 1) := by decide +kernel
theorem dX10_count_59 : decode cX10_count 59 = .ok (.iaload, 1) := by decide +kernel
theorem dX10_count_60 : decode cX10_count 60 = .ok (.ireturn, 1) := by decide +kernel
theorem dX10_count_61 : decode cX10_count 61 = .ok (.aload_n 0, 1) := by decide +kernel
theorem dX10_count_62 : decode cX10_count 62 = .ok (.getfield 219, 3) := by decide +kernel
theorem dX10_count_65 : decode cX10_count 65 = .ok (.ireturn, 1) := by decide +kernel
theorem dX10_count_66 : decode cX10_count 66 = .ok (.aload_n 0, 1) := by decide +kernel
theorem dX10_count_67 : decode cX10_count 67 = .ok (.iconst 4, 1) := by decide +kernel
theorem dX10_count_68 : decode cX10_count 68 = .ok (.invokevirtual 191, 3) := by decide +kernel
theorem dX10_count_71 : decode cX10_count 71 = .ok (.ireturn, 1) := by decide +kernel
theorem dX10_count_72 : decode cX10_count 72 = .ok (.aload_n 0, 1) := by decide +kernel
theorem dX10_count_73 : decode cX10_count 73 = .ok (.iconst 5, 1) := by decide +kernel
theorem dX10_count_74 : decode cX10_count 74 = .ok (.invokevirtual 191, 3) := by decide +kernel
theorem dX10_count_77 : decode cX10_count 77 = .ok (.ireturn, 1) := by decide +kernel
theorem dX10_count_78 : decode cX10_count 78 = .ok (.aload_n 0, 1) := by decide +kernel
theorem dX10_count_79 : decode cX10_count 79 = .ok (.ldc 44, 2) := by decide +kernel
theorem dX10_count_81 : decode cX10_count 81 = .ok (.invokevirtual 67, 3) := by decide +kernel
theorem dX10_count_84 : decode cX10_count 84 = .ok (.ireturn, 1) := by decide +kernel
theorem dX10_status_0 : decode cX10_status 0 = .ok (.iload_n 1, 1) := by decide +kernel
theorem dX10_status_1 : decode cX10_status 1 = .ok (.i2l, 1) := by decide +kernel
theorem dX10_status_2 : decode cX10_status 2 = .ok (.ldc2_w 206, 3) := by decide +kernel
theorem dX10_status_5 : decode cX10_status 5 = .ok (.ldc2_w 337, 3) := by decide +kernel
theorem dX10_status_8 : decode cX10_status 8 = .ok (.invokestatic 45, 3) := by decide +kernel
theorem dX10_status_11 : decode cX10_status 11 = .ok (.ifCond .ne 10, 3) := by decide +kernel
theorem dX10_status_14 : decode cX10_status 14 = .ok (.aload_n 0, 1) := by decide +kernel
theorem dX10_status_15 : decode cX10_status 15 = .ok (.ldc 44, 2) := by decide +kernel
theorem dX10_status_17 : decode cX10_status 17 = .ok (.invokevirtual 67, 3) := by decide +kernel
theorem dX10_status_20 : decode cX10_status 20 = .ok (.ireturn, 1) := by decide +kernel
theorem dX10_status_21 : decode cX10_status 21 = .ok (.iconst 0, 1) := by decide +kernel
theorem dX10_status_22 : decode cX10_status 22 = .ok (.istore_n 2, 1) := by decide +kernel
theorem dX10_status_23 : decode cX10_status 23 = .ok (.iconst 0, 1) := by decide +kernel
theorem dX10_status_24 : decode cX10_status 24 = .ok (.istore_n 3, 1) := by decide +kernel
theorem dX10_status_25 : decode cX10_status 25 = .ok (.iload_n 3, 1) := by decide +kernel
theorem dX10_status_26 : decode cX10_status 26 = .ok (.bipush 7, 2) := by decide +kernel
theorem dX10_status_28 : decode cX10_status 28 = .ok (.if_icmp .ge 31, 3) := by decide +kernel
theorem dX10_status_31 : decode cX10_status 31 = .ok (.iload_n 2, 1) := by decide +kernel
theorem dX10_status_32 : decode cX10_status 32 = .ok (.iload_n 1, 1) := by decide +kernel
theorem dX10_status_33 : decode cX10_status 33 = .ok (.ifCond .lt 8, 3) := by decide +kernel
theorem dX10_status_36 : decode cX10_status 36 = .ok (.iload_n 3, 1) := by decide +kernel
theorem dX10_status_37 : decode cX10_status 37 = .ok (.iload_n 1, 1) := by decide +kernel
theorem dX10_status_38 : decode cX10_status 38 = .ok (.if_icmp .ne 12, 3) := by decide +kernel
theorem dX10_status_41 : decode cX10_status 41 = .ok (.aload_n 0, 1) := by decide +kernel
theorem dX10_status_42 : decode cX10_status 42 = .ok (.getfield 19, 3) := by decide +kernel
theorem dX10_status_45 : decode cX10_status 45 = .ok (.iload_n 3, 1) := by decide +kernel
theorem dX10_status_46 : decode cX10_status 46 = .ok (.iaload, 1) := by decide +kernel
theorem dX10_status_47 : decode cX10_status 47 = .ok (.goto 4, 3) := by decide +kernel
theorem dX10_status_50 : decode cX10_status 50 = .ok (.iconst 0, 1) := by decide +kernel
theorem dX10_status_51 : decode cX10_status 51 = .ok (.iadd, 1) := by decide +kernel
theorem dX10_status_52 : decode cX10_status 52 = .ok (.istore_n 2, 1) := by decide +kernel
theorem dX10_status_53 : decode cX10_status 53 = .ok (.iinc 3 1, 3) := by decide +kernel
theorem dX10_status_56 : decode cX10_status 56 = .ok (.goto (-31), 3) := by decide +kernel
theorem dX10_status_59 : decode cX10_status 59 = .ok (.iload_n 2, 1) := by decide +kernel
theorem dX10_status_60 : decode cX10_status 60 = .ok (.ireturn, 1) := by decide +kernel
