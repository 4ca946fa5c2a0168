-- decode rows, printed (claim/NAMES.whole)
theorem dX0_init_0 : decode cX0_init 0 = .ok (.aload_n 0, 1) := by decide +kernel
theorem dX0_init_1 : decode cX0_init 1 = .ok (.invokespecial 3, 3) := by decide +kernel
theorem dX0_init_4 : decode cX0_init 4 = .ok (.aload_n 0, 1) := by decide +kernel
theorem dX0_init_5 : decode cX0_init 5 = .ok (.new 9, 3) := by decide +kernel
theorem dX0_init_8 : decode cX0_init 8 = .ok (.dup, 1) := by decide +kernel
theorem dX0_init_9 : decode cX0_init 9 = .ok (.invokespecial 11, 3) := by decide +kernel
theorem dX0_init_12 : decode cX0_init 12 = .ok (.putfield 12, 3) := by decide +kernel
theorem dX0_init_15 : decode cX0_init 15 = .ok (.aload_n 0, 1) := by decide +kernel
theorem dX0_init_16 : decode cX0_init 16 = .ok (.new 18, 3) := by decide +kernel
theorem dX0_init_19 : decode cX0_init 19 = .ok (.dup, 1) := by decide +kernel
theorem dX0_init_20 : decode cX0_init 20 = .ok (.invokespecial 20, 3) := by decide +kernel
theorem dX0_init_23 : decode cX0_init 23 = .ok (.putfield 21, 3) := by decide +kernel
theorem dX0_init_26 : decode cX0_init 26 = .ok (.aload_n 0, 1) := by decide +kernel
theorem dX0_init_27 : decode cX0_init 27 = .ok (.new 25, 3) := by decide +kernel
theorem dX0_init_30 : decode cX0_init 30 = .ok (.dup, 1) := by decide +kernel
theorem dX0_init_31 : decode cX0_init 31 = .ok (.invokespecial 27, 3) := by decide +kernel
theorem dX0_init_34 : decode cX0_init 34 = .ok (.putfield 28, 3) := by decide +kernel
theorem dX0_init_37 : decode cX0_init 37 = .ok (.aload_n 0, 1) := by decide +kernel
theorem dX0_init_38 : decode cX0_init 38 = .ok (.bipush 60, 2) := by decide +kernel
theorem dX0_init_40 : decode cX0_init 40 = .ok (.putfield 32, 3) := by decide +kernel
theorem dX0_init_43 : decode cX0_init 43 = .ok (.aload_n 0, 1) := by decide +kernel
theorem dX0_init_44 : decode cX0_init 44 = .ok (.iconst 0, 1) := by decide +kernel
theorem dX0_init_45 : decode cX0_init 45 = .ok (.putfield 36, 3) := by decide +kernel
theorem dX0_init_48 : decode cX0_init 48 = .ok (.aload_n 0, 1) := by decide +kernel
theorem dX0_init_49 : decode cX0_init 49 = .ok (.iconst 0, 1) := by decide +kernel
theorem dX0_init_50 : decode cX0_init 50 = .ok (.putfield 39, 3) := by decide +kernel
theorem dX0_init_53 : decode cX0_init 53 = .ok (.return_, 1) := by decide +kernel
theorem dX0_gainOf_0 : decode cX0_gainOf 0 = .ok (.aload_n 0, 1) := by decide +kernel
theorem dX0_gainOf_1 : decode cX0_gainOf 1 = .ok (.getfield 21, 3) := by decide +kernel
theorem dX0_gainOf_4 : decode cX0_gainOf 4 = .ok (.getfield 42, 3) := by decide +kernel
theorem dX0_gainOf_7 : decode cX0_gainOf 7 = .ok (.iload_n 2, 1) := by decide +kernel
theorem dX0_gainOf_8 : decode cX0_gainOf 8 = .ok (.iaload, 1) := by decide +kernel
theorem dX0_gainOf_9 : decode cX0_gainOf 9 = .ok (.istore 4, 2) := by decide +kernel
theorem dX0_gainOf_11 : decode cX0_gainOf 11 = .ok (.aload_n 0, 1) := by decide +kernel
theorem dX0_gainOf_12 : decode cX0_gainOf 12 = .ok (.getfield 12, 3) := by decide +kernel
theorem dX0_gainOf_15 : decode cX0_gainOf 15 = .ok (.getfield 46, 3) := by decide +kernel
theorem dX0_gainOf_18 : decode cX0_gainOf 18 = .ok (.iload_n 1, 1) := by decide +kernel
theorem dX0_gainOf_19 : decode cX0_gainOf 19 = .ok (.iaload, 1) := by decide +kernel
theorem dX0_gainOf_20 : decode cX0_gainOf 20 = .ok (.aload_n 0, 1) := by decide +kernel
theorem dX0_gainOf_21 : decode cX0_gainOf 21 = .ok (.getfield 21, 3) := by decide +kernel
theorem dX0_gainOf_24 : decode cX0_gainOf 24 = .ok (.getfield 49, 3) := by decide +kernel
theorem dX0_gainOf_27 : decode cX0_gainOf 27 = .ok (.iload_n 2, 1) := by decide +kernel
theorem dX0_gainOf_28 : decode cX0_gainOf 28 = .ok (.iaload, 1) := by decide +kernel
theorem dX0_gainOf_29 : decode cX0_gainOf 29 = .ok (.if_icmp .ne 7, 3) := by decide +kernel
theorem dX0_gainOf_32 : decode cX0_gainOf 32 = .ok (.iconst 1, 1) := by decide +kernel
theorem dX0_gainOf_33 : decode cX0_gainOf 33 = .ok (.goto 4, 3) := by decide +kernel
theorem dX0_gainOf_36 : decode cX0_gainOf 36 = .ok (.iconst 0, 1) := by decide +kernel
theorem dX0_gainOf_37 : decode cX0_gainOf 37 = .ok (.istore 5, 2) := by decide +kernel
theorem dX0_gainOf_39 : decode cX0_gainOf 39 = .ok (.iload 5, 2) := by decide +kernel
theorem dX0_gainOf_41 : decode cX0_gainOf 41 = .ok (.ifCond .eq 21, 3) := by decide +kernel
theorem dX0_gainOf_44 : decode cX0_gainOf 44 = .ok (.iload 4, 2) := by decide +kernel
theorem dX0_gainOf_46 : decode cX0_gainOf 46 = .ok (.aload_n 0, 1) := by decide +kernel
theorem dX0_gainOf_47 : decode cX0_gainOf 47 = .ok (.getfield 12, 3) := by decide +kernel
theorem dX0_gainOf_50 : decode cX0_gainOf 50 = .ok (.getfield 50, 3) := by decide +kernel
theorem dX0_gainOf_53 : decode cX0_gainOf 53 = .ok (.iload_n 1, 1) := by decide +kernel
theorem dX0_gainOf_54 : decode cX0_gainOf 54 = .ok (.iaload, 1) := by decide +kernel
theorem dX0_gainOf_55 : decode cX0_gainOf 55 = .ok (.imul, 1) := by decide +kernel
theorem dX0_gainOf_56 : decode cX0_gainOf 56 = .ok (.bipush 10, 2) := by decide +kernel
theorem dX0_gainOf_58 : decode cX0_gainOf 58 = .ok (.idiv, 1) := by decide +kernel
theorem dX0_gainOf_59 : decode cX0_gainOf 59 = .ok (.goto 4, 3) := by decide +kernel
theorem dX0_gainOf_62 : decode cX0_gainOf 62 = .ok (.iconst 0, 1) := by decide +kernel
theorem dX0_gainOf_63 : decode cX0_gainOf 63 = .ok (.istore 6, 2) := by decide +kernel
theorem dX0_gainOf_65 : decode cX0_gainOf 65 = .ok (.iload_n 3, 1) := by decide +kernel
theorem dX0_gainOf_66 : decode cX0_gainOf 66 = .ok (.ifCond .eq 8, 3) := by decide +kernel
theorem dX0_gainOf_69 : decode cX0_gainOf 69 = .ok (.iload 6, 2) := by decide +kernel
theorem dX0_gainOf_71 : decode cX0_gainOf 71 = .ok (.goto 7, 3) := by decide +kernel
theorem dX0_gainOf_74 : decode cX0_gainOf 74 = .ok (.iload 6, 2) := by decide +kernel
theorem dX0_gainOf_76 : decode cX0_gainOf 76 = .ok (.iconst 2, 1) := by decide +kernel
theorem dX0_gainOf_77 : decode cX0_gainOf 77 = .ok (.idiv, 1) := by decide +kernel
theorem dX0_gainOf_78 : decode cX0_gainOf 78 = .ok (.istore 7, 2) := by decide +kernel
theorem dX0_gainOf_80 : decode cX0_gainOf 80 = .ok (.aload_n 0, 1) := by decide +kernel
theorem dX0_gainOf_81 : decode cX0_gainOf 81 = .ok (.getfield 12, 3) := by decide +kernel
theorem dX0_gainOf_84 : decode cX0_gainOf 84 = .ok (.getfield 53, 3) := by decide +kernel
theorem dX0_gainOf_87 : decode cX0_gainOf 87 = .ok (.iload_n 1, 1) := by decide +kernel
theorem dX0_gainOf_88 : decode cX0_gainOf 88 = .ok (.iaload, 1) := by decide +kernel
theorem dX0_gainOf_89 : decode cX0_gainOf 89 = .ok (.tableswitch 96 1 5 #[35, 38, 43, 66, 73], 35) := by decide +kernel
theorem dX0_gainOf_124 : decode cX0_gainOf 124 = .ok (.iload 7, 2) := by decide +kernel
theorem dX0_gainOf_126 : decode cX0_gainOf 126 = .ok (.ireturn, 1) := by decide +kernel
theorem dX0_gainOf_127 : decode cX0_gainOf 127 = .ok (.iload 4, 2) := by decide +kernel
theorem dX0_gainOf_129 : decode cX0_gainOf 129 = .ok (.iconst 4, 1) := by decide +kernel
theorem dX0_gainOf_130 : decode cX0_gainOf 130 = .ok (.idiv, 1) := by decide +kernel
theorem dX0_gainOf_131 : decode cX0_gainOf 131 = .ok (.ireturn, 1) := by decide +kernel
theorem dX0_gainOf_132 : decode cX0_gainOf 132 = .ok (.aload_n 0, 1) := by decide +kernel
theorem dX0_gainOf_133 : decode cX0_gainOf 133 = .ok (.getfield 21, 3) := by decide +kernel
theorem dX0_gainOf_136 : decode cX0_gainOf 136 = .ok (.getfield 56, 3) := by decide +kernel
theorem dX0_gainOf_139 : decode cX0_gainOf 139 = .ok (.iload_n 2, 1) := by decide +kernel
theorem dX0_gainOf_140 : decode cX0_gainOf 140 = .ok (.iaload, 1) := by decide +kernel
theorem dX0_gainOf_141 : decode cX0_gainOf 141 = .ok (.iconst 1, 1) := by decide +kernel
theorem dX0_gainOf_142 : decode cX0_gainOf 142 = .ok (.if_icmp .ne 8, 3) := by decide +kernel
theorem dX0_gainOf_145 : decode cX0_gainOf 145 = .ok (.iload 7, 2) := by decide +kernel
theorem dX0_gainOf_147 : decode cX0_gainOf 147 = .ok (.goto 7, 3) := by decide +kernel
theorem dX0_gainOf_150 : decode cX0_gainOf 150 = .ok (.iload 7, 2) := by decide +kernel
theorem dX0_gainOf_152 : decode cX0_gainOf 152 = .ok (.iconst 3, 1) := by decide +kernel
theorem dX0_gainOf_153 : decode cX0_gainOf 153 = .ok (.idiv, 1) := by decide +kernel
theorem dX0_gainOf_154 : decode cX0_gainOf 154 = .ok (.ireturn, 1) := by decide +kernel
theorem dX0_gainOf_155 : decode cX0_gainOf 155 = .ok (.iload 4, 2) := by decide +kernel
theorem dX0_gainOf_157 : decode cX0_gainOf 157 = .ok (.iconst 4, 1) := by decide +kernel
theorem dX0_gainOf_158 : decode cX0_gainOf 158 = .ok (.idiv, 1) := by decide +kernel
theorem dX0_gainOf_159 : decode cX0_gainOf 159 = .ok (.iconst 1, 1) := by decide +kernel
theorem dX0_gainOf_160 : decode cX0_gainOf 160 = .ok (.iadd, 1) := by decide +kernel
theorem dX0_gainOf_161 : decode cX0_gainOf 161 = .ok (.ireturn, 1) := by decide +kernel
theorem dX0_gainOf_162 : decode cX0_gainOf 162 = .ok (.aload_n 0, 1) := by decide +kernel
theorem dX0_gainOf_163 : decode cX0_gainOf 163 = .ok (.getfield 21, 3) := by decide +kernel
theorem dX0_gainOf_166 : decode cX0_gainOf 166 = .ok (.getfield 59, 3) := by decide +kernel
theorem dX0_gainOf_169 : decode cX0_gainOf 169 = .ok (.iload_n 2, 1) := by decide +kernel
theorem dX0_gainOf_170 : decode cX0_gainOf 170 = .ok (.iaload, 1) := by decide +kernel
theorem dX0_gainOf_171 : decode cX0_gainOf 171 = .ok (.iconst 1, 1) := by decide +kernel
theorem dX0_gainOf_172 : decode cX0_gainOf 172 = .ok (.if_icmp .ne 10, 3) := by decide +kernel
theorem dX0_gainOf_175 : decode cX0_gainOf 175 = .ok (.iconst 3, 1) := by decide +kernel
theorem dX0_gainOf_176 : decode cX0_gainOf 176 = .ok (.iload 6, 2) := by decide +kernel
theorem dX0_gainOf_178 : decode cX0_gainOf 178 = .ok (.imul, 1) := by decide +kernel
theorem dX0_gainOf_179 : decode cX0_gainOf 179 = .ok (.goto 5, 3) := by decide +kernel
theorem dX0_gainOf_182 : decode cX0_gainOf 182 = .ok (.iload 6, 2) := by decide +kernel
theorem dX0_gainOf_184 : decode cX0_gainOf 184 = .ok (.ireturn, 1) := by decide +kernel
theorem dX0_gainOf_185 : decode cX0_gainOf 185 = .ok (.iload 6, 2) := by decide +kernel
theorem dX0_gainOf_187 : decode cX0_gainOf 187 = .ok (.ireturn, 1) := by decide +kernel
theorem dX0_gainsMost_0 : decode cX0_gainsMost 0 = .ok (.aload_n 0, 1) := by decide +kernel
theorem dX0_gainsMost_1 : decode cX0_gainsMost 1 = .ok (.getfield 21, 3) := by decide +kernel
theorem dX0_gainsMost_4 : decode cX0_gainsMost 4 = .ok (.getfield 42, 3) := by decide +kernel
theorem dX0_gainsMost_7 : decode cX0_gainsMost 7 = .ok (.iload_n 1, 1) := by decide +kernel
theorem dX0_gainsMost_8 : decode cX0_gainsMost 8 = .ok (.iaload, 1) := by decide +kernel
theorem dX0_gainsMost_9 : decode cX0_gainsMost 9 = .ok (.bipush 10, 2) := by decide +kernel
theorem dX0_gainsMost_11 : decode cX0_gainsMost 11 = .ok (.idiv, 1) := by decide +kernel
theorem dX0_gainsMost_12 : decode cX0_gainsMost 12 = .ok (.istore 4, 2) := by decide +kernel
theorem dX0_gainsMost_14 : decode cX0_gainsMost 14 = .ok (.iconst (-1), 1) := by decide +kernel
theorem dX0_gainsMost_15 : decode cX0_gainsMost 15 = .ok (.istore 5, 2) := by decide +kernel
theorem dX0_gainsMost_17 : decode cX0_gainsMost 17 = .ok (.iconst 0, 1) := by decide +kernel
theorem dX0_gainsMost_18 : decode cX0_gainsMost 18 = .ok (.istore 6, 2) := by decide +kernel
theorem dX0_gainsMost_20 : decode cX0_gainsMost 20 = .ok (.iload 6, 2) := by decide +kernel
theorem dX0_gainsMost_22 : decode cX0_gainsMost 22 = .ok (.aload_n 0, 1) := by decide +kernel
theorem dX0_gainsMost_23 : decode cX0_gainsMost 23 = .ok (.getfield 12, 3) := by decide +kernel
theorem dX0_gainsMost_26 : decode cX0_gainsMost 26 = .ok (.getfield 62, 3) := by decide +kernel
theorem dX0_gainsMost_29 : decode cX0_gainsMost 29 = .ok (.if_icmp .ge 43, 3) := by decide +kernel
theorem dX0_gainsMost_32 : decode cX0_gainsMost 32 = .ok (.iload_n 2, 1) := by decide +kernel
theorem dX0_gainsMost_33 : decode cX0_gainsMost 33 = .ok (.iload 6, 2) := by decide +kernel
theorem dX0_gainsMost_35 : decode cX0_gainsMost 35 = .ok (.invokestatic 65, 3) := by decide +kernel
theorem dX0_gainsMost_38 : decode cX0_gainsMost 38 = .ok (.ifCond .eq 28, 3) := by decide +kernel
theorem dX0_gainsMost_41 : decode cX0_gainsMost 41 = .ok (.aload_n 0, 1) := by decide +kernel
theorem dX0_gainsMost_42 : decode cX0_gainsMost 42 = .ok (.iload 6, 2) := by decide +kernel
theorem dX0_gainsMost_44 : decode cX0_gainsMost 44 = .ok (.iload_n 1, 1) := by decide +kernel
theorem dX0_gainsMost_45 : decode cX0_gainsMost 45 = .ok (.iload_n 3, 1) := by decide +kernel
theorem dX0_gainsMost_46 : decode cX0_gainsMost 46 = .ok (.invokevirtual 69, 3) := by decide +kernel
theorem dX0_gainsMost_49 : decode cX0_gainsMost 49 = .ok (.istore 7, 2) := by decide +kernel
theorem dX0_gainsMost_51 : decode cX0_gainsMost 51 = .ok (.iload 7, 2) := by decide +kernel
theorem dX0_gainsMost_53 : decode cX0_gainsMost 53 = .ok (.iload 4, 2) := by decide +kernel
theorem dX0_gainsMost_55 : decode cX0_gainsMost 55 = .ok (.if_icmp .le 11, 3) := by decide +kernel
theorem dX0_gainsMost_58 : decode cX0_gainsMost 58 = .ok (.iload 7, 2) := by decide +kernel
theorem dX0_gainsMost_60 : decode cX0_gainsMost 60 = .ok (.istore 4, 2) := by decide +kernel
theorem dX0_gainsMost_62 : decode cX0_gainsMost 62 = .ok (.iload 6, 2) := by decide +kernel
theorem dX0_gainsMost_64 : decode cX0_gainsMost 64 = .ok (.istore 5, 2) := by decide +kernel
theorem dX0_gainsMost_66 : decode cX0_gainsMost 66 = .ok (.iinc 6 1, 3) := by decide +kernel
theorem dX0_gainsMost_69 : decode cX0_gainsMost 69 = .ok (.goto (-49), 3) := by decide +kernel
theorem dX0_gainsMost_72 : decode cX0_gainsMost 72 = .ok (.iload 5, 2) := by decide +kernel
theorem dX0_gainsMost_74 : decode cX0_gainsMost 74 = .ok (.ireturn, 1) := by decide +kernel
theorem dX0_metBy_0 : decode cX0_metBy 0 = .ok (.aload_n 0, 1) := by decide +kernel
theorem dX0_metBy_1 : decode cX0_metBy 1 = .ok (.getfield 21, 3) := by decide +kernel
theorem dX0_metBy_4 : decode cX0_metBy 4 = .ok (.getfield 42, 3) := by decide +kernel
theorem dX0_metBy_7 : decode cX0_metBy 7 = .ok (.iload_n 1, 1) := by decide +kernel
theorem dX0_metBy_8 : decode cX0_metBy 8 = .ok (.iaload, 1) := by decide +kernel
theorem dX0_metBy_9 : decode cX0_metBy 9 = .ok (.istore 5, 2) := by decide +kernel
theorem dX0_metBy_11 : decode cX0_metBy 11 = .ok (.iload_n 2, 1) := by decide +kernel
theorem dX0_metBy_12 : decode cX0_metBy 12 = .ok (.ifCond .ge 11, 3) := by decide +kernel
theorem dX0_metBy_15 : decode cX0_metBy 15 = .ok (.iload 5, 2) := by decide +kernel
theorem dX0_metBy_17 : decode cX0_metBy 17 = .ok (.bipush 10, 2) := by decide +kernel
theorem dX0_metBy_19 : decode cX0_metBy 19 = .ok (.idiv, 1) := by decide +kernel
theorem dX0_metBy_20 : decode cX0_metBy 20 = .ok (.goto 10, 3) := by decide +kernel
theorem dX0_metBy_23 : decode cX0_metBy 23 = .ok (.aload_n 0, 1) := by decide +kernel
theorem dX0_metBy_24 : decode cX0_metBy 24 = .ok (.iload_n 2, 1) := by decide +kernel
theorem dX0_metBy_25 : decode cX0_metBy 25 = .ok (.iload_n 1, 1) := by decide +kernel
theorem dX0_metBy_26 : decode cX0_metBy 26 = .ok (.iload_n 3, 1) := by decide +kernel
theorem dX0_metBy_27 : decode cX0_metBy 27 = .ok (.invokevirtual 69, 3) := by decide +kernel
theorem dX0_metBy_30 : decode cX0_metBy 30 = .ok (.istore 6, 2) := by decide +kernel
theorem dX0_metBy_32 : decode cX0_metBy 32 = .ok (.iload 5, 2) := by decide +kernel
theorem dX0_metBy_34 : decode cX0_metBy 34 = .ok (.iload 6, 2) := by decide +kernel
theorem dX0_metBy_36 : decode cX0_metBy 36 = .ok (.iload 4, 2) := by decide +kernel
theorem dX0_metBy_38 : decode cX0_metBy 38 = .ok (.invokestatic 73, 3) := by decide +kernel
theorem dX0_metBy_41 : decode cX0_metBy 41 = .ok (.ireturn, 1) := by decide +kernel
theorem dX0_isKnown_0 : decode cX0_isKnown 0 = .ok (.aload_n 0, 1) := by decide +kernel
theorem dX0_isKnown_1 : decode cX0_isKnown 1 = .ok (.getfield 12, 3) := by decide +kernel
theorem dX0_isKnown_4 : decode cX0_isKnown 4 = .ok (.getfield 76, 3) := by decide +kernel
theorem dX0_isKnown_7 : decode cX0_isKnown 7 = .ok (.iload_n 1, 1) := by decide +kernel
theorem dX0_isKnown_8 : decode cX0_isKnown 8 = .ok (.iaload, 1) := by decide +kernel
theorem dX0_isKnown_9 : decode cX0_isKnown 9 = .ok (.aload_n 0, 1) := by decide +kernel
theorem dX0_isKnown_10 : decode cX0_isKnown 10 = .ok (.getfield 32, 3) := by decide +kernel
theorem dX0_isKnown_13 : decode cX0_isKnown 13 = .ok (.if_icmp .lt 7, 3) := by decide +kernel
theorem dX0_isKnown_16 : decode cX0_isKnown 16 = .ok (.iconst 1, 1) := by decide +kernel
theorem dX0_isKnown_17 : decode cX0_isKnown 17 = .ok (.goto 4, 3) := by decide +kernel
theorem dX0_isKnown_20 : decode cX0_isKnown 20 = .ok (.iconst 0, 1) := by decide +kernel
theorem dX0_isKnown_21 : decode cX0_isKnown 21 = .ok (.ireturn, 1) := by decide +kernel
theorem dX0_knownSet_0 : decode cX0_knownSet 0 = .ok (.iconst 0, 1) := by decide +kernel
theorem dX0_knownSet_1 : decode cX0_knownSet 1 = .ok (.istore_n 1, 1) := by decide +kernel
theorem dX0_knownSet_2 : decode cX0_knownSet 2 = .ok (.iconst 0, 1) := by decide +kernel
theorem dX0_knownSet_3 : decode cX0_knownSet 3 = .ok (.istore_n 2, 1) := by decide +kernel
theorem dX0_knownSet_4 : decode cX0_knownSet 4 = .ok (.iload_n 2, 1) := by decide +kernel
theorem dX0_knownSet_5 : decode cX0_knownSet 5 = .ok (.aload_n 0, 1) := by decide +kernel
theorem dX0_knownSet_6 : decode cX0_knownSet 6 = .ok (.getfield 12, 3) := by decide +kernel
theorem dX0_knownSet_9 : decode cX0_knownSet 9 = .ok (.getfield 62, 3) := by decide +kernel
theorem dX0_knownSet_12 : decode cX0_knownSet 12 = .ok (.if_icmp .ge 23, 3) := by decide +kernel
theorem dX0_knownSet_15 : decode cX0_knownSet 15 = .ok (.aload_n 0, 1) := by decide +kernel
theorem dX0_knownSet_16 : decode cX0_knownSet 16 = .ok (.iload_n 2, 1) := by decide +kernel
theorem dX0_knownSet_17 : decode cX0_knownSet 17 = .ok (.invokevirtual 79, 3) := by decide +kernel
theorem dX0_knownSet_20 : decode cX0_knownSet 20 = .ok (.ifCond .eq 9, 3) := by decide +kernel
theorem dX0_knownSet_23 : decode cX0_knownSet 23 = .ok (.iload_n 1, 1) := by decide +kernel
theorem dX0_knownSet_24 : decode cX0_knownSet 24 = .ok (.iconst 1, 1) := by decide +kernel
theorem dX0_knownSet_25 : decode cX0_knownSet 25 = .ok (.iload_n 2, 1) := by decide +kernel
theorem dX0_knownSet_26 : decode cX0_knownSet 26 = .ok (.ishl, 1) := by decide +kernel
theorem dX0_knownSet_27 : decode cX0_knownSet 27 = .ok (.ior, 1) := by decide +kernel
theorem dX0_knownSet_28 : decode cX0_knownSet 28 = .ok (.istore_n 1, 1) := by decide +kernel
theorem dX0_knownSet_29 : decode cX0_knownSet 29 = .ok (.iinc 2 1, 3) := by decide +kernel
theorem dX0_knownSet_32 : decode cX0_knownSet 32 = .ok (.goto (-28), 3) := by decide +kernel
theorem dX0_knownSet_35 : decode cX0_knownSet 35 = .ok (.iload_n 1, 1) := by decide +kernel
theorem dX0_knownSet_36 : decode cX0_knownSet 36 = .ok (.ireturn, 1) := by decide +kernel
theorem dX0_spendEvening_0 : decode cX0_spendEvening 0 = .ok (.iload_n 1, 1) := by decide +kernel
theorem dX0_spendEvening_1 : decode cX0_spendEvening 1 = .ok (.istore_n 2, 1) := by decide +kernel
theorem dX0_spendEvening_2 : decode cX0_spendEvening 2 = .ok (.iconst 0, 1) := by decide +kernel
theorem dX0_spendEvening_3 : decode cX0_spendEvening 3 = .ok (.istore_n 3, 1) := by decide +kernel
theorem dX0_spendEvening_4 : decode cX0_spendEvening 4 = .ok (.iload_n 3, 1) := by decide +kernel
theorem dX0_spendEvening_5 : decode cX0_spendEvening 5 = .ok (.aload_n 0, 1) := by decide +kernel
theorem dX0_spendEvening_6 : decode cX0_spendEvening 6 = .ok (.getfield 28, 3) := by decide +kernel
theorem dX0_spendEvening_9 : decode cX0_spendEvening 9 = .ok (.getfield 83, 3) := by decide +kernel
theorem dX0_spendEvening_12 : decode cX0_spendEvening 12 = .ok (.if_icmp .ge 65, 3) := by decide +kernel
theorem dX0_spendEvening_15 : decode cX0_spendEvening 15 = .ok (.iload_n 2, 1) := by decide +kernel
theorem dX0_spendEvening_16 : decode cX0_spendEvening 16 = .ok (.ifCond .le 61, 3) := by decide +kernel
theorem dX0_spendEvening_19 : decode cX0_spendEvening 19 = .ok (.aload_n 0, 1) := by decide +kernel
theorem dX0_spendEvening_20 : decode cX0_spendEvening 20 = .ok (.getfield 28, 3) := by decide +kernel
theorem dX0_spendEvening_23 : decode cX0_spendEvening 23 = .ok (.getfield 84, 3) := by decide +kernel
theorem dX0_spendEvening_26 : decode cX0_spendEvening 26 = .ok (.iload_n 3, 1) := by decide +kernel
theorem dX0_spendEvening_27 : decode cX0_spendEvening 27 = .ok (.iaload, 1) := by decide +kernel
theorem dX0_spendEvening_28 : decode cX0_spendEvening 28 = .ok (.istore 4, 2) := by decide +kernel
theorem dX0_spendEvening_30 : decode cX0_spendEvening 30 = .ok (.aload_n 0, 1) := by decide +kernel
theorem dX0_spendEvening_31 : decode cX0_spendEvening 31 = .ok (.iload 4, 2) := by decide +kernel
theorem dX0_spendEvening_33 : decode cX0_spendEvening 33 = .ok (.invokevirtual 79, 3) := by decide +kernel
theorem dX0_spendEvening_36 : decode cX0_spendEvening 36 = .ok (.ifCond .ne 35, 3) := by decide +kernel
theorem dX0_spendEvening_39 : decode cX0_spendEvening 39 = .ok (.iload_n 2, 1) := by decide +kernel
theorem dX0_spendEvening_40 : decode cX0_spendEvening 40 = .ok (.aload_n 0, 1) := by decide +kernel
theorem dX0_spendEvening_41 : decode cX0_spendEvening 41 = .ok (.getfield 12, 3) := by decide +kernel
theorem dX0_spendEvening_44 : decode cX0_spendEvening 44 = .ok (.getfield 87, 3) := by decide +kernel
theorem dX0_spendEvening_47 : decode cX0_spendEvening 47 = .ok (.iload 4, 2) := by decide +kernel
theorem dX0_spendEvening_49 : decode cX0_spendEvening 49 = .ok (.iaload, 1) := by decide +kernel
theorem dX0_spendEvening_50 : decode cX0_spendEvening 50 = .ok (.invokestatic 90, 3) := by decide +kernel
theorem dX0_spendEvening_53 : decode cX0_spendEvening 53 = .ok (.istore 5, 2) := by decide +kernel
theorem dX0_spendEvening_55 : decode cX0_spendEvening 55 = .ok (.aload_n 0, 1) := by decide +kernel
theorem dX0_spendEvening_56 : decode cX0_spendEvening 56 = .ok (.getfield 12, 3) := by decide +kernel
theorem dX0_spendEvening_59 : decode cX0_spendEvening 59 = .ok (.iload 4, 2) := by decide +kernel
theorem dX0_spendEvening_61 : decode cX0_spendEvening 61 = .ok (.iload 5, 2) := by decide +kernel
theorem dX0_spendEvening_63 : decode cX0_spendEvening 63 = .ok (.invokevirtual 96, 3) := by decide +kernel
theorem dX0_spendEvening_66 : decode cX0_spendEvening 66 = .ok (.iload_n 2, 1) := by decide +kernel
theorem dX0_spendEvening_67 : decode cX0_spendEvening 67 = .ok (.iload 5, 2) := by decide +kernel
theorem dX0_spendEvening_69 : decode cX0_spendEvening 69 = .ok (.isub, 1) := by decide +kernel
theorem dX0_spendEvening_70 : decode cX0_spendEvening 70 = .ok (.istore_n 2, 1) := by decide +kernel
theorem dX0_spendEvening_71 : decode cX0_spendEvening 71 = .ok (.iinc 3 1, 3) := by decide +kernel
theorem dX0_spendEvening_74 : decode cX0_spendEvening 74 = .ok (.goto (-70), 3) := by decide +kernel
theorem dX0_spendEvening_77 : decode cX0_spendEvening 77 = .ok (.iload_n 2, 1) := by decide +kernel
theorem dX0_spendEvening_78 : decode cX0_spendEvening 78 = .ok (.ireturn, 1) := by decide +kernel
theorem dX0_goDays_0 : decode cX0_goDays 0 = .ok (.iconst 0, 1) := by decide +kernel
theorem dX0_goDays_1 : decode cX0_goDays 1 = .ok (.istore_n 2, 1) := by decide +kernel
theorem dX0_goDays_2 : decode cX0_goDays 2 = .ok (.iload_n 2, 1) := by decide +kernel
theorem dX0_goDays_3 : decode cX0_goDays 3 = .ok (.iload_n 1, 1) := by decide +kernel
theorem dX0_goDays_4 : decode cX0_goDays 4 = .ok (.if_icmp .ge 62, 3) := by decide +kernel
theorem dX0_goDays_7 : decode cX0_goDays 7 = .ok (.aload_n 0, 1) := by decide +kernel
theorem dX0_goDays_8 : decode cX0_goDays 8 = .ok (.getfield 21, 3) := by decide +kernel
theorem dX0_goDays_11 : decode cX0_goDays 11 = .ok (.aload_n 0, 1) := by decide +kernel
theorem dX0_goDays_12 : decode cX0_goDays 12 = .ok (.getfield 36, 3) := by decide +kernel
theorem dX0_goDays_15 : decode cX0_goDays 15 = .ok (.invokevirtual 100, 3) := by decide +kernel
theorem dX0_goDays_18 : decode cX0_goDays 18 = .ok (.ifCond .le 7, 3) := by decide +kernel
theorem dX0_goDays_21 : decode cX0_goDays 21 = .ok (.iconst 1, 1) := by decide +kernel
theorem dX0_goDays_22 : decode cX0_goDays 22 = .ok (.goto 4, 3) := by decide +kernel
theorem dX0_goDays_25 : decode cX0_goDays 25 = .ok (.iconst 0, 1) := by decide +kernel
theorem dX0_goDays_26 : decode cX0_goDays 26 = .ok (.istore_n 3, 1) := by decide +kernel
theorem dX0_goDays_27 : decode cX0_goDays 27 = .ok (.aload_n 0, 1) := by decide +kernel
theorem dX0_goDays_28 : decode cX0_goDays 28 = .ok (.getfield 12, 3) := by decide +kernel
theorem dX0_goDays_31 : decode cX0_goDays 31 = .ok (.iload_n 3, 1) := by decide +kernel
theorem dX0_goDays_32 : decode cX0_goDays 32 = .ok (.ifCond .eq 14, 3) := by decide +kernel
theorem dX0_goDays_35 : decode cX0_goDays 35 = .ok (.aload_n 0, 1) := by decide +kernel
theorem dX0_goDays_36 : decode cX0_goDays 36 = .ok (.aload_n 0, 1) := by decide +kernel
theorem dX0_goDays_37 : decode cX0_goDays 37 = .ok (.invokevirtual 104, 3) := by decide +kernel
theorem dX0_goDays_40 : decode cX0_goDays 40 = .ok (.invokevirtual 108, 3) := by decide +kernel
theorem dX0_goDays_43 : decode cX0_goDays 43 = .ok (.goto 4, 3) := by decide +kernel
theorem dX0_goDays_46 : decode cX0_goDays 46 = .ok (.iconst 0, 1) := by decide +kernel
theorem dX0_goDays_47 : decode cX0_goDays 47 = .ok (.invokevirtual 111, 3) := by decide +kernel
theorem dX0_goDays_50 : decode cX0_goDays 50 = .ok (.aload_n 0, 1) := by decide +kernel
theorem dX0_goDays_51 : decode cX0_goDays 51 = .ok (.dup, 1) := by decide +kernel
theorem dX0_goDays_52 : decode cX0_goDays 52 = .ok (.getfield 36, 3) := by decide +kernel
theorem dX0_goDays_55 : decode cX0_goDays 55 = .ok (.iconst 1, 1) := by decide +kernel
theorem dX0_goDays_56 : decode cX0_goDays 56 = .ok (.iadd, 1) := by decide +kernel
theorem dX0_goDays_57 : decode cX0_goDays 57 = .ok (.putfield 36, 3) := by decide +kernel
theorem dX0_goDays_60 : decode cX0_goDays 60 = .ok (.iinc 2 1, 3) := by decide +kernel
theorem dX0_goDays_63 : decode cX0_goDays 63 = .ok (.goto (-61), 3) := by decide +kernel
theorem dX0_goDays_66 : decode cX0_goDays 66 = .ok (.return_, 1) := by decide +kernel
theorem dX0_meetWants_0 : decode cX0_meetWants 0 = .ok (.aload_n 0, 1) := by decide +kernel
theorem dX0_meetWants_1 : decode cX0_meetWants 1 = .ok (.getfield 12, 3) := by decide +kernel
theorem dX0_meetWants_4 : decode cX0_meetWants 4 = .ok (.iload_n 1, 1) := by decide +kernel
theorem dX0_meetWants_5 : decode cX0_meetWants 5 = .ok (.iconst 2, 1) := by decide +kernel
theorem dX0_meetWants_6 : decode cX0_meetWants 6 = .ok (.invokevirtual 115, 3) := by decide +kernel
theorem dX0_meetWants_9 : decode cX0_meetWants 9 = .ok (.istore_n 2, 1) := by decide +kernel
theorem dX0_meetWants_10 : decode cX0_meetWants 10 = .ok (.aload_n 0, 1) := by decide +kernel
theorem dX0_meetWants_11 : decode cX0_meetWants 11 = .ok (.getfield 12, 3) := by decide +kernel
theorem dX0_meetWants_14 : decode cX0_meetWants 14 = .ok (.iload_n 1, 1) := by decide +kernel
theorem dX0_meetWants_15 : decode cX0_meetWants 15 = .ok (.iconst 4, 1) := by decide +kernel
theorem dX0_meetWants_16 : decode cX0_meetWants 16 = .ok (.invokevirtual 115, 3) := by decide +kernel
theorem dX0_meetWants_19 : decode cX0_meetWants 19 = .ok (.istore_n 3, 1) := by decide +kernel
theorem dX0_meetWants_20 : decode cX0_meetWants 20 = .ok (.iconst 0, 1) := by decide +kernel
theorem dX0_meetWants_21 : decode cX0_meetWants 21 = .ok (.istore 4, 2) := by decide +kernel
theorem dX0_meetWants_23 : decode cX0_meetWants 23 = .ok (.iconst 0, 1) := by decide +kernel
theorem dX0_meetWants_24 : decode cX0_meetWants 24 = .ok (.istore 5, 2) := by decide +kernel
theorem dX0_meetWants_26 : decode cX0_meetWants 26 = .ok (.iload 5, 2) := by decide +kernel
theorem dX0_meetWants_28 : decode cX0_meetWants 28 = .ok (.aload_n 0, 1) := by decide +kernel
theorem dX0_meetWants_29 : decode cX0_meetWants 29 = .ok (.getfield 21, 3) := by decide +kernel
theorem dX0_meetWants_32 : decode cX0_meetWants 32 = .ok (.getfield 118, 3) := by decide +kernel
theorem dX0_meetWants_35 : decode cX0_meetWants 35 = .ok (.if_icmp .ge 83, 3) := by decide +kernel
theorem dX0_meetWants_38 : decode cX0_meetWants 38 = .ok (.aload_n 0, 1) := by decide +kernel
theorem dX0_meetWants_39 : decode cX0_meetWants 39 = .ok (.getfield 21, 3) := by decide +kernel
theorem dX0_meetWants_42 : decode cX0_meetWants 42 = .ok (.getfield 119, 3) := by decide +kernel
theorem dX0_meetWants_45 : decode cX0_meetWants 45 = .ok (.iload 5, 2) := by decide +kernel
theorem dX0_meetWants_47 : decode cX0_meetWants 47 = .ok (.iaload, 1) := by decide +kernel
theorem dX0_meetWants_48 : decode cX0_meetWants 48 = .ok (.aload_n 0, 1) := by decide +kernel
theorem dX0_meetWants_49 : decode cX0_meetWants 49 = .ok (.getfield 36, 3) := by decide +kernel
theorem dX0_meetWants_52 : decode cX0_meetWants 52 = .ok (.if_icmp .ne 60, 3) := by decide +kernel
theorem dX0_meetWants_55 : decode cX0_meetWants 55 = .ok (.aload_n 0, 1) := by decide +kernel
theorem dX0_meetWants_56 : decode cX0_meetWants 56 = .ok (.iload 5, 2) := by decide +kernel
theorem dX0_meetWants_58 : decode cX0_meetWants 58 = .ok (.iload_n 1, 1) := by decide +kernel
theorem dX0_meetWants_59 : decode cX0_meetWants 59 = .ok (.iload_n 2, 1) := by decide +kernel
theorem dX0_meetWants_60 : decode cX0_meetWants 60 = .ok (.invokevirtual 121, 3) := by decide +kernel
theorem dX0_meetWants_63 : decode cX0_meetWants 63 = .ok (.istore 6, 2) := by decide +kernel
theorem dX0_meetWants_65 : decode cX0_meetWants 65 = .ok (.aload_n 0, 1) := by decide +kernel
theorem dX0_meetWants_66 : decode cX0_meetWants 66 = .ok (.dup, 1) := by decide +kernel
theorem dX0_meetWants_67 : decode cX0_meetWants 67 = .ok (.getfield 39, 3) := by decide +kernel
theorem dX0_meetWants_70 : decode cX0_meetWants 70 = .ok (.aload_n 0, 1) := by decide +kernel
theorem dX0_meetWants_71 : decode cX0_meetWants 71 = .ok (.iload 5, 2) := by decide +kernel
theorem dX0_meetWants_73 : decode cX0_meetWants 73 = .ok (.iload 6, 2) := by decide +kernel
theorem dX0_meetWants_75 : decode cX0_meetWants 75 = .ok (.iload_n 2, 1) := by decide +kernel
theorem dX0_meetWants_76 : decode cX0_meetWants 76 = .ok (.iload_n 3, 1) := by decide +kernel
theorem dX0_meetWants_77 : decode cX0_meetWants 77 = .ok (.invokevirtual 124, 3) := by decide +kernel
theorem dX0_meetWants_80 : decode cX0_meetWants 80 = .ok (.iadd, 1) := by decide +kernel
theorem dX0_meetWants_81 : decode cX0_meetWants 81 = .ok (.putfield 39, 3) := by decide +kernel
theorem dX0_meetWants_84 : decode cX0_meetWants 84 = .ok (.iload 6, 2) := by decide +kernel
theorem dX0_meetWants_86 : decode cX0_meetWants 86 = .ok (.ifCond .lt 26, 3) := by decide +kernel
theorem dX0_meetWants_89 : decode cX0_meetWants 89 = .ok (.aload_n 0, 1) := by decide +kernel
theorem dX0_meetWants_90 : decode cX0_meetWants 90 = .ok (.getfield 12, 3) := by decide +kernel
theorem dX0_meetWants_93 : decode cX0_meetWants 93 = .ok (.getfield 128, 3) := by decide +kernel
theorem dX0_meetWants_96 : decode cX0_meetWants 96 = .ok (.iload 6, 2) := by decide +kernel
theorem dX0_meetWants_98 : decode cX0_meetWants 98 = .ok (.dup2, 1) := by decide +kernel
theorem dX0_meetWants_99 : decode cX0_meetWants 99 = .ok (.iaload, 1) := by decide +kernel
theorem dX0_meetWants_100 : decode cX0_meetWants 100 = .ok (.iconst 1, 1) := by decide +kernel
theorem dX0_meetWants_101 : decode cX0_meetWants 101 = .ok (.iadd, 1) := by decide +kernel
theorem dX0_meetWants_102 : decode cX0_meetWants 102 = .ok (.iastore, 1) := by decide +kernel
theorem dX0_meetWants_103 : decode cX0_meetWants 103 = .ok (.iload 4, 2) := by decide +kernel
theorem dX0_meetWants_105 : decode cX0_meetWants 105 = .ok (.iconst 1, 1) := by decide +kernel
theorem dX0_meetWants_106 : decode cX0_meetWants 106 = .ok (.iload 6, 2) := by decide +kernel
theorem dX0_meetWants_108 : decode cX0_meetWants 108 = .ok (.ishl, 1) := by decide +kernel
theorem dX0_meetWants_109 : decode cX0_meetWants 109 = .ok (.ior, 1) := by decide +kernel
theorem dX0_meetWants_110 : decode cX0_meetWants 110 = .ok (.istore 4, 2) := by decide +kernel
theorem dX0_meetWants_112 : decode cX0_meetWants 112 = .ok (.iinc 5 1, 3) := by decide +kernel
theorem dX0_meetWants_115 : decode cX0_meetWants 115 = .ok (.goto (-89), 3) := by decide +kernel
theorem dX0_meetWants_118 : decode cX0_meetWants 118 = .ok (.iload 4, 2) := by decide +kernel
theorem dX0_meetWants_120 : decode cX0_meetWants 120 = .ok (.ireturn, 1) := by decide +kernel
theorem dX0_takeFrom_0 : decode cX0_takeFrom 0 = .ok (.aload_n 0, 1) := by decide +kernel
theorem dX0_takeFrom_1 : decode cX0_takeFrom 1 = .ok (.getfield 12, 3) := by decide +kernel
theorem dX0_takeFrom_4 : decode cX0_takeFrom 4 = .ok (.aload_n 1, 1) := by decide +kernel
theorem dX0_takeFrom_5 : decode cX0_takeFrom 5 = .ok (.getfield 12, 3) := by decide +kernel
theorem dX0_takeFrom_8 : decode cX0_takeFrom 8 = .ok (.invokevirtual 131, 3) := by decide +kernel
theorem dX0_takeFrom_11 : decode cX0_takeFrom 11 = .ok (.aload_n 0, 1) := by decide +kernel
theorem dX0_takeFrom_12 : decode cX0_takeFrom 12 = .ok (.getfield 21, 3) := by decide +kernel
theorem dX0_takeFrom_15 : decode cX0_takeFrom 15 = .ok (.aload_n 1, 1) := by decide +kernel
theorem dX0_takeFrom_16 : decode cX0_takeFrom 16 = .ok (.getfield 21, 3) := by decide +kernel
theorem dX0_takeFrom_19 : decode cX0_takeFrom 19 = .ok (.invokevirtual 135, 3) := by decide +kernel
theorem dX0_takeFrom_22 : decode cX0_takeFrom 22 = .ok (.aload_n 0, 1) := by decide +kernel
theorem dX0_takeFrom_23 : decode cX0_takeFrom 23 = .ok (.getfield 28, 3) := by decide +kernel
theorem dX0_takeFrom_26 : decode cX0_takeFrom 26 = .ok (.aload_n 1, 1) := by decide +kernel
theorem dX0_takeFrom_27 : decode cX0_takeFrom 27 = .ok (.getfield 28, 3) := by decide +kernel
theorem dX0_takeFrom_30 : decode cX0_takeFrom 30 = .ok (.invokevirtual 138, 3) := by decide +kernel
theorem dX0_takeFrom_33 : decode cX0_takeFrom 33 = .ok (.aload_n 0, 1) := by decide +kernel
theorem dX0_takeFrom_34 : decode cX0_takeFrom 34 = .ok (.aload_n 1, 1) := by decide +kernel
theorem dX0_takeFrom_35 : decode cX0_takeFrom 35 = .ok (.getfield 32, 3) := by decide +kernel
theorem dX0_takeFrom_38 : decode cX0_takeFrom 38 = .ok (.putfield 32, 3) := by decide +kernel
theorem dX0_takeFrom_41 : decode cX0_takeFrom 41 = .ok (.aload_n 0, 1) := by decide +kernel
theorem dX0_takeFrom_42 : decode cX0_takeFrom 42 = .ok (.aload_n 1, 1) := by decide +kernel
theorem dX0_takeFrom_43 : decode cX0_takeFrom 43 = .ok (.getfield 36, 3) := by decide +kernel
theorem dX0_takeFrom_46 : decode cX0_takeFrom 46 = .ok (.putfield 36, 3) := by decide +kernel
theorem dX0_takeFrom_49 : decode cX0_takeFrom 49 = .ok (.aload_n 0, 1) := by decide +kernel
theorem dX0_takeFrom_50 : decode cX0_takeFrom 50 = .ok (.aload_n 1, 1) := by decide +kernel
theorem dX0_takeFrom_51 : decode cX0_takeFrom 51 = .ok (.getfield 39, 3) := by decide +kernel
theorem dX0_takeFrom_54 : decode cX0_takeFrom 54 = .ok (.putfield 39, 3) := by decide +kernel
theorem dX0_takeFrom_57 : decode cX0_takeFrom 57 = .ok (.return_, 1) := by decide +kernel
theorem dX1_init_0 : decode cX1_init 0 = .ok (.aload_n 0, 1) := by decide +kernel
theorem dX1_init_1 : decode cX1_init 1 = .ok (.invokespecial 3, 3) := by decide +kernel
theorem dX1_init_4 : decode cX1_init 4 = .ok (.aload_n 0, 1) := by decide +kernel
theorem dX1_init_5 : decode cX1_init 5 = .ok (.sipush 144, 3) := by decide +kernel
theorem dX1_init_8 : decode cX1_init 8 = .ok (.newarray .int, 2) := by decide +kernel
theorem dX1_init_10 : decode cX1_init 10 = .ok (.putfield 9, 3) := by decide +kernel
theorem dX1_init_13 : decode cX1_init 13 = .ok (.aload_n 0, 1) := by decide +kernel
theorem dX1_init_14 : decode cX1_init 14 = .ok (.sipush 144, 3) := by decide +kernel
theorem dX1_init_17 : decode cX1_init 17 = .ok (.newarray .int, 2) := by decide +kernel
theorem dX1_init_19 : decode cX1_init 19 = .ok (.putfield 15, 3) := by decide +kernel
theorem dX1_init_22 : decode cX1_init 22 = .ok (.aload_n 0, 1) := by decide +kernel
theorem dX1_init_23 : decode cX1_init 23 = .ok (.bipush 12, 2) := by decide +kernel
theorem dX1_init_25 : decode cX1_init 25 = .ok (.newarray .int, 2) := by decide +kernel
theorem dX1_init_27 : decode cX1_init 27 = .ok (.putfield 18, 3) := by decide +kernel
theorem dX1_init_30 : decode cX1_init 30 = .ok (.aload_n 0, 1) := by decide +kernel
theorem dX1_init_31 : decode cX1_init 31 = .ok (.bipush 12, 2) := by decide +kernel
theorem dX1_init_33 : decode cX1_init 33 = .ok (.newarray .int, 2) := by decide +kernel
theorem dX1_init_35 : decode cX1_init 35 = .ok (.putfield 21, 3) := by decide +kernel
theorem dX1_init_38 : decode cX1_init 38 = .ok (.aload_n 0, 1) := by decide +kernel
theorem dX1_init_39 : decode cX1_init 39 = .ok (.bipush 12, 2) := by decide +kernel
theorem dX1_init_41 : decode cX1_init 41 = .ok (.newarray .int, 2) := by decide +kernel
theorem dX1_init_43 : decode cX1_init 43 = .ok (.putfield 24, 3) := by decide +kernel
theorem dX1_init_46 : decode cX1_init 46 = .ok (.aload_n 0, 1) := by decide +kernel
theorem dX1_init_47 : decode cX1_init 47 = .ok (.iconst 0, 1) := by decide +kernel
theorem dX1_init_48 : decode cX1_init 48 = .ok (.putfield 27, 3) := by decide +kernel
theorem dX1_init_51 : decode cX1_init 51 = .ok (.aload_n 0, 1) := by decide +kernel
theorem dX1_init_52 : decode cX1_init 52 = .ok (.iconst 0, 1) := by decide +kernel
theorem dX1_init_53 : decode cX1_init 53 = .ok (.putfield 31, 3) := by decide +kernel
theorem dX1_init_56 : decode cX1_init 56 = .ok (.aload_n 0, 1) := by decide +kernel
theorem dX1_init_57 : decode cX1_init 57 = .ok (.iconst 0, 1) := by decide +kernel
theorem dX1_init_58 : decode cX1_init 58 = .ok (.putfield 34, 3) := by decide +kernel
theorem dX1_init_61 : decode cX1_init 61 = .ok (.aload_n 0, 1) := by decide +kernel
theorem dX1_init_62 : decode cX1_init 62 = .ok (.iconst 0, 1) := by decide +kernel
theorem dX1_init_63 : decode cX1_init 63 = .ok (.putfield 37, 3) := by decide +kernel
theorem dX1_init_66 : decode cX1_init 66 = .ok (.return_, 1) := by decide +kernel
theorem dX1_lookAt_0 : decode cX1_lookAt 0 = .ok (.aload_n 0, 1) := by decide +kernel
theorem dX1_lookAt_1 : decode cX1_lookAt 1 = .ok (.aload_n 1, 1) := by decide +kernel
theorem dX1_lookAt_2 : decode cX1_lookAt 2 = .ok (.getfield 40, 3) := by decide +kernel
theorem dX1_lookAt_5 : decode cX1_lookAt 5 = .ok (.getfield 45, 3) := by decide +kernel
theorem dX1_lookAt_8 : decode cX1_lookAt 8 = .ok (.putfield 34, 3) := by decide +kernel
theorem dX1_lookAt_11 : decode cX1_lookAt 11 = .ok (.aload_n 0, 1) := by decide +kernel
theorem dX1_lookAt_12 : decode cX1_lookAt 12 = .ok (.aload_n 1, 1) := by decide +kernel
theorem dX1_lookAt_13 : decode cX1_lookAt 13 = .ok (.getfield 50, 3) := by decide +kernel
theorem dX1_lookAt_16 : decode cX1_lookAt 16 = .ok (.getfield 53, 3) := by decide +kernel
theorem dX1_lookAt_19 : decode cX1_lookAt 19 = .ok (.putfield 37, 3) := by decide +kernel
theorem dX1_lookAt_22 : decode cX1_lookAt 22 = .ok (.aload_n 0, 1) := by decide +kernel
theorem dX1_lookAt_23 : decode cX1_lookAt 23 = .ok (.iconst 0, 1) := by decide +kernel
theorem dX1_lookAt_24 : decode cX1_lookAt 24 = .ok (.putfield 27, 3) := by decide +kernel
theorem dX1_lookAt_27 : decode cX1_lookAt 27 = .ok (.aload_n 0, 1) := by decide +kernel
theorem dX1_lookAt_28 : decode cX1_lookAt 28 = .ok (.iconst 0, 1) := by decide +kernel
theorem dX1_lookAt_29 : decode cX1_lookAt 29 = .ok (.putfield 31, 3) := by decide +kernel
theorem dX1_lookAt_32 : decode cX1_lookAt 32 = .ok (.iconst 0, 1) := by decide +kernel
theorem dX1_lookAt_33 : decode cX1_lookAt 33 = .ok (.istore_n 2, 1) := by decide +kernel
theorem dX1_lookAt_34 : decode cX1_lookAt 34 = .ok (.iload_n 2, 1) := by decide +kernel
theorem dX1_lookAt_35 : decode cX1_lookAt 35 = .ok (.aload_n 0, 1) := by decide +kernel
theorem dX1_lookAt_36 : decode cX1_lookAt 36 = .ok (.getfield 34, 3) := by decide +kernel
theorem dX1_lookAt_39 : decode cX1_lookAt 39 = .ok (.if_icmp .ge 80, 3) := by decide +kernel
theorem dX1_lookAt_42 : decode cX1_lookAt 42 = .ok (.aload_n 0, 1) := by decide +kernel
theorem dX1_lookAt_43 : decode cX1_lookAt 43 = .ok (.getfield 21, 3) := by decide +kernel
theorem dX1_lookAt_46 : decode cX1_lookAt 46 = .ok (.iload_n 2, 1) := by decide +kernel
theorem dX1_lookAt_47 : decode cX1_lookAt 47 = .ok (.aload_n 1, 1) := by decide +kernel
theorem dX1_lookAt_48 : decode cX1_lookAt 48 = .ok (.getfield 40, 3) := by decide +kernel
theorem dX1_lookAt_51 : decode cX1_lookAt 51 = .ok (.getfield 56, 3) := by decide +kernel
theorem dX1_lookAt_54 : decode cX1_lookAt 54 = .ok (.iload_n 2, 1) := by decide +kernel
theorem dX1_lookAt_55 : decode cX1_lookAt 55 = .ok (.iaload, 1) := by decide +kernel
theorem dX1_lookAt_56 : decode cX1_lookAt 56 = .ok (.iastore, 1) := by decide +kernel
theorem dX1_lookAt_57 : decode cX1_lookAt 57 = .ok (.aload_n 0, 1) := by decide +kernel
theorem dX1_lookAt_58 : decode cX1_lookAt 58 = .ok (.dup, 1) := by decide +kernel
theorem dX1_lookAt_59 : decode cX1_lookAt 59 = .ok (.getfield 27, 3) := by decide +kernel
theorem dX1_lookAt_62 : decode cX1_lookAt 62 = .ok (.aload_n 1, 1) := by decide +kernel
theorem dX1_lookAt_63 : decode cX1_lookAt 63 = .ok (.getfield 40, 3) := by decide +kernel
theorem dX1_lookAt_66 : decode cX1_lookAt 66 = .ok (.iload_n 2, 1) := by decide +kernel
theorem dX1_lookAt_67 : decode cX1_lookAt 67 = .ok (.iconst 2, 1) := by decide +kernel
theorem dX1_lookAt_68 : decode cX1_lookAt 68 = .ok (.invokevirtual 57, 3) := by decide +kernel
theorem dX1_lookAt_71 : decode cX1_lookAt 71 = .ok (.ifCond .eq 9, 3) := by decide +kernel
theorem dX1_lookAt_74 : decode cX1_lookAt 74 = .ok (.iconst 1, 1) := by decide +kernel
theorem dX1_lookAt_75 : decode cX1_lookAt 75 = .ok (.iload_n 2, 1) := by decide +kernel
theorem dX1_lookAt_76 : decode cX1_lookAt 76 = .ok (.ishl, 1) := by decide +kernel
theorem dX1_lookAt_77 : decode cX1_lookAt 77 = .ok (.goto 4, 3) := by decide +kernel
theorem dX1_lookAt_80 : decode cX1_lookAt 80 = .ok (.iconst 0, 1) := by decide +kernel
theorem dX1_lookAt_81 : decode cX1_lookAt 81 = .ok (.ior, 1) := by decide +kernel
theorem dX1_lookAt_82 : decode cX1_lookAt 82 = .ok (.putfield 27, 3) := by decide +kernel
theorem dX1_lookAt_85 : decode cX1_lookAt 85 = .ok (.aload_n 0, 1) := by decide +kernel
theorem dX1_lookAt_86 : decode cX1_lookAt 86 = .ok (.dup, 1) := by decide +kernel
theorem dX1_lookAt_87 : decode cX1_lookAt 87 = .ok (.getfield 31, 3) := by decide +kernel
theorem dX1_lookAt_90 : decode cX1_lookAt 90 = .ok (.aload_n 1, 1) := by decide +kernel
theorem dX1_lookAt_91 : decode cX1_lookAt 91 = .ok (.getfield 40, 3) := by decide +kernel
theorem dX1_lookAt_94 : decode cX1_lookAt 94 = .ok (.iload_n 2, 1) := by decide +kernel
theorem dX1_lookAt_95 : decode cX1_lookAt 95 = .ok (.iconst 4, 1) := by decide +kernel
theorem dX1_lookAt_96 : decode cX1_lookAt 96 = .ok (.invokevirtual 57, 3) := by decide +kernel
theorem dX1_lookAt_99 : decode cX1_lookAt 99 = .ok (.ifCond .eq 9, 3) := by decide +kernel
theorem dX1_lookAt_102 : decode cX1_lookAt 102 = .ok (.iconst 1, 1) := by decide +kernel
theorem dX1_lookAt_103 : decode cX1_lookAt 103 = .ok (.iload_n 2, 1) := by decide +kernel
theorem dX1_lookAt_104 : decode cX1_lookAt 104 = .ok (.ishl, 1) := by decide +kernel
theorem dX1_lookAt_105 : decode cX1_lookAt 105 = .ok (.goto 4, 3) := by decide +kernel
theorem dX1_lookAt_108 : decode cX1_lookAt 108 = .ok (.iconst 0, 1) := by decide +kernel
theorem dX1_lookAt_109 : decode cX1_lookAt 109 = .ok (.ior, 1) := by decide +kernel
theorem dX1_lookAt_110 : decode cX1_lookAt 110 = .ok (.putfield 31, 3) := by decide +kernel
theorem dX1_lookAt_113 : decode cX1_lookAt 113 = .ok (.iinc 2 1, 3) := by decide +kernel
theorem dX1_lookAt_116 : decode cX1_lookAt 116 = .ok (.goto (-82), 3) := by decide +kernel
theorem dX1_lookAt_119 : decode cX1_lookAt 119 = .ok (.iconst 0, 1) := by decide +kernel
theorem dX1_lookAt_120 : decode cX1_lookAt 120 = .ok (.istore_n 2, 1) := by decide +kernel
theorem dX1_lookAt_121 : decode cX1_lookAt 121 = .ok (.iload_n 2, 1) := by decide +kernel
theorem dX1_lookAt_122 : decode cX1_lookAt 122 = .ok (.aload_n 0, 1) := by decide +kernel
theorem dX1_lookAt_123 : decode cX1_lookAt 123 = .ok (.getfield 37, 3) := by decide +kernel
theorem dX1_lookAt_126 : decode cX1_lookAt 126 = .ok (.if_icmp .ge 76, 3) := by decide +kernel
theorem dX1_lookAt_129 : decode cX1_lookAt 129 = .ok (.aload_n 0, 1) := by decide +kernel
theorem dX1_lookAt_130 : decode cX1_lookAt 130 = .ok (.getfield 18, 3) := by decide +kernel
theorem dX1_lookAt_133 : decode cX1_lookAt 133 = .ok (.iload_n 2, 1) := by decide +kernel
theorem dX1_lookAt_134 : decode cX1_lookAt 134 = .ok (.aload_n 1, 1) := by decide +kernel
theorem dX1_lookAt_135 : decode cX1_lookAt 135 = .ok (.getfield 50, 3) := by decide +kernel
theorem dX1_lookAt_138 : decode cX1_lookAt 138 = .ok (.getfield 61, 3) := by decide +kernel
theorem dX1_lookAt_141 : decode cX1_lookAt 141 = .ok (.iload_n 2, 1) := by decide +kernel
theorem dX1_lookAt_142 : decode cX1_lookAt 142 = .ok (.iaload, 1) := by decide +kernel
theorem dX1_lookAt_143 : decode cX1_lookAt 143 = .ok (.iastore, 1) := by decide +kernel
theorem dX1_lookAt_144 : decode cX1_lookAt 144 = .ok (.iconst 0, 1) := by decide +kernel
theorem dX1_lookAt_145 : decode cX1_lookAt 145 = .ok (.istore_n 3, 1) := by decide +kernel
theorem dX1_lookAt_146 : decode cX1_lookAt 146 = .ok (.iload_n 3, 1) := by decide +kernel
theorem dX1_lookAt_147 : decode cX1_lookAt 147 = .ok (.aload_n 0, 1) := by decide +kernel
theorem dX1_lookAt_148 : decode cX1_lookAt 148 = .ok (.getfield 34, 3) := by decide +kernel
theorem dX1_lookAt_151 : decode cX1_lookAt 151 = .ok (.if_icmp .ge 45, 3) := by decide +kernel
theorem dX1_lookAt_154 : decode cX1_lookAt 154 = .ok (.aload_n 0, 1) := by decide +kernel
theorem dX1_lookAt_155 : decode cX1_lookAt 155 = .ok (.getfield 9, 3) := by decide +kernel
theorem dX1_lookAt_158 : decode cX1_lookAt 158 = .ok (.iload_n 2, 1) := by decide +kernel
theorem dX1_lookAt_159 : decode cX1_lookAt 159 = .ok (.bipush 12, 2) := by decide +kernel
theorem dX1_lookAt_161 : decode cX1_lookAt 161 = .ok (.imul, 1) := by decide +kernel
theorem dX1_lookAt_162 : decode cX1_lookAt 162 = .ok (.iload_n 3, 1) := by decide +kernel
theorem dX1_lookAt_163 : decode cX1_lookAt 163 = .ok (.iadd, 1) := by decide +kernel
theorem dX1_lookAt_164 : decode cX1_lookAt 164 = .ok (.aload_n 1, 1) := by decide +kernel
theorem dX1_lookAt_165 : decode cX1_lookAt 165 = .ok (.iload_n 3, 1) := by decide +kernel
theorem dX1_lookAt_166 : decode cX1_lookAt 166 = .ok (.iload_n 2, 1) := by decide +kernel
theorem dX1_lookAt_167 : decode cX1_lookAt 167 = .ok (.iconst 0, 1) := by decide +kernel
theorem dX1_lookAt_168 : decode cX1_lookAt 168 = .ok (.invokevirtual 62, 3) := by decide +kernel
theorem dX1_lookAt_171 : decode cX1_lookAt 171 = .ok (.iastore, 1) := by decide +kernel
theorem dX1_lookAt_172 : decode cX1_lookAt 172 = .ok (.aload_n 0, 1) := by decide +kernel
theorem dX1_lookAt_173 : decode cX1_lookAt 173 = .ok (.getfield 15, 3) := by decide +kernel
theorem dX1_lookAt_176 : decode cX1_lookAt 176 = .ok (.iload_n 2, 1) := by decide +kernel
theorem dX1_lookAt_177 : decode cX1_lookAt 177 = .ok (.bipush 12, 2) := by decide +kernel
theorem dX1_lookAt_179 : decode cX1_lookAt 179 = .ok (.imul, 1) := by decide +kernel
theorem dX1_lookAt_180 : decode cX1_lookAt 180 = .ok (.iload_n 3, 1) := by decide +kernel
theorem dX1_lookAt_181 : decode cX1_lookAt 181 = .ok (.iadd, 1) := by decide +kernel
theorem dX1_lookAt_182 : decode cX1_lookAt 182 = .ok (.aload_n 1, 1) := by decide +kernel
theorem dX1_lookAt_183 : decode cX1_lookAt 183 = .ok (.iload_n 3, 1) := by decide +kernel
theorem dX1_lookAt_184 : decode cX1_lookAt 184 = .ok (.iload_n 2, 1) := by decide +kernel
theorem dX1_lookAt_185 : decode cX1_lookAt 185 = .ok (.iconst 1, 1) := by decide +kernel
theorem dX1_lookAt_186 : decode cX1_lookAt 186 = .ok (.invokevirtual 62, 3) := by decide +kernel
theorem dX1_lookAt_189 : decode cX1_lookAt 189 = .ok (.iastore, 1) := by decide +kernel
theorem dX1_lookAt_190 : decode cX1_lookAt 190 = .ok (.iinc 3 1, 3) := by decide +kernel
theorem dX1_lookAt_193 : decode cX1_lookAt 193 = .ok (.goto (-47), 3) := by decide +kernel
theorem dX1_lookAt_196 : decode cX1_lookAt 196 = .ok (.iinc 2 1, 3) := by decide +kernel
theorem dX1_lookAt_199 : decode cX1_lookAt 199 = .ok (.goto (-78), 3) := by decide +kernel
theorem dX1_lookAt_202 : decode cX1_lookAt 202 = .ok (.return_, 1) := by decide +kernel
theorem dX1_valueOf_0 : decode cX1_valueOf 0 = .ok (.iload_n 1, 1) := by decide +kernel
theorem dX1_valueOf_1 : decode cX1_valueOf 1 = .ok (.aload_n 0, 1) := by decide +kernel
theorem dX1_valueOf_2 : decode cX1_valueOf 2 = .ok (.getfield 27, 3) := by decide +kernel
theorem dX1_valueOf_5 : decode cX1_valueOf 5 = .ok (.iand, 1) := by decide +kernel
theorem dX1_valueOf_6 : decode cX1_valueOf 6 = .ok (.ifCond .eq 10, 3) := by decide +kernel
theorem dX1_valueOf_9 : decode cX1_valueOf 9 = .ok (.aload_n 0, 1) := by decide +kernel
theorem dX1_valueOf_10 : decode cX1_valueOf 10 = .ok (.getfield 15, 3) := by decide +kernel
theorem dX1_valueOf_13 : decode cX1_valueOf 13 = .ok (.goto 7, 3) := by decide +kernel
theorem dX1_valueOf_16 : decode cX1_valueOf 16 = .ok (.aload_n 0, 1) := by decide +kernel
theorem dX1_valueOf_17 : decode cX1_valueOf 17 = .ok (.getfield 9, 3) := by decide +kernel
theorem dX1_valueOf_20 : decode cX1_valueOf 20 = .ok (.astore_n 2, 1) := by decide +kernel
theorem dX1_valueOf_21 : decode cX1_valueOf 21 = .ok (.iload_n 1, 1) := by decide +kernel
theorem dX1_valueOf_22 : decode cX1_valueOf 22 = .ok (.aload_n 0, 1) := by decide +kernel
theorem dX1_valueOf_23 : decode cX1_valueOf 23 = .ok (.getfield 31, 3) := by decide +kernel
theorem dX1_valueOf_26 : decode cX1_valueOf 26 = .ok (.iand, 1) := by decide +kernel
theorem dX1_valueOf_27 : decode cX1_valueOf 27 = .ok (.ifCond .eq 7, 3) := by decide +kernel
theorem dX1_valueOf_30 : decode cX1_valueOf 30 = .ok (.iconst 1, 1) := by decide +kernel
theorem dX1_valueOf_31 : decode cX1_valueOf 31 = .ok (.goto 4, 3) := by decide +kernel
theorem dX1_valueOf_34 : decode cX1_valueOf 34 = .ok (.iconst 0, 1) := by decide +kernel
theorem dX1_valueOf_35 : decode cX1_valueOf 35 = .ok (.istore_n 3, 1) := by decide +kernel
theorem dX1_valueOf_36 : decode cX1_valueOf 36 = .ok (.aload_n 0, 1) := by decide +kernel
theorem dX1_valueOf_37 : decode cX1_valueOf 37 = .ok (.iload_n 1, 1) := by decide +kernel
theorem dX1_valueOf_38 : decode cX1_valueOf 38 = .ok (.invokevirtual 66, 3) := by decide +kernel
theorem dX1_valueOf_41 : decode cX1_valueOf 41 = .ok (.istore 4, 2) := by decide +kernel
theorem dX1_valueOf_43 : decode cX1_valueOf 43 = .ok (.iconst 0, 1) := by decide +kernel
theorem dX1_valueOf_44 : decode cX1_valueOf 44 = .ok (.istore 5, 2) := by decide +kernel
theorem dX1_valueOf_46 : decode cX1_valueOf 46 = .ok (.iconst 0, 1) := by decide +kernel
theorem dX1_valueOf_47 : decode cX1_valueOf 47 = .ok (.istore 6, 2) := by decide +kernel
theorem dX1_valueOf_49 : decode cX1_valueOf 49 = .ok (.iload 6, 2) := by decide +kernel
theorem dX1_valueOf_51 : decode cX1_valueOf 51 = .ok (.aload_n 0, 1) := by decide +kernel
theorem dX1_valueOf_52 : decode cX1_valueOf 52 = .ok (.getfield 37, 3) := by decide +kernel
theorem dX1_valueOf_55 : decode cX1_valueOf 55 = .ok (.if_icmp .ge 83, 3) := by decide +kernel
theorem dX1_valueOf_58 : decode cX1_valueOf 58 = .ok (.aload_n 0, 1) := by decide +kernel
theorem dX1_valueOf_59 : decode cX1_valueOf 59 = .ok (.getfield 18, 3) := by decide +kernel
theorem dX1_valueOf_62 : decode cX1_valueOf 62 = .ok (.iload 6, 2) := by decide +kernel
theorem dX1_valueOf_64 : decode cX1_valueOf 64 = .ok (.iaload, 1) := by decide +kernel
theorem dX1_valueOf_65 : decode cX1_valueOf 65 = .ok (.bipush 10, 2) := by decide +kernel
theorem dX1_valueOf_67 : decode cX1_valueOf 67 = .ok (.idiv, 1) := by decide +kernel
theorem dX1_valueOf_68 : decode cX1_valueOf 68 = .ok (.istore 7, 2) := by decide +kernel
theorem dX1_valueOf_70 : decode cX1_valueOf 70 = .ok (.iconst 0, 1) := by decide +kernel
theorem dX1_valueOf_71 : decode cX1_valueOf 71 = .ok (.istore 8, 2) := by decide +kernel
theorem dX1_valueOf_73 : decode cX1_valueOf 73 = .ok (.iload 8, 2) := by decide +kernel
theorem dX1_valueOf_75 : decode cX1_valueOf 75 = .ok (.iload 4, 2) := by decide +kernel
theorem dX1_valueOf_77 : decode cX1_valueOf 77 = .ok (.if_icmp .ge 37, 3) := by decide +kernel
theorem dX1_valueOf_80 : decode cX1_valueOf 80 = .ok (.aload_n 2, 1) := by decide +kernel
theorem dX1_valueOf_81 : decode cX1_valueOf 81 = .ok (.iload 6, 2) := by decide +kernel
theorem dX1_valueOf_83 : decode cX1_valueOf 83 = .ok (.bipush 12, 2) := by decide +kernel
theorem dX1_valueOf_85 : decode cX1_valueOf 85 = .ok (.imul, 1) := by decide +kernel
theorem dX1_valueOf_86 : decode cX1_valueOf 86 = .ok (.aload_n 0, 1) := by decide +kernel
theorem dX1_valueOf_87 : decode cX1_valueOf 87 = .ok (.getfield 24, 3) := by decide +kernel
theorem dX1_valueOf_90 : decode cX1_valueOf 90 = .ok (.iload 8, 2) := by decide +kernel
theorem dX1_valueOf_92 : decode cX1_valueOf 92 = .ok (.iaload, 1) := by decide +kernel
theorem dX1_valueOf_93 : decode cX1_valueOf 93 = .ok (.iadd, 1) := by decide +kernel
theorem dX1_valueOf_94 : decode cX1_valueOf 94 = .ok (.iaload, 1) := by decide +kernel
theorem dX1_valueOf_95 : decode cX1_valueOf 95 = .ok (.istore 9, 2) := by decide +kernel
theorem dX1_valueOf_97 : decode cX1_valueOf 97 = .ok (.iload 9, 2) := by decide +kernel
theorem dX1_valueOf_99 : decode cX1_valueOf 99 = .ok (.iload 7, 2) := by decide +kernel
theorem dX1_valueOf_101 : decode cX1_valueOf 101 = .ok (.if_icmp .le 7, 3) := by decide +kernel
theorem dX1_valueOf_104 : decode cX1_valueOf 104 = .ok (.iload 9, 2) := by decide +kernel
theorem dX1_valueOf_106 : decode cX1_valueOf 106 = .ok (.istore 7, 2) := by decide +kernel
theorem dX1_valueOf_108 : decode cX1_valueOf 108 = .ok (.iinc 8 1, 3) := by decide +kernel
theorem dX1_valueOf_111 : decode cX1_valueOf 111 = .ok (.goto (-38), 3) := by decide +kernel
theorem dX1_valueOf_114 : decode cX1_valueOf 114 = .ok (.iload 5, 2) := by decide +kernel
theorem dX1_valueOf_116 : decode cX1_valueOf 116 = .ok (.aload_n 0, 1) := by decide +kernel
theorem dX1_valueOf_117 : decode cX1_valueOf 117 = .ok (.getfield 18, 3) := by decide +kernel
theorem dX1_valueOf_120 : decode cX1_valueOf 120 = .ok (.iload 6, 2) := by decide +kernel
theorem dX1_valueOf_122 : decode cX1_valueOf 122 = .ok (.iaload, 1) := by decide +kernel
theorem dX1_valueOf_123 : decode cX1_valueOf 123 = .ok (.iload 7, 2) := by decide +kernel
theorem dX1_valueOf_125 : decode cX1_valueOf 125 = .ok (.iload_n 3, 1) := by decide +kernel
theorem dX1_valueOf_126 : decode cX1_valueOf 126 = .ok (.invokestatic 70, 3) := by decide +kernel
theorem dX1_valueOf_129 : decode cX1_valueOf 129 = .ok (.iadd, 1) := by decide +kernel
theorem dX1_valueOf_130 : decode cX1_valueOf 130 = .ok (.istore 5, 2) := by decide +kernel
theorem dX1_valueOf_132 : decode cX1_valueOf 132 = .ok (.iinc 6 1, 3) := by decide +kernel
theorem dX1_valueOf_135 : decode cX1_valueOf 135 = .ok (.goto (-86), 3) := by decide +kernel
theorem dX1_valueOf_138 : decode cX1_valueOf 138 = .ok (.iload 5, 2) := by decide +kernel
theorem dX1_valueOf_140 : decode cX1_valueOf 140 = .ok (.ireturn, 1) := by decide +kernel
theorem dX1_listMembers_0 : decode cX1_listMembers 0 = .ok (.iconst 0, 1) := by decide +kernel
theorem dX1_listMembers_1 : decode cX1_listMembers 1 = .ok (.istore_n 2, 1) := by decide +kernel
theorem dX1_listMembers_2 : decode cX1_listMembers 2 = .ok (.iconst 0, 1) := by decide +kernel
theorem dX1_listMembers_3 : decode cX1_listMembers 3 = .ok (.istore_n 3, 1) := by decide +kernel
theorem dX1_listMembers_4 : decode cX1_listMembers 4 = .ok (.iload_n 3, 1) := by decide +kernel
theorem dX1_listMembers_5 : decode cX1_listMembers 5 = .ok (.aload_n 0, 1) := by decide +kernel
theorem dX1_listMembers_6 : decode cX1_listMembers 6 = .ok (.getfield 34, 3) := by decide +kernel
theorem dX1_listMembers_9 : decode cX1_listMembers 9 = .ok (.if_icmp .ge 27, 3) := by decide +kernel
theorem dX1_listMembers_12 : decode cX1_listMembers 12 = .ok (.iload_n 1, 1) := by decide +kernel
theorem dX1_listMembers_13 : decode cX1_listMembers 13 = .ok (.iload_n 3, 1) := by decide +kernel
theorem dX1_listMembers_14 : decode cX1_listMembers 14 = .ok (.invokestatic 73, 3) := by decide +kernel
theorem dX1_listMembers_17 : decode cX1_listMembers 17 = .ok (.ifCond .eq 13, 3) := by decide +kernel
theorem dX1_listMembers_20 : decode cX1_listMembers 20 = .ok (.aload_n 0, 1) := by decide +kernel
theorem dX1_listMembers_21 : decode cX1_listMembers 21 = .ok (.getfield 24, 3) := by decide +kernel
theorem dX1_listMembers_24 : decode cX1_listMembers 24 = .ok (.iload_n 2, 1) := by decide +kernel
theorem dX1_listMembers_25 : decode cX1_listMembers 25 = .ok (.iload_n 3, 1) := by decide +kernel
theorem dX1_listMembers_26 : decode cX1_listMembers 26 = .ok (.iastore, 1) := by decide +kernel
theorem dX1_listMembers_27 : decode cX1_listMembers 27 = .ok (.iinc 2 1, 3) := by decide +kernel
theorem dX1_listMembers_30 : decode cX1_listMembers 30 = .ok (.iinc 3 1, 3) := by decide +kernel
theorem dX1_listMembers_33 : decode cX1_listMembers 33 = .ok (.goto (-29), 3) := by decide +kernel
theorem dX1_listMembers_36 : decode cX1_listMembers 36 = .ok (.iload_n 2, 1) := by decide +kernel
theorem dX1_listMembers_37 : decode cX1_listMembers 37 = .ok (.ireturn, 1) := by decide +kernel
theorem dX1_minutesOf_0 : decode cX1_minutesOf 0 = .ok (.iconst 0, 1) := by decide +kernel
theorem dX1_minutesOf_1 : decode cX1_minutesOf 1 = .ok (.istore_n 2, 1) := by decide +kernel
theorem dX1_minutesOf_2 : decode cX1_minutesOf 2 = .ok (.iconst 0, 1) := by decide +kernel
theorem dX1_minutesOf_3 : decode cX1_minutesOf 3 = .ok (.istore_n 3, 1) := by decide +kernel
theorem dX1_minutesOf_4 : decode cX1_minutesOf 4 = .ok (.iload_n 3, 1) := by decide +kernel
theorem dX1_minutesOf_5 : decode cX1_minutesOf 5 = .ok (.aload_n 0, 1) := by decide +kernel
theorem dX1_minutesOf_6 : decode cX1_minutesOf 6 = .ok (.getfield 34, 3) := by decide +kernel
theorem dX1_minutesOf_9 : decode cX1_minutesOf 9 = .ok (.if_icmp .ge 26, 3) := by decide +kernel
theorem dX1_minutesOf_12 : decode cX1_minutesOf 12 = .ok (.iload_n 1, 1) := by decide +kernel
theorem dX1_minutesOf_13 : decode cX1_minutesOf 13 = .ok (.iload_n 3, 1) := by decide +kernel
theorem dX1_minutesOf_14 : decode cX1_minutesOf 14 = .ok (.invokestatic 73, 3) := by decide +kernel
theorem dX1_minutesOf_17 : decode cX1_minutesOf 17 = .ok (.ifCond .eq 12, 3) := by decide +kernel
theorem dX1_minutesOf_20 : decode cX1_minutesOf 20 = .ok (.iload_n 2, 1) := by decide +kernel
theorem dX1_minutesOf_21 : decode cX1_minutesOf 21 = .ok (.aload_n 0, 1) := by decide +kernel
theorem dX1_minutesOf_22 : decode cX1_minutesOf 22 = .ok (.getfield 21, 3) := by decide +kernel
theorem dX1_minutesOf_25 : decode cX1_minutesOf 25 = .ok (.iload_n 3, 1) := by decide +kernel
theorem dX1_minutesOf_26 : decode cX1_minutesOf 26 = .ok (.iaload, 1) := by decide +kernel
theorem dX1_minutesOf_27 : decode cX1_minutesOf 27 = .ok (.iadd, 1) := by decide +kernel
theorem dX1_minutesOf_28 : decode cX1_minutesOf 28 = .ok (.istore_n 2, 1) := by decide +kernel
theorem dX1_minutesOf_29 : decode cX1_minutesOf 29 = .ok (.iinc 3 1, 3) := by decide +kernel
theorem dX1_minutesOf_32 : decode cX1_minutesOf 32 = .ok (.goto (-28), 3) := by decide +kernel
theorem dX1_minutesOf_35 : decode cX1_minutesOf 35 = .ok (.iload_n 2, 1) := by decide +kernel
theorem dX1_minutesOf_36 : decode cX1_minutesOf 36 = .ok (.ireturn, 1) := by decide +kernel
theorem dX1_bestSet_0 : decode cX1_bestSet 0 = .ok (.iconst 0, 1) := by decide +kernel
theorem dX1_bestSet_1 : decode cX1_bestSet 1 = .ok (.istore_n 2, 1) := by decide +kernel
theorem dX1_bestSet_2 : decode cX1_bestSet 2 = .ok (.aload_n 0, 1) := by decide +kernel
theorem dX1_bestSet_3 : decode cX1_bestSet 3 = .ok (.iconst 0, 1) := by decide +kernel
theorem dX1_bestSet_4 : decode cX1_bestSet 4 = .ok (.invokevirtual 76, 3) := by decide +kernel
theorem dX1_bestSet_7 : decode cX1_bestSet 7 = .ok (.istore_n 3, 1) := by decide +kernel
theorem dX1_bestSet_8 : decode cX1_bestSet 8 = .ok (.iconst 0, 1) := by decide +kernel
theorem dX1_bestSet_9 : decode cX1_bestSet 9 = .ok (.istore 4, 2) := by decide +kernel
theorem dX1_bestSet_11 : decode cX1_bestSet 11 = .ok (.iconst 1, 1) := by decide +kernel
theorem dX1_bestSet_12 : decode cX1_bestSet 12 = .ok (.istore 5, 2) := by decide +kernel
theorem dX1_bestSet_14 : decode cX1_bestSet 14 = .ok (.iload 5, 2) := by decide +kernel
theorem dX1_bestSet_16 : decode cX1_bestSet 16 = .ok (.iconst 1, 1) := by decide +kernel
theorem dX1_bestSet_17 : decode cX1_bestSet 17 = .ok (.aload_n 0, 1) := by decide +kernel
theorem dX1_bestSet_18 : decode cX1_bestSet 18 = .ok (.getfield 34, 3) := by decide +kernel
theorem dX1_bestSet_21 : decode cX1_bestSet 21 = .ok (.ishl, 1) := by decide +kernel
theorem dX1_bestSet_22 : decode cX1_bestSet 22 = .ok (.if_icmp .ge 60, 3) := by decide +kernel
theorem dX1_bestSet_25 : decode cX1_bestSet 25 = .ok (.aload_n 0, 1) := by decide +kernel
theorem dX1_bestSet_26 : decode cX1_bestSet 26 = .ok (.iload 5, 2) := by decide +kernel
theorem dX1_bestSet_28 : decode cX1_bestSet 28 = .ok (.invokevirtual 79, 3) := by decide +kernel
theorem dX1_bestSet_31 : decode cX1_bestSet 31 = .ok (.istore 6, 2) := by decide +kernel
theorem dX1_bestSet_33 : decode cX1_bestSet 33 = .ok (.iload 6, 2) := by decide +kernel
theorem dX1_bestSet_35 : decode cX1_bestSet 35 = .ok (.iload_n 1, 1) := by decide +kernel
theorem dX1_bestSet_36 : decode cX1_bestSet 36 = .ok (.if_icmp .gt 40, 3) := by decide +kernel
theorem dX1_bestSet_39 : decode cX1_bestSet 39 = .ok (.aload_n 0, 1) := by decide +kernel
theorem dX1_bestSet_40 : decode cX1_bestSet 40 = .ok (.iload 5, 2) := by decide +kernel
theorem dX1_bestSet_42 : decode cX1_bestSet 42 = .ok (.invokevirtual 76, 3) := by decide +kernel
theorem dX1_bestSet_45 : decode cX1_bestSet 45 = .ok (.istore 7, 2) := by decide +kernel
theorem dX1_bestSet_47 : decode cX1_bestSet 47 = .ok (.iload 7, 2) := by decide +kernel
theorem dX1_bestSet_49 : decode cX1_bestSet 49 = .ok (.iload_n 3, 1) := by decide +kernel
theorem dX1_bestSet_50 : decode cX1_bestSet 50 = .ok (.if_icmp .gt 16, 3) := by decide +kernel
theorem dX1_bestSet_53 : decode cX1_bestSet 53 = .ok (.iload 7, 2) := by decide +kernel
theorem dX1_bestSet_55 : decode cX1_bestSet 55 = .ok (.iload_n 3, 1) := by decide +kernel
theorem dX1_bestSet_56 : decode cX1_bestSet 56 = .ok (.if_icmp .ne 20, 3) := by decide +kernel
theorem dX1_bestSet_59 : decode cX1_bestSet 59 = .ok (.iload 6, 2) := by decide +kernel
theorem dX1_bestSet_61 : decode cX1_bestSet 61 = .ok (.iload 4, 2) := by decide +kernel
theorem dX1_bestSet_63 : decode cX1_bestSet 63 = .ok (.if_icmp .ge 13, 3) := by decide +kernel
theorem dX1_bestSet_66 : decode cX1_bestSet 66 = .ok (.iload 5, 2) := by decide +kernel
theorem dX1_bestSet_68 : decode cX1_bestSet 68 = .ok (.istore_n 2, 1) := by decide +kernel
theorem dX1_bestSet_69 : decode cX1_bestSet 69 = .ok (.iload 7, 2) := by decide +kernel
theorem dX1_bestSet_71 : decode cX1_bestSet 71 = .ok (.istore_n 3, 1) := by decide +kernel
theorem dX1_bestSet_72 : decode cX1_bestSet 72 = .ok (.iload 6, 2) := by decide +kernel
theorem dX1_bestSet_74 : decode cX1_bestSet 74 = .ok (.istore 4, 2) := by decide +kernel
theorem dX1_bestSet_76 : decode cX1_bestSet 76 = .ok (.iinc 5 1, 3) := by decide +kernel
theorem dX1_bestSet_79 : decode cX1_bestSet 79 = .ok (.goto (-65), 3) := by decide +kernel
theorem dX1_bestSet_82 : decode cX1_bestSet 82 = .ok (.iload_n 2, 1) := by decide +kernel
theorem dX1_bestSet_83 : decode cX1_bestSet 83 = .ok (.ireturn, 1) := by decide +kernel
theorem dX1_fewestMinutes_0 : decode cX1_fewestMinutes 0 = .ok (.iconst (-1), 1) := by decide +kernel
theorem dX1_fewestMinutes_1 : decode cX1_fewestMinutes 1 = .ok (.istore_n 2, 1) := by decide +kernel
theorem dX1_fewestMinutes_2 : decode cX1_fewestMinutes 2 = .ok (.iconst 0, 1) := by decide +kernel
theorem dX1_fewestMinutes_3 : decode cX1_fewestMinutes 3 = .ok (.istore_n 3, 1) := by decide +kernel
theorem dX1_fewestMinutes_4 : decode cX1_fewestMinutes 4 = .ok (.iload_n 3, 1) := by decide +kernel
theorem dX1_fewestMinutes_5 : decode cX1_fewestMinutes 5 = .ok (.iconst 1, 1) := by decide +kernel
theorem dX1_fewestMinutes_6 : decode cX1_fewestMinutes 6 = .ok (.aload_n 0, 1) := by decide +kernel
theorem dX1_fewestMinutes_7 : decode cX1_fewestMinutes 7 = .ok (.getfield 34, 3) := by decide +kernel
theorem dX1_fewestMinutes_10 : decode cX1_fewestMinutes 10 = .ok (.ishl, 1) := by decide +kernel
theorem dX1_fewestMinutes_11 : decode cX1_fewestMinutes 11 = .ok (.if_icmp .ge 38, 3) := by decide +kernel
theorem dX1_fewestMinutes_14 : decode cX1_fewestMinutes 14 = .ok (.aload_n 0, 1) := by decide +kernel
theorem dX1_fewestMinutes_15 : decode cX1_fewestMinutes 15 = .ok (.iload_n 3, 1) := by decide +kernel
theorem dX1_fewestMinutes_16 : decode cX1_fewestMinutes 16 = .ok (.invokevirtual 79, 3) := by decide +kernel
theorem dX1_fewestMinutes_19 : decode cX1_fewestMinutes 19 = .ok (.istore 4, 2) := by decide +kernel
theorem dX1_fewestMinutes_21 : decode cX1_fewestMinutes 21 = .ok (.iload_n 2, 1) := by decide +kernel
theorem dX1_fewestMinutes_22 : decode cX1_fewestMinutes 22 = .ok (.ifCond .lt 9, 3) := by decide +kernel
theorem dX1_fewestMinutes_25 : decode cX1_fewestMinutes 25 = .ok (.iload 4, 2) := by decide +kernel
theorem dX1_fewestMinutes_27 : decode cX1_fewestMinutes 27 = .ok (.iload_n 2, 1) := by decide +kernel
theorem dX1_fewestMinutes_28 : decode cX1_fewestMinutes 28 = .ok (.if_icmp .ge 15, 3) := by decide +kernel
theorem dX1_fewestMinutes_31 : decode cX1_fewestMinutes 31 = .ok (.aload_n 0, 1) := by decide +kernel
theorem dX1_fewestMinutes_32 : decode cX1_fewestMinutes 32 = .ok (.iload_n 3, 1) := by decide +kernel
theorem dX1_fewestMinutes_33 : decode cX1_fewestMinutes 33 = .ok (.invokevirtual 76, 3) := by decide +kernel
theorem dX1_fewestMinutes_36 : decode cX1_fewestMinutes 36 = .ok (.iload_n 1, 1) := by decide +kernel
theorem dX1_fewestMinutes_37 : decode cX1_fewestMinutes 37 = .ok (.if_icmp .lt 6, 3) := by decide +kernel
theorem dX1_fewestMinutes_40 : decode cX1_fewestMinutes 40 = .ok (.iload 4, 2) := by decide +kernel
theorem dX1_fewestMinutes_42 : decode cX1_fewestMinutes 42 = .ok (.istore_n 2, 1) := by decide +kernel
theorem dX1_fewestMinutes_43 : decode cX1_fewestMinutes 43 = .ok (.iinc 3 1, 3) := by decide +kernel
theorem dX1_fewestMinutes_46 : decode cX1_fewestMinutes 46 = .ok (.goto (-42), 3) := by decide +kernel
theorem dX1_fewestMinutes_49 : decode cX1_fewestMinutes 49 = .ok (.iload_n 2, 1) := by decide +kernel
theorem dX1_fewestMinutes_50 : decode cX1_fewestMinutes 50 = .ok (.ireturn, 1) := by decide +kernel
theorem dX1_greedySet_0 : decode cX1_greedySet 0 = .ok (.iconst 0, 1) := by decide +kernel
theorem dX1_greedySet_1 : decode cX1_greedySet 1 = .ok (.istore_n 2, 1) := by decide +kernel
theorem dX1_greedySet_2 : decode cX1_greedySet 2 = .ok (.iload_n 1, 1) := by decide +kernel
theorem dX1_greedySet_3 : decode cX1_greedySet 3 = .ok (.istore_n 3, 1) := by decide +kernel
theorem dX1_greedySet_4 : decode cX1_greedySet 4 = .ok (.iconst 0, 1) := by decide +kernel
theorem dX1_greedySet_5 : decode cX1_greedySet 5 = .ok (.istore 4, 2) := by decide +kernel
theorem dX1_greedySet_7 : decode cX1_greedySet 7 = .ok (.iload 4, 2) := by decide +kernel
theorem dX1_greedySet_9 : decode cX1_greedySet 9 = .ok (.aload_n 0, 1) := by decide +kernel
theorem dX1_greedySet_10 : decode cX1_greedySet 10 = .ok (.getfield 34, 3) := by decide +kernel
theorem dX1_greedySet_13 : decode cX1_greedySet 13 = .ok (.if_icmp .ge 42, 3) := by decide +kernel
theorem dX1_greedySet_16 : decode cX1_greedySet 16 = .ok (.aload_n 0, 1) := by decide +kernel
theorem dX1_greedySet_17 : decode cX1_greedySet 17 = .ok (.iload_n 2, 1) := by decide +kernel
theorem dX1_greedySet_18 : decode cX1_greedySet 18 = .ok (.iload_n 3, 1) := by decide +kernel
theorem dX1_greedySet_19 : decode cX1_greedySet 19 = .ok (.invokevirtual 82, 3) := by decide +kernel
theorem dX1_greedySet_22 : decode cX1_greedySet 22 = .ok (.istore 5, 2) := by decide +kernel
theorem dX1_greedySet_24 : decode cX1_greedySet 24 = .ok (.iload 5, 2) := by decide +kernel
theorem dX1_greedySet_26 : decode cX1_greedySet 26 = .ok (.ifCond .ge 6, 3) := by decide +kernel
theorem dX1_greedySet_29 : decode cX1_greedySet 29 = .ok (.goto 26, 3) := by decide +kernel
theorem dX1_greedySet_32 : decode cX1_greedySet 32 = .ok (.iload_n 2, 1) := by decide +kernel
theorem dX1_greedySet_33 : decode cX1_greedySet 33 = .ok (.iconst 1, 1) := by decide +kernel
theorem dX1_greedySet_34 : decode cX1_greedySet 34 = .ok (.iload 5, 2) := by decide +kernel
theorem dX1_greedySet_36 : decode cX1_greedySet 36 = .ok (.ishl, 1) := by decide +kernel
theorem dX1_greedySet_37 : decode cX1_greedySet 37 = .ok (.ior, 1) := by decide +kernel
theorem dX1_greedySet_38 : decode cX1_greedySet 38 = .ok (.istore_n 2, 1) := by decide +kernel
theorem dX1_greedySet_39 : decode cX1_greedySet 39 = .ok (.iload_n 3, 1) := by decide +kernel
theorem dX1_greedySet_40 : decode cX1_greedySet 40 = .ok (.aload_n 0, 1) := by decide +kernel
theorem dX1_greedySet_41 : decode cX1_greedySet 41 = .ok (.getfield 21, 3) := by decide +kernel
theorem dX1_greedySet_44 : decode cX1_greedySet 44 = .ok (.iload 5, 2) := by decide +kernel
theorem dX1_greedySet_46 : decode cX1_greedySet 46 = .ok (.iaload, 1) := by decide +kernel
theorem dX1_greedySet_47 : decode cX1_greedySet 47 = .ok (.isub, 1) := by decide +kernel
theorem dX1_greedySet_48 : decode cX1_greedySet 48 = .ok (.istore_n 3, 1) := by decide +kernel
theorem dX1_greedySet_49 : decode cX1_greedySet 49 = .ok (.iinc 4 1, 3) := by decide +kernel
theorem dX1_greedySet_52 : decode cX1_greedySet 52 = .ok (.goto (-45), 3) := by decide +kernel
theorem dX1_greedySet_55 : decode cX1_greedySet 55 = .ok (.iload_n 2, 1) := by decide +kernel
theorem dX1_greedySet_56 : decode cX1_greedySet 56 = .ok (.ireturn, 1) := by decide +kernel
theorem dX1_greedyStep_0 : decode cX1_greedyStep 0 = .ok (.aload_n 0, 1) := by decide +kernel
theorem dX1_greedyStep_1 : decode cX1_greedyStep 1 = .ok (.iload_n 1, 1) := by decide +kernel
theorem dX1_greedyStep_2 : decode cX1_greedyStep 2 = .ok (.invokevirtual 76, 3) := by decide +kernel
theorem dX1_greedyStep_5 : decode cX1_greedyStep 5 = .ok (.istore_n 3, 1) := by decide +kernel
theorem dX1_greedyStep_6 : decode cX1_greedyStep 6 = .ok (.iconst (-1), 1) := by decide +kernel
theorem dX1_greedyStep_7 : decode cX1_greedyStep 7 = .ok (.istore 4, 2) := by decide +kernel
theorem dX1_greedyStep_9 : decode cX1_greedyStep 9 = .ok (.iconst 0, 1) := by decide +kernel
theorem dX1_greedyStep_10 : decode cX1_greedyStep 10 = .ok (.istore 5, 2) := by decide +kernel
theorem dX1_greedyStep_12 : decode cX1_greedyStep 12 = .ok (.iload 5, 2) := by decide +kernel
theorem dX1_greedyStep_14 : decode cX1_greedyStep 14 = .ok (.aload_n 0, 1) := by decide +kernel
theorem dX1_greedyStep_15 : decode cX1_greedyStep 15 = .ok (.getfield 34, 3) := by decide +kernel
theorem dX1_greedyStep_18 : decode cX1_greedyStep 18 = .ok (.if_icmp .ge 94, 3) := by decide +kernel
theorem dX1_greedyStep_21 : decode cX1_greedyStep 21 = .ok (.iload_n 1, 1) := by decide +kernel
theorem dX1_greedyStep_22 : decode cX1_greedyStep 22 = .ok (.iload 5, 2) := by decide +kernel
theorem dX1_greedyStep_24 : decode cX1_greedyStep 24 = .ok (.invokestatic 73, 3) := by decide +kernel
theorem dX1_greedyStep_27 : decode cX1_greedyStep 27 = .ok (.ifCond .ne 79, 3) := by decide +kernel
theorem dX1_greedyStep_30 : decode cX1_greedyStep 30 = .ok (.aload_n 0, 1) := by decide +kernel
theorem dX1_greedyStep_31 : decode cX1_greedyStep 31 = .ok (.getfield 21, 3) := by decide +kernel
theorem dX1_greedyStep_34 : decode cX1_greedyStep 34 = .ok (.iload 5, 2) := by decide +kernel
theorem dX1_greedyStep_36 : decode cX1_greedyStep 36 = .ok (.iaload, 1) := by decide +kernel
theorem dX1_greedyStep_37 : decode cX1_greedyStep 37 = .ok (.iload_n 2, 1) := by decide +kernel
theorem dX1_greedyStep_38 : decode cX1_greedyStep 38 = .ok (.if_icmp .gt 68, 3) := by decide +kernel
theorem dX1_greedyStep_41 : decode cX1_greedyStep 41 = .ok (.aload_n 0, 1) := by decide +kernel
theorem dX1_greedyStep_42 : decode cX1_greedyStep 42 = .ok (.iload_n 1, 1) := by decide +kernel
theorem dX1_greedyStep_43 : decode cX1_greedyStep 43 = .ok (.iconst 1, 1) := by decide +kernel
theorem dX1_greedyStep_44 : decode cX1_greedyStep 44 = .ok (.iload 5, 2) := by decide +kernel
theorem dX1_greedyStep_46 : decode cX1_greedyStep 46 = .ok (.ishl, 1) := by decide +kernel
theorem dX1_greedyStep_47 : decode cX1_greedyStep 47 = .ok (.ior, 1) := by decide +kernel
theorem dX1_greedyStep_48 : decode cX1_greedyStep 48 = .ok (.invokevirtual 76, 3) := by decide +kernel
theorem dX1_greedyStep_51 : decode cX1_greedyStep 51 = .ok (.istore 6, 2) := by decide +kernel
theorem dX1_greedyStep_53 : decode cX1_greedyStep 53 = .ok (.iload 4, 2) := by decide +kernel
theorem dX1_greedyStep_55 : decode cX1_greedyStep 55 = .ok (.ifCond .lt 30, 3) := by decide +kernel
theorem dX1_greedyStep_58 : decode cX1_greedyStep 58 = .ok (.iload 6, 2) := by decide +kernel
theorem dX1_greedyStep_60 : decode cX1_greedyStep 60 = .ok (.iload_n 3, 1) := by decide +kernel
theorem dX1_greedyStep_61 : decode cX1_greedyStep 61 = .ok (.if_icmp .ne 24, 3) := by decide +kernel
theorem dX1_greedyStep_64 : decode cX1_greedyStep 64 = .ok (.aload_n 0, 1) := by decide +kernel
theorem dX1_greedyStep_65 : decode cX1_greedyStep 65 = .ok (.getfield 21, 3) := by decide +kernel
theorem dX1_greedyStep_68 : decode cX1_greedyStep 68 = .ok (.iload 5, 2) := by decide +kernel
theorem dX1_greedyStep_70 : decode cX1_greedyStep 70 = .ok (.iaload, 1) := by decide +kernel
theorem dX1_greedyStep_71 : decode cX1_greedyStep 71 = .ok (.aload_n 0, 1) := by decide +kernel
theorem dX1_greedyStep_72 : decode cX1_greedyStep 72 = .ok (.getfield 21, 3) := by decide +kernel
theorem dX1_greedyStep_75 : decode cX1_greedyStep 75 = .ok (.iload 4, 2) := by decide +kernel
theorem dX1_greedyStep_77 : decode cX1_greedyStep 77 = .ok (.iaload, 1) := by decide +kernel
theorem dX1_greedyStep_78 : decode cX1_greedyStep 78 = .ok (.if_icmp .ge 7, 3) := by decide +kernel
theorem dX1_greedyStep_81 : decode cX1_greedyStep 81 = .ok (.iconst 1, 1) := by decide +kernel
theorem dX1_greedyStep_82 : decode cX1_greedyStep 82 = .ok (.goto 4, 3) := by decide +kernel
theorem dX1_greedyStep_85 : decode cX1_greedyStep 85 = .ok (.iconst 0, 1) := by decide +kernel
theorem dX1_greedyStep_86 : decode cX1_greedyStep 86 = .ok (.istore 7, 2) := by decide +kernel
theorem dX1_greedyStep_88 : decode cX1_greedyStep 88 = .ok (.iload 6, 2) := by decide +kernel
theorem dX1_greedyStep_90 : decode cX1_greedyStep 90 = .ok (.iload_n 3, 1) := by decide +kernel
theorem dX1_greedyStep_91 : decode cX1_greedyStep 91 = .ok (.if_icmp .gt 8, 3) := by decide +kernel
theorem dX1_greedyStep_94 : decode cX1_greedyStep 94 = .ok (.iload 7, 2) := by decide +kernel
theorem dX1_greedyStep_96 : decode cX1_greedyStep 96 = .ok (.ifCond .eq 10, 3) := by decide +kernel
theorem dX1_greedyStep_99 : decode cX1_greedyStep 99 = .ok (.iload 6, 2) := by decide +kernel
theorem dX1_greedyStep_101 : decode cX1_greedyStep 101 = .ok (.istore_n 3, 1) := by decide +kernel
theorem dX1_greedyStep_102 : decode cX1_greedyStep 102 = .ok (.iload 5, 2) := by decide +kernel
theorem dX1_greedyStep_104 : decode cX1_greedyStep 104 = .ok (.istore 4, 2) := by decide +kernel
theorem dX1_greedyStep_106 : decode cX1_greedyStep 106 = .ok (.iinc 5 1, 3) := by decide +kernel
theorem dX1_greedyStep_109 : decode cX1_greedyStep 109 = .ok (.goto (-97), 3) := by decide +kernel
theorem dX1_greedyStep_112 : decode cX1_greedyStep 112 = .ok (.iload 4, 2) := by decide +kernel
theorem dX1_greedyStep_114 : decode cX1_greedyStep 114 = .ok (.ireturn, 1) := by decide +kernel
theorem dX1_bringsMost_0 : decode cX1_bringsMost 0 = .ok (.aload_n 0, 1) := by decide +kernel
theorem dX1_bringsMost_1 : decode cX1_bringsMost 1 = .ok (.iload_n 1, 1) := by decide +kernel
theorem dX1_bringsMost_2 : decode cX1_bringsMost 2 = .ok (.invokevirtual 76, 3) := by decide +kernel
theorem dX1_bringsMost_5 : decode cX1_bringsMost 5 = .ok (.istore_n 2, 1) := by decide +kernel
theorem dX1_bringsMost_6 : decode cX1_bringsMost 6 = .ok (.iconst (-1), 1) := by decide +kernel
theorem dX1_bringsMost_7 : decode cX1_bringsMost 7 = .ok (.istore_n 3, 1) := by decide +kernel
theorem dX1_bringsMost_8 : decode cX1_bringsMost 8 = .ok (.iconst 0, 1) := by decide +kernel
theorem dX1_bringsMost_9 : decode cX1_bringsMost 9 = .ok (.istore 4, 2) := by decide +kernel
theorem dX1_bringsMost_11 : decode cX1_bringsMost 11 = .ok (.iload 4, 2) := by decide +kernel
theorem dX1_bringsMost_13 : decode cX1_bringsMost 13 = .ok (.aload_n 0, 1) := by decide +kernel
theorem dX1_bringsMost_14 : decode cX1_bringsMost 14 = .ok (.getfield 34, 3) := by decide +kernel
theorem dX1_bringsMost_17 : decode cX1_bringsMost 17 = .ok (.if_icmp .ge 42, 3) := by decide +kernel
theorem dX1_bringsMost_20 : decode cX1_bringsMost 20 = .ok (.iload_n 1, 1) := by decide +kernel
theorem dX1_bringsMost_21 : decode cX1_bringsMost 21 = .ok (.iload 4, 2) := by decide +kernel
theorem dX1_bringsMost_23 : decode cX1_bringsMost 23 = .ok (.invokestatic 73, 3) := by decide +kernel
theorem dX1_bringsMost_26 : decode cX1_bringsMost 26 = .ok (.ifCond .ne 27, 3) := by decide +kernel
theorem dX1_bringsMost_29 : decode cX1_bringsMost 29 = .ok (.aload_n 0, 1) := by decide +kernel
theorem dX1_bringsMost_30 : decode cX1_bringsMost 30 = .ok (.iload_n 1, 1) := by decide +kernel
theorem dX1_bringsMost_31 : decode cX1_bringsMost 31 = .ok (.iconst 1, 1) := by decide +kernel
theorem dX1_bringsMost_32 : decode cX1_bringsMost 32 = .ok (.iload 4, 2) := by decide +kernel
theorem dX1_bringsMost_34 : decode cX1_bringsMost 34 = .ok (.ishl, 1) := by decide +kernel
theorem dX1_bringsMost_35 : decode cX1_bringsMost 35 = .ok (.ior, 1) := by decide +kernel
theorem dX1_bringsMost_36 : decode cX1_bringsMost 36 = .ok (.invokevirtual 76, 3) := by decide +kernel
theorem dX1_bringsMost_39 : decode cX1_bringsMost 39 = .ok (.istore 5, 2) := by decide +kernel
theorem dX1_bringsMost_41 : decode cX1_bringsMost 41 = .ok (.iload 5, 2) := by decide +kernel
theorem dX1_bringsMost_43 : decode cX1_bringsMost 43 = .ok (.iload_n 2, 1) := by decide +kernel
theorem dX1_bringsMost_44 : decode cX1_bringsMost 44 = .ok (.if_icmp .le 9, 3) := by decide +kernel
theorem dX1_bringsMost_47 : decode cX1_bringsMost 47 = .ok (.iload 5, 2) := by decide +kernel
theorem dX1_bringsMost_49 : decode cX1_bringsMost 49 = .ok (.istore_n 2, 1) := by decide +kernel
theorem dX1_bringsMost_50 : decode cX1_bringsMost 50 = .ok (.iload 4, 2) := by decide +kernel
theorem dX1_bringsMost_52 : decode cX1_bringsMost 52 = .ok (.istore_n 3, 1) := by decide +kernel
theorem dX1_bringsMost_53 : decode cX1_bringsMost 53 = .ok (.iinc 4 1, 3) := by decide +kernel
theorem dX1_bringsMost_56 : decode cX1_bringsMost 56 = .ok (.goto (-45), 3) := by decide +kernel
theorem dX1_bringsMost_59 : decode cX1_bringsMost 59 = .ok (.iload_n 3, 1) := by decide +kernel
theorem dX1_bringsMost_60 : decode cX1_bringsMost 60 = .ok (.ireturn, 1) := by decide +kernel
theorem dX1_leastMissed_0 : decode cX1_leastMissed 0 = .ok (.iconst (-1), 1) := by decide +kernel
theorem dX1_leastMissed_1 : decode cX1_leastMissed 1 = .ok (.istore_n 2, 1) := by decide +kernel
theorem dX1_leastMissed_2 : decode cX1_leastMissed 2 = .ok (.iconst (-1), 1) := by decide +kernel
theorem dX1_leastMissed_3 : decode cX1_leastMissed 3 = .ok (.istore_n 3, 1) := by decide +kernel
theorem dX1_leastMissed_4 : decode cX1_leastMissed 4 = .ok (.iconst 0, 1) := by decide +kernel
theorem dX1_leastMissed_5 : decode cX1_leastMissed 5 = .ok (.istore 4, 2) := by decide +kernel
theorem dX1_leastMissed_7 : decode cX1_leastMissed 7 = .ok (.iload 4, 2) := by decide +kernel
theorem dX1_leastMissed_9 : decode cX1_leastMissed 9 = .ok (.aload_n 0, 1) := by decide +kernel
theorem dX1_leastMissed_10 : decode cX1_leastMissed 10 = .ok (.getfield 34, 3) := by decide +kernel
theorem dX1_leastMissed_13 : decode cX1_leastMissed 13 = .ok (.if_icmp .ge 44, 3) := by decide +kernel
theorem dX1_leastMissed_16 : decode cX1_leastMissed 16 = .ok (.iload_n 1, 1) := by decide +kernel
theorem dX1_leastMissed_17 : decode cX1_leastMissed 17 = .ok (.iload 4, 2) := by decide +kernel
theorem dX1_leastMissed_19 : decode cX1_leastMissed 19 = .ok (.invokestatic 73, 3) := by decide +kernel
theorem dX1_leastMissed_22 : decode cX1_leastMissed 22 = .ok (.ifCond .eq 29, 3) := by decide +kernel
theorem dX1_leastMissed_25 : decode cX1_leastMissed 25 = .ok (.aload_n 0, 1) := by decide +kernel
theorem dX1_leastMissed_26 : decode cX1_leastMissed 26 = .ok (.iload_n 1, 1) := by decide +kernel
theorem dX1_leastMissed_27 : decode cX1_leastMissed 27 = .ok (.iconst 1, 1) := by decide +kernel
theorem dX1_leastMissed_28 : decode cX1_leastMissed 28 = .ok (.iload 4, 2) := by decide +kernel
theorem dX1_leastMissed_30 : decode cX1_leastMissed 30 = .ok (.ishl, 1) := by decide +kernel
theorem dX1_leastMissed_31 : decode cX1_leastMissed 31 = .ok (.iconst (-1), 1) := by decide +kernel
theorem dX1_leastMissed_32 : decode cX1_leastMissed 32 = .ok (.ixor, 1) := by decide +kernel
theorem dX1_leastMissed_33 : decode cX1_leastMissed 33 = .ok (.iand, 1) := by decide +kernel
theorem dX1_leastMissed_34 : decode cX1_leastMissed 34 = .ok (.invokevirtual 76, 3) := by decide +kernel
theorem dX1_leastMissed_37 : decode cX1_leastMissed 37 = .ok (.istore 5, 2) := by decide +kernel
theorem dX1_leastMissed_39 : decode cX1_leastMissed 39 = .ok (.iload 5, 2) := by decide +kernel
theorem dX1_leastMissed_41 : decode cX1_leastMissed 41 = .ok (.iload_n 2, 1) := by decide +kernel
theorem dX1_leastMissed_42 : decode cX1_leastMissed 42 = .ok (.if_icmp .le 9, 3) := by decide +kernel
theorem dX1_leastMissed_45 : decode cX1_leastMissed 45 = .ok (.iload 5, 2) := by decide +kernel
theorem dX1_leastMissed_47 : decode cX1_leastMissed 47 = .ok (.istore_n 2, 1) := by decide +kernel
theorem dX1_leastMissed_48 : decode cX1_leastMissed 48 = .ok (.iload 4, 2) := by decide +kernel
theorem dX1_leastMissed_50 : decode cX1_leastMissed 50 = .ok (.istore_n 3, 1) := by decide +kernel
theorem dX1_leastMissed_51 : decode cX1_leastMissed 51 = .ok (.iinc 4 1, 3) := by decide +kernel
theorem dX1_leastMissed_54 : decode cX1_leastMissed 54 = .ok (.goto (-47), 3) := by decide +kernel
theorem dX1_leastMissed_57 : decode cX1_leastMissed 57 = .ok (.iload_n 3, 1) := by decide +kernel
theorem dX1_leastMissed_58 : decode cX1_leastMissed 58 = .ok (.ireturn, 1) := by decide +kernel
theorem dX2_init_0 : decode cX2_init 0 = .ok (.aload_n 0, 1) := by decide +kernel
theorem dX2_init_1 : decode cX2_init 1 = .ok (.invokespecial 3, 3) := by decide +kernel
theorem dX2_init_4 : decode cX2_init 4 = .ok (.aload_n 0, 1) := by decide +kernel
theorem dX2_init_5 : decode cX2_init 5 = .ok (.new 9, 3) := by decide +kernel
theorem dX2_init_8 : decode cX2_init 8 = .ok (.dup, 1) := by decide +kernel
theorem dX2_init_9 : decode cX2_init 9 = .ok (.invokespecial 11, 3) := by decide +kernel
theorem dX2_init_12 : decode cX2_init 12 = .ok (.putfield 12, 3) := by decide +kernel
theorem dX2_init_15 : decode cX2_init 15 = .ok (.return_, 1) := by decide +kernel
theorem dX2_readBook_0 : decode cX2_readBook 0 = .ok (.aload_n 0, 1) := by decide +kernel
theorem dX2_readBook_1 : decode cX2_readBook 1 = .ok (.getfield 12, 3) := by decide +kernel
theorem dX2_readBook_4 : decode cX2_readBook 4 = .ok (.invokevirtual 18, 3) := by decide +kernel
theorem dX2_readBook_7 : decode cX2_readBook 7 = .ok (.iconst 1, 1) := by decide +kernel
theorem dX2_readBook_8 : decode cX2_readBook 8 = .ok (.istore_n 2, 1) := by decide +kernel
theorem dX2_readBook_9 : decode cX2_readBook 9 = .ok (.iload_n 2, 1) := by decide +kernel
theorem dX2_readBook_10 : decode cX2_readBook 10 = .ok (.bipush 120, 2) := by decide +kernel
theorem dX2_readBook_12 : decode cX2_readBook 12 = .ok (.if_icmp .gt 53, 3) := by decide +kernel
theorem dX2_readBook_15 : decode cX2_readBook 15 = .ok (.aload_n 0, 1) := by decide +kernel
theorem dX2_readBook_16 : decode cX2_readBook 16 = .ok (.aload_n 1, 1) := by decide +kernel
theorem dX2_readBook_17 : decode cX2_readBook 17 = .ok (.invokevirtual 21, 3) := by decide +kernel
theorem dX2_readBook_20 : decode cX2_readBook 20 = .ok (.ifCond .ne 6, 3) := by decide +kernel
theorem dX2_readBook_23 : decode cX2_readBook 23 = .ok (.goto 42, 3) := by decide +kernel
theorem dX2_readBook_26 : decode cX2_readBook 26 = .ok (.aload_n 0, 1) := by decide +kernel
theorem dX2_readBook_27 : decode cX2_readBook 27 = .ok (.getfield 12, 3) := by decide +kernel
theorem dX2_readBook_30 : decode cX2_readBook 30 = .ok (.getfield 25, 3) := by decide +kernel
theorem dX2_readBook_33 : decode cX2_readBook 33 = .ok (.ifCond .ne 5, 3) := by decide +kernel
theorem dX2_readBook_36 : decode cX2_readBook 36 = .ok (.iload_n 2, 1) := by decide +kernel
theorem dX2_readBook_37 : decode cX2_readBook 37 = .ok (.ireturn, 1) := by decide +kernel
theorem dX2_readBook_38 : decode cX2_readBook 38 = .ok (.aload_n 0, 1) := by decide +kernel
theorem dX2_readBook_39 : decode cX2_readBook 39 = .ok (.getfield 12, 3) := by decide +kernel
theorem dX2_readBook_42 : decode cX2_readBook 42 = .ok (.getfield 25, 3) := by decide +kernel
theorem dX2_readBook_45 : decode cX2_readBook 45 = .ok (.iconst 3, 1) := by decide +kernel
theorem dX2_readBook_46 : decode cX2_readBook 46 = .ok (.if_icmp .eq 6, 3) := by decide +kernel
theorem dX2_readBook_49 : decode cX2_readBook 49 = .ok (.goto 16, 3) := by decide +kernel
theorem dX2_readBook_52 : decode cX2_readBook 52 = .ok (.aload_n 0, 1) := by decide +kernel
theorem dX2_readBook_53 : decode cX2_readBook 53 = .ok (.getfield 12, 3) := by decide +kernel
theorem dX2_readBook_56 : decode cX2_readBook 56 = .ok (.invokevirtual 29, 3) := by decide +kernel
theorem dX2_readBook_59 : decode cX2_readBook 59 = .ok (.iinc 2 1, 3) := by decide +kernel
theorem dX2_readBook_62 : decode cX2_readBook 62 = .ok (.goto (-53), 3) := by decide +kernel
theorem dX2_readBook_65 : decode cX2_readBook 65 = .ok (.iconst (-1), 1) := by decide +kernel
theorem dX2_readBook_66 : decode cX2_readBook 66 = .ok (.aload_n 0, 1) := by decide +kernel
theorem dX2_readBook_67 : decode cX2_readBook 67 = .ok (.getfield 12, 3) := by decide +kernel
theorem dX2_readBook_70 : decode cX2_readBook 70 = .ok (.getfield 32, 3) := by decide +kernel
theorem dX2_readBook_73 : decode cX2_readBook 73 = .ok (.isub, 1) := by decide +kernel
theorem dX2_readBook_74 : decode cX2_readBook 74 = .ok (.ireturn, 1) := by decide +kernel
theorem dX2_readItem_0 : decode cX2_readItem 0 = .ok (.aload_n 0, 1) := by decide +kernel
theorem dX2_readItem_1 : decode cX2_readItem 1 = .ok (.invokevirtual 35, 3) := by decide +kernel
theorem dX2_readItem_4 : decode cX2_readItem 4 = .ok (.istore_n 2, 1) := by decide +kernel
theorem dX2_readItem_5 : decode cX2_readItem 5 = .ok (.iload_n 2, 1) := by decide +kernel
theorem dX2_readItem_6 : decode cX2_readItem 6 = .ok (.ifCond .lt 13, 3) := by decide +kernel
theorem dX2_readItem_9 : decode cX2_readItem 9 = .ok (.aload_n 0, 1) := by decide +kernel
theorem dX2_readItem_10 : decode cX2_readItem 10 = .ok (.aload_n 1, 1) := by decide +kernel
theorem dX2_readItem_11 : decode cX2_readItem 11 = .ok (.getfield 39, 3) := by decide +kernel
theorem dX2_readItem_14 : decode cX2_readItem 14 = .ok (.iload_n 2, 1) := by decide +kernel
theorem dX2_readItem_15 : decode cX2_readItem 15 = .ok (.invokevirtual 45, 3) := by decide +kernel
theorem dX2_readItem_18 : decode cX2_readItem 18 = .ok (.ireturn, 1) := by decide +kernel
theorem dX2_readItem_19 : decode cX2_readItem 19 = .ok (.aload_n 0, 1) := by decide +kernel
theorem dX2_readItem_20 : decode cX2_readItem 20 = .ok (.getfield 12, 3) := by decide +kernel
theorem dX2_readItem_23 : decode cX2_readItem 23 = .ok (.ldc 49, 2) := by decide +kernel
theorem dX2_readItem_25 : decode cX2_readItem 25 = .ok (.invokevirtual 51, 3) := by decide +kernel
theorem dX2_readItem_28 : decode cX2_readItem 28 = .ok (.ifCond .eq 12, 3) := by decide +kernel
theorem dX2_readItem_31 : decode cX2_readItem 31 = .ok (.aload_n 0, 1) := by decide +kernel
theorem dX2_readItem_32 : decode cX2_readItem 32 = .ok (.aload_n 1, 1) := by decide +kernel
theorem dX2_readItem_33 : decode cX2_readItem 33 = .ok (.getfield 55, 3) := by decide +kernel
theorem dX2_readItem_36 : decode cX2_readItem 36 = .ok (.invokevirtual 59, 3) := by decide +kernel
theorem dX2_readItem_39 : decode cX2_readItem 39 = .ok (.ireturn, 1) := by decide +kernel
theorem dX2_readItem_40 : decode cX2_readItem 40 = .ok (.aload_n 0, 1) := by decide +kernel
theorem dX2_readItem_41 : decode cX2_readItem 41 = .ok (.getfield 12, 3) := by decide +kernel
theorem dX2_readItem_44 : decode cX2_readItem 44 = .ok (.ldc 63, 2) := by decide +kernel
theorem dX2_readItem_46 : decode cX2_readItem 46 = .ok (.invokevirtual 51, 3) := by decide +kernel
theorem dX2_readItem_49 : decode cX2_readItem 49 = .ok (.ifCond .eq 9, 3) := by decide +kernel
theorem dX2_readItem_52 : decode cX2_readItem 52 = .ok (.aload_n 0, 1) := by decide +kernel
theorem dX2_readItem_53 : decode cX2_readItem 53 = .ok (.aload_n 1, 1) := by decide +kernel
theorem dX2_readItem_54 : decode cX2_readItem 54 = .ok (.invokevirtual 65, 3) := by decide +kernel
theorem dX2_readItem_57 : decode cX2_readItem 57 = .ok (.ireturn, 1) := by decide +kernel
theorem dX2_readItem_58 : decode cX2_readItem 58 = .ok (.aload_n 0, 1) := by decide +kernel
theorem dX2_readItem_59 : decode cX2_readItem 59 = .ok (.getfield 12, 3) := by decide +kernel
theorem dX2_readItem_62 : decode cX2_readItem 62 = .ok (.ldc 68, 2) := by decide +kernel
theorem dX2_readItem_64 : decode cX2_readItem 64 = .ok (.invokevirtual 51, 3) := by decide +kernel
theorem dX2_readItem_67 : decode cX2_readItem 67 = .ok (.ifCond .eq 15, 3) := by decide +kernel
theorem dX2_readItem_70 : decode cX2_readItem 70 = .ok (.aload_n 0, 1) := by decide +kernel
theorem dX2_readItem_71 : decode cX2_readItem 71 = .ok (.aload_n 1, 1) := by decide +kernel
theorem dX2_readItem_72 : decode cX2_readItem 72 = .ok (.invokevirtual 70, 3) := by decide +kernel
theorem dX2_readItem_75 : decode cX2_readItem 75 = .ok (.ifCond .eq 7, 3) := by decide +kernel
theorem dX2_readItem_78 : decode cX2_readItem 78 = .ok (.iconst 1, 1) := by decide +kernel
theorem dX2_readItem_79 : decode cX2_readItem 79 = .ok (.goto 4, 3) := by decide +kernel
theorem dX2_readItem_82 : decode cX2_readItem 82 = .ok (.iconst 0, 1) := by decide +kernel
theorem dX2_readItem_83 : decode cX2_readItem 83 = .ok (.ireturn, 1) := by decide +kernel
theorem dX2_kindNamed_0 : decode cX2_kindNamed 0 = .ok (.aload_n 0, 1) := by decide +kernel
theorem dX2_kindNamed_1 : decode cX2_kindNamed 1 = .ok (.getfield 12, 3) := by decide +kernel
theorem dX2_kindNamed_4 : decode cX2_kindNamed 4 = .ok (.ldc 73, 2) := by decide +kernel
theorem dX2_kindNamed_6 : decode cX2_kindNamed 6 = .ok (.invokevirtual 51, 3) := by decide +kernel
theorem dX2_kindNamed_9 : decode cX2_kindNamed 9 = .ok (.ifCond .eq 5, 3) := by decide +kernel
theorem dX2_kindNamed_12 : decode cX2_kindNamed 12 = .ok (.iconst 0, 1) := by decide +kernel
theorem dX2_kindNamed_13 : decode cX2_kindNamed 13 = .ok (.ireturn, 1) := by decide +kernel
theorem dX2_kindNamed_14 : decode cX2_kindNamed 14 = .ok (.aload_n 0, 1) := by decide +kernel
theorem dX2_kindNamed_15 : decode cX2_kindNamed 15 = .ok (.getfield 12, 3) := by decide +kernel
theorem dX2_kindNamed_18 : decode cX2_kindNamed 18 = .ok (.ldc 75, 2) := by decide +kernel
theorem dX2_kindNamed_20 : decode cX2_kindNamed 20 = .ok (.invokevirtual 51, 3) := by decide +kernel
theorem dX2_kindNamed_23 : decode cX2_kindNamed 23 = .ok (.ifCond .eq 5, 3) := by decide +kernel
theorem dX2_kindNamed_26 : decode cX2_kindNamed 26 = .ok (.iconst 1, 1) := by decide +kernel
theorem dX2_kindNamed_27 : decode cX2_kindNamed 27 = .ok (.ireturn, 1) := by decide +kernel
theorem dX2_kindNamed_28 : decode cX2_kindNamed 28 = .ok (.aload_n 0, 1) := by decide +kernel
theorem dX2_kindNamed_29 : decode cX2_kindNamed 29 = .ok (.getfield 12, 3) := by decide +kernel
theorem dX2_kindNamed_32 : decode cX2_kindNamed 32 = .ok (.ldc 79, 2) := by decide +kernel
theorem dX2_kindNamed_34 : decode cX2_kindNamed 34 = .ok (.invokevirtual 51, 3) := by decide +kernel
theorem dX2_kindNamed_37 : decode cX2_kindNamed 37 = .ok (.ifCond .eq 5, 3) := by decide +kernel
theorem dX2_kindNamed_40 : decode cX2_kindNamed 40 = .ok (.iconst 2, 1) := by decide +kernel
theorem dX2_kindNamed_41 : decode cX2_kindNamed 41 = .ok (.ireturn, 1) := by decide +kernel
theorem dX2_kindNamed_42 : decode cX2_kindNamed 42 = .ok (.aload_n 0, 1) := by decide +kernel
theorem dX2_kindNamed_43 : decode cX2_kindNamed 43 = .ok (.getfield 12, 3) := by decide +kernel
theorem dX2_kindNamed_46 : decode cX2_kindNamed 46 = .ok (.ldc 81, 2) := by decide +kernel
theorem dX2_kindNamed_48 : decode cX2_kindNamed 48 = .ok (.invokevirtual 51, 3) := by decide +kernel
theorem dX2_kindNamed_51 : decode cX2_kindNamed 51 = .ok (.ifCond .eq 5, 3) := by decide +kernel
theorem dX2_kindNamed_54 : decode cX2_kindNamed 54 = .ok (.iconst 3, 1) := by decide +kernel
theorem dX2_kindNamed_55 : decode cX2_kindNamed 55 = .ok (.ireturn, 1) := by decide +kernel
theorem dX2_kindNamed_56 : decode cX2_kindNamed 56 = .ok (.aload_n 0, 1) := by decide +kernel
theorem dX2_kindNamed_57 : decode cX2_kindNamed 57 = .ok (.getfield 12, 3) := by decide +kernel
theorem dX2_kindNamed_60 : decode cX2_kindNamed 60 = .ok (.ldc 83, 2) := by decide +kernel
theorem dX2_kindNamed_62 : decode cX2_kindNamed 62 = .ok (.invokevirtual 51, 3) := by decide +kernel
theorem dX2_kindNamed_65 : decode cX2_kindNamed 65 = .ok (.ifCond .eq 5, 3) := by decide +kernel
theorem dX2_kindNamed_68 : decode cX2_kindNamed 68 = .ok (.iconst 4, 1) := by decide +kernel
theorem dX2_kindNamed_69 : decode cX2_kindNamed 69 = .ok (.ireturn, 1) := by decide +kernel
theorem dX2_kindNamed_70 : decode cX2_kindNamed 70 = .ok (.aload_n 0, 1) := by decide +kernel
theorem dX2_kindNamed_71 : decode cX2_kindNamed 71 = .ok (.getfield 12, 3) := by decide +kernel
theorem dX2_kindNamed_74 : decode cX2_kindNamed 74 = .ok (.ldc 85, 2) := by decide +kernel
theorem dX2_kindNamed_76 : decode cX2_kindNamed 76 = .ok (.invokevirtual 51, 3) := by decide +kernel
theorem dX2_kindNamed_79 : decode cX2_kindNamed 79 = .ok (.ifCond .eq 7, 3) := by decide +kernel
theorem dX2_kindNamed_82 : decode cX2_kindNamed 82 = .ok (.iconst 5, 1) := by decide +kernel
theorem dX2_kindNamed_83 : decode cX2_kindNamed 83 = .ok (.goto 4, 3) := by decide +kernel
theorem dX2_kindNamed_86 : decode cX2_kindNamed 86 = .ok (.iconst (-1), 1) := by decide +kernel
theorem dX2_kindNamed_87 : decode cX2_kindNamed 87 = .ok (.ireturn, 1) := by decide +kernel
theorem dX2_readPhrase_0 : decode cX2_readPhrase 0 = .ok (.aload_n 1, 1) := by decide +kernel
theorem dX2_readPhrase_1 : decode cX2_readPhrase 1 = .ok (.invokevirtual 87, 3) := by decide +kernel
theorem dX2_readPhrase_4 : decode cX2_readPhrase 4 = .ok (.ifCond .eq 5, 3) := by decide +kernel
theorem dX2_readPhrase_7 : decode cX2_readPhrase 7 = .ok (.iconst 0, 1) := by decide +kernel
theorem dX2_readPhrase_8 : decode cX2_readPhrase 8 = .ok (.ireturn, 1) := by decide +kernel
theorem dX2_readPhrase_9 : decode cX2_readPhrase 9 = .ok (.aload_n 0, 1) := by decide +kernel
theorem dX2_readPhrase_10 : decode cX2_readPhrase 10 = .ok (.getfield 12, 3) := by decide +kernel
theorem dX2_readPhrase_13 : decode cX2_readPhrase 13 = .ok (.invokevirtual 29, 3) := by decide +kernel
theorem dX2_readPhrase_16 : decode cX2_readPhrase 16 = .ok (.aload_n 0, 1) := by decide +kernel
theorem dX2_readPhrase_17 : decode cX2_readPhrase 17 = .ok (.iconst 0, 1) := by decide +kernel
theorem dX2_readPhrase_18 : decode cX2_readPhrase 18 = .ok (.bipush 9, 2) := by decide +kernel
theorem dX2_readPhrase_20 : decode cX2_readPhrase 20 = .ok (.invokevirtual 91, 3) := by decide +kernel
theorem dX2_readPhrase_23 : decode cX2_readPhrase 23 = .ok (.istore_n 3, 1) := by decide +kernel
theorem dX2_readPhrase_24 : decode cX2_readPhrase 24 = .ok (.iload_n 3, 1) := by decide +kernel
theorem dX2_readPhrase_25 : decode cX2_readPhrase 25 = .ok (.ifCond .ge 5, 3) := by decide +kernel
theorem dX2_readPhrase_28 : decode cX2_readPhrase 28 = .ok (.iconst 0, 1) := by decide +kernel
theorem dX2_readPhrase_29 : decode cX2_readPhrase 29 = .ok (.ireturn, 1) := by decide +kernel
theorem dX2_readPhrase_30 : decode cX2_readPhrase 30 = .ok (.aload_n 0, 1) := by decide +kernel
theorem dX2_readPhrase_31 : decode cX2_readPhrase 31 = .ok (.ldc 95, 2) := by decide +kernel
theorem dX2_readPhrase_33 : decode cX2_readPhrase 33 = .ok (.invokevirtual 97, 3) := by decide +kernel
theorem dX2_readPhrase_36 : decode cX2_readPhrase 36 = .ok (.ifCond .eq 13, 3) := by decide +kernel
theorem dX2_readPhrase_39 : decode cX2_readPhrase 39 = .ok (.aload_n 0, 1) := by decide +kernel
theorem dX2_readPhrase_40 : decode cX2_readPhrase 40 = .ok (.iconst 1, 1) := by decide +kernel
theorem dX2_readPhrase_41 : decode cX2_readPhrase 41 = .ok (.bipush 60, 2) := by decide +kernel
theorem dX2_readPhrase_43 : decode cX2_readPhrase 43 = .ok (.invokevirtual 91, 3) := by decide +kernel
theorem dX2_readPhrase_46 : decode cX2_readPhrase 46 = .ok (.goto 4, 3) := by decide +kernel
theorem dX2_readPhrase_49 : decode cX2_readPhrase 49 = .ok (.iconst 5, 1) := by decide +kernel
theorem dX2_readPhrase_50 : decode cX2_readPhrase 50 = .ok (.istore 4, 2) := by decide +kernel
theorem dX2_readPhrase_52 : decode cX2_readPhrase 52 = .ok (.iload 4, 2) := by decide +kernel
theorem dX2_readPhrase_54 : decode cX2_readPhrase 54 = .ok (.ifCond .ge 5, 3) := by decide +kernel
theorem dX2_readPhrase_57 : decode cX2_readPhrase 57 = .ok (.iconst 0, 1) := by decide +kernel
theorem dX2_readPhrase_58 : decode cX2_readPhrase 58 = .ok (.ireturn, 1) := by decide +kernel
theorem dX2_readPhrase_59 : decode cX2_readPhrase 59 = .ok (.aload_n 0, 1) := by decide +kernel
theorem dX2_readPhrase_60 : decode cX2_readPhrase 60 = .ok (.ldc 100, 2) := by decide +kernel
theorem dX2_readPhrase_62 : decode cX2_readPhrase 62 = .ok (.invokevirtual 97, 3) := by decide +kernel
theorem dX2_readPhrase_65 : decode cX2_readPhrase 65 = .ok (.ifCond .eq 13, 3) := by decide +kernel
theorem dX2_readPhrase_68 : decode cX2_readPhrase 68 = .ok (.aload_n 0, 1) := by decide +kernel
theorem dX2_readPhrase_69 : decode cX2_readPhrase 69 = .ok (.iconst 0, 1) := by decide +kernel
theorem dX2_readPhrase_70 : decode cX2_readPhrase 70 = .ok (.bipush 10, 2) := by decide +kernel
theorem dX2_readPhrase_72 : decode cX2_readPhrase 72 = .ok (.invokevirtual 91, 3) := by decide +kernel
theorem dX2_readPhrase_75 : decode cX2_readPhrase 75 = .ok (.goto 5, 3) := by decide +kernel
theorem dX2_readPhrase_78 : decode cX2_readPhrase 78 = .ok (.bipush 7, 2) := by decide +kernel
theorem dX2_readPhrase_80 : decode cX2_readPhrase 80 = .ok (.istore 5, 2) := by decide +kernel
theorem dX2_readPhrase_82 : decode cX2_readPhrase 82 = .ok (.iload 5, 2) := by decide +kernel
theorem dX2_readPhrase_84 : decode cX2_readPhrase 84 = .ok (.ifCond .ge 5, 3) := by decide +kernel
theorem dX2_readPhrase_87 : decode cX2_readPhrase 87 = .ok (.iconst 0, 1) := by decide +kernel
theorem dX2_readPhrase_88 : decode cX2_readPhrase 88 = .ok (.ireturn, 1) := by decide +kernel
theorem dX2_readPhrase_89 : decode cX2_readPhrase 89 = .ok (.aload_n 1, 1) := by decide +kernel
theorem dX2_readPhrase_90 : decode cX2_readPhrase 90 = .ok (.iload_n 2, 1) := by decide +kernel
theorem dX2_readPhrase_91 : decode cX2_readPhrase 91 = .ok (.iload_n 3, 1) := by decide +kernel
theorem dX2_readPhrase_92 : decode cX2_readPhrase 92 = .ok (.iload 4, 2) := by decide +kernel
theorem dX2_readPhrase_94 : decode cX2_readPhrase 94 = .ok (.iload 5, 2) := by decide +kernel
theorem dX2_readPhrase_96 : decode cX2_readPhrase 96 = .ok (.invokevirtual 102, 3) := by decide +kernel
theorem dX2_readPhrase_99 : decode cX2_readPhrase 99 = .ok (.pop, 1) := by decide +kernel
theorem dX2_readPhrase_100 : decode cX2_readPhrase 100 = .ok (.iconst 1, 1) := by decide +kernel
theorem dX2_readPhrase_101 : decode cX2_readPhrase 101 = .ok (.ireturn, 1) := by decide +kernel
theorem dX2_readWant_0 : decode cX2_readWant 0 = .ok (.aload_n 1, 1) := by decide +kernel
theorem dX2_readWant_1 : decode cX2_readWant 1 = .ok (.invokevirtual 106, 3) := by decide +kernel
theorem dX2_readWant_4 : decode cX2_readWant 4 = .ok (.ifCond .eq 5, 3) := by decide +kernel
theorem dX2_readWant_7 : decode cX2_readWant 7 = .ok (.iconst 0, 1) := by decide +kernel
theorem dX2_readWant_8 : decode cX2_readWant 8 = .ok (.ireturn, 1) := by decide +kernel
theorem dX2_readWant_9 : decode cX2_readWant 9 = .ok (.aload_n 0, 1) := by decide +kernel
theorem dX2_readWant_10 : decode cX2_readWant 10 = .ok (.getfield 12, 3) := by decide +kernel
theorem dX2_readWant_13 : decode cX2_readWant 13 = .ok (.invokevirtual 29, 3) := by decide +kernel
theorem dX2_readWant_16 : decode cX2_readWant 16 = .ok (.aload_n 0, 1) := by decide +kernel
theorem dX2_readWant_17 : decode cX2_readWant 17 = .ok (.iconst 0, 1) := by decide +kernel
theorem dX2_readWant_18 : decode cX2_readWant 18 = .ok (.bipush 9, 2) := by decide +kernel
theorem dX2_readWant_20 : decode cX2_readWant 20 = .ok (.invokevirtual 91, 3) := by decide +kernel
theorem dX2_readWant_23 : decode cX2_readWant 23 = .ok (.istore_n 2, 1) := by decide +kernel
theorem dX2_readWant_24 : decode cX2_readWant 24 = .ok (.iload_n 2, 1) := by decide +kernel
theorem dX2_readWant_25 : decode cX2_readWant 25 = .ok (.ifCond .lt 12, 3) := by decide +kernel
theorem dX2_readWant_28 : decode cX2_readWant 28 = .ok (.aload_n 0, 1) := by decide +kernel
theorem dX2_readWant_29 : decode cX2_readWant 29 = .ok (.ldc 109, 2) := by decide +kernel
theorem dX2_readWant_31 : decode cX2_readWant 31 = .ok (.invokevirtual 97, 3) := by decide +kernel
theorem dX2_readWant_34 : decode cX2_readWant 34 = .ok (.ifCond .ne 5, 3) := by decide +kernel
theorem dX2_readWant_37 : decode cX2_readWant 37 = .ok (.iconst 0, 1) := by decide +kernel
theorem dX2_readWant_38 : decode cX2_readWant 38 = .ok (.ireturn, 1) := by decide +kernel
theorem dX2_readWant_39 : decode cX2_readWant 39 = .ok (.aload_n 0, 1) := by decide +kernel
theorem dX2_readWant_40 : decode cX2_readWant 40 = .ok (.iconst 0, 1) := by decide +kernel
theorem dX2_readWant_41 : decode cX2_readWant 41 = .ok (.bipush 99, 2) := by decide +kernel
theorem dX2_readWant_43 : decode cX2_readWant 43 = .ok (.invokevirtual 91, 3) := by decide +kernel
theorem dX2_readWant_46 : decode cX2_readWant 46 = .ok (.istore_n 3, 1) := by decide +kernel
theorem dX2_readWant_47 : decode cX2_readWant 47 = .ok (.iload_n 3, 1) := by decide +kernel
theorem dX2_readWant_48 : decode cX2_readWant 48 = .ok (.ifCond .lt 12, 3) := by decide +kernel
theorem dX2_readWant_51 : decode cX2_readWant 51 = .ok (.aload_n 0, 1) := by decide +kernel
theorem dX2_readWant_52 : decode cX2_readWant 52 = .ok (.ldc 111, 2) := by decide +kernel
theorem dX2_readWant_54 : decode cX2_readWant 54 = .ok (.invokevirtual 97, 3) := by decide +kernel
theorem dX2_readWant_57 : decode cX2_readWant 57 = .ok (.ifCond .ne 5, 3) := by decide +kernel
theorem dX2_readWant_60 : decode cX2_readWant 60 = .ok (.iconst 0, 1) := by decide +kernel
theorem dX2_readWant_61 : decode cX2_readWant 61 = .ok (.ireturn, 1) := by decide +kernel
theorem dX2_readWant_62 : decode cX2_readWant 62 = .ok (.aload_n 0, 1) := by decide +kernel
theorem dX2_readWant_63 : decode cX2_readWant 63 = .ok (.iconst 0, 1) := by decide +kernel
theorem dX2_readWant_64 : decode cX2_readWant 64 = .ok (.bipush 99, 2) := by decide +kernel
theorem dX2_readWant_66 : decode cX2_readWant 66 = .ok (.invokevirtual 91, 3) := by decide +kernel
theorem dX2_readWant_69 : decode cX2_readWant 69 = .ok (.istore 4, 2) := by decide +kernel
theorem dX2_readWant_71 : decode cX2_readWant 71 = .ok (.iload 4, 2) := by decide +kernel
theorem dX2_readWant_73 : decode cX2_readWant 73 = .ok (.ifCond .ge 5, 3) := by decide +kernel
theorem dX2_readWant_76 : decode cX2_readWant 76 = .ok (.iconst 0, 1) := by decide +kernel
theorem dX2_readWant_77 : decode cX2_readWant 77 = .ok (.ireturn, 1) := by decide +kernel
theorem dX2_readWant_78 : decode cX2_readWant 78 = .ok (.aload_n 1, 1) := by decide +kernel
theorem dX2_readWant_79 : decode cX2_readWant 79 = .ok (.iload_n 2, 1) := by decide +kernel
theorem dX2_readWant_80 : decode cX2_readWant 80 = .ok (.iload_n 3, 1) := by decide +kernel
theorem dX2_readWant_81 : decode cX2_readWant 81 = .ok (.iload 4, 2) := by decide +kernel
theorem dX2_readWant_83 : decode cX2_readWant 83 = .ok (.invokevirtual 113, 3) := by decide +kernel
theorem dX2_readWant_86 : decode cX2_readWant 86 = .ok (.istore 5, 2) := by decide +kernel
theorem dX2_readWant_88 : decode cX2_readWant 88 = .ok (.aload_n 1, 1) := by decide +kernel
theorem dX2_readWant_89 : decode cX2_readWant 89 = .ok (.getfield 116, 3) := by decide +kernel
theorem dX2_readWant_92 : decode cX2_readWant 92 = .ok (.iload 5, 2) := by decide +kernel
theorem dX2_readWant_94 : decode cX2_readWant 94 = .ok (.aload_n 0, 1) := by decide +kernel
theorem dX2_readWant_95 : decode cX2_readWant 95 = .ok (.ldc 120, 2) := by decide +kernel
theorem dX2_readWant_97 : decode cX2_readWant 97 = .ok (.invokevirtual 97, 3) := by decide +kernel
theorem dX2_readWant_100 : decode cX2_readWant 100 = .ok (.ifCond .eq 7, 3) := by decide +kernel
theorem dX2_readWant_103 : decode cX2_readWant 103 = .ok (.iconst 1, 1) := by decide +kernel
theorem dX2_readWant_104 : decode cX2_readWant 104 = .ok (.goto 4, 3) := by decide +kernel
theorem dX2_readWant_107 : decode cX2_readWant 107 = .ok (.iconst 0, 1) := by decide +kernel
theorem dX2_readWant_108 : decode cX2_readWant 108 = .ok (.iastore, 1) := by decide +kernel
theorem dX2_readWant_109 : decode cX2_readWant 109 = .ok (.aload_n 1, 1) := by decide +kernel
theorem dX2_readWant_110 : decode cX2_readWant 110 = .ok (.getfield 121, 3) := by decide +kernel
theorem dX2_readWant_113 : decode cX2_readWant 113 = .ok (.iload 5, 2) := by decide +kernel
theorem dX2_readWant_115 : decode cX2_readWant 115 = .ok (.aload_n 0, 1) := by decide +kernel
theorem dX2_readWant_116 : decode cX2_readWant 116 = .ok (.ldc 123, 2) := by decide +kernel
theorem dX2_readWant_118 : decode cX2_readWant 118 = .ok (.invokevirtual 97, 3) := by decide +kernel
theorem dX2_readWant_121 : decode cX2_readWant 121 = .ok (.ifCond .eq 7, 3) := by decide +kernel
theorem dX2_readWant_124 : decode cX2_readWant 124 = .ok (.iconst 1, 1) := by decide +kernel
theorem dX2_readWant_125 : decode cX2_readWant 125 = .ok (.goto 4, 3) := by decide +kernel
theorem dX2_readWant_128 : decode cX2_readWant 128 = .ok (.iconst 0, 1) := by decide +kernel
theorem dX2_readWant_129 : decode cX2_readWant 129 = .ok (.iastore, 1) := by decide +kernel
theorem dX2_readWant_130 : decode cX2_readWant 130 = .ok (.iconst 1, 1) := by decide +kernel
theorem dX2_readWant_131 : decode cX2_readWant 131 = .ok (.ireturn, 1) := by decide +kernel
theorem dX2_readLine_0 : decode cX2_readLine 0 = .ok (.aload_n 0, 1) := by decide +kernel
theorem dX2_readLine_1 : decode cX2_readLine 1 = .ok (.getfield 12, 3) := by decide +kernel
theorem dX2_readLine_4 : decode cX2_readLine 4 = .ok (.invokevirtual 29, 3) := by decide +kernel
theorem dX2_readLine_7 : decode cX2_readLine 7 = .ok (.aload_n 0, 1) := by decide +kernel
theorem dX2_readLine_8 : decode cX2_readLine 8 = .ok (.iconst 1, 1) := by decide +kernel
theorem dX2_readLine_9 : decode cX2_readLine 9 = .ok (.bipush 100, 2) := by decide +kernel
theorem dX2_readLine_11 : decode cX2_readLine 11 = .ok (.invokevirtual 91, 3) := by decide +kernel
theorem dX2_readLine_14 : decode cX2_readLine 14 = .ok (.istore_n 2, 1) := by decide +kernel
theorem dX2_readLine_15 : decode cX2_readLine 15 = .ok (.iload_n 2, 1) := by decide +kernel
theorem dX2_readLine_16 : decode cX2_readLine 16 = .ok (.ifCond .ge 5, 3) := by decide +kernel
theorem dX2_readLine_19 : decode cX2_readLine 19 = .ok (.iconst 0, 1) := by decide +kernel
theorem dX2_readLine_20 : decode cX2_readLine 20 = .ok (.ireturn, 1) := by decide +kernel
theorem dX2_readLine_21 : decode cX2_readLine 21 = .ok (.aload_n 1, 1) := by decide +kernel
theorem dX2_readLine_22 : decode cX2_readLine 22 = .ok (.iload_n 2, 1) := by decide +kernel
theorem dX2_readLine_23 : decode cX2_readLine 23 = .ok (.putfield 125, 3) := by decide +kernel
theorem dX2_readLine_26 : decode cX2_readLine 26 = .ok (.iconst 1, 1) := by decide +kernel
theorem dX2_readLine_27 : decode cX2_readLine 27 = .ok (.ireturn, 1) := by decide +kernel
theorem dX2_readOrder_0 : decode cX2_readOrder 0 = .ok (.aload_n 0, 1) := by decide +kernel
theorem dX2_readOrder_1 : decode cX2_readOrder 1 = .ok (.getfield 12, 3) := by decide +kernel
theorem dX2_readOrder_4 : decode cX2_readOrder 4 = .ok (.invokevirtual 29, 3) := by decide +kernel
theorem dX2_readOrder_7 : decode cX2_readOrder 7 = .ok (.aload_n 1, 1) := by decide +kernel
theorem dX2_readOrder_8 : decode cX2_readOrder 8 = .ok (.getfield 127, 3) := by decide +kernel
theorem dX2_readOrder_11 : decode cX2_readOrder 11 = .ok (.iconst 0, 1) := by decide +kernel
theorem dX2_readOrder_12 : decode cX2_readOrder 12 = .ok (.putfield 130, 3) := by decide +kernel
theorem dX2_readOrder_15 : decode cX2_readOrder 15 = .ok (.iconst 0, 1) := by decide +kernel
theorem dX2_readOrder_16 : decode cX2_readOrder 16 = .ok (.istore_n 2, 1) := by decide +kernel
theorem dX2_readOrder_17 : decode cX2_readOrder 17 = .ok (.iload_n 2, 1) := by decide +kernel
theorem dX2_readOrder_18 : decode cX2_readOrder 18 = .ok (.bipush 12, 2) := by decide +kernel
theorem dX2_readOrder_20 : decode cX2_readOrder 20 = .ok (.if_icmp .gt 85, 3) := by decide +kernel
theorem dX2_readOrder_23 : decode cX2_readOrder 23 = .ok (.iload_n 2, 1) := by decide +kernel
theorem dX2_readOrder_24 : decode cX2_readOrder 24 = .ok (.ifCond .le 16, 3) := by decide +kernel
theorem dX2_readOrder_27 : decode cX2_readOrder 27 = .ok (.aload_n 0, 1) := by decide +kernel
theorem dX2_readOrder_28 : decode cX2_readOrder 28 = .ok (.getfield 12, 3) := by decide +kernel
theorem dX2_readOrder_31 : decode cX2_readOrder 31 = .ok (.getfield 25, 3) := by decide +kernel
theorem dX2_readOrder_34 : decode cX2_readOrder 34 = .ok (.iconst 2, 1) := by decide +kernel
theorem dX2_readOrder_35 : decode cX2_readOrder 35 = .ok (.if_icmp .eq 5, 3) := by decide +kernel
theorem dX2_readOrder_38 : decode cX2_readOrder 38 = .ok (.iconst 1, 1) := by decide +kernel
theorem dX2_readOrder_39 : decode cX2_readOrder 39 = .ok (.ireturn, 1) := by decide +kernel
theorem dX2_readOrder_40 : decode cX2_readOrder 40 = .ok (.aload_n 0, 1) := by decide +kernel
theorem dX2_readOrder_41 : decode cX2_readOrder 41 = .ok (.getfield 12, 3) := by decide +kernel
theorem dX2_readOrder_44 : decode cX2_readOrder 44 = .ok (.getfield 25, 3) := by decide +kernel
theorem dX2_readOrder_47 : decode cX2_readOrder 47 = .ok (.iconst 2, 1) := by decide +kernel
theorem dX2_readOrder_48 : decode cX2_readOrder 48 = .ok (.if_icmp .ne 22, 3) := by decide +kernel
theorem dX2_readOrder_51 : decode cX2_readOrder 51 = .ok (.aload_n 1, 1) := by decide +kernel
theorem dX2_readOrder_52 : decode cX2_readOrder 52 = .ok (.getfield 127, 3) := by decide +kernel
theorem dX2_readOrder_55 : decode cX2_readOrder 55 = .ok (.aload_n 0, 1) := by decide +kernel
theorem dX2_readOrder_56 : decode cX2_readOrder 56 = .ok (.getfield 12, 3) := by decide +kernel
theorem dX2_readOrder_59 : decode cX2_readOrder 59 = .ok (.getfield 135, 3) := by decide +kernel
theorem dX2_readOrder_62 : decode cX2_readOrder 62 = .ok (.invokevirtual 137, 3) := by decide +kernel
theorem dX2_readOrder_65 : decode cX2_readOrder 65 = .ok (.ifCond .lt 5, 3) := by decide +kernel
theorem dX2_readOrder_68 : decode cX2_readOrder 68 = .ok (.iconst 0, 1) := by decide +kernel
theorem dX2_readOrder_69 : decode cX2_readOrder 69 = .ok (.ireturn, 1) := by decide +kernel
theorem dX2_readOrder_70 : decode cX2_readOrder 70 = .ok (.aload_n 0, 1) := by decide +kernel
theorem dX2_readOrder_71 : decode cX2_readOrder 71 = .ok (.iconst 0, 1) := by decide +kernel
theorem dX2_readOrder_72 : decode cX2_readOrder 72 = .ok (.aload_n 1, 1) := by decide +kernel
theorem dX2_readOrder_73 : decode cX2_readOrder 73 = .ok (.getfield 39, 3) := by decide +kernel
theorem dX2_readOrder_76 : decode cX2_readOrder 76 = .ok (.getfield 141, 3) := by decide +kernel
theorem dX2_readOrder_79 : decode cX2_readOrder 79 = .ok (.iconst 1, 1) := by decide +kernel
theorem dX2_readOrder_80 : decode cX2_readOrder 80 = .ok (.isub, 1) := by decide +kernel
theorem dX2_readOrder_81 : decode cX2_readOrder 81 = .ok (.invokevirtual 91, 3) := by decide +kernel
theorem dX2_readOrder_84 : decode cX2_readOrder 84 = .ok (.istore_n 3, 1) := by decide +kernel
theorem dX2_readOrder_85 : decode cX2_readOrder 85 = .ok (.iload_n 3, 1) := by decide +kernel
theorem dX2_readOrder_86 : decode cX2_readOrder 86 = .ok (.ifCond .ge 5, 3) := by decide +kernel
theorem dX2_readOrder_89 : decode cX2_readOrder 89 = .ok (.iconst 0, 1) := by decide +kernel
theorem dX2_readOrder_90 : decode cX2_readOrder 90 = .ok (.ireturn, 1) := by decide +kernel
theorem dX2_readOrder_91 : decode cX2_readOrder 91 = .ok (.aload_n 1, 1) := by decide +kernel
theorem dX2_readOrder_92 : decode cX2_readOrder 92 = .ok (.getfield 127, 3) := by decide +kernel
theorem dX2_readOrder_95 : decode cX2_readOrder 95 = .ok (.iload_n 3, 1) := by decide +kernel
theorem dX2_readOrder_96 : decode cX2_readOrder 96 = .ok (.invokevirtual 142, 3) := by decide +kernel
theorem dX2_readOrder_99 : decode cX2_readOrder 99 = .ok (.iinc 2 1, 3) := by decide +kernel
theorem dX2_readOrder_102 : decode cX2_readOrder 102 = .ok (.goto (-85), 3) := by decide +kernel
theorem dX2_readOrder_105 : decode cX2_readOrder 105 = .ok (.iconst 0, 1) := by decide +kernel
theorem dX2_readOrder_106 : decode cX2_readOrder 106 = .ok (.ireturn, 1) := by decide +kernel
theorem dX2_takeWord_0 : decode cX2_takeWord 0 = .ok (.aload_n 0, 1) := by decide +kernel
theorem dX2_takeWord_1 : decode cX2_takeWord 1 = .ok (.getfield 12, 3) := by decide +kernel
theorem dX2_takeWord_4 : decode cX2_takeWord 4 = .ok (.aload_n 1, 1) := by decide +kernel
theorem dX2_takeWord_5 : decode cX2_takeWord 5 = .ok (.invokevirtual 51, 3) := by decide +kernel
theorem dX2_takeWord_8 : decode cX2_takeWord 8 = .ok (.ifCond .ne 5, 3) := by decide +kernel
theorem dX2_takeWord_11 : decode cX2_takeWord 11 = .ok (.iconst 0, 1) := by decide +kernel
theorem dX2_takeWord_12 : decode cX2_takeWord 12 = .ok (.ireturn, 1) := by decide +kernel
theorem dX2_takeWord_13 : decode cX2_takeWord 13 = .ok (.aload_n 0, 1) := by decide +kernel
theorem dX2_takeWord_14 : decode cX2_takeWord 14 = .ok (.getfield 12, 3) := by decide +kernel
theorem dX2_takeWord_17 : decode cX2_takeWord 17 = .ok (.invokevirtual 29, 3) := by decide +kernel
theorem dX2_takeWord_20 : decode cX2_takeWord 20 = .ok (.iconst 1, 1) := by decide +kernel
theorem dX2_takeWord_21 : decode cX2_takeWord 21 = .ok (.ireturn, 1) := by decide +kernel
theorem dX2_takeNumber_0 : decode cX2_takeNumber 0 = .ok (.aload_n 0, 1) := by decide +kernel
theorem dX2_takeNumber_1 : decode cX2_takeNumber 1 = .ok (.getfield 12, 3) := by decide +kernel
theorem dX2_takeNumber_4 : decode cX2_takeNumber 4 = .ok (.getfield 25, 3) := by decide +kernel
theorem dX2_takeNumber_7 : decode cX2_takeNumber 7 = .ok (.iconst 2, 1) := by decide +kernel
theorem dX2_takeNumber_8 : decode cX2_takeNumber 8 = .ok (.if_icmp .ne 18, 3) := by decide +kernel
theorem dX2_takeNumber_11 : decode cX2_takeNumber 11 = .ok (.aload_n 0, 1) := by decide +kernel
theorem dX2_takeNumber_12 : decode cX2_takeNumber 12 = .ok (.getfield 12, 3) := by decide +kernel
theorem dX2_takeNumber_15 : decode cX2_takeNumber 15 = .ok (.getfield 135, 3) := by decide +kernel
theorem dX2_takeNumber_18 : decode cX2_takeNumber 18 = .ok (.iload_n 1, 1) := by decide +kernel
theorem dX2_takeNumber_19 : decode cX2_takeNumber 19 = .ok (.iload_n 2, 1) := by decide +kernel
theorem dX2_takeNumber_20 : decode cX2_takeNumber 20 = .ok (.invokestatic 146, 3) := by decide +kernel
theorem dX2_takeNumber_23 : decode cX2_takeNumber 23 = .ok (.ifCond .ne 5, 3) := by decide +kernel
theorem dX2_takeNumber_26 : decode cX2_takeNumber 26 = .ok (.iconst (-1), 1) := by decide +kernel
theorem dX2_takeNumber_27 : decode cX2_takeNumber 27 = .ok (.ireturn, 1) := by decide +kernel
theorem dX2_takeNumber_28 : decode cX2_takeNumber 28 = .ok (.aload_n 0, 1) := by decide +kernel
theorem dX2_takeNumber_29 : decode cX2_takeNumber 29 = .ok (.getfield 12, 3) := by decide +kernel
theorem dX2_takeNumber_32 : decode cX2_takeNumber 32 = .ok (.getfield 135, 3) := by decide +kernel
theorem dX2_takeNumber_35 : decode cX2_takeNumber 35 = .ok (.istore_n 3, 1) := by decide +kernel
theorem dX2_takeNumber_36 : decode cX2_takeNumber 36 = .ok (.aload_n 0, 1) := by decide +kernel
theorem dX2_takeNumber_37 : decode cX2_takeNumber 37 = .ok (.getfield 12, 3) := by decide +kernel
theorem dX2_takeNumber_40 : decode cX2_takeNumber 40 = .ok (.invokevirtual 29, 3) := by decide +kernel
theorem dX2_takeNumber_43 : decode cX2_takeNumber 43 = .ok (.iload_n 3, 1) := by decide +kernel
theorem dX2_takeNumber_44 : decode cX2_takeNumber 44 = .ok (.ireturn, 1) := by decide +kernel
theorem dX3_init_0 : decode cX3_init 0 = .ok (.aload_n 0, 1) := by decide +kernel
theorem dX3_init_1 : decode cX3_init 1 = .ok (.invokespecial 3, 3) := by decide +kernel
theorem dX3_init_4 : decode cX3_init 4 = .ok (.aload_n 0, 1) := by decide +kernel
theorem dX3_init_5 : decode cX3_init 5 = .ok (.bipush 12, 2) := by decide +kernel
theorem dX3_init_7 : decode cX3_init 7 = .ok (.newarray .int, 2) := by decide +kernel
theorem dX3_init_9 : decode cX3_init 9 = .ok (.putfield 9, 3) := by decide +kernel
theorem dX3_init_12 : decode cX3_init 12 = .ok (.aload_n 0, 1) := by decide +kernel
theorem dX3_init_13 : decode cX3_init 13 = .ok (.iconst 0, 1) := by decide +kernel
theorem dX3_init_14 : decode cX3_init 14 = .ok (.putfield 15, 3) := by decide +kernel
theorem dX3_init_17 : decode cX3_init 17 = .ok (.return_, 1) := by decide +kernel
theorem dX3_placeOf_0 : decode cX3_placeOf 0 = .ok (.iconst 0, 1) := by decide +kernel
theorem dX3_placeOf_1 : decode cX3_placeOf 1 = .ok (.istore_n 2, 1) := by decide +kernel
theorem dX3_placeOf_2 : decode cX3_placeOf 2 = .ok (.iload_n 2, 1) := by decide +kernel
theorem dX3_placeOf_3 : decode cX3_placeOf 3 = .ok (.aload_n 0, 1) := by decide +kernel
theorem dX3_placeOf_4 : decode cX3_placeOf 4 = .ok (.getfield 15, 3) := by decide +kernel
theorem dX3_placeOf_7 : decode cX3_placeOf 7 = .ok (.if_icmp .ge 21, 3) := by decide +kernel
theorem dX3_placeOf_10 : decode cX3_placeOf 10 = .ok (.aload_n 0, 1) := by decide +kernel
theorem dX3_placeOf_11 : decode cX3_placeOf 11 = .ok (.getfield 9, 3) := by decide +kernel
theorem dX3_placeOf_14 : decode cX3_placeOf 14 = .ok (.iload_n 2, 1) := by decide +kernel
theorem dX3_placeOf_15 : decode cX3_placeOf 15 = .ok (.iaload, 1) := by decide +kernel
theorem dX3_placeOf_16 : decode cX3_placeOf 16 = .ok (.iload_n 1, 1) := by decide +kernel
theorem dX3_placeOf_17 : decode cX3_placeOf 17 = .ok (.if_icmp .ne 5, 3) := by decide +kernel
theorem dX3_placeOf_20 : decode cX3_placeOf 20 = .ok (.iload_n 2, 1) := by decide +kernel
theorem dX3_placeOf_21 : decode cX3_placeOf 21 = .ok (.ireturn, 1) := by decide +kernel
theorem dX3_placeOf_22 : decode cX3_placeOf 22 = .ok (.iinc 2 1, 3) := by decide +kernel
theorem dX3_placeOf_25 : decode cX3_placeOf 25 = .ok (.goto (-23), 3) := by decide +kernel
theorem dX3_placeOf_28 : decode cX3_placeOf 28 = .ok (.iconst (-1), 1) := by decide +kernel
theorem dX3_placeOf_29 : decode cX3_placeOf 29 = .ok (.ireturn, 1) := by decide +kernel
theorem dX3_append_0 : decode cX3_append 0 = .ok (.aload_n 0, 1) := by decide +kernel
theorem dX3_append_1 : decode cX3_append 1 = .ok (.getfield 15, 3) := by decide +kernel
theorem dX3_append_4 : decode cX3_append 4 = .ok (.bipush 12, 2) := by decide +kernel
theorem dX3_append_6 : decode cX3_append 6 = .ok (.if_icmp .ge 31, 3) := by decide +kernel
theorem dX3_append_9 : decode cX3_append 9 = .ok (.aload_n 0, 1) := by decide +kernel
theorem dX3_append_10 : decode cX3_append 10 = .ok (.iload_n 1, 1) := by decide +kernel
theorem dX3_append_11 : decode cX3_append 11 = .ok (.invokevirtual 19, 3) := by decide +kernel
theorem dX3_append_14 : decode cX3_append 14 = .ok (.ifCond .ge 23, 3) := by decide +kernel
theorem dX3_append_17 : decode cX3_append 17 = .ok (.aload_n 0, 1) := by decide +kernel
theorem dX3_append_18 : decode cX3_append 18 = .ok (.getfield 9, 3) := by decide +kernel
theorem dX3_append_21 : decode cX3_append 21 = .ok (.aload_n 0, 1) := by decide +kernel
theorem dX3_append_22 : decode cX3_append 22 = .ok (.getfield 15, 3) := by decide +kernel
theorem dX3_append_25 : decode cX3_append 25 = .ok (.iload_n 1, 1) := by decide +kernel
theorem dX3_append_26 : decode cX3_append 26 = .ok (.iastore, 1) := by decide +kernel
theorem dX3_append_27 : decode cX3_append 27 = .ok (.aload_n 0, 1) := by decide +kernel
theorem dX3_append_28 : decode cX3_append 28 = .ok (.dup, 1) := by decide +kernel
theorem dX3_append_29 : decode cX3_append 29 = .ok (.getfield 15, 3) := by decide +kernel
theorem dX3_append_32 : decode cX3_append 32 = .ok (.iconst 1, 1) := by decide +kernel
theorem dX3_append_33 : decode cX3_append 33 = .ok (.iadd, 1) := by decide +kernel
theorem dX3_append_34 : decode cX3_append 34 = .ok (.putfield 15, 3) := by decide +kernel
theorem dX3_append_37 : decode cX3_append 37 = .ok (.return_, 1) := by decide +kernel
theorem dX3_drop_0 : decode cX3_drop 0 = .ok (.aload_n 0, 1) := by decide +kernel
theorem dX3_drop_1 : decode cX3_drop 1 = .ok (.iload_n 1, 1) := by decide +kernel
theorem dX3_drop_2 : decode cX3_drop 2 = .ok (.invokevirtual 19, 3) := by decide +kernel
theorem dX3_drop_5 : decode cX3_drop 5 = .ok (.istore_n 2, 1) := by decide +kernel
theorem dX3_drop_6 : decode cX3_drop 6 = .ok (.iload_n 2, 1) := by decide +kernel
theorem dX3_drop_7 : decode cX3_drop 7 = .ok (.ifCond .lt 43, 3) := by decide +kernel
theorem dX3_drop_10 : decode cX3_drop 10 = .ok (.aload_n 0, 1) := by decide +kernel
theorem dX3_drop_11 : decode cX3_drop 11 = .ok (.dup, 1) := by decide +kernel
theorem dX3_drop_12 : decode cX3_drop 12 = .ok (.getfield 15, 3) := by decide +kernel
theorem dX3_drop_15 : decode cX3_drop 15 = .ok (.iconst 1, 1) := by decide +kernel
theorem dX3_drop_16 : decode cX3_drop 16 = .ok (.isub, 1) := by decide +kernel
theorem dX3_drop_17 : decode cX3_drop 17 = .ok (.putfield 15, 3) := by decide +kernel
theorem dX3_drop_20 : decode cX3_drop 20 = .ok (.iload_n 2, 1) := by decide +kernel
theorem dX3_drop_21 : decode cX3_drop 21 = .ok (.istore_n 3, 1) := by decide +kernel
theorem dX3_drop_22 : decode cX3_drop 22 = .ok (.iload_n 3, 1) := by decide +kernel
theorem dX3_drop_23 : decode cX3_drop 23 = .ok (.aload_n 0, 1) := by decide +kernel
theorem dX3_drop_24 : decode cX3_drop 24 = .ok (.getfield 15, 3) := by decide +kernel
theorem dX3_drop_27 : decode cX3_drop 27 = .ok (.if_icmp .ge 23, 3) := by decide +kernel
theorem dX3_drop_30 : decode cX3_drop 30 = .ok (.aload_n 0, 1) := by decide +kernel
theorem dX3_drop_31 : decode cX3_drop 31 = .ok (.getfield 9, 3) := by decide +kernel
theorem dX3_drop_34 : decode cX3_drop 34 = .ok (.iload_n 3, 1) := by decide +kernel
theorem dX3_drop_35 : decode cX3_drop 35 = .ok (.aload_n 0, 1) := by decide +kernel
theorem dX3_drop_36 : decode cX3_drop 36 = .ok (.getfield 9, 3) := by decide +kernel
theorem dX3_drop_39 : decode cX3_drop 39 = .ok (.iload_n 3, 1) := by decide +kernel
theorem dX3_drop_40 : decode cX3_drop 40 = .ok (.iconst 1, 1) := by decide +kernel
theorem dX3_drop_41 : decode cX3_drop 41 = .ok (.iadd, 1) := by decide +kernel
theorem dX3_drop_42 : decode cX3_drop 42 = .ok (.iaload, 1) := by decide +kernel
theorem dX3_drop_43 : decode cX3_drop 43 = .ok (.iastore, 1) := by decide +kernel
theorem dX3_drop_44 : decode cX3_drop 44 = .ok (.iinc 3 1, 3) := by decide +kernel
theorem dX3_drop_47 : decode cX3_drop 47 = .ok (.goto (-25), 3) := by decide +kernel
theorem dX3_drop_50 : decode cX3_drop 50 = .ok (.iload_n 2, 1) := by decide +kernel
theorem dX3_drop_51 : decode cX3_drop 51 = .ok (.ireturn, 1) := by decide +kernel
theorem dX3_arrangements_0 : decode cX3_arrangements 0 = .ok (.getstatic 23, 3) := by decide +kernel
theorem dX3_arrangements_3 : decode cX3_arrangements 3 = .ok (.iload_n 0, 1) := by decide +kernel
theorem dX3_arrangements_4 : decode cX3_arrangements 4 = .ok (.invokestatic 26, 3) := by decide +kernel
theorem dX3_arrangements_7 : decode cX3_arrangements 7 = .ok (.iconst 5, 1) := by decide +kernel
theorem dX3_arrangements_8 : decode cX3_arrangements 8 = .ok (.invokestatic 31, 3) := by decide +kernel
theorem dX3_arrangements_11 : decode cX3_arrangements 11 = .ok (.iaload, 1) := by decide +kernel
theorem dX3_arrangements_12 : decode cX3_arrangements 12 = .ok (.ireturn, 1) := by decide +kernel
theorem dX3_arrange_0 : decode cX3_arrange 0 = .ok (.aload_n 0, 1) := by decide +kernel
theorem dX3_arrange_1 : decode cX3_arrange 1 = .ok (.iconst 0, 1) := by decide +kernel
theorem dX3_arrange_2 : decode cX3_arrange 2 = .ok (.putfield 15, 3) := by decide +kernel
theorem dX3_arrange_5 : decode cX3_arrange 5 = .ok (.iload_n 1, 1) := by decide +kernel
theorem dX3_arrange_6 : decode cX3_arrange 6 = .ok (.istore_n 3, 1) := by decide +kernel
theorem dX3_arrange_7 : decode cX3_arrange 7 = .ok (.iload_n 2, 1) := by decide +kernel
theorem dX3_arrange_8 : decode cX3_arrange 8 = .ok (.istore 4, 2) := by decide +kernel
theorem dX3_arrange_10 : decode cX3_arrange 10 = .ok (.iload_n 1, 1) := by decide +kernel
theorem dX3_arrange_11 : decode cX3_arrange 11 = .ok (.invokestatic 26, 3) := by decide +kernel
theorem dX3_arrange_14 : decode cX3_arrange 14 = .ok (.iconst 5, 1) := by decide +kernel
theorem dX3_arrange_15 : decode cX3_arrange 15 = .ok (.invokestatic 31, 3) := by decide +kernel
theorem dX3_arrange_18 : decode cX3_arrange 18 = .ok (.iconst 1, 1) := by decide +kernel
theorem dX3_arrange_19 : decode cX3_arrange 19 = .ok (.isub, 1) := by decide +kernel
theorem dX3_arrange_20 : decode cX3_arrange 20 = .ok (.istore 5, 2) := by decide +kernel
theorem dX3_arrange_22 : decode cX3_arrange 22 = .ok (.iload 5, 2) := by decide +kernel
theorem dX3_arrange_24 : decode cX3_arrange 24 = .ok (.ifCond .lt 54, 3) := by decide +kernel
theorem dX3_arrange_27 : decode cX3_arrange 27 = .ok (.iconst 1, 1) := by decide +kernel
theorem dX3_arrange_28 : decode cX3_arrange 28 = .ok (.getstatic 23, 3) := by decide +kernel
theorem dX3_arrange_31 : decode cX3_arrange 31 = .ok (.iload 5, 2) := by decide +kernel
theorem dX3_arrange_33 : decode cX3_arrange 33 = .ok (.iaload, 1) := by decide +kernel
theorem dX3_arrange_34 : decode cX3_arrange 34 = .ok (.invokestatic 37, 3) := by decide +kernel
theorem dX3_arrange_37 : decode cX3_arrange 37 = .ok (.istore 6, 2) := by decide +kernel
theorem dX3_arrange_39 : decode cX3_arrange 39 = .ok (.iload_n 3, 1) := by decide +kernel
theorem dX3_arrange_40 : decode cX3_arrange 40 = .ok (.iload 4, 2) := by decide +kernel
theorem dX3_arrange_42 : decode cX3_arrange 42 = .ok (.iload 6, 2) := by decide +kernel
theorem dX3_arrange_44 : decode cX3_arrange 44 = .ok (.idiv, 1) := by decide +kernel
theorem dX3_arrange_45 : decode cX3_arrange 45 = .ok (.invokestatic 40, 3) := by decide +kernel
theorem dX3_arrange_48 : decode cX3_arrange 48 = .ok (.istore 7, 2) := by decide +kernel
theorem dX3_arrange_50 : decode cX3_arrange 50 = .ok (.iload 4, 2) := by decide +kernel
theorem dX3_arrange_52 : decode cX3_arrange 52 = .ok (.iload 6, 2) := by decide +kernel
theorem dX3_arrange_54 : decode cX3_arrange 54 = .ok (.irem, 1) := by decide +kernel
theorem dX3_arrange_55 : decode cX3_arrange 55 = .ok (.istore 4, 2) := by decide +kernel
theorem dX3_arrange_57 : decode cX3_arrange 57 = .ok (.iload_n 3, 1) := by decide +kernel
theorem dX3_arrange_58 : decode cX3_arrange 58 = .ok (.iconst 1, 1) := by decide +kernel
theorem dX3_arrange_59 : decode cX3_arrange 59 = .ok (.iload 7, 2) := by decide +kernel
theorem dX3_arrange_61 : decode cX3_arrange 61 = .ok (.ishl, 1) := by decide +kernel
theorem dX3_arrange_62 : decode cX3_arrange 62 = .ok (.iconst (-1), 1) := by decide +kernel
theorem dX3_arrange_63 : decode cX3_arrange 63 = .ok (.ixor, 1) := by decide +kernel
theorem dX3_arrange_64 : decode cX3_arrange 64 = .ok (.iand, 1) := by decide +kernel
theorem dX3_arrange_65 : decode cX3_arrange 65 = .ok (.istore_n 3, 1) := by decide +kernel
theorem dX3_arrange_66 : decode cX3_arrange 66 = .ok (.aload_n 0, 1) := by decide +kernel
theorem dX3_arrange_67 : decode cX3_arrange 67 = .ok (.iload 7, 2) := by decide +kernel
theorem dX3_arrange_69 : decode cX3_arrange 69 = .ok (.invokevirtual 43, 3) := by decide +kernel
theorem dX3_arrange_72 : decode cX3_arrange 72 = .ok (.iinc 5 (-1), 3) := by decide +kernel
theorem dX3_arrange_75 : decode cX3_arrange 75 = .ok (.goto (-53), 3) := by decide +kernel
theorem dX3_arrange_78 : decode cX3_arrange 78 = .ok (.return_, 1) := by decide +kernel
theorem dX3_memberOf_0 : decode cX3_memberOf 0 = .ok (.iload_n 0, 1) := by decide +kernel
theorem dX3_memberOf_1 : decode cX3_memberOf 1 = .ok (.istore_n 2, 1) := by decide +kernel
theorem dX3_memberOf_2 : decode cX3_memberOf 2 = .ok (.iconst 0, 1) := by decide +kernel
theorem dX3_memberOf_3 : decode cX3_memberOf 3 = .ok (.istore_n 3, 1) := by decide +kernel
theorem dX3_memberOf_4 : decode cX3_memberOf 4 = .ok (.iload_n 3, 1) := by decide +kernel
theorem dX3_memberOf_5 : decode cX3_memberOf 5 = .ok (.iload_n 1, 1) := by decide +kernel
theorem dX3_memberOf_6 : decode cX3_memberOf 6 = .ok (.if_icmp .ge 21, 3) := by decide +kernel
theorem dX3_memberOf_9 : decode cX3_memberOf 9 = .ok (.iload_n 3, 1) := by decide +kernel
theorem dX3_memberOf_10 : decode cX3_memberOf 10 = .ok (.bipush 12, 2) := by decide +kernel
theorem dX3_memberOf_12 : decode cX3_memberOf 12 = .ok (.if_icmp .ge 15, 3) := by decide +kernel
theorem dX3_memberOf_15 : decode cX3_memberOf 15 = .ok (.iload_n 2, 1) := by decide +kernel
theorem dX3_memberOf_16 : decode cX3_memberOf 16 = .ok (.iload_n 2, 1) := by decide +kernel
theorem dX3_memberOf_17 : decode cX3_memberOf 17 = .ok (.iconst 1, 1) := by decide +kernel
theorem dX3_memberOf_18 : decode cX3_memberOf 18 = .ok (.isub, 1) := by decide +kernel
theorem dX3_memberOf_19 : decode cX3_memberOf 19 = .ok (.iand, 1) := by decide +kernel
theorem dX3_memberOf_20 : decode cX3_memberOf 20 = .ok (.istore_n 2, 1) := by decide +kernel
theorem dX3_memberOf_21 : decode cX3_memberOf 21 = .ok (.iinc 3 1, 3) := by decide +kernel
theorem dX3_memberOf_24 : decode cX3_memberOf 24 = .ok (.goto (-20), 3) := by decide +kernel
theorem dX3_memberOf_27 : decode cX3_memberOf 27 = .ok (.iload_n 2, 1) := by decide +kernel
theorem dX3_memberOf_28 : decode cX3_memberOf 28 = .ok (.invokestatic 47, 3) := by decide +kernel
theorem dX3_memberOf_31 : decode cX3_memberOf 31 = .ok (.ireturn, 1) := by decide +kernel
theorem dX3_takeFrom_0 : decode cX3_takeFrom 0 = .ok (.aload_n 0, 1) := by decide +kernel
theorem dX3_takeFrom_1 : decode cX3_takeFrom 1 = .ok (.aload_n 1, 1) := by decide +kernel
theorem dX3_takeFrom_2 : decode cX3_takeFrom 2 = .ok (.getfield 15, 3) := by decide +kernel
theorem dX3_takeFrom_5 : decode cX3_takeFrom 5 = .ok (.putfield 15, 3) := by decide +kernel
theorem dX3_takeFrom_8 : decode cX3_takeFrom 8 = .ok (.aload_n 1, 1) := by decide +kernel
theorem dX3_takeFrom_9 : decode cX3_takeFrom 9 = .ok (.getfield 9, 3) := by decide +kernel
theorem dX3_takeFrom_12 : decode cX3_takeFrom 12 = .ok (.iconst 0, 1) := by decide +kernel
theorem dX3_takeFrom_13 : decode cX3_takeFrom 13 = .ok (.aload_n 0, 1) := by decide +kernel
theorem dX3_takeFrom_14 : decode cX3_takeFrom 14 = .ok (.getfield 9, 3) := by decide +kernel
theorem dX3_takeFrom_17 : decode cX3_takeFrom 17 = .ok (.iconst 0, 1) := by decide +kernel
theorem dX3_takeFrom_18 : decode cX3_takeFrom 18 = .ok (.bipush 12, 2) := by decide +kernel
theorem dX3_takeFrom_20 : decode cX3_takeFrom 20 = .ok (.invokestatic 50, 3) := by decide +kernel
theorem dX3_takeFrom_23 : decode cX3_takeFrom 23 = .ok (.return_, 1) := by decide +kernel
theorem dX4_init_0 : decode cX4_init 0 = .ok (.aload_n 0, 1) := by decide +kernel
theorem dX4_init_1 : decode cX4_init 1 = .ok (.invokespecial 3, 3) := by decide +kernel
theorem dX4_init_4 : decode cX4_init 4 = .ok (.aload_n 0, 1) := by decide +kernel
theorem dX4_init_5 : decode cX4_init 5 = .ok (.new 9, 3) := by decide +kernel
theorem dX4_init_8 : decode cX4_init 8 = .ok (.dup, 1) := by decide +kernel
theorem dX4_init_9 : decode cX4_init 9 = .ok (.invokespecial 11, 3) := by decide +kernel
theorem dX4_init_12 : decode cX4_init 12 = .ok (.putfield 12, 3) := by decide +kernel
theorem dX4_init_15 : decode cX4_init 15 = .ok (.return_, 1) := by decide +kernel
theorem dX4_lookAhead_0 : decode cX4_lookAhead 0 = .ok (.aload_n 0, 1) := by decide +kernel
theorem dX4_lookAhead_1 : decode cX4_lookAhead 1 = .ok (.getfield 12, 3) := by decide +kernel
theorem dX4_lookAhead_4 : decode cX4_lookAhead 4 = .ok (.aload_n 1, 1) := by decide +kernel
theorem dX4_lookAhead_5 : decode cX4_lookAhead 5 = .ok (.invokevirtual 18, 3) := by decide +kernel
theorem dX4_lookAhead_8 : decode cX4_lookAhead 8 = .ok (.aload_n 0, 1) := by decide +kernel
theorem dX4_lookAhead_9 : decode cX4_lookAhead 9 = .ok (.getfield 12, 3) := by decide +kernel
theorem dX4_lookAhead_12 : decode cX4_lookAhead 12 = .ok (.iload_n 2, 1) := by decide +kernel
theorem dX4_lookAhead_13 : decode cX4_lookAhead 13 = .ok (.invokevirtual 22, 3) := by decide +kernel
theorem dX4_lookAhead_16 : decode cX4_lookAhead 16 = .ok (.return_, 1) := by decide +kernel
theorem dX4_daysTillForgotten_0 : decode cX4_daysTillForgotten 0 = .ok (.aload_n 0, 1) := by decide +kernel
theorem dX4_daysTillForgotten_1 : decode cX4_daysTillForgotten 1 = .ok (.getfield 12, 3) := by decide +kernel
theorem dX4_daysTillForgotten_4 : decode cX4_daysTillForgotten 4 = .ok (.aload_n 1, 1) := by decide +kernel
theorem dX4_daysTillForgotten_5 : decode cX4_daysTillForgotten 5 = .ok (.invokevirtual 18, 3) := by decide +kernel
theorem dX4_daysTillForgotten_8 : decode cX4_daysTillForgotten 8 = .ok (.iconst 0, 1) := by decide +kernel
theorem dX4_daysTillForgotten_9 : decode cX4_daysTillForgotten 9 = .ok (.istore_n 3, 1) := by decide +kernel
theorem dX4_daysTillForgotten_10 : decode cX4_daysTillForgotten 10 = .ok (.iload_n 3, 1) := by decide +kernel
theorem dX4_daysTillForgotten_11 : decode cX4_daysTillForgotten 11 = .ok (.bipush 60, 2) := by decide +kernel
theorem dX4_daysTillForgotten_13 : decode cX4_daysTillForgotten 13 = .ok (.if_icmp .gt 30, 3) := by decide +kernel
theorem dX4_daysTillForgotten_16 : decode cX4_daysTillForgotten 16 = .ok (.aload_n 0, 1) := by decide +kernel
theorem dX4_daysTillForgotten_17 : decode cX4_daysTillForgotten 17 = .ok (.getfield 12, 3) := by decide +kernel
theorem dX4_daysTillForgotten_20 : decode cX4_daysTillForgotten 20 = .ok (.iload_n 2, 1) := by decide +kernel
theorem dX4_daysTillForgotten_21 : decode cX4_daysTillForgotten 21 = .ok (.invokevirtual 26, 3) := by decide +kernel
theorem dX4_daysTillForgotten_24 : decode cX4_daysTillForgotten 24 = .ok (.ifCond .ne 5, 3) := by decide +kernel
theorem dX4_daysTillForgotten_27 : decode cX4_daysTillForgotten 27 = .ok (.iload_n 3, 1) := by decide +kernel
theorem dX4_daysTillForgotten_28 : decode cX4_daysTillForgotten 28 = .ok (.ireturn, 1) := by decide +kernel
theorem dX4_daysTillForgotten_29 : decode cX4_daysTillForgotten 29 = .ok (.aload_n 0, 1) := by decide +kernel
theorem dX4_daysTillForgotten_30 : decode cX4_daysTillForgotten 30 = .ok (.getfield 12, 3) := by decide +kernel
theorem dX4_daysTillForgotten_33 : decode cX4_daysTillForgotten 33 = .ok (.iconst 1, 1) := by decide +kernel
theorem dX4_daysTillForgotten_34 : decode cX4_daysTillForgotten 34 = .ok (.invokevirtual 22, 3) := by decide +kernel
theorem dX4_daysTillForgotten_37 : decode cX4_daysTillForgotten 37 = .ok (.iinc 3 1, 3) := by decide +kernel
theorem dX4_daysTillForgotten_40 : decode cX4_daysTillForgotten 40 = .ok (.goto (-30), 3) := by decide +kernel
theorem dX4_daysTillForgotten_43 : decode cX4_daysTillForgotten 43 = .ok (.iconst (-1), 1) := by decide +kernel
theorem dX4_daysTillForgotten_44 : decode cX4_daysTillForgotten 44 = .ok (.ireturn, 1) := by decide +kernel
theorem dX4_neverUsed_0 : decode cX4_neverUsed 0 = .ok (.aload_n 0, 1) := by decide +kernel
theorem dX4_neverUsed_1 : decode cX4_neverUsed 1 = .ok (.aload_n 1, 1) := by decide +kernel
theorem dX4_neverUsed_2 : decode cX4_neverUsed 2 = .ok (.iload_n 2, 1) := by decide +kernel
theorem dX4_neverUsed_3 : decode cX4_neverUsed 3 = .ok (.invokevirtual 30, 3) := by decide +kernel
theorem dX4_neverUsed_6 : decode cX4_neverUsed 6 = .ok (.iconst 0, 1) := by decide +kernel
theorem dX4_neverUsed_7 : decode cX4_neverUsed 7 = .ok (.istore_n 3, 1) := by decide +kernel
theorem dX4_neverUsed_8 : decode cX4_neverUsed 8 = .ok (.iconst 0, 1) := by decide +kernel
theorem dX4_neverUsed_9 : decode cX4_neverUsed 9 = .ok (.istore 4, 2) := by decide +kernel
theorem dX4_neverUsed_11 : decode cX4_neverUsed 11 = .ok (.iload 4, 2) := by decide +kernel
theorem dX4_neverUsed_13 : decode cX4_neverUsed 13 = .ok (.aload_n 1, 1) := by decide +kernel
theorem dX4_neverUsed_14 : decode cX4_neverUsed 14 = .ok (.getfield 34, 3) := by decide +kernel
theorem dX4_neverUsed_17 : decode cX4_neverUsed 17 = .ok (.getfield 38, 3) := by decide +kernel
theorem dX4_neverUsed_20 : decode cX4_neverUsed 20 = .ok (.if_icmp .ge 42, 3) := by decide +kernel
theorem dX4_neverUsed_23 : decode cX4_neverUsed 23 = .ok (.aload_n 0, 1) := by decide +kernel
theorem dX4_neverUsed_24 : decode cX4_neverUsed 24 = .ok (.getfield 12, 3) := by decide +kernel
theorem dX4_neverUsed_27 : decode cX4_neverUsed 27 = .ok (.getfield 34, 3) := by decide +kernel
theorem dX4_neverUsed_30 : decode cX4_neverUsed 30 = .ok (.getfield 44, 3) := by decide +kernel
theorem dX4_neverUsed_33 : decode cX4_neverUsed 33 = .ok (.iload 4, 2) := by decide +kernel
theorem dX4_neverUsed_35 : decode cX4_neverUsed 35 = .ok (.iaload, 1) := by decide +kernel
theorem dX4_neverUsed_36 : decode cX4_neverUsed 36 = .ok (.aload_n 1, 1) := by decide +kernel
theorem dX4_neverUsed_37 : decode cX4_neverUsed 37 = .ok (.getfield 34, 3) := by decide +kernel
theorem dX4_neverUsed_40 : decode cX4_neverUsed 40 = .ok (.getfield 44, 3) := by decide +kernel
theorem dX4_neverUsed_43 : decode cX4_neverUsed 43 = .ok (.iload 4, 2) := by decide +kernel
theorem dX4_neverUsed_45 : decode cX4_neverUsed 45 = .ok (.iaload, 1) := by decide +kernel
theorem dX4_neverUsed_46 : decode cX4_neverUsed 46 = .ok (.if_icmp .ne 10, 3) := by decide +kernel
theorem dX4_neverUsed_49 : decode cX4_neverUsed 49 = .ok (.iload_n 3, 1) := by decide +kernel
theorem dX4_neverUsed_50 : decode cX4_neverUsed 50 = .ok (.iconst 1, 1) := by decide +kernel
theorem dX4_neverUsed_51 : decode cX4_neverUsed 51 = .ok (.iload 4, 2) := by decide +kernel
theorem dX4_neverUsed_53 : decode cX4_neverUsed 53 = .ok (.ishl, 1) := by decide +kernel
theorem dX4_neverUsed_54 : decode cX4_neverUsed 54 = .ok (.ior, 1) := by decide +kernel
theorem dX4_neverUsed_55 : decode cX4_neverUsed 55 = .ok (.istore_n 3, 1) := by decide +kernel
theorem dX4_neverUsed_56 : decode cX4_neverUsed 56 = .ok (.iinc 4 1, 3) := by decide +kernel
theorem dX4_neverUsed_59 : decode cX4_neverUsed 59 = .ok (.goto (-48), 3) := by decide +kernel
theorem dX4_neverUsed_62 : decode cX4_neverUsed 62 = .ok (.iload_n 3, 1) := by decide +kernel
theorem dX4_neverUsed_63 : decode cX4_neverUsed 63 = .ok (.ireturn, 1) := by decide +kernel
theorem dX4_worthLearning_0 : decode cX4_worthLearning 0 = .ok (.aload_n 0, 1) := by decide +kernel
theorem dX4_worthLearning_1 : decode cX4_worthLearning 1 = .ok (.aload_n 1, 1) := by decide +kernel
theorem dX4_worthLearning_2 : decode cX4_worthLearning 2 = .ok (.iload_n 2, 1) := by decide +kernel
theorem dX4_worthLearning_3 : decode cX4_worthLearning 3 = .ok (.invokevirtual 30, 3) := by decide +kernel
theorem dX4_worthLearning_6 : decode cX4_worthLearning 6 = .ok (.aload_n 0, 1) := by decide +kernel
theorem dX4_worthLearning_7 : decode cX4_worthLearning 7 = .ok (.getfield 12, 3) := by decide +kernel
theorem dX4_worthLearning_10 : decode cX4_worthLearning 10 = .ok (.getfield 48, 3) := by decide +kernel
theorem dX4_worthLearning_13 : decode cX4_worthLearning 13 = .ok (.istore_n 3, 1) := by decide +kernel
theorem dX4_worthLearning_14 : decode cX4_worthLearning 14 = .ok (.iconst (-1), 1) := by decide +kernel
theorem dX4_worthLearning_15 : decode cX4_worthLearning 15 = .ok (.istore 4, 2) := by decide +kernel
theorem dX4_worthLearning_17 : decode cX4_worthLearning 17 = .ok (.iconst 0, 1) := by decide +kernel
theorem dX4_worthLearning_18 : decode cX4_worthLearning 18 = .ok (.istore 5, 2) := by decide +kernel
theorem dX4_worthLearning_20 : decode cX4_worthLearning 20 = .ok (.iload 5, 2) := by decide +kernel
theorem dX4_worthLearning_22 : decode cX4_worthLearning 22 = .ok (.aload_n 1, 1) := by decide +kernel
theorem dX4_worthLearning_23 : decode cX4_worthLearning 23 = .ok (.getfield 34, 3) := by decide +kernel
theorem dX4_worthLearning_26 : decode cX4_worthLearning 26 = .ok (.getfield 38, 3) := by decide +kernel
theorem dX4_worthLearning_29 : decode cX4_worthLearning 29 = .ok (.if_icmp .ge 73, 3) := by decide +kernel
theorem dX4_worthLearning_32 : decode cX4_worthLearning 32 = .ok (.aload_n 0, 1) := by decide +kernel
theorem dX4_worthLearning_33 : decode cX4_worthLearning 33 = .ok (.getfield 12, 3) := by decide +kernel
theorem dX4_worthLearning_36 : decode cX4_worthLearning 36 = .ok (.aload_n 1, 1) := by decide +kernel
theorem dX4_worthLearning_37 : decode cX4_worthLearning 37 = .ok (.invokevirtual 18, 3) := by decide +kernel
theorem dX4_worthLearning_40 : decode cX4_worthLearning 40 = .ok (.aload_n 0, 1) := by decide +kernel
theorem dX4_worthLearning_41 : decode cX4_worthLearning 41 = .ok (.getfield 12, 3) := by decide +kernel
theorem dX4_worthLearning_44 : decode cX4_worthLearning 44 = .ok (.getfield 34, 3) := by decide +kernel
theorem dX4_worthLearning_47 : decode cX4_worthLearning 47 = .ok (.iload 5, 2) := by decide +kernel
theorem dX4_worthLearning_49 : decode cX4_worthLearning 49 = .ok (.aload_n 0, 1) := by decide +kernel
theorem dX4_worthLearning_50 : decode cX4_worthLearning 50 = .ok (.getfield 12, 3) := by decide +kernel
theorem dX4_worthLearning_53 : decode cX4_worthLearning 53 = .ok (.getfield 34, 3) := by decide +kernel
theorem dX4_worthLearning_56 : decode cX4_worthLearning 56 = .ok (.getfield 51, 3) := by decide +kernel
theorem dX4_worthLearning_59 : decode cX4_worthLearning 59 = .ok (.iload 5, 2) := by decide +kernel
theorem dX4_worthLearning_61 : decode cX4_worthLearning 61 = .ok (.iaload, 1) := by decide +kernel
theorem dX4_worthLearning_62 : decode cX4_worthLearning 62 = .ok (.invokevirtual 54, 3) := by decide +kernel
theorem dX4_worthLearning_65 : decode cX4_worthLearning 65 = .ok (.aload_n 0, 1) := by decide +kernel
theorem dX4_worthLearning_66 : decode cX4_worthLearning 66 = .ok (.getfield 12, 3) := by decide +kernel
theorem dX4_worthLearning_69 : decode cX4_worthLearning 69 = .ok (.iload_n 2, 1) := by decide +kernel
theorem dX4_worthLearning_70 : decode cX4_worthLearning 70 = .ok (.invokevirtual 22, 3) := by decide +kernel
theorem dX4_worthLearning_73 : decode cX4_worthLearning 73 = .ok (.aload_n 0, 1) := by decide +kernel
theorem dX4_worthLearning_74 : decode cX4_worthLearning 74 = .ok (.getfield 12, 3) := by decide +kernel
theorem dX4_worthLearning_77 : decode cX4_worthLearning 77 = .ok (.getfield 48, 3) := by decide +kernel
theorem dX4_worthLearning_80 : decode cX4_worthLearning 80 = .ok (.iload_n 3, 1) := by decide +kernel
theorem dX4_worthLearning_81 : decode cX4_worthLearning 81 = .ok (.if_icmp .le 15, 3) := by decide +kernel
theorem dX4_worthLearning_84 : decode cX4_worthLearning 84 = .ok (.aload_n 0, 1) := by decide +kernel
theorem dX4_worthLearning_85 : decode cX4_worthLearning 85 = .ok (.getfield 12, 3) := by decide +kernel
theorem dX4_worthLearning_88 : decode cX4_worthLearning 88 = .ok (.getfield 48, 3) := by decide +kernel
theorem dX4_worthLearning_91 : decode cX4_worthLearning 91 = .ok (.istore_n 3, 1) := by decide +kernel
theorem dX4_worthLearning_92 : decode cX4_worthLearning 92 = .ok (.iload 5, 2) := by decide +kernel
theorem dX4_worthLearning_94 : decode cX4_worthLearning 94 = .ok (.istore 4, 2) := by decide +kernel
theorem dX4_worthLearning_96 : decode cX4_worthLearning 96 = .ok (.iinc 5 1, 3) := by decide +kernel
theorem dX4_worthLearning_99 : decode cX4_worthLearning 99 = .ok (.goto (-79), 3) := by decide +kernel
theorem dX4_worthLearning_102 : decode cX4_worthLearning 102 = .ok (.iload 4, 2) := by decide +kernel
theorem dX4_worthLearning_104 : decode cX4_worthLearning 104 = .ok (.ireturn, 1) := by decide +kernel
theorem dX4_placeOfBestOrder_0 : decode cX4_placeOfBestOrder 0 = .ok (.iconst (-1), 1) := by decide +kernel
theorem dX4_placeOfBestOrder_1 : decode cX4_placeOfBestOrder 1 = .ok (.istore 5, 2) := by decide +kernel
theorem dX4_placeOfBestOrder_3 : decode cX4_placeOfBestOrder 3 = .ok (.iconst 0, 1) := by decide +kernel
theorem dX4_placeOfBestOrder_4 : decode cX4_placeOfBestOrder 4 = .ok (.istore 6, 2) := by decide +kernel
theorem dX4_placeOfBestOrder_6 : decode cX4_placeOfBestOrder 6 = .ok (.iconst 0, 1) := by decide +kernel
theorem dX4_placeOfBestOrder_7 : decode cX4_placeOfBestOrder 7 = .ok (.istore 7, 2) := by decide +kernel
theorem dX4_placeOfBestOrder_9 : decode cX4_placeOfBestOrder 9 = .ok (.iload 7, 2) := by decide +kernel
theorem dX4_placeOfBestOrder_11 : decode cX4_placeOfBestOrder 11 = .ok (.iload_n 2, 1) := by decide +kernel
theorem dX4_placeOfBestOrder_12 : decode cX4_placeOfBestOrder 12 = .ok (.invokestatic 58, 3) := by decide +kernel
theorem dX4_placeOfBestOrder_15 : decode cX4_placeOfBestOrder 15 = .ok (.if_icmp .ge 37, 3) := by decide +kernel
theorem dX4_placeOfBestOrder_18 : decode cX4_placeOfBestOrder 18 = .ok (.aload_n 0, 1) := by decide +kernel
theorem dX4_placeOfBestOrder_19 : decode cX4_placeOfBestOrder 19 = .ok (.aload_n 1, 1) := by decide +kernel
theorem dX4_placeOfBestOrder_20 : decode cX4_placeOfBestOrder 20 = .ok (.iload_n 2, 1) := by decide +kernel
theorem dX4_placeOfBestOrder_21 : decode cX4_placeOfBestOrder 21 = .ok (.iload 7, 2) := by decide +kernel
theorem dX4_placeOfBestOrder_23 : decode cX4_placeOfBestOrder 23 = .ok (.iload_n 3, 1) := by decide +kernel
theorem dX4_placeOfBestOrder_24 : decode cX4_placeOfBestOrder 24 = .ok (.iload 4, 2) := by decide +kernel
theorem dX4_placeOfBestOrder_26 : decode cX4_placeOfBestOrder 26 = .ok (.invokevirtual 64, 3) := by decide +kernel
theorem dX4_placeOfBestOrder_29 : decode cX4_placeOfBestOrder 29 = .ok (.istore 8, 2) := by decide +kernel
theorem dX4_placeOfBestOrder_31 : decode cX4_placeOfBestOrder 31 = .ok (.iload 8, 2) := by decide +kernel
theorem dX4_placeOfBestOrder_33 : decode cX4_placeOfBestOrder 33 = .ok (.iload 5, 2) := by decide +kernel
theorem dX4_placeOfBestOrder_35 : decode cX4_placeOfBestOrder 35 = .ok (.if_icmp .le 11, 3) := by decide +kernel
theorem dX4_placeOfBestOrder_38 : decode cX4_placeOfBestOrder 38 = .ok (.iload 8, 2) := by decide +kernel
theorem dX4_placeOfBestOrder_40 : decode cX4_placeOfBestOrder 40 = .ok (.istore 5, 2) := by decide +kernel
theorem dX4_placeOfBestOrder_42 : decode cX4_placeOfBestOrder 42 = .ok (.iload 7, 2) := by decide +kernel
theorem dX4_placeOfBestOrder_44 : decode cX4_placeOfBestOrder 44 = .ok (.istore 6, 2) := by decide +kernel
theorem dX4_placeOfBestOrder_46 : decode cX4_placeOfBestOrder 46 = .ok (.iinc 7 1, 3) := by decide +kernel
theorem dX4_placeOfBestOrder_49 : decode cX4_placeOfBestOrder 49 = .ok (.goto (-40), 3) := by decide +kernel
theorem dX4_placeOfBestOrder_52 : decode cX4_placeOfBestOrder 52 = .ok (.iload 6, 2) := by decide +kernel
theorem dX4_placeOfBestOrder_54 : decode cX4_placeOfBestOrder 54 = .ok (.ireturn, 1) := by decide +kernel
theorem dX4_scoreByOrder_0 : decode cX4_scoreByOrder 0 = .ok (.aload_n 0, 1) := by decide +kernel
theorem dX4_scoreByOrder_1 : decode cX4_scoreByOrder 1 = .ok (.getfield 12, 3) := by decide +kernel
theorem dX4_scoreByOrder_4 : decode cX4_scoreByOrder 4 = .ok (.aload_n 1, 1) := by decide +kernel
theorem dX4_scoreByOrder_5 : decode cX4_scoreByOrder 5 = .ok (.invokevirtual 18, 3) := by decide +kernel
theorem dX4_scoreByOrder_8 : decode cX4_scoreByOrder 8 = .ok (.aload_n 0, 1) := by decide +kernel
theorem dX4_scoreByOrder_9 : decode cX4_scoreByOrder 9 = .ok (.getfield 12, 3) := by decide +kernel
theorem dX4_scoreByOrder_12 : decode cX4_scoreByOrder 12 = .ok (.getfield 68, 3) := by decide +kernel
theorem dX4_scoreByOrder_15 : decode cX4_scoreByOrder 15 = .ok (.iload_n 2, 1) := by decide +kernel
theorem dX4_scoreByOrder_16 : decode cX4_scoreByOrder 16 = .ok (.iload_n 3, 1) := by decide +kernel
theorem dX4_scoreByOrder_17 : decode cX4_scoreByOrder 17 = .ok (.invokevirtual 72, 3) := by decide +kernel
theorem dX4_scoreByOrder_20 : decode cX4_scoreByOrder 20 = .ok (.aload_n 0, 1) := by decide +kernel
theorem dX4_scoreByOrder_21 : decode cX4_scoreByOrder 21 = .ok (.getfield 12, 3) := by decide +kernel
theorem dX4_scoreByOrder_24 : decode cX4_scoreByOrder 24 = .ok (.iload 4, 2) := by decide +kernel
theorem dX4_scoreByOrder_26 : decode cX4_scoreByOrder 26 = .ok (.invokevirtual 75, 3) := by decide +kernel
theorem dX4_scoreByOrder_29 : decode cX4_scoreByOrder 29 = .ok (.pop, 1) := by decide +kernel
theorem dX4_scoreByOrder_30 : decode cX4_scoreByOrder 30 = .ok (.aload_n 0, 1) := by decide +kernel
theorem dX4_scoreByOrder_31 : decode cX4_scoreByOrder 31 = .ok (.getfield 12, 3) := by decide +kernel
theorem dX4_scoreByOrder_34 : decode cX4_scoreByOrder 34 = .ok (.iload 5, 2) := by decide +kernel
theorem dX4_scoreByOrder_36 : decode cX4_scoreByOrder 36 = .ok (.invokevirtual 22, 3) := by decide +kernel
theorem dX4_scoreByOrder_39 : decode cX4_scoreByOrder 39 = .ok (.aload_n 0, 1) := by decide +kernel
theorem dX4_scoreByOrder_40 : decode cX4_scoreByOrder 40 = .ok (.getfield 12, 3) := by decide +kernel
theorem dX4_scoreByOrder_43 : decode cX4_scoreByOrder 43 = .ok (.getfield 48, 3) := by decide +kernel
theorem dX4_scoreByOrder_46 : decode cX4_scoreByOrder 46 = .ok (.ireturn, 1) := by decide +kernel
theorem dX4_firstWrong_0 : decode cX4_firstWrong 0 = .ok (.aload_n 0, 1) := by decide +kernel
theorem dX4_firstWrong_1 : decode cX4_firstWrong 1 = .ok (.getfield 12, 3) := by decide +kernel
theorem dX4_firstWrong_4 : decode cX4_firstWrong 4 = .ok (.aload_n 1, 1) := by decide +kernel
theorem dX4_firstWrong_5 : decode cX4_firstWrong 5 = .ok (.invokevirtual 18, 3) := by decide +kernel
theorem dX4_firstWrong_8 : decode cX4_firstWrong 8 = .ok (.iconst 0, 1) := by decide +kernel
theorem dX4_firstWrong_9 : decode cX4_firstWrong 9 = .ok (.istore 4, 2) := by decide +kernel
theorem dX4_firstWrong_11 : decode cX4_firstWrong 11 = .ok (.iload 4, 2) := by decide +kernel
theorem dX4_firstWrong_13 : decode cX4_firstWrong 13 = .ok (.aload_n 2, 1) := by decide +kernel
theorem dX4_firstWrong_14 : decode cX4_firstWrong 14 = .ok (.getfield 78, 3) := by decide +kernel
theorem dX4_firstWrong_17 : decode cX4_firstWrong 17 = .ok (.iload_n 3, 1) := by decide +kernel
theorem dX4_firstWrong_18 : decode cX4_firstWrong 18 = .ok (.iaload, 1) := by decide +kernel
theorem dX4_firstWrong_19 : decode cX4_firstWrong 19 = .ok (.if_icmp .ge 41, 3) := by decide +kernel
theorem dX4_firstWrong_22 : decode cX4_firstWrong 22 = .ok (.aload_n 2, 1) := by decide +kernel
theorem dX4_firstWrong_23 : decode cX4_firstWrong 23 = .ok (.iload_n 3, 1) := by decide +kernel
theorem dX4_firstWrong_24 : decode cX4_firstWrong 24 = .ok (.iload 4, 2) := by decide +kernel
theorem dX4_firstWrong_26 : decode cX4_firstWrong 26 = .ok (.invokevirtual 82, 3) := by decide +kernel
theorem dX4_firstWrong_29 : decode cX4_firstWrong 29 = .ok (.aload_n 0, 1) := by decide +kernel
theorem dX4_firstWrong_30 : decode cX4_firstWrong 30 = .ok (.getfield 12, 3) := by decide +kernel
theorem dX4_firstWrong_33 : decode cX4_firstWrong 33 = .ok (.getfield 48, 3) := by decide +kernel
theorem dX4_firstWrong_36 : decode cX4_firstWrong 36 = .ok (.i2l, 1) := by decide +kernel
theorem dX4_firstWrong_37 : decode cX4_firstWrong 37 = .ok (.lcmp, 1) := by decide +kernel
theorem dX4_firstWrong_38 : decode cX4_firstWrong 38 = .ok (.ifCond .eq 8, 3) := by decide +kernel
theorem dX4_firstWrong_41 : decode cX4_firstWrong 41 = .ok (.iconst 1, 1) := by decide +kernel
theorem dX4_firstWrong_42 : decode cX4_firstWrong 42 = .ok (.iload 4, 2) := by decide +kernel
theorem dX4_firstWrong_44 : decode cX4_firstWrong 44 = .ok (.iadd, 1) := by decide +kernel
theorem dX4_firstWrong_45 : decode cX4_firstWrong 45 = .ok (.ireturn, 1) := by decide +kernel
theorem dX4_firstWrong_46 : decode cX4_firstWrong 46 = .ok (.aload_n 0, 1) := by decide +kernel
theorem dX4_firstWrong_47 : decode cX4_firstWrong 47 = .ok (.getfield 12, 3) := by decide +kernel
theorem dX4_firstWrong_50 : decode cX4_firstWrong 50 = .ok (.iconst 1, 1) := by decide +kernel
theorem dX4_firstWrong_51 : decode cX4_firstWrong 51 = .ok (.invokevirtual 22, 3) := by decide +kernel
theorem dX4_firstWrong_54 : decode cX4_firstWrong 54 = .ok (.iinc 4 1, 3) := by decide +kernel
theorem dX4_firstWrong_57 : decode cX4_firstWrong 57 = .ok (.goto (-46), 3) := by decide +kernel
theorem dX4_firstWrong_60 : decode cX4_firstWrong 60 = .ok (.iconst 0, 1) := by decide +kernel
theorem dX4_firstWrong_61 : decode cX4_firstWrong 61 = .ok (.ireturn, 1) := by decide +kernel
theorem dX5_init_0 : decode cX5_init 0 = .ok (.aload_n 0, 1) := by decide +kernel
theorem dX5_init_1 : decode cX5_init 1 = .ok (.invokespecial 3, 3) := by decide +kernel
theorem dX5_init_4 : decode cX5_init 4 = .ok (.aload_n 0, 1) := by decide +kernel
theorem dX5_init_5 : decode cX5_init 5 = .ok (.bipush 12, 2) := by decide +kernel
theorem dX5_init_7 : decode cX5_init 7 = .ok (.newarray .int, 2) := by decide +kernel
theorem dX5_init_9 : decode cX5_init 9 = .ok (.putfield 9, 3) := by decide +kernel
theorem dX5_init_12 : decode cX5_init 12 = .ok (.aload_n 0, 1) := by decide +kernel
theorem dX5_init_13 : decode cX5_init 13 = .ok (.bipush 12, 2) := by decide +kernel
theorem dX5_init_15 : decode cX5_init 15 = .ok (.newarray .int, 2) := by decide +kernel
theorem dX5_init_17 : decode cX5_init 17 = .ok (.putfield 15, 3) := by decide +kernel
theorem dX5_init_20 : decode cX5_init 20 = .ok (.aload_n 0, 1) := by decide +kernel
theorem dX5_init_21 : decode cX5_init 21 = .ok (.bipush 12, 2) := by decide +kernel
theorem dX5_init_23 : decode cX5_init 23 = .ok (.newarray .int, 2) := by decide +kernel
theorem dX5_init_25 : decode cX5_init 25 = .ok (.putfield 18, 3) := by decide +kernel
theorem dX5_init_28 : decode cX5_init 28 = .ok (.aload_n 0, 1) := by decide +kernel
theorem dX5_init_29 : decode cX5_init 29 = .ok (.bipush 12, 2) := by decide +kernel
theorem dX5_init_31 : decode cX5_init 31 = .ok (.newarray .int, 2) := by decide +kernel
theorem dX5_init_33 : decode cX5_init 33 = .ok (.putfield 21, 3) := by decide +kernel
theorem dX5_init_36 : decode cX5_init 36 = .ok (.aload_n 0, 1) := by decide +kernel
theorem dX5_init_37 : decode cX5_init 37 = .ok (.bipush 12, 2) := by decide +kernel
theorem dX5_init_39 : decode cX5_init 39 = .ok (.newarray .int, 2) := by decide +kernel
theorem dX5_init_41 : decode cX5_init 41 = .ok (.putfield 24, 3) := by decide +kernel
theorem dX5_init_44 : decode cX5_init 44 = .ok (.aload_n 0, 1) := by decide +kernel
theorem dX5_init_45 : decode cX5_init 45 = .ok (.bipush 12, 2) := by decide +kernel
theorem dX5_init_47 : decode cX5_init 47 = .ok (.newarray .int, 2) := by decide +kernel
theorem dX5_init_49 : decode cX5_init 49 = .ok (.putfield 27, 3) := by decide +kernel
theorem dX5_init_52 : decode cX5_init 52 = .ok (.aload_n 0, 1) := by decide +kernel
theorem dX5_init_53 : decode cX5_init 53 = .ok (.iconst 0, 1) := by decide +kernel
theorem dX5_init_54 : decode cX5_init 54 = .ok (.putfield 30, 3) := by decide +kernel
theorem dX5_init_57 : decode cX5_init 57 = .ok (.return_, 1) := by decide +kernel
theorem dX5_isFull_0 : decode cX5_isFull 0 = .ok (.aload_n 0, 1) := by decide +kernel
theorem dX5_isFull_1 : decode cX5_isFull 1 = .ok (.getfield 30, 3) := by decide +kernel
theorem dX5_isFull_4 : decode cX5_isFull 4 = .ok (.bipush 12, 2) := by decide +kernel
theorem dX5_isFull_6 : decode cX5_isFull 6 = .ok (.if_icmp .lt 7, 3) := by decide +kernel
theorem dX5_isFull_9 : decode cX5_isFull 9 = .ok (.iconst 1, 1) := by decide +kernel
theorem dX5_isFull_10 : decode cX5_isFull 10 = .ok (.goto 4, 3) := by decide +kernel
theorem dX5_isFull_13 : decode cX5_isFull 13 = .ok (.iconst 0, 1) := by decide +kernel
theorem dX5_isFull_14 : decode cX5_isFull 14 = .ok (.ireturn, 1) := by decide +kernel
theorem dX5_add_0 : decode cX5_add 0 = .ok (.aload_n 0, 1) := by decide +kernel
theorem dX5_add_1 : decode cX5_add 1 = .ok (.getfield 9, 3) := by decide +kernel
theorem dX5_add_4 : decode cX5_add 4 = .ok (.aload_n 0, 1) := by decide +kernel
theorem dX5_add_5 : decode cX5_add 5 = .ok (.getfield 30, 3) := by decide +kernel
theorem dX5_add_8 : decode cX5_add 8 = .ok (.iload_n 1, 1) := by decide +kernel
theorem dX5_add_9 : decode cX5_add 9 = .ok (.iastore, 1) := by decide +kernel
theorem dX5_add_10 : decode cX5_add 10 = .ok (.aload_n 0, 1) := by decide +kernel
theorem dX5_add_11 : decode cX5_add 11 = .ok (.getfield 15, 3) := by decide +kernel
theorem dX5_add_14 : decode cX5_add 14 = .ok (.aload_n 0, 1) := by decide +kernel
theorem dX5_add_15 : decode cX5_add 15 = .ok (.getfield 30, 3) := by decide +kernel
theorem dX5_add_18 : decode cX5_add 18 = .ok (.iload_n 2, 1) := by decide +kernel
theorem dX5_add_19 : decode cX5_add 19 = .ok (.iastore, 1) := by decide +kernel
theorem dX5_add_20 : decode cX5_add 20 = .ok (.aload_n 0, 1) := by decide +kernel
theorem dX5_add_21 : decode cX5_add 21 = .ok (.getfield 18, 3) := by decide +kernel
theorem dX5_add_24 : decode cX5_add 24 = .ok (.aload_n 0, 1) := by decide +kernel
theorem dX5_add_25 : decode cX5_add 25 = .ok (.getfield 30, 3) := by decide +kernel
theorem dX5_add_28 : decode cX5_add 28 = .ok (.iload_n 3, 1) := by decide +kernel
theorem dX5_add_29 : decode cX5_add 29 = .ok (.iastore, 1) := by decide +kernel
theorem dX5_add_30 : decode cX5_add 30 = .ok (.aload_n 0, 1) := by decide +kernel
theorem dX5_add_31 : decode cX5_add 31 = .ok (.getfield 21, 3) := by decide +kernel
theorem dX5_add_34 : decode cX5_add 34 = .ok (.aload_n 0, 1) := by decide +kernel
theorem dX5_add_35 : decode cX5_add 35 = .ok (.getfield 30, 3) := by decide +kernel
theorem dX5_add_38 : decode cX5_add 38 = .ok (.iload 4, 2) := by decide +kernel
theorem dX5_add_40 : decode cX5_add 40 = .ok (.iastore, 1) := by decide +kernel
theorem dX5_add_41 : decode cX5_add 41 = .ok (.aload_n 0, 1) := by decide +kernel
theorem dX5_add_42 : decode cX5_add 42 = .ok (.getfield 24, 3) := by decide +kernel
theorem dX5_add_45 : decode cX5_add 45 = .ok (.aload_n 0, 1) := by decide +kernel
theorem dX5_add_46 : decode cX5_add 46 = .ok (.getfield 30, 3) := by decide +kernel
theorem dX5_add_49 : decode cX5_add 49 = .ok (.iconst 0, 1) := by decide +kernel
theorem dX5_add_50 : decode cX5_add 50 = .ok (.iastore, 1) := by decide +kernel
theorem dX5_add_51 : decode cX5_add 51 = .ok (.aload_n 0, 1) := by decide +kernel
theorem dX5_add_52 : decode cX5_add 52 = .ok (.getfield 27, 3) := by decide +kernel
theorem dX5_add_55 : decode cX5_add 55 = .ok (.aload_n 0, 1) := by decide +kernel
theorem dX5_add_56 : decode cX5_add 56 = .ok (.getfield 30, 3) := by decide +kernel
theorem dX5_add_59 : decode cX5_add 59 = .ok (.iconst 0, 1) := by decide +kernel
theorem dX5_add_60 : decode cX5_add 60 = .ok (.iastore, 1) := by decide +kernel
theorem dX5_add_61 : decode cX5_add 61 = .ok (.aload_n 0, 1) := by decide +kernel
theorem dX5_add_62 : decode cX5_add 62 = .ok (.dup, 1) := by decide +kernel
theorem dX5_add_63 : decode cX5_add 63 = .ok (.getfield 30, 3) := by decide +kernel
theorem dX5_add_66 : decode cX5_add 66 = .ok (.iconst 1, 1) := by decide +kernel
theorem dX5_add_67 : decode cX5_add 67 = .ok (.iadd, 1) := by decide +kernel
theorem dX5_add_68 : decode cX5_add 68 = .ok (.putfield 30, 3) := by decide +kernel
theorem dX5_add_71 : decode cX5_add 71 = .ok (.aload_n 0, 1) := by decide +kernel
theorem dX5_add_72 : decode cX5_add 72 = .ok (.getfield 30, 3) := by decide +kernel
theorem dX5_add_75 : decode cX5_add 75 = .ok (.iconst 1, 1) := by decide +kernel
theorem dX5_add_76 : decode cX5_add 76 = .ok (.isub, 1) := by decide +kernel
theorem dX5_add_77 : decode cX5_add 77 = .ok (.ireturn, 1) := by decide +kernel
theorem dX5_row_0 : decode cX5_row 0 = .ok (.iload_n 1, 1) := by decide +kernel
theorem dX5_row_1 : decode cX5_row 1 = .ok (.tableswitch 60 0 4 #[35, 40, 45, 50, 55], 35) := by decide +kernel
theorem dX5_row_36 : decode cX5_row 36 = .ok (.aload_n 0, 1) := by decide +kernel
theorem dX5_row_37 : decode cX5_row 37 = .ok (.getfield 9, 3) := by decide +kernel
theorem dX5_row_40 : decode cX5_row 40 = .ok (.areturn, 1) := by decide +kernel
theorem dX5_row_41 : decode cX5_row 41 = .ok (.aload_n 0, 1) := by decide +kernel
theorem dX5_row_42 : decode cX5_row 42 = .ok (.getfield 15, 3) := by decide +kernel
theorem dX5_row_45 : decode cX5_row 45 = .ok (.areturn, 1) := by decide +kernel
theorem dX5_row_46 : decode cX5_row 46 = .ok (.aload_n 0, 1) := by decide +kernel
theorem dX5_row_47 : decode cX5_row 47 = .ok (.getfield 18, 3) := by decide +kernel
theorem dX5_row_50 : decode cX5_row 50 = .ok (.areturn, 1) := by decide +kernel
theorem dX5_row_51 : decode cX5_row 51 = .ok (.aload_n 0, 1) := by decide +kernel
theorem dX5_row_52 : decode cX5_row 52 = .ok (.getfield 21, 3) := by decide +kernel
theorem dX5_row_55 : decode cX5_row 55 = .ok (.areturn, 1) := by decide +kernel
theorem dX5_row_56 : decode cX5_row 56 = .ok (.aload_n 0, 1) := by decide +kernel
theorem dX5_row_57 : decode cX5_row 57 = .ok (.getfield 24, 3) := by decide +kernel
theorem dX5_row_60 : decode cX5_row 60 = .ok (.areturn, 1) := by decide +kernel
theorem dX5_row_61 : decode cX5_row 61 = .ok (.aload_n 0, 1) := by decide +kernel
theorem dX5_row_62 : decode cX5_row 62 = .ok (.getfield 27, 3) := by decide +kernel
theorem dX5_row_65 : decode cX5_row 65 = .ok (.areturn, 1) := by decide +kernel
theorem dX5_maySet_0 : decode cX5_maySet 0 = .ok (.iload_n 1, 1) := by decide +kernel
theorem dX5_maySet_1 : decode cX5_maySet 1 = .ok (.iconst 1, 1) := by decide +kernel
theorem dX5_maySet_2 : decode cX5_maySet 2 = .ok (.if_icmp .lt 32, 3) := by decide +kernel
theorem dX5_maySet_5 : decode cX5_maySet 5 = .ok (.iload_n 1, 1) := by decide +kernel
theorem dX5_maySet_6 : decode cX5_maySet 6 = .ok (.getstatic 34, 3) := by decide +kernel
theorem dX5_maySet_9 : decode cX5_maySet 9 = .ok (.arraylength, 1) := by decide +kernel
theorem dX5_maySet_10 : decode cX5_maySet 10 = .ok (.if_icmp .ge 24, 3) := by decide +kernel
theorem dX5_maySet_13 : decode cX5_maySet 13 = .ok (.iload_n 2, 1) := by decide +kernel
theorem dX5_maySet_14 : decode cX5_maySet 14 = .ok (.getstatic 37, 3) := by decide +kernel
theorem dX5_maySet_17 : decode cX5_maySet 17 = .ok (.iload_n 1, 1) := by decide +kernel
theorem dX5_maySet_18 : decode cX5_maySet 18 = .ok (.iaload, 1) := by decide +kernel
theorem dX5_maySet_19 : decode cX5_maySet 19 = .ok (.getstatic 34, 3) := by decide +kernel
theorem dX5_maySet_22 : decode cX5_maySet 22 = .ok (.iload_n 1, 1) := by decide +kernel
theorem dX5_maySet_23 : decode cX5_maySet 23 = .ok (.iaload, 1) := by decide +kernel
theorem dX5_maySet_24 : decode cX5_maySet 24 = .ok (.invokestatic 40, 3) := by decide +kernel
theorem dX5_maySet_27 : decode cX5_maySet 27 = .ok (.ifCond .eq 7, 3) := by decide +kernel
theorem dX5_maySet_30 : decode cX5_maySet 30 = .ok (.iconst 1, 1) := by decide +kernel
theorem dX5_maySet_31 : decode cX5_maySet 31 = .ok (.goto 4, 3) := by decide +kernel
theorem dX5_maySet_34 : decode cX5_maySet 34 = .ok (.iconst 0, 1) := by decide +kernel
theorem dX5_maySet_35 : decode cX5_maySet 35 = .ok (.ireturn, 1) := by decide +kernel
theorem dX5_isUnder_0 : decode cX5_isUnder 0 = .ok (.aload_n 0, 1) := by decide +kernel
theorem dX5_isUnder_1 : decode cX5_isUnder 1 = .ok (.getfield 9, 3) := by decide +kernel
theorem dX5_isUnder_4 : decode cX5_isUnder 4 = .ok (.iload_n 1, 1) := by decide +kernel
theorem dX5_isUnder_5 : decode cX5_isUnder 5 = .ok (.iaload, 1) := by decide +kernel
theorem dX5_isUnder_6 : decode cX5_isUnder 6 = .ok (.istore_n 3, 1) := by decide +kernel
theorem dX5_isUnder_7 : decode cX5_isUnder 7 = .ok (.iconst 0, 1) := by decide +kernel
theorem dX5_isUnder_8 : decode cX5_isUnder 8 = .ok (.istore 4, 2) := by decide +kernel
theorem dX5_isUnder_10 : decode cX5_isUnder 10 = .ok (.iload 4, 2) := by decide +kernel
theorem dX5_isUnder_12 : decode cX5_isUnder 12 = .ok (.getstatic 44, 3) := by decide +kernel
theorem dX5_isUnder_15 : decode cX5_isUnder 15 = .ok (.arraylength, 1) := by decide +kernel
theorem dX5_isUnder_16 : decode cX5_isUnder 16 = .ok (.if_icmp .ge 26, 3) := by decide +kernel
theorem dX5_isUnder_19 : decode cX5_isUnder 19 = .ok (.iload_n 3, 1) := by decide +kernel
theorem dX5_isUnder_20 : decode cX5_isUnder 20 = .ok (.ifCond .lt 22, 3) := by decide +kernel
theorem dX5_isUnder_23 : decode cX5_isUnder 23 = .ok (.iload_n 3, 1) := by decide +kernel
theorem dX5_isUnder_24 : decode cX5_isUnder 24 = .ok (.iload_n 2, 1) := by decide +kernel
theorem dX5_isUnder_25 : decode cX5_isUnder 25 = .ok (.if_icmp .ne 5, 3) := by decide +kernel
theorem dX5_isUnder_28 : decode cX5_isUnder 28 = .ok (.iconst 1, 1) := by decide +kernel
theorem dX5_isUnder_29 : decode cX5_isUnder 29 = .ok (.ireturn, 1) := by decide +kernel
theorem dX5_isUnder_30 : decode cX5_isUnder 30 = .ok (.getstatic 44, 3) := by decide +kernel
theorem dX5_isUnder_33 : decode cX5_isUnder 33 = .ok (.iload_n 3, 1) := by decide +kernel
theorem dX5_isUnder_34 : decode cX5_isUnder 34 = .ok (.iaload, 1) := by decide +kernel
theorem dX5_isUnder_35 : decode cX5_isUnder 35 = .ok (.istore_n 3, 1) := by decide +kernel
theorem dX5_isUnder_36 : decode cX5_isUnder 36 = .ok (.iinc 4 1, 3) := by decide +kernel
theorem dX5_isUnder_39 : decode cX5_isUnder 39 = .ok (.goto (-29), 3) := by decide +kernel
theorem dX5_isUnder_42 : decode cX5_isUnder 42 = .ok (.iconst 0, 1) := by decide +kernel
theorem dX5_isUnder_43 : decode cX5_isUnder 43 = .ok (.ireturn, 1) := by decide +kernel
theorem dX5_hasKind_0 : decode cX5_hasKind 0 = .ok (.iconst 0, 1) := by decide +kernel
theorem dX5_hasKind_1 : decode cX5_hasKind 1 = .ok (.istore_n 3, 1) := by decide +kernel
theorem dX5_hasKind_2 : decode cX5_hasKind 2 = .ok (.iload_n 3, 1) := by decide +kernel
theorem dX5_hasKind_3 : decode cX5_hasKind 3 = .ok (.aload_n 0, 1) := by decide +kernel
theorem dX5_hasKind_4 : decode cX5_hasKind 4 = .ok (.getfield 30, 3) := by decide +kernel
theorem dX5_hasKind_7 : decode cX5_hasKind 7 = .ok (.if_icmp .ge 28, 3) := by decide +kernel
theorem dX5_hasKind_10 : decode cX5_hasKind 10 = .ok (.iload_n 1, 1) := by decide +kernel
theorem dX5_hasKind_11 : decode cX5_hasKind 11 = .ok (.iload_n 3, 1) := by decide +kernel
theorem dX5_hasKind_12 : decode cX5_hasKind 12 = .ok (.invokestatic 47, 3) := by decide +kernel
theorem dX5_hasKind_15 : decode cX5_hasKind 15 = .ok (.ifCond .eq 14, 3) := by decide +kernel
theorem dX5_hasKind_18 : decode cX5_hasKind 18 = .ok (.aload_n 0, 1) := by decide +kernel
theorem dX5_hasKind_19 : decode cX5_hasKind 19 = .ok (.iload_n 3, 1) := by decide +kernel
theorem dX5_hasKind_20 : decode cX5_hasKind 20 = .ok (.iload_n 2, 1) := by decide +kernel
theorem dX5_hasKind_21 : decode cX5_hasKind 21 = .ok (.invokevirtual 51, 3) := by decide +kernel
theorem dX5_hasKind_24 : decode cX5_hasKind 24 = .ok (.ifCond .eq 5, 3) := by decide +kernel
theorem dX5_hasKind_27 : decode cX5_hasKind 27 = .ok (.iconst 1, 1) := by decide +kernel
theorem dX5_hasKind_28 : decode cX5_hasKind 28 = .ok (.ireturn, 1) := by decide +kernel
theorem dX5_hasKind_29 : decode cX5_hasKind 29 = .ok (.iinc 3 1, 3) := by decide +kernel
theorem dX5_hasKind_32 : decode cX5_hasKind 32 = .ok (.goto (-30), 3) := by decide +kernel
theorem dX5_hasKind_35 : decode cX5_hasKind 35 = .ok (.iconst 0, 1) := by decide +kernel
theorem dX5_hasKind_36 : decode cX5_hasKind 36 = .ok (.ireturn, 1) := by decide +kernel
theorem dX5_forgets_0 : decode cX5_forgets 0 = .ok (.aload_n 0, 1) := by decide +kernel
theorem dX5_forgets_1 : decode cX5_forgets 1 = .ok (.getfield 9, 3) := by decide +kernel
theorem dX5_forgets_4 : decode cX5_forgets 4 = .ok (.iload_n 1, 1) := by decide +kernel
theorem dX5_forgets_5 : decode cX5_forgets 5 = .ok (.iaload, 1) := by decide +kernel
theorem dX5_forgets_6 : decode cX5_forgets 6 = .ok (.tableswitch 61 1 5 #[34, 37, 39, 37, 42], 34) := by decide +kernel
theorem dX5_forgets_40 : decode cX5_forgets 40 = .ok (.bipush 15, 2) := by decide +kernel
theorem dX5_forgets_42 : decode cX5_forgets 42 = .ok (.ireturn, 1) := by decide +kernel
theorem dX5_forgets_43 : decode cX5_forgets 43 = .ok (.iconst 5, 1) := by decide +kernel
theorem dX5_forgets_44 : decode cX5_forgets 44 = .ok (.ireturn, 1) := by decide +kernel
theorem dX5_forgets_45 : decode cX5_forgets 45 = .ok (.bipush 20, 2) := by decide +kernel
theorem dX5_forgets_47 : decode cX5_forgets 47 = .ok (.ireturn, 1) := by decide +kernel
theorem dX5_forgets_48 : decode cX5_forgets 48 = .ok (.bipush 10, 2) := by decide +kernel
theorem dX5_forgets_50 : decode cX5_forgets 50 = .ok (.iconst 0, 1) := by decide +kernel
theorem dX5_forgets_51 : decode cX5_forgets 51 = .ok (.aload_n 0, 1) := by decide +kernel
theorem dX5_forgets_52 : decode cX5_forgets 52 = .ok (.getfield 24, 3) := by decide +kernel
theorem dX5_forgets_55 : decode cX5_forgets 55 = .ok (.iload_n 1, 1) := by decide +kernel
theorem dX5_forgets_56 : decode cX5_forgets 56 = .ok (.iaload, 1) := by decide +kernel
theorem dX5_forgets_57 : decode cX5_forgets 57 = .ok (.bipush 50, 2) := by decide +kernel
theorem dX5_forgets_59 : decode cX5_forgets 59 = .ok (.isub, 1) := by decide +kernel
theorem dX5_forgets_60 : decode cX5_forgets 60 = .ok (.invokestatic 54, 3) := by decide +kernel
theorem dX5_forgets_63 : decode cX5_forgets 63 = .ok (.iconst 2, 1) := by decide +kernel
theorem dX5_forgets_64 : decode cX5_forgets 64 = .ok (.idiv, 1) := by decide +kernel
theorem dX5_forgets_65 : decode cX5_forgets 65 = .ok (.iadd, 1) := by decide +kernel
theorem dX5_forgets_66 : decode cX5_forgets 66 = .ok (.ireturn, 1) := by decide +kernel
theorem dX5_forgets_67 : decode cX5_forgets 67 = .ok (.bipush 10, 2) := by decide +kernel
theorem dX5_forgets_69 : decode cX5_forgets 69 = .ok (.ireturn, 1) := by decide +kernel
theorem dX5_learnFor_0 : decode cX5_learnFor 0 = .ok (.bipush 100, 2) := by decide +kernel
theorem dX5_learnFor_2 : decode cX5_learnFor 2 = .ok (.iload_n 2, 1) := by decide +kernel
theorem dX5_learnFor_3 : decode cX5_learnFor 3 = .ok (.imul, 1) := by decide +kernel
theorem dX5_learnFor_4 : decode cX5_learnFor 4 = .ok (.iconst 1, 1) := by decide +kernel
theorem dX5_learnFor_5 : decode cX5_learnFor 5 = .ok (.aload_n 0, 1) := by decide +kernel
theorem dX5_learnFor_6 : decode cX5_learnFor 6 = .ok (.getfield 18, 3) := by decide +kernel
theorem dX5_learnFor_9 : decode cX5_learnFor 9 = .ok (.iload_n 1, 1) := by decide +kernel
theorem dX5_learnFor_10 : decode cX5_learnFor 10 = .ok (.iaload, 1) := by decide +kernel
theorem dX5_learnFor_11 : decode cX5_learnFor 11 = .ok (.invokestatic 54, 3) := by decide +kernel
theorem dX5_learnFor_14 : decode cX5_learnFor 14 = .ok (.idiv, 1) := by decide +kernel
theorem dX5_learnFor_15 : decode cX5_learnFor 15 = .ok (.istore_n 3, 1) := by decide +kernel
theorem dX5_learnFor_16 : decode cX5_learnFor 16 = .ok (.aload_n 0, 1) := by decide +kernel
theorem dX5_learnFor_17 : decode cX5_learnFor 17 = .ok (.getfield 24, 3) := by decide +kernel
theorem dX5_learnFor_20 : decode cX5_learnFor 20 = .ok (.iload_n 1, 1) := by decide +kernel
theorem dX5_learnFor_21 : decode cX5_learnFor 21 = .ok (.bipush 100, 2) := by decide +kernel
theorem dX5_learnFor_23 : decode cX5_learnFor 23 = .ok (.aload_n 0, 1) := by decide +kernel
theorem dX5_learnFor_24 : decode cX5_learnFor 24 = .ok (.getfield 24, 3) := by decide +kernel
theorem dX5_learnFor_27 : decode cX5_learnFor 27 = .ok (.iload_n 1, 1) := by decide +kernel
theorem dX5_learnFor_28 : decode cX5_learnFor 28 = .ok (.iaload, 1) := by decide +kernel
theorem dX5_learnFor_29 : decode cX5_learnFor 29 = .ok (.iload_n 3, 1) := by decide +kernel
theorem dX5_learnFor_30 : decode cX5_learnFor 30 = .ok (.iadd, 1) := by decide +kernel
theorem dX5_learnFor_31 : decode cX5_learnFor 31 = .ok (.invokestatic 60, 3) := by decide +kernel
theorem dX5_learnFor_34 : decode cX5_learnFor 34 = .ok (.iastore, 1) := by decide +kernel
theorem dX5_learnFor_35 : decode cX5_learnFor 35 = .ok (.return_, 1) := by decide +kernel
theorem dX5_passNight_0 : decode cX5_passNight 0 = .ok (.iconst 0, 1) := by decide +kernel
theorem dX5_passNight_1 : decode cX5_passNight 1 = .ok (.istore_n 2, 1) := by decide +kernel
theorem dX5_passNight_2 : decode cX5_passNight 2 = .ok (.iload_n 2, 1) := by decide +kernel
theorem dX5_passNight_3 : decode cX5_passNight 3 = .ok (.aload_n 0, 1) := by decide +kernel
theorem dX5_passNight_4 : decode cX5_passNight 4 = .ok (.getfield 30, 3) := by decide +kernel
theorem dX5_passNight_7 : decode cX5_passNight 7 = .ok (.if_icmp .ge 62, 3) := by decide +kernel
theorem dX5_passNight_10 : decode cX5_passNight 10 = .ok (.iload_n 1, 1) := by decide +kernel
theorem dX5_passNight_11 : decode cX5_passNight 11 = .ok (.iload_n 2, 1) := by decide +kernel
theorem dX5_passNight_12 : decode cX5_passNight 12 = .ok (.invokestatic 47, 3) := by decide +kernel
theorem dX5_passNight_15 : decode cX5_passNight 15 = .ok (.ifCond .eq 26, 3) := by decide +kernel
theorem dX5_passNight_18 : decode cX5_passNight 18 = .ok (.aload_n 0, 1) := by decide +kernel
theorem dX5_passNight_19 : decode cX5_passNight 19 = .ok (.getfield 24, 3) := by decide +kernel
theorem dX5_passNight_22 : decode cX5_passNight 22 = .ok (.iload_n 2, 1) := by decide +kernel
theorem dX5_passNight_23 : decode cX5_passNight 23 = .ok (.bipush 100, 2) := by decide +kernel
theorem dX5_passNight_25 : decode cX5_passNight 25 = .ok (.aload_n 0, 1) := by decide +kernel
theorem dX5_passNight_26 : decode cX5_passNight 26 = .ok (.getfield 24, 3) := by decide +kernel
theorem dX5_passNight_29 : decode cX5_passNight 29 = .ok (.iload_n 2, 1) := by decide +kernel
theorem dX5_passNight_30 : decode cX5_passNight 30 = .ok (.iaload, 1) := by decide +kernel
theorem dX5_passNight_31 : decode cX5_passNight 31 = .ok (.bipush 10, 2) := by decide +kernel
theorem dX5_passNight_33 : decode cX5_passNight 33 = .ok (.iadd, 1) := by decide +kernel
theorem dX5_passNight_34 : decode cX5_passNight 34 = .ok (.invokestatic 60, 3) := by decide +kernel
theorem dX5_passNight_37 : decode cX5_passNight 37 = .ok (.iastore, 1) := by decide +kernel
theorem dX5_passNight_38 : decode cX5_passNight 38 = .ok (.goto 25, 3) := by decide +kernel
theorem dX5_passNight_41 : decode cX5_passNight 41 = .ok (.aload_n 0, 1) := by decide +kernel
theorem dX5_passNight_42 : decode cX5_passNight 42 = .ok (.getfield 24, 3) := by decide +kernel
theorem dX5_passNight_45 : decode cX5_passNight 45 = .ok (.iload_n 2, 1) := by decide +kernel
theorem dX5_passNight_46 : decode cX5_passNight 46 = .ok (.iconst 0, 1) := by decide +kernel
theorem dX5_passNight_47 : decode cX5_passNight 47 = .ok (.aload_n 0, 1) := by decide +kernel
theorem dX5_passNight_48 : decode cX5_passNight 48 = .ok (.getfield 24, 3) := by decide +kernel
theorem dX5_passNight_51 : decode cX5_passNight 51 = .ok (.iload_n 2, 1) := by decide +kernel
theorem dX5_passNight_52 : decode cX5_passNight 52 = .ok (.iaload, 1) := by decide +kernel
theorem dX5_passNight_53 : decode cX5_passNight 53 = .ok (.aload_n 0, 1) := by decide +kernel
theorem dX5_passNight_54 : decode cX5_passNight 54 = .ok (.iload_n 2, 1) := by decide +kernel
theorem dX5_passNight_55 : decode cX5_passNight 55 = .ok (.invokevirtual 63, 3) := by decide +kernel
theorem dX5_passNight_58 : decode cX5_passNight 58 = .ok (.isub, 1) := by decide +kernel
theorem dX5_passNight_59 : decode cX5_passNight 59 = .ok (.invokestatic 54, 3) := by decide +kernel
theorem dX5_passNight_62 : decode cX5_passNight 62 = .ok (.iastore, 1) := by decide +kernel
theorem dX5_passNight_63 : decode cX5_passNight 63 = .ok (.iinc 2 1, 3) := by decide +kernel
theorem dX5_passNight_66 : decode cX5_passNight 66 = .ok (.goto (-64), 3) := by decide +kernel
theorem dX5_passNight_69 : decode cX5_passNight 69 = .ok (.return_, 1) := by decide +kernel
theorem dX5_takeFrom_0 : decode cX5_takeFrom 0 = .ok (.aload_n 0, 1) := by decide +kernel
theorem dX5_takeFrom_1 : decode cX5_takeFrom 1 = .ok (.aload_n 1, 1) := by decide +kernel
theorem dX5_takeFrom_2 : decode cX5_takeFrom 2 = .ok (.getfield 30, 3) := by decide +kernel
theorem dX5_takeFrom_5 : decode cX5_takeFrom 5 = .ok (.putfield 30, 3) := by decide +kernel
theorem dX5_takeFrom_8 : decode cX5_takeFrom 8 = .ok (.aload_n 1, 1) := by decide +kernel
theorem dX5_takeFrom_9 : decode cX5_takeFrom 9 = .ok (.getfield 9, 3) := by decide +kernel
theorem dX5_takeFrom_12 : decode cX5_takeFrom 12 = .ok (.iconst 0, 1) := by decide +kernel
theorem dX5_takeFrom_13 : decode cX5_takeFrom 13 = .ok (.aload_n 0, 1) := by decide +kernel
theorem dX5_takeFrom_14 : decode cX5_takeFrom 14 = .ok (.getfield 9, 3) := by decide +kernel
theorem dX5_takeFrom_17 : decode cX5_takeFrom 17 = .ok (.iconst 0, 1) := by decide +kernel
theorem dX5_takeFrom_18 : decode cX5_takeFrom 18 = .ok (.bipush 12, 2) := by decide +kernel
theorem dX5_takeFrom_20 : decode cX5_takeFrom 20 = .ok (.invokestatic 67, 3) := by decide +kernel
theorem dX5_takeFrom_23 : decode cX5_takeFrom 23 = .ok (.aload_n 1, 1) := by decide +kernel
theorem dX5_takeFrom_24 : decode cX5_takeFrom 24 = .ok (.getfield 15, 3) := by decide +kernel
theorem dX5_takeFrom_27 : decode cX5_takeFrom 27 = .ok (.iconst 0, 1) := by decide +kernel
theorem dX5_takeFrom_28 : decode cX5_takeFrom 28 = .ok (.aload_n 0, 1) := by decide +kernel
theorem dX5_takeFrom_29 : decode cX5_takeFrom 29 = .ok (.getfield 15, 3) := by decide +kernel
theorem dX5_takeFrom_32 : decode cX5_takeFrom 32 = .ok (.iconst 0, 1) := by decide +kernel
theorem dX5_takeFrom_33 : decode cX5_takeFrom 33 = .ok (.bipush 12, 2) := by decide +kernel
theorem dX5_takeFrom_35 : decode cX5_takeFrom 35 = .ok (.invokestatic 67, 3) := by decide +kernel
theorem dX5_takeFrom_38 : decode cX5_takeFrom 38 = .ok (.aload_n 1, 1) := by decide +kernel
theorem dX5_takeFrom_39 : decode cX5_takeFrom 39 = .ok (.getfield 18, 3) := by decide +kernel
theorem dX5_takeFrom_42 : decode cX5_takeFrom 42 = .ok (.iconst 0, 1) := by decide +kernel
theorem dX5_takeFrom_43 : decode cX5_takeFrom 43 = .ok (.aload_n 0, 1) := by decide +kernel
theorem dX5_takeFrom_44 : decode cX5_takeFrom 44 = .ok (.getfield 18, 3) := by decide +kernel
theorem dX5_takeFrom_47 : decode cX5_takeFrom 47 = .ok (.iconst 0, 1) := by decide +kernel
theorem dX5_takeFrom_48 : decode cX5_takeFrom 48 = .ok (.bipush 12, 2) := by decide +kernel
theorem dX5_takeFrom_50 : decode cX5_takeFrom 50 = .ok (.invokestatic 67, 3) := by decide +kernel
theorem dX5_takeFrom_53 : decode cX5_takeFrom 53 = .ok (.aload_n 1, 1) := by decide +kernel
theorem dX5_takeFrom_54 : decode cX5_takeFrom 54 = .ok (.getfield 21, 3) := by decide +kernel
theorem dX5_takeFrom_57 : decode cX5_takeFrom 57 = .ok (.iconst 0, 1) := by decide +kernel
theorem dX5_takeFrom_58 : decode cX5_takeFrom 58 = .ok (.aload_n 0, 1) := by decide +kernel
theorem dX5_takeFrom_59 : decode cX5_takeFrom 59 = .ok (.getfield 21, 3) := by decide +kernel
theorem dX5_takeFrom_62 : decode cX5_takeFrom 62 = .ok (.iconst 0, 1) := by decide +kernel
theorem dX5_takeFrom_63 : decode cX5_takeFrom 63 = .ok (.bipush 12, 2) := by decide +kernel
theorem dX5_takeFrom_65 : decode cX5_takeFrom 65 = .ok (.invokestatic 67, 3) := by decide +kernel
theorem dX5_takeFrom_68 : decode cX5_takeFrom 68 = .ok (.aload_n 1, 1) := by decide +kernel
theorem dX5_takeFrom_69 : decode cX5_takeFrom 69 = .ok (.getfield 24, 3) := by decide +kernel
theorem dX5_takeFrom_72 : decode cX5_takeFrom 72 = .ok (.iconst 0, 1) := by decide +kernel
theorem dX5_takeFrom_73 : decode cX5_takeFrom 73 = .ok (.aload_n 0, 1) := by decide +kernel
theorem dX5_takeFrom_74 : decode cX5_takeFrom 74 = .ok (.getfield 24, 3) := by decide +kernel
theorem dX5_takeFrom_77 : decode cX5_takeFrom 77 = .ok (.iconst 0, 1) := by decide +kernel
theorem dX5_takeFrom_78 : decode cX5_takeFrom 78 = .ok (.bipush 12, 2) := by decide +kernel
theorem dX5_takeFrom_80 : decode cX5_takeFrom 80 = .ok (.invokestatic 67, 3) := by decide +kernel
theorem dX5_takeFrom_83 : decode cX5_takeFrom 83 = .ok (.aload_n 1, 1) := by decide +kernel
theorem dX5_takeFrom_84 : decode cX5_takeFrom 84 = .ok (.getfield 27, 3) := by decide +kernel
theorem dX5_takeFrom_87 : decode cX5_takeFrom 87 = .ok (.iconst 0, 1) := by decide +kernel
theorem dX5_takeFrom_88 : decode cX5_takeFrom 88 = .ok (.aload_n 0, 1) := by decide +kernel
theorem dX5_takeFrom_89 : decode cX5_takeFrom 89 = .ok (.getfield 27, 3) := by decide +kernel
theorem dX5_takeFrom_92 : decode cX5_takeFrom 92 = .ok (.iconst 0, 1) := by decide +kernel
theorem dX5_takeFrom_93 : decode cX5_takeFrom 93 = .ok (.bipush 12, 2) := by decide +kernel
theorem dX5_takeFrom_95 : decode cX5_takeFrom 95 = .ok (.invokestatic 67, 3) := by decide +kernel
theorem dX5_takeFrom_98 : decode cX5_takeFrom 98 = .ok (.return_, 1) := by decide +kernel
theorem dX6_init_0 : decode cX6_init 0 = .ok (.aload_n 0, 1) := by decide +kernel
theorem dX6_init_1 : decode cX6_init 1 = .ok (.invokespecial 1, 3) := by decide +kernel
theorem dX6_init_4 : decode cX6_init 4 = .ok (.aload_n 0, 1) := by decide +kernel
theorem dX6_init_5 : decode cX6_init 5 = .ok (.iconst 4, 1) := by decide +kernel
theorem dX6_init_6 : decode cX6_init 6 = .ok (.newarray .int, 2) := by decide +kernel
theorem dX6_init_8 : decode cX6_init 8 = .ok (.putfield 9, 3) := by decide +kernel
theorem dX6_init_11 : decode cX6_init 11 = .ok (.aload_n 0, 1) := by decide +kernel
theorem dX6_init_12 : decode cX6_init 12 = .ok (.iconst 4, 1) := by decide +kernel
theorem dX6_init_13 : decode cX6_init 13 = .ok (.newarray .int, 2) := by decide +kernel
theorem dX6_init_15 : decode cX6_init 15 = .ok (.putfield 13, 3) := by decide +kernel
theorem dX6_init_18 : decode cX6_init 18 = .ok (.aload_n 0, 1) := by decide +kernel
theorem dX6_init_19 : decode cX6_init 19 = .ok (.sipush 160, 3) := by decide +kernel
theorem dX6_init_22 : decode cX6_init 22 = .ok (.newarray .long, 2) := by decide +kernel
theorem dX6_init_24 : decode cX6_init 24 = .ok (.putfield 16, 3) := by decide +kernel
theorem dX6_init_27 : decode cX6_init 27 = .ok (.return_, 1) := by decide +kernel
theorem dX6_isSheet_0 : decode cX6_isSheet 0 = .ok (.iload_n 1, 1) := by decide +kernel
theorem dX6_isSheet_1 : decode cX6_isSheet 1 = .ok (.ifCond .lt 12, 3) := by decide +kernel
theorem dX6_isSheet_4 : decode cX6_isSheet 4 = .ok (.iload_n 1, 1) := by decide +kernel
theorem dX6_isSheet_5 : decode cX6_isSheet 5 = .ok (.iconst 4, 1) := by decide +kernel
theorem dX6_isSheet_6 : decode cX6_isSheet 6 = .ok (.if_icmp .ge 7, 3) := by decide +kernel
theorem dX6_isSheet_9 : decode cX6_isSheet 9 = .ok (.iconst 1, 1) := by decide +kernel
theorem dX6_isSheet_10 : decode cX6_isSheet 10 = .ok (.goto 4, 3) := by decide +kernel
theorem dX6_isSheet_13 : decode cX6_isSheet 13 = .ok (.iconst 0, 1) := by decide +kernel
theorem dX6_isSheet_14 : decode cX6_isSheet 14 = .ok (.ireturn, 1) := by decide +kernel
theorem dX6_isMissing_0 : decode cX6_isMissing 0 = .ok (.aload_n 0, 1) := by decide +kernel
theorem dX6_isMissing_1 : decode cX6_isMissing 1 = .ok (.getfield 9, 3) := by decide +kernel
theorem dX6_isMissing_4 : decode cX6_isMissing 4 = .ok (.iload_n 1, 1) := by decide +kernel
theorem dX6_isMissing_5 : decode cX6_isMissing 5 = .ok (.iaload, 1) := by decide +kernel
theorem dX6_isMissing_6 : decode cX6_isMissing 6 = .ok (.ifCond .ne 7, 3) := by decide +kernel
theorem dX6_isMissing_9 : decode cX6_isMissing 9 = .ok (.iconst 1, 1) := by decide +kernel
theorem dX6_isMissing_10 : decode cX6_isMissing 10 = .ok (.goto 4, 3) := by decide +kernel
theorem dX6_isMissing_13 : decode cX6_isMissing 13 = .ok (.iconst 0, 1) := by decide +kernel
theorem dX6_isMissing_14 : decode cX6_isMissing 14 = .ok (.ireturn, 1) := by decide +kernel
theorem dX6_hasNumbers_0 : decode cX6_hasNumbers 0 = .ok (.iload_n 2, 1) := by decide +kernel
theorem dX6_hasNumbers_1 : decode cX6_hasNumbers 1 = .ok (.ifCond .lt 33, 3) := by decide +kernel
theorem dX6_hasNumbers_4 : decode cX6_hasNumbers 4 = .ok (.iload_n 3, 1) := by decide +kernel
theorem dX6_hasNumbers_5 : decode cX6_hasNumbers 5 = .ok (.ifCond .lt 29, 3) := by decide +kernel
theorem dX6_hasNumbers_8 : decode cX6_hasNumbers 8 = .ok (.iload_n 2, 1) := by decide +kernel
theorem dX6_hasNumbers_9 : decode cX6_hasNumbers 9 = .ok (.aload_n 0, 1) := by decide +kernel
theorem dX6_hasNumbers_10 : decode cX6_hasNumbers 10 = .ok (.getfield 13, 3) := by decide +kernel
theorem dX6_hasNumbers_13 : decode cX6_hasNumbers 13 = .ok (.iload_n 1, 1) := by decide +kernel
theorem dX6_hasNumbers_14 : decode cX6_hasNumbers 14 = .ok (.iaload, 1) := by decide +kernel
theorem dX6_hasNumbers_15 : decode cX6_hasNumbers 15 = .ok (.if_icmp .gt 19, 3) := by decide +kernel
theorem dX6_hasNumbers_18 : decode cX6_hasNumbers 18 = .ok (.iload_n 3, 1) := by decide +kernel
theorem dX6_hasNumbers_19 : decode cX6_hasNumbers 19 = .ok (.aload_n 0, 1) := by decide +kernel
theorem dX6_hasNumbers_20 : decode cX6_hasNumbers 20 = .ok (.getfield 13, 3) := by decide +kernel
theorem dX6_hasNumbers_23 : decode cX6_hasNumbers 23 = .ok (.iload_n 1, 1) := by decide +kernel
theorem dX6_hasNumbers_24 : decode cX6_hasNumbers 24 = .ok (.iaload, 1) := by decide +kernel
theorem dX6_hasNumbers_25 : decode cX6_hasNumbers 25 = .ok (.iload_n 2, 1) := by decide +kernel
theorem dX6_hasNumbers_26 : decode cX6_hasNumbers 26 = .ok (.isub, 1) := by decide +kernel
theorem dX6_hasNumbers_27 : decode cX6_hasNumbers 27 = .ok (.if_icmp .gt 7, 3) := by decide +kernel
theorem dX6_hasNumbers_30 : decode cX6_hasNumbers 30 = .ok (.iconst 1, 1) := by decide +kernel
theorem dX6_hasNumbers_31 : decode cX6_hasNumbers 31 = .ok (.goto 4, 3) := by decide +kernel
theorem dX6_hasNumbers_34 : decode cX6_hasNumbers 34 = .ok (.iconst 0, 1) := by decide +kernel
theorem dX6_hasNumbers_35 : decode cX6_hasNumbers 35 = .ok (.ireturn, 1) := by decide +kernel
theorem dX6_lay_0 : decode cX6_lay 0 = .ok (.aload_n 0, 1) := by decide +kernel
theorem dX6_lay_1 : decode cX6_lay 1 = .ok (.getfield 9, 3) := by decide +kernel
theorem dX6_lay_4 : decode cX6_lay 4 = .ok (.iload_n 1, 1) := by decide +kernel
theorem dX6_lay_5 : decode cX6_lay 5 = .ok (.iload_n 2, 1) := by decide +kernel
theorem dX6_lay_6 : decode cX6_lay 6 = .ok (.iastore, 1) := by decide +kernel
theorem dX6_lay_7 : decode cX6_lay 7 = .ok (.aload_n 0, 1) := by decide +kernel
theorem dX6_lay_8 : decode cX6_lay 8 = .ok (.getfield 13, 3) := by decide +kernel
theorem dX6_lay_11 : decode cX6_lay 11 = .ok (.iload_n 1, 1) := by decide +kernel
theorem dX6_lay_12 : decode cX6_lay 12 = .ok (.iload_n 2, 1) := by decide +kernel
theorem dX6_lay_13 : decode cX6_lay 13 = .ok (.ifCond .ne 7, 3) := by decide +kernel
theorem dX6_lay_16 : decode cX6_lay 16 = .ok (.iconst 0, 1) := by decide +kernel
theorem dX6_lay_17 : decode cX6_lay 17 = .ok (.goto 4, 3) := by decide +kernel
theorem dX6_lay_20 : decode cX6_lay 20 = .ok (.iload_n 3, 1) := by decide +kernel
theorem dX6_lay_21 : decode cX6_lay 21 = .ok (.iastore, 1) := by decide +kernel
theorem dX6_lay_22 : decode cX6_lay 22 = .ok (.iconst 0, 1) := by decide +kernel
theorem dX6_lay_23 : decode cX6_lay 23 = .ok (.istore 4, 2) := by decide +kernel
theorem dX6_lay_25 : decode cX6_lay 25 = .ok (.iload 4, 2) := by decide +kernel
theorem dX6_lay_27 : decode cX6_lay 27 = .ok (.bipush 40, 2) := by decide +kernel
theorem dX6_lay_29 : decode cX6_lay 29 = .ok (.if_icmp .ge 22, 3) := by decide +kernel
theorem dX6_lay_32 : decode cX6_lay 32 = .ok (.aload_n 0, 1) := by decide +kernel
theorem dX6_lay_33 : decode cX6_lay 33 = .ok (.getfield 16, 3) := by decide +kernel
theorem dX6_lay_36 : decode cX6_lay 36 = .ok (.iload_n 1, 1) := by decide +kernel
theorem dX6_lay_37 : decode cX6_lay 37 = .ok (.bipush 40, 2) := by decide +kernel
theorem dX6_lay_39 : decode cX6_lay 39 = .ok (.imul, 1) := by decide +kernel
theorem dX6_lay_40 : decode cX6_lay 40 = .ok (.iload 4, 2) := by decide +kernel
theorem dX6_lay_42 : decode cX6_lay 42 = .ok (.iadd, 1) := by decide +kernel
theorem dX6_lay_43 : decode cX6_lay 43 = .ok (.lconst 0, 1) := by decide +kernel
theorem dX6_lay_44 : decode cX6_lay 44 = .ok (.lastore, 1) := by decide +kernel
theorem dX6_lay_45 : decode cX6_lay 45 = .ok (.iinc 4 1, 3) := by decide +kernel
theorem dX6_lay_48 : decode cX6_lay 48 = .ok (.goto (-23), 3) := by decide +kernel
theorem dX6_lay_51 : decode cX6_lay 51 = .ok (.aload_n 0, 1) := by decide +kernel
theorem dX6_lay_52 : decode cX6_lay 52 = .ok (.getfield 13, 3) := by decide +kernel
theorem dX6_lay_55 : decode cX6_lay 55 = .ok (.iload_n 1, 1) := by decide +kernel
theorem dX6_lay_56 : decode cX6_lay 56 = .ok (.iaload, 1) := by decide +kernel
theorem dX6_lay_57 : decode cX6_lay 57 = .ok (.ireturn, 1) := by decide +kernel
theorem dX6_at_0 : decode cX6_at 0 = .ok (.aload_n 0, 1) := by decide +kernel
theorem dX6_at_1 : decode cX6_at 1 = .ok (.getfield 16, 3) := by decide +kernel
theorem dX6_at_4 : decode cX6_at 4 = .ok (.iload_n 1, 1) := by decide +kernel
theorem dX6_at_5 : decode cX6_at 5 = .ok (.bipush 40, 2) := by decide +kernel
theorem dX6_at_7 : decode cX6_at 7 = .ok (.imul, 1) := by decide +kernel
theorem dX6_at_8 : decode cX6_at 8 = .ok (.iload_n 2, 1) := by decide +kernel
theorem dX6_at_9 : decode cX6_at 9 = .ok (.iadd, 1) := by decide +kernel
theorem dX6_at_10 : decode cX6_at 10 = .ok (.laload, 1) := by decide +kernel
theorem dX6_at_11 : decode cX6_at 11 = .ok (.lreturn, 1) := by decide +kernel
theorem dX6_replace_0 : decode cX6_replace 0 = .ok (.aload_n 0, 1) := by decide +kernel
theorem dX6_replace_1 : decode cX6_replace 1 = .ok (.iload_n 1, 1) := by decide +kernel
theorem dX6_replace_2 : decode cX6_replace 2 = .ok (.iload_n 2, 1) := by decide +kernel
theorem dX6_replace_3 : decode cX6_replace 3 = .ok (.invokevirtual 20, 3) := by decide +kernel
theorem dX6_replace_6 : decode cX6_replace 6 = .ok (.lstore 5, 2) := by decide +kernel
theorem dX6_replace_8 : decode cX6_replace 8 = .ok (.aload_n 0, 1) := by decide +kernel
theorem dX6_replace_9 : decode cX6_replace 9 = .ok (.getfield 16, 3) := by decide +kernel
theorem dX6_replace_12 : decode cX6_replace 12 = .ok (.iload_n 1, 1) := by decide +kernel
theorem dX6_replace_13 : decode cX6_replace 13 = .ok (.bipush 40, 2) := by decide +kernel
theorem dX6_replace_15 : decode cX6_replace 15 = .ok (.imul, 1) := by decide +kernel
theorem dX6_replace_16 : decode cX6_replace 16 = .ok (.iload_n 2, 1) := by decide +kernel
theorem dX6_replace_17 : decode cX6_replace 17 = .ok (.iadd, 1) := by decide +kernel
theorem dX6_replace_18 : decode cX6_replace 18 = .ok (.lload_n 3, 1) := by decide +kernel
theorem dX6_replace_19 : decode cX6_replace 19 = .ok (.aload_n 0, 1) := by decide +kernel
theorem dX6_replace_20 : decode cX6_replace 20 = .ok (.getfield 9, 3) := by decide +kernel
theorem dX6_replace_23 : decode cX6_replace 23 = .ok (.iload_n 1, 1) := by decide +kernel
theorem dX6_replace_24 : decode cX6_replace 24 = .ok (.iaload, 1) := by decide +kernel
theorem dX6_replace_25 : decode cX6_replace 25 = .ok (.invokestatic 24, 3) := by decide +kernel
theorem dX6_replace_28 : decode cX6_replace 28 = .ok (.lastore, 1) := by decide +kernel
theorem dX6_replace_29 : decode cX6_replace 29 = .ok (.lload 5, 2) := by decide +kernel
theorem dX6_replace_31 : decode cX6_replace 31 = .ok (.lreturn, 1) := by decide +kernel
theorem dX6_cut_0 : decode cX6_cut 0 = .ok (.iload_n 2, 1) := by decide +kernel
theorem dX6_cut_1 : decode cX6_cut 1 = .ok (.bipush 8, 2) := by decide +kernel
theorem dX6_cut_3 : decode cX6_cut 3 = .ok (.if_icmp .ne 8, 3) := by decide +kernel
theorem dX6_cut_6 : decode cX6_cut 6 = .ok (.lload_n 0, 1) := by decide +kernel
theorem dX6_cut_7 : decode cX6_cut 7 = .ok (.l2i, 1) := by decide +kernel
theorem dX6_cut_8 : decode cX6_cut 8 = .ok (.i2b, 1) := by decide +kernel
theorem dX6_cut_9 : decode cX6_cut 9 = .ok (.i2l, 1) := by decide +kernel
theorem dX6_cut_10 : decode cX6_cut 10 = .ok (.lreturn, 1) := by decide +kernel
theorem dX6_cut_11 : decode cX6_cut 11 = .ok (.iload_n 2, 1) := by decide +kernel
theorem dX6_cut_12 : decode cX6_cut 12 = .ok (.bipush 16, 2) := by decide +kernel
theorem dX6_cut_14 : decode cX6_cut 14 = .ok (.if_icmp .ne 10, 3) := by decide +kernel
theorem dX6_cut_17 : decode cX6_cut 17 = .ok (.lload_n 0, 1) := by decide +kernel
theorem dX6_cut_18 : decode cX6_cut 18 = .ok (.l2i, 1) := by decide +kernel
theorem dX6_cut_19 : decode cX6_cut 19 = .ok (.i2s, 1) := by decide +kernel
theorem dX6_cut_20 : decode cX6_cut 20 = .ok (.i2l, 1) := by decide +kernel
theorem dX6_cut_21 : decode cX6_cut 21 = .ok (.goto 4, 3) := by decide +kernel
theorem dX6_cut_24 : decode cX6_cut 24 = .ok (.lload_n 0, 1) := by decide +kernel
theorem dX6_cut_25 : decode cX6_cut 25 = .ok (.lreturn, 1) := by decide +kernel
theorem dX6_move_0 : decode cX6_move 0 = .ok (.aload_n 0, 1) := by decide +kernel
theorem dX6_move_1 : decode cX6_move 1 = .ok (.getfield 16, 3) := by decide +kernel
theorem dX6_move_4 : decode cX6_move 4 = .ok (.iload_n 1, 1) := by decide +kernel
theorem dX6_move_5 : decode cX6_move 5 = .ok (.bipush 40, 2) := by decide +kernel
theorem dX6_move_7 : decode cX6_move 7 = .ok (.imul, 1) := by decide +kernel
theorem dX6_move_8 : decode cX6_move 8 = .ok (.iload_n 2, 1) := by decide +kernel
theorem dX6_move_9 : decode cX6_move 9 = .ok (.iadd, 1) := by decide +kernel
theorem dX6_move_10 : decode cX6_move 10 = .ok (.aload_n 0, 1) := by decide +kernel
theorem dX6_move_11 : decode cX6_move 11 = .ok (.getfield 16, 3) := by decide +kernel
theorem dX6_move_14 : decode cX6_move 14 = .ok (.iload_n 3, 1) := by decide +kernel
theorem dX6_move_15 : decode cX6_move 15 = .ok (.bipush 40, 2) := by decide +kernel
theorem dX6_move_17 : decode cX6_move 17 = .ok (.imul, 1) := by decide +kernel
theorem dX6_move_18 : decode cX6_move 18 = .ok (.iload 4, 2) := by decide +kernel
theorem dX6_move_20 : decode cX6_move 20 = .ok (.iadd, 1) := by decide +kernel
theorem dX6_move_21 : decode cX6_move 21 = .ok (.iload 5, 2) := by decide +kernel
theorem dX6_move_23 : decode cX6_move 23 = .ok (.invokestatic 28, 3) := by decide +kernel
theorem dX6_move_26 : decode cX6_move 26 = .ok (.return_, 1) := by decide +kernel
theorem dX7_init_0 : decode cX7_init 0 = .ok (.aload_n 0, 1) := by decide +kernel
theorem dX7_init_1 : decode cX7_init 1 = .ok (.invokespecial 1, 3) := by decide +kernel
theorem dX7_init_4 : decode cX7_init 4 = .ok (.aload_n 0, 1) := by decide +kernel
theorem dX7_init_5 : decode cX7_init 5 = .ok (.bipush 120, 2) := by decide +kernel
theorem dX7_init_7 : decode cX7_init 7 = .ok (.newarray .int, 2) := by decide +kernel
theorem dX7_init_9 : decode cX7_init 9 = .ok (.putfield 9, 3) := by decide +kernel
theorem dX7_init_12 : decode cX7_init 12 = .ok (.aload_n 0, 1) := by decide +kernel
theorem dX7_init_13 : decode cX7_init 13 = .ok (.iconst 0, 1) := by decide +kernel
theorem dX7_init_14 : decode cX7_init 14 = .ok (.putfield 13, 3) := by decide +kernel
theorem dX7_init_17 : decode cX7_init 17 = .ok (.aload_n 0, 1) := by decide +kernel
theorem dX7_init_18 : decode cX7_init 18 = .ok (.iconst 0, 1) := by decide +kernel
theorem dX7_init_19 : decode cX7_init 19 = .ok (.putfield 17, 3) := by decide +kernel
theorem dX7_init_22 : decode cX7_init 22 = .ok (.aload_n 0, 1) := by decide +kernel
theorem dX7_init_23 : decode cX7_init 23 = .ok (.iconst 0, 1) := by decide +kernel
theorem dX7_init_24 : decode cX7_init 24 = .ok (.putfield 20, 3) := by decide +kernel
theorem dX7_init_27 : decode cX7_init 27 = .ok (.aload_n 0, 1) := by decide +kernel
theorem dX7_init_28 : decode cX7_init 28 = .ok (.iconst 0, 1) := by decide +kernel
theorem dX7_init_29 : decode cX7_init 29 = .ok (.putfield 23, 3) := by decide +kernel
theorem dX7_init_32 : decode cX7_init 32 = .ok (.aload_n 0, 1) := by decide +kernel
theorem dX7_init_33 : decode cX7_init 33 = .ok (.iconst 0, 1) := by decide +kernel
theorem dX7_init_34 : decode cX7_init 34 = .ok (.putfield 26, 3) := by decide +kernel
theorem dX7_init_37 : decode cX7_init 37 = .ok (.return_, 1) := by decide +kernel
theorem dX7_hasRoom_0 : decode cX7_hasRoom 0 = .ok (.aload_n 0, 1) := by decide +kernel
theorem dX7_hasRoom_1 : decode cX7_hasRoom 1 = .ok (.getfield 13, 3) := by decide +kernel
theorem dX7_hasRoom_4 : decode cX7_hasRoom 4 = .ok (.iload_n 1, 1) := by decide +kernel
theorem dX7_hasRoom_5 : decode cX7_hasRoom 5 = .ok (.iadd, 1) := by decide +kernel
theorem dX7_hasRoom_6 : decode cX7_hasRoom 6 = .ok (.bipush 120, 2) := by decide +kernel
theorem dX7_hasRoom_8 : decode cX7_hasRoom 8 = .ok (.if_icmp .gt 7, 3) := by decide +kernel
theorem dX7_hasRoom_11 : decode cX7_hasRoom 11 = .ok (.iconst 1, 1) := by decide +kernel
theorem dX7_hasRoom_12 : decode cX7_hasRoom 12 = .ok (.goto 4, 3) := by decide +kernel
theorem dX7_hasRoom_15 : decode cX7_hasRoom 15 = .ok (.iconst 0, 1) := by decide +kernel
theorem dX7_hasRoom_16 : decode cX7_hasRoom 16 = .ok (.ireturn, 1) := by decide +kernel
theorem dX7_append_0 : decode cX7_append 0 = .ok (.aload_n 0, 1) := by decide +kernel
theorem dX7_append_1 : decode cX7_append 1 = .ok (.getfield 13, 3) := by decide +kernel
theorem dX7_append_4 : decode cX7_append 4 = .ok (.bipush 120, 2) := by decide +kernel
theorem dX7_append_6 : decode cX7_append 6 = .ok (.if_icmp .ge 23, 3) := by decide +kernel
theorem dX7_append_9 : decode cX7_append 9 = .ok (.aload_n 0, 1) := by decide +kernel
theorem dX7_append_10 : decode cX7_append 10 = .ok (.getfield 9, 3) := by decide +kernel
theorem dX7_append_13 : decode cX7_append 13 = .ok (.aload_n 0, 1) := by decide +kernel
theorem dX7_append_14 : decode cX7_append 14 = .ok (.getfield 13, 3) := by decide +kernel
theorem dX7_append_17 : decode cX7_append 17 = .ok (.iload_n 1, 1) := by decide +kernel
theorem dX7_append_18 : decode cX7_append 18 = .ok (.iastore, 1) := by decide +kernel
theorem dX7_append_19 : decode cX7_append 19 = .ok (.aload_n 0, 1) := by decide +kernel
theorem dX7_append_20 : decode cX7_append 20 = .ok (.dup, 1) := by decide +kernel
theorem dX7_append_21 : decode cX7_append 21 = .ok (.getfield 13, 3) := by decide +kernel
theorem dX7_append_24 : decode cX7_append 24 = .ok (.iconst 1, 1) := by decide +kernel
theorem dX7_append_25 : decode cX7_append 25 = .ok (.iadd, 1) := by decide +kernel
theorem dX7_append_26 : decode cX7_append 26 = .ok (.putfield 13, 3) := by decide +kernel
theorem dX7_append_29 : decode cX7_append 29 = .ok (.return_, 1) := by decide +kernel
theorem dX7_clear_0 : decode cX7_clear 0 = .ok (.aload_n 0, 1) := by decide +kernel
theorem dX7_clear_1 : decode cX7_clear 1 = .ok (.getfield 13, 3) := by decide +kernel
theorem dX7_clear_4 : decode cX7_clear 4 = .ok (.istore_n 1, 1) := by decide +kernel
theorem dX7_clear_5 : decode cX7_clear 5 = .ok (.aload_n 0, 1) := by decide +kernel
theorem dX7_clear_6 : decode cX7_clear 6 = .ok (.iconst 0, 1) := by decide +kernel
theorem dX7_clear_7 : decode cX7_clear 7 = .ok (.putfield 13, 3) := by decide +kernel
theorem dX7_clear_10 : decode cX7_clear 10 = .ok (.iload_n 1, 1) := by decide +kernel
theorem dX7_clear_11 : decode cX7_clear 11 = .ok (.ireturn, 1) := by decide +kernel
theorem dX7_begin_0 : decode cX7_begin 0 = .ok (.aload_n 0, 1) := by decide +kernel
theorem dX7_begin_1 : decode cX7_begin 1 = .ok (.iconst 0, 1) := by decide +kernel
theorem dX7_begin_2 : decode cX7_begin 2 = .ok (.putfield 26, 3) := by decide +kernel
theorem dX7_begin_5 : decode cX7_begin 5 = .ok (.aload_n 0, 1) := by decide +kernel
theorem dX7_begin_6 : decode cX7_begin 6 = .ok (.invokevirtual 29, 3) := by decide +kernel
theorem dX7_begin_9 : decode cX7_begin 9 = .ok (.return_, 1) := by decide +kernel
theorem dX7_advance_0 : decode cX7_advance 0 = .ok (.aload_n 0, 1) := by decide +kernel
theorem dX7_advance_1 : decode cX7_advance 1 = .ok (.aload_n 0, 1) := by decide +kernel
theorem dX7_advance_2 : decode cX7_advance 2 = .ok (.getfield 26, 3) := by decide +kernel
theorem dX7_advance_5 : decode cX7_advance 5 = .ok (.putfield 20, 3) := by decide +kernel
theorem dX7_advance_8 : decode cX7_advance 8 = .ok (.aload_n 0, 1) := by decide +kernel
theorem dX7_advance_9 : decode cX7_advance 9 = .ok (.getfield 20, 3) := by decide +kernel
theorem dX7_advance_12 : decode cX7_advance 12 = .ok (.aload_n 0, 1) := by decide +kernel
theorem dX7_advance_13 : decode cX7_advance 13 = .ok (.getfield 13, 3) := by decide +kernel
theorem dX7_advance_16 : decode cX7_advance 16 = .ok (.if_icmp .ge 30, 3) := by decide +kernel
theorem dX7_advance_19 : decode cX7_advance 19 = .ok (.aload_n 0, 1) := by decide +kernel
theorem dX7_advance_20 : decode cX7_advance 20 = .ok (.getfield 9, 3) := by decide +kernel
theorem dX7_advance_23 : decode cX7_advance 23 = .ok (.aload_n 0, 1) := by decide +kernel
theorem dX7_advance_24 : decode cX7_advance 24 = .ok (.getfield 20, 3) := by decide +kernel
theorem dX7_advance_27 : decode cX7_advance 27 = .ok (.iaload, 1) := by decide +kernel
theorem dX7_advance_28 : decode cX7_advance 28 = .ok (.bipush 32, 2) := by decide +kernel
theorem dX7_advance_30 : decode cX7_advance 30 = .ok (.if_icmp .ne 16, 3) := by decide +kernel
theorem dX7_advance_33 : decode cX7_advance 33 = .ok (.aload_n 0, 1) := by decide +kernel
theorem dX7_advance_34 : decode cX7_advance 34 = .ok (.dup, 1) := by decide +kernel
theorem dX7_advance_35 : decode cX7_advance 35 = .ok (.getfield 20, 3) := by decide +kernel
theorem dX7_advance_38 : decode cX7_advance 38 = .ok (.iconst 1, 1) := by decide +kernel
theorem dX7_advance_39 : decode cX7_advance 39 = .ok (.iadd, 1) := by decide +kernel
theorem dX7_advance_40 : decode cX7_advance 40 = .ok (.putfield 20, 3) := by decide +kernel
theorem dX7_advance_43 : decode cX7_advance 43 = .ok (.goto (-35), 3) := by decide +kernel
theorem dX7_advance_46 : decode cX7_advance 46 = .ok (.aload_n 0, 1) := by decide +kernel
theorem dX7_advance_47 : decode cX7_advance 47 = .ok (.aload_n 0, 1) := by decide +kernel
theorem dX7_advance_48 : decode cX7_advance 48 = .ok (.getfield 20, 3) := by decide +kernel
theorem dX7_advance_51 : decode cX7_advance 51 = .ok (.putfield 26, 3) := by decide +kernel
theorem dX7_advance_54 : decode cX7_advance 54 = .ok (.aload_n 0, 1) := by decide +kernel
theorem dX7_advance_55 : decode cX7_advance 55 = .ok (.getfield 20, 3) := by decide +kernel
theorem dX7_advance_58 : decode cX7_advance 58 = .ok (.aload_n 0, 1) := by decide +kernel
theorem dX7_advance_59 : decode cX7_advance 59 = .ok (.getfield 13, 3) := by decide +kernel
theorem dX7_advance_62 : decode cX7_advance 62 = .ok (.if_icmp .lt 11, 3) := by decide +kernel
theorem dX7_advance_65 : decode cX7_advance 65 = .ok (.aload_n 0, 1) := by decide +kernel
theorem dX7_advance_66 : decode cX7_advance 66 = .ok (.iconst 0, 1) := by decide +kernel
theorem dX7_advance_67 : decode cX7_advance 67 = .ok (.putfield 17, 3) := by decide +kernel
theorem dX7_advance_70 : decode cX7_advance 70 = .ok (.goto 173, 3) := by decide +kernel
theorem dX7_advance_73 : decode cX7_advance 73 = .ok (.aload_n 0, 1) := by decide +kernel
theorem dX7_advance_74 : decode cX7_advance 74 = .ok (.aload_n 0, 1) := by decide +kernel
theorem dX7_advance_75 : decode cX7_advance 75 = .ok (.getfield 20, 3) := by decide +kernel
theorem dX7_advance_78 : decode cX7_advance 78 = .ok (.invokevirtual 32, 3) := by decide +kernel
theorem dX7_advance_81 : decode cX7_advance 81 = .ok (.ifCond .eq 43, 3) := by decide +kernel
theorem dX7_advance_84 : decode cX7_advance 84 = .ok (.aload_n 0, 1) := by decide +kernel
theorem dX7_advance_85 : decode cX7_advance 85 = .ok (.iconst 1, 1) := by decide +kernel
theorem dX7_advance_86 : decode cX7_advance 86 = .ok (.putfield 17, 3) := by decide +kernel
theorem dX7_advance_89 : decode cX7_advance 89 = .ok (.aload_n 0, 1) := by decide +kernel
theorem dX7_advance_90 : decode cX7_advance 90 = .ok (.getfield 26, 3) := by decide +kernel
theorem dX7_advance_93 : decode cX7_advance 93 = .ok (.aload_n 0, 1) := by decide +kernel
theorem dX7_advance_94 : decode cX7_advance 94 = .ok (.getfield 13, 3) := by decide +kernel
theorem dX7_advance_97 : decode cX7_advance 97 = .ok (.if_icmp .ge 146, 3) := by decide +kernel
theorem dX7_advance_100 : decode cX7_advance 100 = .ok (.aload_n 0, 1) := by decide +kernel
theorem dX7_advance_101 : decode cX7_advance 101 = .ok (.aload_n 0, 1) := by decide +kernel
theorem dX7_advance_102 : decode cX7_advance 102 = .ok (.getfield 26, 3) := by decide +kernel
theorem dX7_advance_105 : decode cX7_advance 105 = .ok (.invokevirtual 32, 3) := by decide +kernel
theorem dX7_advance_108 : decode cX7_advance 108 = .ok (.ifCond .eq 135, 3) := by decide +kernel
theorem dX7_advance_111 : decode cX7_advance 111 = .ok (.aload_n 0, 1) := by decide +kernel
theorem dX7_advance_112 : decode cX7_advance 112 = .ok (.dup, 1) := by decide +kernel
theorem dX7_advance_113 : decode cX7_advance 113 = .ok (.getfield 26, 3) := by decide +kernel
theorem dX7_advance_116 : decode cX7_advance 116 = .ok (.iconst 1, 1) := by decide +kernel
theorem dX7_advance_117 : decode cX7_advance 117 = .ok (.iadd, 1) := by decide +kernel
theorem dX7_advance_118 : decode cX7_advance 118 = .ok (.putfield 26, 3) := by decide +kernel
theorem dX7_advance_121 : decode cX7_advance 121 = .ok (.goto (-32), 3) := by decide +kernel
theorem dX7_advance_124 : decode cX7_advance 124 = .ok (.aload_n 0, 1) := by decide +kernel
theorem dX7_advance_125 : decode cX7_advance 125 = .ok (.aload_n 0, 1) := by decide +kernel
theorem dX7_advance_126 : decode cX7_advance 126 = .ok (.getfield 20, 3) := by decide +kernel
theorem dX7_advance_129 : decode cX7_advance 129 = .ok (.invokevirtual 36, 3) := by decide +kernel
theorem dX7_advance_132 : decode cX7_advance 132 = .ok (.ifCond .eq 78, 3) := by decide +kernel
theorem dX7_advance_135 : decode cX7_advance 135 = .ok (.aload_n 0, 1) := by decide +kernel
theorem dX7_advance_136 : decode cX7_advance 136 = .ok (.iconst 2, 1) := by decide +kernel
theorem dX7_advance_137 : decode cX7_advance 137 = .ok (.putfield 17, 3) := by decide +kernel
theorem dX7_advance_140 : decode cX7_advance 140 = .ok (.aload_n 0, 1) := by decide +kernel
theorem dX7_advance_141 : decode cX7_advance 141 = .ok (.iconst 0, 1) := by decide +kernel
theorem dX7_advance_142 : decode cX7_advance 142 = .ok (.putfield 23, 3) := by decide +kernel
theorem dX7_advance_145 : decode cX7_advance 145 = .ok (.aload_n 0, 1) := by decide +kernel
theorem dX7_advance_146 : decode cX7_advance 146 = .ok (.getfield 26, 3) := by decide +kernel
theorem dX7_advance_149 : decode cX7_advance 149 = .ok (.aload_n 0, 1) := by decide +kernel
theorem dX7_advance_150 : decode cX7_advance 150 = .ok (.getfield 13, 3) := by decide +kernel
theorem dX7_advance_153 : decode cX7_advance 153 = .ok (.if_icmp .ge 90, 3) := by decide +kernel
theorem dX7_advance_156 : decode cX7_advance 156 = .ok (.aload_n 0, 1) := by decide +kernel
theorem dX7_advance_157 : decode cX7_advance 157 = .ok (.aload_n 0, 1) := by decide +kernel
theorem dX7_advance_158 : decode cX7_advance 158 = .ok (.getfield 26, 3) := by decide +kernel
theorem dX7_advance_161 : decode cX7_advance 161 = .ok (.invokevirtual 36, 3) := by decide +kernel
theorem dX7_advance_164 : decode cX7_advance 164 = .ok (.ifCond .eq 79, 3) := by decide +kernel
theorem dX7_advance_167 : decode cX7_advance 167 = .ok (.aload_n 0, 1) := by decide +kernel
theorem dX7_advance_168 : decode cX7_advance 168 = .ok (.sipush 1000, 3) := by decide +kernel
theorem dX7_advance_171 : decode cX7_advance 171 = .ok (.aload_n 0, 1) := by decide +kernel
theorem dX7_advance_172 : decode cX7_advance 172 = .ok (.getfield 23, 3) := by decide +kernel
theorem dX7_advance_175 : decode cX7_advance 175 = .ok (.bipush 10, 2) := by decide +kernel
theorem dX7_advance_177 : decode cX7_advance 177 = .ok (.imul, 1) := by decide +kernel
theorem dX7_advance_178 : decode cX7_advance 178 = .ok (.aload_n 0, 1) := by decide +kernel
theorem dX7_advance_179 : decode cX7_advance 179 = .ok (.getfield 9, 3) := by decide +kernel
theorem dX7_advance_182 : decode cX7_advance 182 = .ok (.aload_n 0, 1) := by decide +kernel
theorem dX7_advance_183 : decode cX7_advance 183 = .ok (.getfield 26, 3) := by decide +kernel
theorem dX7_advance_186 : decode cX7_advance 186 = .ok (.iaload, 1) := by decide +kernel
theorem dX7_advance_187 : decode cX7_advance 187 = .ok (.iadd, 1) := by decide +kernel
theorem dX7_advance_188 : decode cX7_advance 188 = .ok (.bipush 48, 2) := by decide +kernel
theorem dX7_advance_190 : decode cX7_advance 190 = .ok (.isub, 1) := by decide +kernel
theorem dX7_advance_191 : decode cX7_advance 191 = .ok (.invokestatic 39, 3) := by decide +kernel
theorem dX7_advance_194 : decode cX7_advance 194 = .ok (.putfield 23, 3) := by decide +kernel
theorem dX7_advance_197 : decode cX7_advance 197 = .ok (.aload_n 0, 1) := by decide +kernel
theorem dX7_advance_198 : decode cX7_advance 198 = .ok (.dup, 1) := by decide +kernel
theorem dX7_advance_199 : decode cX7_advance 199 = .ok (.getfield 26, 3) := by decide +kernel
theorem dX7_advance_202 : decode cX7_advance 202 = .ok (.iconst 1, 1) := by decide +kernel
theorem dX7_advance_203 : decode cX7_advance 203 = .ok (.iadd, 1) := by decide +kernel
theorem dX7_advance_204 : decode cX7_advance 204 = .ok (.putfield 26, 3) := by decide +kernel
theorem dX7_advance_207 : decode cX7_advance 207 = .ok (.goto (-62), 3) := by decide +kernel
theorem dX7_advance_210 : decode cX7_advance 210 = .ok (.aload_n 0, 1) := by decide +kernel
theorem dX7_advance_211 : decode cX7_advance 211 = .ok (.aload_n 0, 1) := by decide +kernel
theorem dX7_advance_212 : decode cX7_advance 212 = .ok (.getfield 9, 3) := by decide +kernel
theorem dX7_advance_215 : decode cX7_advance 215 = .ok (.aload_n 0, 1) := by decide +kernel
theorem dX7_advance_216 : decode cX7_advance 216 = .ok (.getfield 20, 3) := by decide +kernel
theorem dX7_advance_219 : decode cX7_advance 219 = .ok (.iaload, 1) := by decide +kernel
theorem dX7_advance_220 : decode cX7_advance 220 = .ok (.bipush 59, 2) := by decide +kernel
theorem dX7_advance_222 : decode cX7_advance 222 = .ok (.if_icmp .ne 7, 3) := by decide +kernel
theorem dX7_advance_225 : decode cX7_advance 225 = .ok (.iconst 3, 1) := by decide +kernel
theorem dX7_advance_226 : decode cX7_advance 226 = .ok (.goto 4, 3) := by decide +kernel
theorem dX7_advance_229 : decode cX7_advance 229 = .ok (.iconst 4, 1) := by decide +kernel
theorem dX7_advance_230 : decode cX7_advance 230 = .ok (.putfield 17, 3) := by decide +kernel
theorem dX7_advance_233 : decode cX7_advance 233 = .ok (.aload_n 0, 1) := by decide +kernel
theorem dX7_advance_234 : decode cX7_advance 234 = .ok (.aload_n 0, 1) := by decide +kernel
theorem dX7_advance_235 : decode cX7_advance 235 = .ok (.getfield 20, 3) := by decide +kernel
theorem dX7_advance_238 : decode cX7_advance 238 = .ok (.iconst 1, 1) := by decide +kernel
theorem dX7_advance_239 : decode cX7_advance 239 = .ok (.iadd, 1) := by decide +kernel
theorem dX7_advance_240 : decode cX7_advance 240 = .ok (.putfield 26, 3) := by decide +kernel
theorem dX7_advance_243 : decode cX7_advance 243 = .ok (.return_, 1) := by decide +kernel
theorem dX7_isLetter_0 : decode cX7_isLetter 0 = .ok (.aload_n 0, 1) := by decide +kernel
theorem dX7_isLetter_1 : decode cX7_isLetter 1 = .ok (.getfield 9, 3) := by decide +kernel
theorem dX7_isLetter_4 : decode cX7_isLetter 4 = .ok (.iload_n 1, 1) := by decide +kernel
theorem dX7_isLetter_5 : decode cX7_isLetter 5 = .ok (.iaload, 1) := by decide +kernel
theorem dX7_isLetter_6 : decode cX7_isLetter 6 = .ok (.bipush 97, 2) := by decide +kernel
theorem dX7_isLetter_8 : decode cX7_isLetter 8 = .ok (.if_icmp .lt 18, 3) := by decide +kernel
theorem dX7_isLetter_11 : decode cX7_isLetter 11 = .ok (.aload_n 0, 1) := by decide +kernel
theorem dX7_isLetter_12 : decode cX7_isLetter 12 = .ok (.getfield 9, 3) := by decide +kernel
theorem dX7_isLetter_15 : decode cX7_isLetter 15 = .ok (.iload_n 1, 1) := by decide +kernel
theorem dX7_isLetter_16 : decode cX7_isLetter 16 = .ok (.iaload, 1) := by decide +kernel
theorem dX7_isLetter_17 : decode cX7_isLetter 17 = .ok (.bipush 122, 2) := by decide +kernel
theorem dX7_isLetter_19 : decode cX7_isLetter 19 = .ok (.if_icmp .gt 7, 3) := by decide +kernel
theorem dX7_isLetter_22 : decode cX7_isLetter 22 = .ok (.iconst 1, 1) := by decide +kernel
theorem dX7_isLetter_23 : decode cX7_isLetter 23 = .ok (.goto 4, 3) := by decide +kernel
theorem dX7_isLetter_26 : decode cX7_isLetter 26 = .ok (.iconst 0, 1) := by decide +kernel
theorem dX7_isLetter_27 : decode cX7_isLetter 27 = .ok (.ireturn, 1) := by decide +kernel
theorem dX7_isDigit_0 : decode cX7_isDigit 0 = .ok (.aload_n 0, 1) := by decide +kernel
theorem dX7_isDigit_1 : decode cX7_isDigit 1 = .ok (.getfield 9, 3) := by decide +kernel
theorem dX7_isDigit_4 : decode cX7_isDigit 4 = .ok (.iload_n 1, 1) := by decide +kernel
theorem dX7_isDigit_5 : decode cX7_isDigit 5 = .ok (.iaload, 1) := by decide +kernel
theorem dX7_isDigit_6 : decode cX7_isDigit 6 = .ok (.bipush 48, 2) := by decide +kernel
theorem dX7_isDigit_8 : decode cX7_isDigit 8 = .ok (.if_icmp .lt 18, 3) := by decide +kernel
theorem dX7_isDigit_11 : decode cX7_isDigit 11 = .ok (.aload_n 0, 1) := by decide +kernel
theorem dX7_isDigit_12 : decode cX7_isDigit 12 = .ok (.getfield 9, 3) := by decide +kernel
theorem dX7_isDigit_15 : decode cX7_isDigit 15 = .ok (.iload_n 1, 1) := by decide +kernel
theorem dX7_isDigit_16 : decode cX7_isDigit 16 = .ok (.iaload, 1) := by decide +kernel
theorem dX7_isDigit_17 : decode cX7_isDigit 17 = .ok (.bipush 57, 2) := by decide +kernel
theorem dX7_isDigit_19 : decode cX7_isDigit 19 = .ok (.if_icmp .gt 7, 3) := by decide +kernel
theorem dX7_isDigit_22 : decode cX7_isDigit 22 = .ok (.iconst 1, 1) := by decide +kernel
theorem dX7_isDigit_23 : decode cX7_isDigit 23 = .ok (.goto 4, 3) := by decide +kernel
theorem dX7_isDigit_26 : decode cX7_isDigit 26 = .ok (.iconst 0, 1) := by decide +kernel
theorem dX7_isDigit_27 : decode cX7_isDigit 27 = .ok (.ireturn, 1) := by decide +kernel
theorem dX7_isWord_0 : decode cX7_isWord 0 = .ok (.aload_n 0, 1) := by decide +kernel
theorem dX7_isWord_1 : decode cX7_isWord 1 = .ok (.getfield 17, 3) := by decide +kernel
theorem dX7_isWord_4 : decode cX7_isWord 4 = .ok (.iconst 1, 1) := by decide +kernel
theorem dX7_isWord_5 : decode cX7_isWord 5 = .ok (.if_icmp .ne 19, 3) := by decide +kernel
theorem dX7_isWord_8 : decode cX7_isWord 8 = .ok (.aload_n 0, 1) := by decide +kernel
theorem dX7_isWord_9 : decode cX7_isWord 9 = .ok (.getfield 26, 3) := by decide +kernel
theorem dX7_isWord_12 : decode cX7_isWord 12 = .ok (.aload_n 0, 1) := by decide +kernel
theorem dX7_isWord_13 : decode cX7_isWord 13 = .ok (.getfield 20, 3) := by decide +kernel
theorem dX7_isWord_16 : decode cX7_isWord 16 = .ok (.isub, 1) := by decide +kernel
theorem dX7_isWord_17 : decode cX7_isWord 17 = .ok (.aload_n 1, 1) := by decide +kernel
theorem dX7_isWord_18 : decode cX7_isWord 18 = .ok (.invokevirtual 45, 3) := by decide +kernel
theorem dX7_isWord_21 : decode cX7_isWord 21 = .ok (.if_icmp .eq 5, 3) := by decide +kernel
theorem dX7_isWord_24 : decode cX7_isWord 24 = .ok (.iconst 0, 1) := by decide +kernel
theorem dX7_isWord_25 : decode cX7_isWord 25 = .ok (.ireturn, 1) := by decide +kernel
theorem dX7_isWord_26 : decode cX7_isWord 26 = .ok (.iconst 0, 1) := by decide +kernel
theorem dX7_isWord_27 : decode cX7_isWord 27 = .ok (.istore_n 2, 1) := by decide +kernel
theorem dX7_isWord_28 : decode cX7_isWord 28 = .ok (.iload_n 2, 1) := by decide +kernel
theorem dX7_isWord_29 : decode cX7_isWord 29 = .ok (.aload_n 1, 1) := by decide +kernel
theorem dX7_isWord_30 : decode cX7_isWord 30 = .ok (.invokevirtual 45, 3) := by decide +kernel
theorem dX7_isWord_33 : decode cX7_isWord 33 = .ok (.if_icmp .ge 30, 3) := by decide +kernel
theorem dX7_isWord_36 : decode cX7_isWord 36 = .ok (.aload_n 0, 1) := by decide +kernel
theorem dX7_isWord_37 : decode cX7_isWord 37 = .ok (.getfield 9, 3) := by decide +kernel
theorem dX7_isWord_40 : decode cX7_isWord 40 = .ok (.aload_n 0, 1) := by decide +kernel
theorem dX7_isWord_41 : decode cX7_isWord 41 = .ok (.getfield 20, 3) := by decide +kernel
theorem dX7_isWord_44 : decode cX7_isWord 44 = .ok (.iload_n 2, 1) := by decide +kernel
theorem dX7_isWord_45 : decode cX7_isWord 45 = .ok (.iadd, 1) := by decide +kernel
theorem dX7_isWord_46 : decode cX7_isWord 46 = .ok (.iaload, 1) := by decide +kernel
theorem dX7_isWord_47 : decode cX7_isWord 47 = .ok (.aload_n 1, 1) := by decide +kernel
theorem dX7_isWord_48 : decode cX7_isWord 48 = .ok (.iload_n 2, 1) := by decide +kernel
theorem dX7_isWord_49 : decode cX7_isWord 49 = .ok (.invokevirtual 50, 3) := by decide +kernel
theorem dX7_isWord_52 : decode cX7_isWord 52 = .ok (.if_icmp .eq 5, 3) := by decide +kernel
theorem dX7_isWord_55 : decode cX7_isWord 55 = .ok (.iconst 0, 1) := by decide +kernel
theorem dX7_isWord_56 : decode cX7_isWord 56 = .ok (.ireturn, 1) := by decide +kernel
theorem dX7_isWord_57 : decode cX7_isWord 57 = .ok (.iinc 2 1, 3) := by decide +kernel
theorem dX7_isWord_60 : decode cX7_isWord 60 = .ok (.goto (-32), 3) := by decide +kernel
theorem dX7_isWord_63 : decode cX7_isWord 63 = .ok (.iconst 1, 1) := by decide +kernel
theorem dX7_isWord_64 : decode cX7_isWord 64 = .ok (.ireturn, 1) := by decide +kernel
theorem dX8_init_0 : decode cX8_init 0 = .ok (.aload_n 0, 1) := by decide +kernel
theorem dX8_init_1 : decode cX8_init 1 = .ok (.invokespecial 3, 3) := by decide +kernel
theorem dX8_init_4 : decode cX8_init 4 = .ok (.aload_n 0, 1) := by decide +kernel
theorem dX8_init_5 : decode cX8_init 5 = .ok (.bipush 12, 2) := by decide +kernel
theorem dX8_init_7 : decode cX8_init 7 = .ok (.newarray .int, 2) := by decide +kernel
theorem dX8_init_9 : decode cX8_init 9 = .ok (.putfield 9, 3) := by decide +kernel
theorem dX8_init_12 : decode cX8_init 12 = .ok (.aload_n 0, 1) := by decide +kernel
theorem dX8_init_13 : decode cX8_init 13 = .ok (.bipush 12, 2) := by decide +kernel
theorem dX8_init_15 : decode cX8_init 15 = .ok (.newarray .int, 2) := by decide +kernel
theorem dX8_init_17 : decode cX8_init 17 = .ok (.putfield 15, 3) := by decide +kernel
theorem dX8_init_20 : decode cX8_init 20 = .ok (.aload_n 0, 1) := by decide +kernel
theorem dX8_init_21 : decode cX8_init 21 = .ok (.bipush 12, 2) := by decide +kernel
theorem dX8_init_23 : decode cX8_init 23 = .ok (.newarray .int, 2) := by decide +kernel
theorem dX8_init_25 : decode cX8_init 25 = .ok (.putfield 18, 3) := by decide +kernel
theorem dX8_init_28 : decode cX8_init 28 = .ok (.aload_n 0, 1) := by decide +kernel
theorem dX8_init_29 : decode cX8_init 29 = .ok (.bipush 12, 2) := by decide +kernel
theorem dX8_init_31 : decode cX8_init 31 = .ok (.newarray .int, 2) := by decide +kernel
theorem dX8_init_33 : decode cX8_init 33 = .ok (.putfield 21, 3) := by decide +kernel
theorem dX8_init_36 : decode cX8_init 36 = .ok (.aload_n 0, 1) := by decide +kernel
theorem dX8_init_37 : decode cX8_init 37 = .ok (.bipush 12, 2) := by decide +kernel
theorem dX8_init_39 : decode cX8_init 39 = .ok (.newarray .int, 2) := by decide +kernel
theorem dX8_init_41 : decode cX8_init 41 = .ok (.putfield 24, 3) := by decide +kernel
theorem dX8_init_44 : decode cX8_init 44 = .ok (.aload_n 0, 1) := by decide +kernel
theorem dX8_init_45 : decode cX8_init 45 = .ok (.iconst 0, 1) := by decide +kernel
theorem dX8_init_46 : decode cX8_init 46 = .ok (.putfield 27, 3) := by decide +kernel
theorem dX8_init_49 : decode cX8_init 49 = .ok (.return_, 1) := by decide +kernel
theorem dX8_isFull_0 : decode cX8_isFull 0 = .ok (.aload_n 0, 1) := by decide +kernel
theorem dX8_isFull_1 : decode cX8_isFull 1 = .ok (.getfield 27, 3) := by decide +kernel
theorem dX8_isFull_4 : decode cX8_isFull 4 = .ok (.bipush 12, 2) := by decide +kernel
theorem dX8_isFull_6 : decode cX8_isFull 6 = .ok (.if_icmp .lt 7, 3) := by decide +kernel
theorem dX8_isFull_9 : decode cX8_isFull 9 = .ok (.iconst 1, 1) := by decide +kernel
theorem dX8_isFull_10 : decode cX8_isFull 10 = .ok (.goto 4, 3) := by decide +kernel
theorem dX8_isFull_13 : decode cX8_isFull 13 = .ok (.iconst 0, 1) := by decide +kernel
theorem dX8_isFull_14 : decode cX8_isFull 14 = .ok (.ireturn, 1) := by decide +kernel
theorem dX8_add_0 : decode cX8_add 0 = .ok (.aload_n 0, 1) := by decide +kernel
theorem dX8_add_1 : decode cX8_add 1 = .ok (.getfield 9, 3) := by decide +kernel
theorem dX8_add_4 : decode cX8_add 4 = .ok (.aload_n 0, 1) := by decide +kernel
theorem dX8_add_5 : decode cX8_add 5 = .ok (.getfield 27, 3) := by decide +kernel
theorem dX8_add_8 : decode cX8_add 8 = .ok (.iload_n 1, 1) := by decide +kernel
theorem dX8_add_9 : decode cX8_add 9 = .ok (.iastore, 1) := by decide +kernel
theorem dX8_add_10 : decode cX8_add 10 = .ok (.aload_n 0, 1) := by decide +kernel
theorem dX8_add_11 : decode cX8_add 11 = .ok (.getfield 15, 3) := by decide +kernel
theorem dX8_add_14 : decode cX8_add 14 = .ok (.aload_n 0, 1) := by decide +kernel
theorem dX8_add_15 : decode cX8_add 15 = .ok (.getfield 27, 3) := by decide +kernel
theorem dX8_add_18 : decode cX8_add 18 = .ok (.iload_n 2, 1) := by decide +kernel
theorem dX8_add_19 : decode cX8_add 19 = .ok (.iastore, 1) := by decide +kernel
theorem dX8_add_20 : decode cX8_add 20 = .ok (.aload_n 0, 1) := by decide +kernel
theorem dX8_add_21 : decode cX8_add 21 = .ok (.getfield 18, 3) := by decide +kernel
theorem dX8_add_24 : decode cX8_add 24 = .ok (.aload_n 0, 1) := by decide +kernel
theorem dX8_add_25 : decode cX8_add 25 = .ok (.getfield 27, 3) := by decide +kernel
theorem dX8_add_28 : decode cX8_add 28 = .ok (.iload_n 3, 1) := by decide +kernel
theorem dX8_add_29 : decode cX8_add 29 = .ok (.iastore, 1) := by decide +kernel
theorem dX8_add_30 : decode cX8_add 30 = .ok (.aload_n 0, 1) := by decide +kernel
theorem dX8_add_31 : decode cX8_add 31 = .ok (.getfield 21, 3) := by decide +kernel
theorem dX8_add_34 : decode cX8_add 34 = .ok (.aload_n 0, 1) := by decide +kernel
theorem dX8_add_35 : decode cX8_add 35 = .ok (.getfield 27, 3) := by decide +kernel
theorem dX8_add_38 : decode cX8_add 38 = .ok (.iconst 0, 1) := by decide +kernel
theorem dX8_add_39 : decode cX8_add 39 = .ok (.iastore, 1) := by decide +kernel
theorem dX8_add_40 : decode cX8_add 40 = .ok (.aload_n 0, 1) := by decide +kernel
theorem dX8_add_41 : decode cX8_add 41 = .ok (.getfield 24, 3) := by decide +kernel
theorem dX8_add_44 : decode cX8_add 44 = .ok (.aload_n 0, 1) := by decide +kernel
theorem dX8_add_45 : decode cX8_add 45 = .ok (.getfield 27, 3) := by decide +kernel
theorem dX8_add_48 : decode cX8_add 48 = .ok (.iconst 0, 1) := by decide +kernel
theorem dX8_add_49 : decode cX8_add 49 = .ok (.iastore, 1) := by decide +kernel
theorem dX8_add_50 : decode cX8_add 50 = .ok (.aload_n 0, 1) := by decide +kernel
theorem dX8_add_51 : decode cX8_add 51 = .ok (.dup, 1) := by decide +kernel
theorem dX8_add_52 : decode cX8_add 52 = .ok (.getfield 27, 3) := by decide +kernel
theorem dX8_add_55 : decode cX8_add 55 = .ok (.iconst 1, 1) := by decide +kernel
theorem dX8_add_56 : decode cX8_add 56 = .ok (.iadd, 1) := by decide +kernel
theorem dX8_add_57 : decode cX8_add 57 = .ok (.putfield 27, 3) := by decide +kernel
theorem dX8_add_60 : decode cX8_add 60 = .ok (.aload_n 0, 1) := by decide +kernel
theorem dX8_add_61 : decode cX8_add 61 = .ok (.getfield 27, 3) := by decide +kernel
theorem dX8_add_64 : decode cX8_add 64 = .ok (.iconst 1, 1) := by decide +kernel
theorem dX8_add_65 : decode cX8_add 65 = .ok (.isub, 1) := by decide +kernel
theorem dX8_add_66 : decode cX8_add 66 = .ok (.ireturn, 1) := by decide +kernel
theorem dX8_row_0 : decode cX8_row 0 = .ok (.iload_n 1, 1) := by decide +kernel
theorem dX8_row_1 : decode cX8_row 1 = .ok (.tableswitch 51 0 3 #[31, 36, 41, 46], 31) := by decide +kernel
theorem dX8_row_32 : decode cX8_row 32 = .ok (.aload_n 0, 1) := by decide +kernel
theorem dX8_row_33 : decode cX8_row 33 = .ok (.getfield 9, 3) := by decide +kernel
theorem dX8_row_36 : decode cX8_row 36 = .ok (.areturn, 1) := by decide +kernel
theorem dX8_row_37 : decode cX8_row 37 = .ok (.aload_n 0, 1) := by decide +kernel
theorem dX8_row_38 : decode cX8_row 38 = .ok (.getfield 15, 3) := by decide +kernel
theorem dX8_row_41 : decode cX8_row 41 = .ok (.areturn, 1) := by decide +kernel
theorem dX8_row_42 : decode cX8_row 42 = .ok (.aload_n 0, 1) := by decide +kernel
theorem dX8_row_43 : decode cX8_row 43 = .ok (.getfield 18, 3) := by decide +kernel
theorem dX8_row_46 : decode cX8_row 46 = .ok (.areturn, 1) := by decide +kernel
theorem dX8_row_47 : decode cX8_row 47 = .ok (.aload_n 0, 1) := by decide +kernel
theorem dX8_row_48 : decode cX8_row 48 = .ok (.getfield 21, 3) := by decide +kernel
theorem dX8_row_51 : decode cX8_row 51 = .ok (.areturn, 1) := by decide +kernel
theorem dX8_row_52 : decode cX8_row 52 = .ok (.aload_n 0, 1) := by decide +kernel
theorem dX8_row_53 : decode cX8_row 53 = .ok (.getfield 24, 3) := by decide +kernel
theorem dX8_row_56 : decode cX8_row 56 = .ok (.areturn, 1) := by decide +kernel
theorem dX8_mayChange_0 : decode cX8_mayChange 0 = .ok (.iload_n 1, 1) := by decide +kernel
theorem dX8_mayChange_1 : decode cX8_mayChange 1 = .ok (.iconst 1, 1) := by decide +kernel
theorem dX8_mayChange_2 : decode cX8_mayChange 2 = .ok (.if_icmp .lt 28, 3) := by decide +kernel
theorem dX8_mayChange_5 : decode cX8_mayChange 5 = .ok (.iload_n 1, 1) := by decide +kernel
theorem dX8_mayChange_6 : decode cX8_mayChange 6 = .ok (.getstatic 31, 3) := by decide +kernel
theorem dX8_mayChange_9 : decode cX8_mayChange 9 = .ok (.arraylength, 1) := by decide +kernel
theorem dX8_mayChange_10 : decode cX8_mayChange 10 = .ok (.if_icmp .ge 20, 3) := by decide +kernel
theorem dX8_mayChange_13 : decode cX8_mayChange 13 = .ok (.iload_n 2, 1) := by decide +kernel
theorem dX8_mayChange_14 : decode cX8_mayChange 14 = .ok (.iconst 0, 1) := by decide +kernel
theorem dX8_mayChange_15 : decode cX8_mayChange 15 = .ok (.getstatic 31, 3) := by decide +kernel
theorem dX8_mayChange_18 : decode cX8_mayChange 18 = .ok (.iload_n 1, 1) := by decide +kernel
theorem dX8_mayChange_19 : decode cX8_mayChange 19 = .ok (.iaload, 1) := by decide +kernel
theorem dX8_mayChange_20 : decode cX8_mayChange 20 = .ok (.invokestatic 34, 3) := by decide +kernel
theorem dX8_mayChange_23 : decode cX8_mayChange 23 = .ok (.ifCond .eq 7, 3) := by decide +kernel
theorem dX8_mayChange_26 : decode cX8_mayChange 26 = .ok (.iconst 1, 1) := by decide +kernel
theorem dX8_mayChange_27 : decode cX8_mayChange 27 = .ok (.goto 4, 3) := by decide +kernel
theorem dX8_mayChange_30 : decode cX8_mayChange 30 = .ok (.iconst 0, 1) := by decide +kernel
theorem dX8_mayChange_31 : decode cX8_mayChange 31 = .ok (.ireturn, 1) := by decide +kernel
theorem dX8_howManyOn_0 : decode cX8_howManyOn 0 = .ok (.iconst 0, 1) := by decide +kernel
theorem dX8_howManyOn_1 : decode cX8_howManyOn 1 = .ok (.istore_n 2, 1) := by decide +kernel
theorem dX8_howManyOn_2 : decode cX8_howManyOn 2 = .ok (.iconst 0, 1) := by decide +kernel
theorem dX8_howManyOn_3 : decode cX8_howManyOn 3 = .ok (.istore_n 3, 1) := by decide +kernel
theorem dX8_howManyOn_4 : decode cX8_howManyOn 4 = .ok (.iload_n 3, 1) := by decide +kernel
theorem dX8_howManyOn_5 : decode cX8_howManyOn 5 = .ok (.aload_n 0, 1) := by decide +kernel
theorem dX8_howManyOn_6 : decode cX8_howManyOn 6 = .ok (.getfield 27, 3) := by decide +kernel
theorem dX8_howManyOn_9 : decode cX8_howManyOn 9 = .ok (.if_icmp .ge 22, 3) := by decide +kernel
theorem dX8_howManyOn_12 : decode cX8_howManyOn 12 = .ok (.aload_n 0, 1) := by decide +kernel
theorem dX8_howManyOn_13 : decode cX8_howManyOn 13 = .ok (.getfield 18, 3) := by decide +kernel
theorem dX8_howManyOn_16 : decode cX8_howManyOn 16 = .ok (.iload_n 3, 1) := by decide +kernel
theorem dX8_howManyOn_17 : decode cX8_howManyOn 17 = .ok (.iaload, 1) := by decide +kernel
theorem dX8_howManyOn_18 : decode cX8_howManyOn 18 = .ok (.iload_n 1, 1) := by decide +kernel
theorem dX8_howManyOn_19 : decode cX8_howManyOn 19 = .ok (.if_icmp .ne 6, 3) := by decide +kernel
theorem dX8_howManyOn_22 : decode cX8_howManyOn 22 = .ok (.iinc 2 1, 3) := by decide +kernel
theorem dX8_howManyOn_25 : decode cX8_howManyOn 25 = .ok (.iinc 3 1, 3) := by decide +kernel
theorem dX8_howManyOn_28 : decode cX8_howManyOn 28 = .ok (.goto (-24), 3) := by decide +kernel
theorem dX8_howManyOn_31 : decode cX8_howManyOn 31 = .ok (.iload_n 2, 1) := by decide +kernel
theorem dX8_howManyOn_32 : decode cX8_howManyOn 32 = .ok (.ireturn, 1) := by decide +kernel
theorem dX8_takeFrom_0 : decode cX8_takeFrom 0 = .ok (.aload_n 0, 1) := by decide +kernel
theorem dX8_takeFrom_1 : decode cX8_takeFrom 1 = .ok (.aload_n 1, 1) := by decide +kernel
theorem dX8_takeFrom_2 : decode cX8_takeFrom 2 = .ok (.getfield 27, 3) := by decide +kernel
theorem dX8_takeFrom_5 : decode cX8_takeFrom 5 = .ok (.putfield 27, 3) := by decide +kernel
theorem dX8_takeFrom_8 : decode cX8_takeFrom 8 = .ok (.aload_n 1, 1) := by decide +kernel
theorem dX8_takeFrom_9 : decode cX8_takeFrom 9 = .ok (.getfield 9, 3) := by decide +kernel
theorem dX8_takeFrom_12 : decode cX8_takeFrom 12 = .ok (.iconst 0, 1) := by decide +kernel
theorem dX8_takeFrom_13 : decode cX8_takeFrom 13 = .ok (.aload_n 0, 1) := by decide +kernel
theorem dX8_takeFrom_14 : decode cX8_takeFrom 14 = .ok (.getfield 9, 3) := by decide +kernel
theorem dX8_takeFrom_17 : decode cX8_takeFrom 17 = .ok (.iconst 0, 1) := by decide +kernel
theorem dX8_takeFrom_18 : decode cX8_takeFrom 18 = .ok (.bipush 12, 2) := by decide +kernel
theorem dX8_takeFrom_20 : decode cX8_takeFrom 20 = .ok (.invokestatic 38, 3) := by decide +kernel
theorem dX8_takeFrom_23 : decode cX8_takeFrom 23 = .ok (.aload_n 1, 1) := by decide +kernel
theorem dX8_takeFrom_24 : decode cX8_takeFrom 24 = .ok (.getfield 15, 3) := by decide +kernel
theorem dX8_takeFrom_27 : decode cX8_takeFrom 27 = .ok (.iconst 0, 1) := by decide +kernel
theorem dX8_takeFrom_28 : decode cX8_takeFrom 28 = .ok (.aload_n 0, 1) := by decide +kernel
theorem dX8_takeFrom_29 : decode cX8_takeFrom 29 = .ok (.getfield 15, 3) := by decide +kernel
theorem dX8_takeFrom_32 : decode cX8_takeFrom 32 = .ok (.iconst 0, 1) := by decide +kernel
theorem dX8_takeFrom_33 : decode cX8_takeFrom 33 = .ok (.bipush 12, 2) := by decide +kernel
theorem dX8_takeFrom_35 : decode cX8_takeFrom 35 = .ok (.invokestatic 38, 3) := by decide +kernel
theorem dX8_takeFrom_38 : decode cX8_takeFrom 38 = .ok (.aload_n 1, 1) := by decide +kernel
theorem dX8_takeFrom_39 : decode cX8_takeFrom 39 = .ok (.getfield 18, 3) := by decide +kernel
theorem dX8_takeFrom_42 : decode cX8_takeFrom 42 = .ok (.iconst 0, 1) := by decide +kernel
theorem dX8_takeFrom_43 : decode cX8_takeFrom 43 = .ok (.aload_n 0, 1) := by decide +kernel
theorem dX8_takeFrom_44 : decode cX8_takeFrom 44 = .ok (.getfield 18, 3) := by decide +kernel
theorem dX8_takeFrom_47 : decode cX8_takeFrom 47 = .ok (.iconst 0, 1) := by decide +kernel
theorem dX8_takeFrom_48 : decode cX8_takeFrom 48 = .ok (.bipush 12, 2) := by decide +kernel
theorem dX8_takeFrom_50 : decode cX8_takeFrom 50 = .ok (.invokestatic 38, 3) := by decide +kernel
theorem dX8_takeFrom_53 : decode cX8_takeFrom 53 = .ok (.aload_n 1, 1) := by decide +kernel
theorem dX8_takeFrom_54 : decode cX8_takeFrom 54 = .ok (.getfield 21, 3) := by decide +kernel
theorem dX8_takeFrom_57 : decode cX8_takeFrom 57 = .ok (.iconst 0, 1) := by decide +kernel
theorem dX8_takeFrom_58 : decode cX8_takeFrom 58 = .ok (.aload_n 0, 1) := by decide +kernel
theorem dX8_takeFrom_59 : decode cX8_takeFrom 59 = .ok (.getfield 21, 3) := by decide +kernel
theorem dX8_takeFrom_62 : decode cX8_takeFrom 62 = .ok (.iconst 0, 1) := by decide +kernel
theorem dX8_takeFrom_63 : decode cX8_takeFrom 63 = .ok (.bipush 12, 2) := by decide +kernel
theorem dX8_takeFrom_65 : decode cX8_takeFrom 65 = .ok (.invokestatic 38, 3) := by decide +kernel
theorem dX8_takeFrom_68 : decode cX8_takeFrom 68 = .ok (.aload_n 1, 1) := by decide +kernel
theorem dX8_takeFrom_69 : decode cX8_takeFrom 69 = .ok (.getfield 24, 3) := by decide +kernel
theorem dX8_takeFrom_72 : decode cX8_takeFrom 72 = .ok (.iconst 0, 1) := by decide +kernel
theorem dX8_takeFrom_73 : decode cX8_takeFrom 73 = .ok (.aload_n 0, 1) := by decide +kernel
theorem dX8_takeFrom_74 : decode cX8_takeFrom 74 = .ok (.getfield 24, 3) := by decide +kernel
theorem dX8_takeFrom_77 : decode cX8_takeFrom 77 = .ok (.iconst 0, 1) := by decide +kernel
theorem dX8_takeFrom_78 : decode cX8_takeFrom 78 = .ok (.bipush 12, 2) := by decide +kernel
theorem dX8_takeFrom_80 : decode cX8_takeFrom 80 = .ok (.invokestatic 38, 3) := by decide +kernel
theorem dX8_takeFrom_83 : decode cX8_takeFrom 83 = .ok (.return_, 1) := by decide +kernel
