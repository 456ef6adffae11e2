theorem dX12_told_0 : decode cX12_told 0 = .ok (.lload_n 0, 1) := by decide +kernel
theorem dX12_told_1 : decode cX12_told 1 = .ok (.lload_n 2, 1) := by decide +kernel
theorem dX12_told_2 : decode cX12_told 2 = .ok (.invokestatic 375, 3) := by decide +kernel
theorem dX12_told_5 : decode cX12_told 5 = .ok (.lstore 5, 2) := by decide +kernel
theorem dX12_told_7 : decode cX12_told 7 = .ok (.iload 4, 2) := by decide +kernel
theorem dX12_told_9 : decode cX12_told 9 = .ok (.ifCond .ne 10, 3) := by decide +kernel
theorem dX12_told_12 : decode cX12_told 12 = .ok (.lload_n 0, 1) := by decide +kernel
theorem dX12_told_13 : decode cX12_told 13 = .ok (.lload 5, 2) := by decide +kernel
theorem dX12_told_15 : decode cX12_told 15 = .ok (.ldiv, 1) := by decide +kernel
theorem dX12_told_16 : decode cX12_told 16 = .ok (.goto 7, 3) := by decide +kernel
theorem dX12_told_19 : decode cX12_told 19 = .ok (.lload_n 2, 1) := by decide +kernel
theorem dX12_told_20 : decode cX12_told 20 = .ok (.lload 5, 2) := by decide +kernel
theorem dX12_told_22 : decode cX12_told 22 = .ok (.ldiv, 1) := by decide +kernel
theorem dX12_told_23 : decode cX12_told 23 = .ok (.lreturn, 1) := by decide +kernel
theorem dX12_isLess_0 : decode cX12_isLess 0 = .ok (.lload_n 0, 1) := by decide +kernel
theorem dX12_isLess_1 : decode cX12_isLess 1 = .ok (.lstore 8, 2) := by decide +kernel
theorem dX12_isLess_3 : decode cX12_isLess 3 = .ok (.lload_n 2, 1) := by decide +kernel
theorem dX12_isLess_4 : decode cX12_isLess 4 = .ok (.lstore 10, 2) := by decide +kernel
theorem dX12_isLess_6 : decode cX12_isLess 6 = .ok (.lload 4, 2) := by decide +kernel
theorem dX12_isLess_8 : decode cX12_isLess 8 = .ok (.lstore 12, 2) := by decide +kernel
theorem dX12_isLess_10 : decode cX12_isLess 10 = .ok (.lload 6, 2) := by decide +kernel
theorem dX12_isLess_12 : decode cX12_isLess 12 = .ok (.lstore 14, 2) := by decide +kernel
theorem dX12_isLess_14 : decode cX12_isLess 14 = .ok (.iconst 0, 1) := by decide +kernel
theorem dX12_isLess_15 : decode cX12_isLess 15 = .ok (.istore 16, 2) := by decide +kernel
theorem dX12_isLess_17 : decode cX12_isLess 17 = .ok (.lload 8, 2) := by decide +kernel
theorem dX12_isLess_19 : decode cX12_isLess 19 = .ok (.lload 10, 2) := by decide +kernel
theorem dX12_isLess_21 : decode cX12_isLess 21 = .ok (.ldiv, 1) := by decide +kernel
theorem dX12_isLess_22 : decode cX12_isLess 22 = .ok (.lload 12, 2) := by decide +kernel
theorem dX12_isLess_24 : decode cX12_isLess 24 = .ok (.lload 14, 2) := by decide +kernel
theorem dX12_isLess_26 : decode cX12_isLess 26 = .ok (.ldiv, 1) := by decide +kernel
theorem dX12_isLess_27 : decode cX12_isLess 27 = .ok (.lcmp, 1) := by decide +kernel
theorem dX12_isLess_28 : decode cX12_isLess 28 = .ok (.ifCond .ne 109, 3) := by decide +kernel
theorem dX12_isLess_31 : decode cX12_isLess 31 = .ok (.lload 8, 2) := by decide +kernel
theorem dX12_isLess_33 : decode cX12_isLess 33 = .ok (.lload 10, 2) := by decide +kernel
theorem dX12_isLess_35 : decode cX12_isLess 35 = .ok (.lrem, 1) := by decide +kernel
theorem dX12_isLess_36 : decode cX12_isLess 36 = .ok (.lstore 17, 2) := by decide +kernel
theorem dX12_isLess_38 : decode cX12_isLess 38 = .ok (.lload 12, 2) := by decide +kernel
theorem dX12_isLess_40 : decode cX12_isLess 40 = .ok (.lload 14, 2) := by decide +kernel
theorem dX12_isLess_42 : decode cX12_isLess 42 = .ok (.lrem, 1) := by decide +kernel
theorem dX12_isLess_43 : decode cX12_isLess 43 = .ok (.lstore 19, 2) := by decide +kernel
theorem dX12_isLess_45 : decode cX12_isLess 45 = .ok (.lload 17, 2) := by decide +kernel
theorem dX12_isLess_47 : decode cX12_isLess 47 = .ok (.lconst 0, 1) := by decide +kernel
theorem dX12_isLess_48 : decode cX12_isLess 48 = .ok (.lcmp, 1) := by decide +kernel
theorem dX12_isLess_49 : decode cX12_isLess 49 = .ok (.ifCond .eq 10, 3) := by decide +kernel
theorem dX12_isLess_52 : decode cX12_isLess 52 = .ok (.lload 19, 2) := by decide +kernel
theorem dX12_isLess_54 : decode cX12_isLess 54 = .ok (.lconst 0, 1) := by decide +kernel
theorem dX12_isLess_55 : decode cX12_isLess 55 = .ok (.lcmp, 1) := by decide +kernel
theorem dX12_isLess_56 : decode cX12_isLess 56 = .ok (.ifCond .ne 50, 3) := by decide +kernel
theorem dX12_isLess_59 : decode cX12_isLess 59 = .ok (.iload 16, 2) := by decide +kernel
theorem dX12_isLess_61 : decode cX12_isLess 61 = .ok (.ifCond .eq 25, 3) := by decide +kernel
theorem dX12_isLess_64 : decode cX12_isLess 64 = .ok (.lload 19, 2) := by decide +kernel
theorem dX12_isLess_66 : decode cX12_isLess 66 = .ok (.lconst 0, 1) := by decide +kernel
theorem dX12_isLess_67 : decode cX12_isLess 67 = .ok (.lcmp, 1) := by decide +kernel
theorem dX12_isLess_68 : decode cX12_isLess 68 = .ok (.ifCond .ne 14, 3) := by decide +kernel
theorem dX12_isLess_71 : decode cX12_isLess 71 = .ok (.lload 17, 2) := by decide +kernel
theorem dX12_isLess_73 : decode cX12_isLess 73 = .ok (.lconst 0, 1) := by decide +kernel
theorem dX12_isLess_74 : decode cX12_isLess 74 = .ok (.lcmp, 1) := by decide +kernel
theorem dX12_isLess_75 : decode cX12_isLess 75 = .ok (.ifCond .eq 7, 3) := by decide +kernel
theorem dX12_isLess_78 : decode cX12_isLess 78 = .ok (.iconst 1, 1) := by decide +kernel
theorem dX12_isLess_79 : decode cX12_isLess 79 = .ok (.goto 26, 3) := by decide +kernel
theorem dX12_isLess_82 : decode cX12_isLess 82 = .ok (.iconst 0, 1) := by decide +kernel
theorem dX12_isLess_83 : decode cX12_isLess 83 = .ok (.goto 22, 3) := by decide +kernel
theorem dX12_isLess_86 : decode cX12_isLess 86 = .ok (.lload 17, 2) := by decide +kernel
theorem dX12_isLess_88 : decode cX12_isLess 88 = .ok (.lconst 0, 1) := by decide +kernel
theorem dX12_isLess_89 : decode cX12_isLess 89 = .ok (.lcmp, 1) := by decide +kernel
theorem dX12_isLess_90 : decode cX12_isLess 90 = .ok (.ifCond .ne 14, 3) := by decide +kernel
theorem dX12_isLess_93 : decode cX12_isLess 93 = .ok (.lload 19, 2) := by decide +kernel
theorem dX12_isLess_95 : decode cX12_isLess 95 = .ok (.lconst 0, 1) := by decide +kernel
theorem dX12_isLess_96 : decode cX12_isLess 96 = .ok (.lcmp, 1) := by decide +kernel
theorem dX12_isLess_97 : decode cX12_isLess 97 = .ok (.ifCond .eq 7, 3) := by decide +kernel
theorem dX12_isLess_100 : decode cX12_isLess 100 = .ok (.iconst 1, 1) := by decide +kernel
theorem dX12_isLess_101 : decode cX12_isLess 101 = .ok (.goto 4, 3) := by decide +kernel
theorem dX12_isLess_104 : decode cX12_isLess 104 = .ok (.iconst 0, 1) := by decide +kernel
theorem dX12_isLess_105 : decode cX12_isLess 105 = .ok (.ireturn, 1) := by decide +kernel
theorem dX12_isLess_106 : decode cX12_isLess 106 = .ok (.lload 10, 2) := by decide +kernel
theorem dX12_isLess_108 : decode cX12_isLess 108 = .ok (.lstore 8, 2) := by decide +kernel
theorem dX12_isLess_110 : decode cX12_isLess 110 = .ok (.lload 17, 2) := by decide +kernel
theorem dX12_isLess_112 : decode cX12_isLess 112 = .ok (.lstore 10, 2) := by decide +kernel
theorem dX12_isLess_114 : decode cX12_isLess 114 = .ok (.lload 14, 2) := by decide +kernel
theorem dX12_isLess_116 : decode cX12_isLess 116 = .ok (.lstore 12, 2) := by decide +kernel
theorem dX12_isLess_118 : decode cX12_isLess 118 = .ok (.lload 19, 2) := by decide +kernel
theorem dX12_isLess_120 : decode cX12_isLess 120 = .ok (.lstore 14, 2) := by decide +kernel
theorem dX12_isLess_122 : decode cX12_isLess 122 = .ok (.iload 16, 2) := by decide +kernel
theorem dX12_isLess_124 : decode cX12_isLess 124 = .ok (.ifCond .ne 7, 3) := by decide +kernel
theorem dX12_isLess_127 : decode cX12_isLess 127 = .ok (.iconst 1, 1) := by decide +kernel
theorem dX12_isLess_128 : decode cX12_isLess 128 = .ok (.goto 4, 3) := by decide +kernel
theorem dX12_isLess_131 : decode cX12_isLess 131 = .ok (.iconst 0, 1) := by decide +kernel
theorem dX12_isLess_132 : decode cX12_isLess 132 = .ok (.istore 16, 2) := by decide +kernel
theorem dX12_isLess_134 : decode cX12_isLess 134 = .ok (.goto (-117), 3) := by decide +kernel
theorem dX12_isLess_137 : decode cX12_isLess 137 = .ok (.iload 16, 2) := by decide +kernel
theorem dX12_isLess_139 : decode cX12_isLess 139 = .ok (.ifCond .eq 25, 3) := by decide +kernel
theorem dX12_isLess_142 : decode cX12_isLess 142 = .ok (.lload 8, 2) := by decide +kernel
theorem dX12_isLess_144 : decode cX12_isLess 144 = .ok (.lload 10, 2) := by decide +kernel
theorem dX12_isLess_146 : decode cX12_isLess 146 = .ok (.ldiv, 1) := by decide +kernel
theorem dX12_isLess_147 : decode cX12_isLess 147 = .ok (.lload 12, 2) := by decide +kernel
theorem dX12_isLess_149 : decode cX12_isLess 149 = .ok (.lload 14, 2) := by decide +kernel
theorem dX12_isLess_151 : decode cX12_isLess 151 = .ok (.ldiv, 1) := by decide +kernel
theorem dX12_isLess_152 : decode cX12_isLess 152 = .ok (.lcmp, 1) := by decide +kernel
theorem dX12_isLess_153 : decode cX12_isLess 153 = .ok (.ifCond .le 7, 3) := by decide +kernel
theorem dX12_isLess_156 : decode cX12_isLess 156 = .ok (.iconst 1, 1) := by decide +kernel
theorem dX12_isLess_157 : decode cX12_isLess 157 = .ok (.goto 26, 3) := by decide +kernel
theorem dX12_isLess_160 : decode cX12_isLess 160 = .ok (.iconst 0, 1) := by decide +kernel
theorem dX12_isLess_161 : decode cX12_isLess 161 = .ok (.goto 22, 3) := by decide +kernel
theorem dX12_isLess_164 : decode cX12_isLess 164 = .ok (.lload 8, 2) := by decide +kernel
theorem dX12_isLess_166 : decode cX12_isLess 166 = .ok (.lload 10, 2) := by decide +kernel
theorem dX12_isLess_168 : decode cX12_isLess 168 = .ok (.ldiv, 1) := by decide +kernel
theorem dX12_isLess_169 : decode cX12_isLess 169 = .ok (.lload 12, 2) := by decide +kernel
theorem dX12_isLess_171 : decode cX12_isLess 171 = .ok (.lload 14, 2) := by decide +kernel
theorem dX12_isLess_173 : decode cX12_isLess 173 = .ok (.ldiv, 1) := by decide +kernel
theorem dX12_isLess_174 : decode cX12_isLess 174 = .ok (.lcmp, 1) := by decide +kernel
theorem dX12_isLess_175 : decode cX12_isLess 175 = .ok (.ifCond .ge 7, 3) := by decide +kernel
theorem dX12_isLess_178 : decode cX12_isLess 178 = .ok (.iconst 1, 1) := by decide +kernel
theorem dX12_isLess_179 : decode cX12_isLess 179 = .ok (.goto 4, 3) := by decide +kernel
theorem dX12_isLess_182 : decode cX12_isLess 182 = .ok (.iconst 0, 1) := by decide +kernel
theorem dX12_isLess_183 : decode cX12_isLess 183 = .ok (.ireturn, 1) := by decide +kernel
theorem dX12_asks_0 : decode cX12_asks 0 = .ok (.aload_n 0, 1) := by decide +kernel
theorem dX12_asks_1 : decode cX12_asks 1 = .ok (.aload_n 1, 1) := by decide +kernel
theorem dX12_asks_2 : decode cX12_asks 2 = .ok (.aload_n 1, 1) := by decide +kernel
theorem dX12_asks_3 : decode cX12_asks 3 = .ok (.aload_n 0, 1) := by decide +kernel
theorem dX12_asks_4 : decode cX12_asks 4 = .ok (.getfield 189, 3) := by decide +kernel
theorem dX12_asks_7 : decode cX12_asks 7 = .ok (.iconst 0, 1) := by decide +kernel
theorem dX12_asks_8 : decode cX12_asks 8 = .ok (.invokestatic 248, 3) := by decide +kernel
theorem dX12_asks_11 : decode cX12_asks 11 = .ok (.invokevirtual 258, 3) := by decide +kernel
theorem dX12_asks_14 : decode cX12_asks 14 = .ok (.return_, 1) := by decide +kernel
theorem dX12_rule_0 : decode cX12_rule 0 = .ok (.aload_n 0, 1) := by decide +kernel
theorem dX12_rule_1 : decode cX12_rule 1 = .ok (.iconst 0, 1) := by decide +kernel
theorem dX12_rule_2 : decode cX12_rule 2 = .ok (.putfield 79, 3) := by decide +kernel
theorem dX12_rule_5 : decode cX12_rule 5 = .ok (.aload_n 0, 1) := by decide +kernel
theorem dX12_rule_6 : decode cX12_rule 6 = .ok (.getfield 189, 3) := by decide +kernel
theorem dX12_rule_9 : decode cX12_rule 9 = .ok (.ifCond .eq 15, 3) := by decide +kernel
theorem dX12_rule_12 : decode cX12_rule 12 = .ok (.iload_n 1, 1) := by decide +kernel
theorem dX12_rule_13 : decode cX12_rule 13 = .ok (.i2l, 1) := by decide +kernel
theorem dX12_rule_14 : decode cX12_rule 14 = .ok (.lconst 0, 1) := by decide +kernel
theorem dX12_rule_15 : decode cX12_rule 15 = .ok (.ldc2_w 355, 3) := by decide +kernel
theorem dX12_rule_18 : decode cX12_rule 18 = .ok (.invokestatic 122, 3) := by decide +kernel
theorem dX12_rule_21 : decode cX12_rule 21 = .ok (.ifCond .ne 6, 3) := by decide +kernel
theorem dX12_rule_24 : decode cX12_rule 24 = .ok (.ldc 173, 2) := by decide +kernel
theorem dX12_rule_26 : decode cX12_rule 26 = .ok (.ireturn, 1) := by decide +kernel
theorem dX12_rule_27 : decode cX12_rule 27 = .ok (.iload_n 1, 1) := by decide +kernel
theorem dX12_rule_28 : decode cX12_rule 28 = .ok (.ifCond .ne 12, 3) := by decide +kernel
theorem dX12_rule_31 : decode cX12_rule 31 = .ok (.aload_n 0, 1) := by decide +kernel
theorem dX12_rule_32 : decode cX12_rule 32 = .ok (.getfield 17, 3) := by decide +kernel
theorem dX12_rule_35 : decode cX12_rule 35 = .ok (.iconst 0, 1) := by decide +kernel
theorem dX12_rule_36 : decode cX12_rule 36 = .ok (.iaload, 1) := by decide +kernel
theorem dX12_rule_37 : decode cX12_rule 37 = .ok (.goto 29, 3) := by decide +kernel
theorem dX12_rule_40 : decode cX12_rule 40 = .ok (.iload_n 1, 1) := by decide +kernel
theorem dX12_rule_41 : decode cX12_rule 41 = .ok (.iconst 4, 1) := by decide +kernel
theorem dX12_rule_42 : decode cX12_rule 42 = .ok (.if_icmp .ne 13, 3) := by decide +kernel
theorem dX12_rule_45 : decode cX12_rule 45 = .ok (.aload_n 0, 1) := by decide +kernel
theorem dX12_rule_46 : decode cX12_rule 46 = .ok (.getfield 44, 3) := by decide +kernel
theorem dX12_rule_49 : decode cX12_rule 49 = .ok (.bipush 19, 2) := by decide +kernel
theorem dX12_rule_51 : decode cX12_rule 51 = .ok (.iaload, 1) := by decide +kernel
theorem dX12_rule_52 : decode cX12_rule 52 = .ok (.goto 14, 3) := by decide +kernel
theorem dX12_rule_55 : decode cX12_rule 55 = .ok (.aload_n 0, 1) := by decide +kernel
theorem dX12_rule_56 : decode cX12_rule 56 = .ok (.getfield 44, 3) := by decide +kernel
theorem dX12_rule_59 : decode cX12_rule 59 = .ok (.bipush 16, 2) := by decide +kernel
theorem dX12_rule_61 : decode cX12_rule 61 = .ok (.iload_n 1, 1) := by decide +kernel
theorem dX12_rule_62 : decode cX12_rule 62 = .ok (.iadd, 1) := by decide +kernel
theorem dX12_rule_63 : decode cX12_rule 63 = .ok (.iconst 1, 1) := by decide +kernel
theorem dX12_rule_64 : decode cX12_rule 64 = .ok (.isub, 1) := by decide +kernel
theorem dX12_rule_65 : decode cX12_rule 65 = .ok (.iaload, 1) := by decide +kernel
theorem dX12_rule_66 : decode cX12_rule 66 = .ok (.ireturn, 1) := by decide +kernel
theorem dX12_rope_0 : decode cX12_rope 0 = .ok (.aload_n 0, 1) := by decide +kernel
theorem dX12_rope_1 : decode cX12_rope 1 = .ok (.iconst 0, 1) := by decide +kernel
theorem dX12_rope_2 : decode cX12_rope 2 = .ok (.putfield 79, 3) := by decide +kernel
theorem dX12_rope_5 : decode cX12_rope 5 = .ok (.aload_n 0, 1) := by decide +kernel
theorem dX12_rope_6 : decode cX12_rope 6 = .ok (.iload_n 1, 1) := by decide +kernel
theorem dX12_rope_7 : decode cX12_rope 7 = .ok (.invokevirtual 292, 3) := by decide +kernel
theorem dX12_rope_10 : decode cX12_rope 10 = .ok (.ifCond .eq 15, 3) := by decide +kernel
theorem dX12_rope_13 : decode cX12_rope 13 = .ok (.iload_n 2, 1) := by decide +kernel
theorem dX12_rope_14 : decode cX12_rope 14 = .ok (.i2l, 1) := by decide +kernel
theorem dX12_rope_15 : decode cX12_rope 15 = .ok (.lconst 0, 1) := by decide +kernel
theorem dX12_rope_16 : decode cX12_rope 16 = .ok (.ldc2_w 379, 3) := by decide +kernel
theorem dX12_rope_19 : decode cX12_rope 19 = .ok (.invokestatic 122, 3) := by decide +kernel
theorem dX12_rope_22 : decode cX12_rope 22 = .ok (.ifCond .ne 10, 3) := by decide +kernel
theorem dX12_rope_25 : decode cX12_rope 25 = .ok (.aload_n 0, 1) := by decide +kernel
theorem dX12_rope_26 : decode cX12_rope 26 = .ok (.iconst 1, 1) := by decide +kernel
theorem dX12_rope_27 : decode cX12_rope 27 = .ok (.putfield 79, 3) := by decide +kernel
theorem dX12_rope_30 : decode cX12_rope 30 = .ok (.iconst 0, 1) := by decide +kernel
theorem dX12_rope_31 : decode cX12_rope 31 = .ok (.ireturn, 1) := by decide +kernel
theorem dX12_rope_32 : decode cX12_rope 32 = .ok (.iload_n 2, 1) := by decide +kernel
theorem dX12_rope_33 : decode cX12_rope 33 = .ok (.iconst 5, 1) := by decide +kernel
theorem dX12_rope_34 : decode cX12_rope 34 = .ok (.if_icmp .ge 15, 3) := by decide +kernel
theorem dX12_rope_37 : decode cX12_rope 37 = .ok (.aload_n 0, 1) := by decide +kernel
theorem dX12_rope_38 : decode cX12_rope 38 = .ok (.getfield 23, 3) := by decide +kernel
theorem dX12_rope_41 : decode cX12_rope 41 = .ok (.bipush 7, 2) := by decide +kernel
theorem dX12_rope_43 : decode cX12_rope 43 = .ok (.iload_n 1, 1) := by decide +kernel
theorem dX12_rope_44 : decode cX12_rope 44 = .ok (.imul, 1) := by decide +kernel
theorem dX12_rope_45 : decode cX12_rope 45 = .ok (.iload_n 2, 1) := by decide +kernel
theorem dX12_rope_46 : decode cX12_rope 46 = .ok (.iadd, 1) := by decide +kernel
theorem dX12_rope_47 : decode cX12_rope 47 = .ok (.iaload, 1) := by decide +kernel
theorem dX12_rope_48 : decode cX12_rope 48 = .ok (.ireturn, 1) := by decide +kernel
theorem dX12_rope_49 : decode cX12_rope 49 = .ok (.iload_n 2, 1) := by decide +kernel
theorem dX12_rope_50 : decode cX12_rope 50 = .ok (.iconst 5, 1) := by decide +kernel
theorem dX12_rope_51 : decode cX12_rope 51 = .ok (.if_icmp .ne 16, 3) := by decide +kernel
theorem dX12_rope_54 : decode cX12_rope 54 = .ok (.aload_n 0, 1) := by decide +kernel
theorem dX12_rope_55 : decode cX12_rope 55 = .ok (.getfield 26, 3) := by decide +kernel
theorem dX12_rope_58 : decode cX12_rope 58 = .ok (.iconst 3, 1) := by decide +kernel
theorem dX12_rope_59 : decode cX12_rope 59 = .ok (.iload_n 1, 1) := by decide +kernel
theorem dX12_rope_60 : decode cX12_rope 60 = .ok (.imul, 1) := by decide +kernel
theorem dX12_rope_61 : decode cX12_rope 61 = .ok (.iconst 2, 1) := by decide +kernel
theorem dX12_rope_62 : decode cX12_rope 62 = .ok (.iadd, 1) := by decide +kernel
theorem dX12_rope_63 : decode cX12_rope 63 = .ok (.iaload, 1) := by decide +kernel
theorem dX12_rope_64 : decode cX12_rope 64 = .ok (.goto 43, 3) := by decide +kernel
theorem dX12_rope_67 : decode cX12_rope 67 = .ok (.iload_n 2, 1) := by decide +kernel
theorem dX12_rope_68 : decode cX12_rope 68 = .ok (.bipush 6, 2) := by decide +kernel
theorem dX12_rope_70 : decode cX12_rope 70 = .ok (.if_icmp .ne 11, 3) := by decide +kernel
theorem dX12_rope_73 : decode cX12_rope 73 = .ok (.aload_n 0, 1) := by decide +kernel
theorem dX12_rope_74 : decode cX12_rope 74 = .ok (.iload_n 1, 1) := by decide +kernel
theorem dX12_rope_75 : decode cX12_rope 75 = .ok (.invokevirtual 245, 3) := by decide +kernel
theorem dX12_rope_78 : decode cX12_rope 78 = .ok (.goto 29, 3) := by decide +kernel
theorem dX12_rope_81 : decode cX12_rope 81 = .ok (.iload_n 2, 1) := by decide +kernel
theorem dX12_rope_82 : decode cX12_rope 82 = .ok (.bipush 7, 2) := by decide +kernel
theorem dX12_rope_84 : decode cX12_rope 84 = .ok (.if_icmp .ne 14, 3) := by decide +kernel
theorem dX12_rope_87 : decode cX12_rope 87 = .ok (.aload_n 0, 1) := by decide +kernel
theorem dX12_rope_88 : decode cX12_rope 88 = .ok (.getfield 44, 3) := by decide +kernel
theorem dX12_rope_91 : decode cX12_rope 91 = .ok (.iconst 0, 1) := by decide +kernel
theorem dX12_rope_92 : decode cX12_rope 92 = .ok (.iload_n 1, 1) := by decide +kernel
theorem dX12_rope_93 : decode cX12_rope 93 = .ok (.iadd, 1) := by decide +kernel
theorem dX12_rope_94 : decode cX12_rope 94 = .ok (.iaload, 1) := by decide +kernel
theorem dX12_rope_95 : decode cX12_rope 95 = .ok (.goto 12, 3) := by decide +kernel
theorem dX12_rope_98 : decode cX12_rope 98 = .ok (.aload_n 0, 1) := by decide +kernel
theorem dX12_rope_99 : decode cX12_rope 99 = .ok (.getfield 44, 3) := by decide +kernel
theorem dX12_rope_102 : decode cX12_rope 102 = .ok (.bipush 8, 2) := by decide +kernel
theorem dX12_rope_104 : decode cX12_rope 104 = .ok (.iload_n 1, 1) := by decide +kernel
theorem dX12_rope_105 : decode cX12_rope 105 = .ok (.iadd, 1) := by decide +kernel
theorem dX12_rope_106 : decode cX12_rope 106 = .ok (.iaload, 1) := by decide +kernel
theorem dX12_rope_107 : decode cX12_rope 107 = .ok (.ireturn, 1) := by decide +kernel
theorem dX12_pull_0 : decode cX12_pull 0 = .ok (.aload_n 0, 1) := by decide +kernel
theorem dX12_pull_1 : decode cX12_pull 1 = .ok (.iconst 0, 1) := by decide +kernel
theorem dX12_pull_2 : decode cX12_pull 2 = .ok (.putfield 79, 3) := by decide +kernel
theorem dX12_pull_5 : decode cX12_pull 5 = .ok (.aload_n 0, 1) := by decide +kernel
theorem dX12_pull_6 : decode cX12_pull 6 = .ok (.iload_n 1, 1) := by decide +kernel
theorem dX12_pull_7 : decode cX12_pull 7 = .ok (.invokevirtual 292, 3) := by decide +kernel
theorem dX12_pull_10 : decode cX12_pull 10 = .ok (.ifCond .eq 26, 3) := by decide +kernel
theorem dX12_pull_13 : decode cX12_pull 13 = .ok (.iload_n 2, 1) := by decide +kernel
theorem dX12_pull_14 : decode cX12_pull 14 = .ok (.i2l, 1) := by decide +kernel
theorem dX12_pull_15 : decode cX12_pull 15 = .ok (.lconst 0, 1) := by decide +kernel
theorem dX12_pull_16 : decode cX12_pull 16 = .ok (.lconst 1, 1) := by decide +kernel
theorem dX12_pull_17 : decode cX12_pull 17 = .ok (.invokestatic 122, 3) := by decide +kernel
theorem dX12_pull_20 : decode cX12_pull 20 = .ok (.ifCond .eq 16, 3) := by decide +kernel
theorem dX12_pull_23 : decode cX12_pull 23 = .ok (.aload_n 0, 1) := by decide +kernel
theorem dX12_pull_24 : decode cX12_pull 24 = .ok (.getfield 44, 3) := by decide +kernel
theorem dX12_pull_27 : decode cX12_pull 27 = .ok (.bipush 8, 2) := by decide +kernel
theorem dX12_pull_29 : decode cX12_pull 29 = .ok (.iload_n 1, 1) := by decide +kernel
theorem dX12_pull_30 : decode cX12_pull 30 = .ok (.iadd, 1) := by decide +kernel
theorem dX12_pull_31 : decode cX12_pull 31 = .ok (.iaload, 1) := by decide +kernel
theorem dX12_pull_32 : decode cX12_pull 32 = .ok (.iconst 2, 1) := by decide +kernel
theorem dX12_pull_33 : decode cX12_pull 33 = .ok (.if_icmp .lt 7, 3) := by decide +kernel
theorem dX12_pull_36 : decode cX12_pull 36 = .ok (.ldc2_w 381, 3) := by decide +kernel
theorem dX12_pull_39 : decode cX12_pull 39 = .ok (.lreturn, 1) := by decide +kernel
theorem dX12_pull_40 : decode cX12_pull 40 = .ok (.aload_n 0, 1) := by decide +kernel
theorem dX12_pull_41 : decode cX12_pull 41 = .ok (.aload_n 0, 1) := by decide +kernel
theorem dX12_pull_42 : decode cX12_pull 42 = .ok (.getfield 44, 3) := by decide +kernel
theorem dX12_pull_45 : decode cX12_pull 45 = .ok (.invokevirtual 383, 3) := by decide +kernel
theorem dX12_pull_48 : decode cX12_pull 48 = .ok (.aload_n 0, 1) := by decide +kernel
theorem dX12_pull_49 : decode cX12_pull 49 = .ok (.aload_n 0, 1) := by decide +kernel
theorem dX12_pull_50 : decode cX12_pull 50 = .ok (.getfield 44, 3) := by decide +kernel
theorem dX12_pull_53 : decode cX12_pull 53 = .ok (.iload_n 1, 1) := by decide +kernel
theorem dX12_pull_54 : decode cX12_pull 54 = .ok (.invokevirtual 241, 3) := by decide +kernel
theorem dX12_pull_57 : decode cX12_pull 57 = .ok (.aload_n 0, 1) := by decide +kernel
theorem dX12_pull_58 : decode cX12_pull 58 = .ok (.getfield 233, 3) := by decide +kernel
theorem dX12_pull_61 : decode cX12_pull 61 = .ok (.iload_n 2, 1) := by decide +kernel
theorem dX12_pull_62 : decode cX12_pull 62 = .ok (.invokestatic 387, 3) := by decide +kernel
theorem dX12_pull_65 : decode cX12_pull 65 = .ok (.lreturn, 1) := by decide +kernel
theorem dX12_shift_0 : decode cX12_shift 0 = .ok (.aload_n 0, 1) := by decide +kernel
theorem dX12_shift_1 : decode cX12_shift 1 = .ok (.iconst 0, 1) := by decide +kernel
theorem dX12_shift_2 : decode cX12_shift 2 = .ok (.putfield 79, 3) := by decide +kernel
theorem dX12_shift_5 : decode cX12_shift 5 = .ok (.aload_n 0, 1) := by decide +kernel
theorem dX12_shift_6 : decode cX12_shift 6 = .ok (.getfield 189, 3) := by decide +kernel
theorem dX12_shift_9 : decode cX12_shift 9 = .ok (.ifCond .eq 25, 3) := by decide +kernel
theorem dX12_shift_12 : decode cX12_shift 12 = .ok (.iload_n 1, 1) := by decide +kernel
theorem dX12_shift_13 : decode cX12_shift 13 = .ok (.i2l, 1) := by decide +kernel
theorem dX12_shift_14 : decode cX12_shift 14 = .ok (.lconst 0, 1) := by decide +kernel
theorem dX12_shift_15 : decode cX12_shift 15 = .ok (.ldc2_w 357, 3) := by decide +kernel
theorem dX12_shift_18 : decode cX12_shift 18 = .ok (.invokestatic 122, 3) := by decide +kernel
theorem dX12_shift_21 : decode cX12_shift 21 = .ok (.ifCond .eq 13, 3) := by decide +kernel
theorem dX12_shift_24 : decode cX12_shift 24 = .ok (.iload_n 2, 1) := by decide +kernel
theorem dX12_shift_25 : decode cX12_shift 25 = .ok (.i2l, 1) := by decide +kernel
theorem dX12_shift_26 : decode cX12_shift 26 = .ok (.lconst 0, 1) := by decide +kernel
theorem dX12_shift_27 : decode cX12_shift 27 = .ok (.lconst 1, 1) := by decide +kernel
theorem dX12_shift_28 : decode cX12_shift 28 = .ok (.invokestatic 122, 3) := by decide +kernel
theorem dX12_shift_31 : decode cX12_shift 31 = .ok (.ifCond .ne 7, 3) := by decide +kernel
theorem dX12_shift_34 : decode cX12_shift 34 = .ok (.ldc2_w 381, 3) := by decide +kernel
theorem dX12_shift_37 : decode cX12_shift 37 = .ok (.lreturn, 1) := by decide +kernel
theorem dX12_shift_38 : decode cX12_shift 38 = .ok (.aload_n 0, 1) := by decide +kernel
theorem dX12_shift_39 : decode cX12_shift 39 = .ok (.aload_n 0, 1) := by decide +kernel
theorem dX12_shift_40 : decode cX12_shift 40 = .ok (.getfield 44, 3) := by decide +kernel
theorem dX12_shift_43 : decode cX12_shift 43 = .ok (.invokevirtual 383, 3) := by decide +kernel
theorem dX12_shift_46 : decode cX12_shift 46 = .ok (.aload_n 0, 1) := by decide +kernel
theorem dX12_shift_47 : decode cX12_shift 47 = .ok (.getfield 63, 3) := by decide +kernel
theorem dX12_shift_50 : decode cX12_shift 50 = .ok (.iload_n 1, 1) := by decide +kernel
theorem dX12_shift_51 : decode cX12_shift 51 = .ok (.laload, 1) := by decide +kernel
theorem dX12_shift_52 : decode cX12_shift 52 = .ok (.aload_n 0, 1) := by decide +kernel
theorem dX12_shift_53 : decode cX12_shift 53 = .ok (.getfield 233, 3) := by decide +kernel
theorem dX12_shift_56 : decode cX12_shift 56 = .ok (.iload_n 2, 1) := by decide +kernel
theorem dX12_shift_57 : decode cX12_shift 57 = .ok (.invokestatic 387, 3) := by decide +kernel
theorem dX12_shift_60 : decode cX12_shift 60 = .ok (.lreturn, 1) := by decide +kernel
theorem dX12_held_0 : decode cX12_held 0 = .ok (.aload_n 0, 1) := by decide +kernel
theorem dX12_held_1 : decode cX12_held 1 = .ok (.iconst 0, 1) := by decide +kernel
theorem dX12_held_2 : decode cX12_held 2 = .ok (.putfield 79, 3) := by decide +kernel
theorem dX12_held_5 : decode cX12_held 5 = .ok (.aload_n 0, 1) := by decide +kernel
theorem dX12_held_6 : decode cX12_held 6 = .ok (.getfield 189, 3) := by decide +kernel
theorem dX12_held_9 : decode cX12_held 9 = .ok (.ifCond .eq 25, 3) := by decide +kernel
theorem dX12_held_12 : decode cX12_held 12 = .ok (.iload_n 1, 1) := by decide +kernel
theorem dX12_held_13 : decode cX12_held 13 = .ok (.i2l, 1) := by decide +kernel
theorem dX12_held_14 : decode cX12_held 14 = .ok (.lconst 0, 1) := by decide +kernel
theorem dX12_held_15 : decode cX12_held 15 = .ok (.ldc2_w 357, 3) := by decide +kernel
theorem dX12_held_18 : decode cX12_held 18 = .ok (.invokestatic 122, 3) := by decide +kernel
theorem dX12_held_21 : decode cX12_held 21 = .ok (.ifCond .eq 13, 3) := by decide +kernel
theorem dX12_held_24 : decode cX12_held 24 = .ok (.iload_n 2, 1) := by decide +kernel
theorem dX12_held_25 : decode cX12_held 25 = .ok (.i2l, 1) := by decide +kernel
theorem dX12_held_26 : decode cX12_held 26 = .ok (.lconst 0, 1) := by decide +kernel
theorem dX12_held_27 : decode cX12_held 27 = .ok (.lconst 1, 1) := by decide +kernel
theorem dX12_held_28 : decode cX12_held 28 = .ok (.invokestatic 122, 3) := by decide +kernel
theorem dX12_held_31 : decode cX12_held 31 = .ok (.ifCond .ne 7, 3) := by decide +kernel
theorem dX12_held_34 : decode cX12_held 34 = .ok (.ldc2_w 381, 3) := by decide +kernel
theorem dX12_held_37 : decode cX12_held 37 = .ok (.lreturn, 1) := by decide +kernel
theorem dX12_held_38 : decode cX12_held 38 = .ok (.aload_n 0, 1) := by decide +kernel
theorem dX12_held_39 : decode cX12_held 39 = .ok (.iload_n 1, 1) := by decide +kernel
theorem dX12_held_40 : decode cX12_held 40 = .ok (.invokevirtual 226, 3) := by decide +kernel
theorem dX12_held_43 : decode cX12_held 43 = .ok (.ifCond .eq 6, 3) := by decide +kernel
theorem dX12_held_46 : decode cX12_held 46 = .ok (.iload_n 2, 1) := by decide +kernel
theorem dX12_held_47 : decode cX12_held 47 = .ok (.i2l, 1) := by decide +kernel
theorem dX12_held_48 : decode cX12_held 48 = .ok (.lreturn, 1) := by decide +kernel
theorem dX12_held_49 : decode cX12_held 49 = .ok (.aload_n 0, 1) := by decide +kernel
theorem dX12_held_50 : decode cX12_held 50 = .ok (.aload_n 0, 1) := by decide +kernel
theorem dX12_held_51 : decode cX12_held 51 = .ok (.getfield 44, 3) := by decide +kernel
theorem dX12_held_54 : decode cX12_held 54 = .ok (.invokevirtual 383, 3) := by decide +kernel
theorem dX12_held_57 : decode cX12_held 57 = .ok (.aload_n 0, 1) := by decide +kernel
theorem dX12_held_58 : decode cX12_held 58 = .ok (.getfield 44, 3) := by decide +kernel
theorem dX12_held_61 : decode cX12_held 61 = .ok (.bipush 16, 2) := by decide +kernel
theorem dX12_held_63 : decode cX12_held 63 = .ok (.iload_n 1, 1) := by decide +kernel
theorem dX12_held_64 : decode cX12_held 64 = .ok (.iadd, 1) := by decide +kernel
theorem dX12_held_65 : decode cX12_held 65 = .ok (.iaload, 1) := by decide +kernel
theorem dX12_held_66 : decode cX12_held 66 = .ok (.i2l, 1) := by decide +kernel
theorem dX12_held_67 : decode cX12_held 67 = .ok (.aload_n 0, 1) := by decide +kernel
theorem dX12_held_68 : decode cX12_held 68 = .ok (.getfield 233, 3) := by decide +kernel
theorem dX12_held_71 : decode cX12_held 71 = .ok (.lmul, 1) := by decide +kernel
theorem dX12_held_72 : decode cX12_held 72 = .ok (.lstore_n 3, 1) := by decide +kernel
theorem dX12_held_73 : decode cX12_held 73 = .ok (.iconst 0, 1) := by decide +kernel
theorem dX12_held_74 : decode cX12_held 74 = .ok (.istore 5, 2) := by decide +kernel
theorem dX12_held_76 : decode cX12_held 76 = .ok (.iload 5, 2) := by decide +kernel
theorem dX12_held_78 : decode cX12_held 78 = .ok (.aload_n 0, 1) := by decide +kernel
theorem dX12_held_79 : decode cX12_held 79 = .ok (.getfield 189, 3) := by decide +kernel
theorem dX12_held_82 : decode cX12_held 82 = .ok (.if_icmp .ge 52, 3) := by decide +kernel
theorem dX12_held_85 : decode cX12_held 85 = .ok (.lload_n 3, 1) := by decide +kernel
theorem dX12_held_86 : decode cX12_held 86 = .ok (.aload_n 0, 1) := by decide +kernel
theorem dX12_held_87 : decode cX12_held 87 = .ok (.getfield 44, 3) := by decide +kernel
theorem dX12_held_90 : decode cX12_held 90 = .ok (.bipush 8, 2) := by decide +kernel
theorem dX12_held_92 : decode cX12_held 92 = .ok (.iload 5, 2) := by decide +kernel
theorem dX12_held_94 : decode cX12_held 94 = .ok (.iadd, 1) := by decide +kernel
theorem dX12_held_95 : decode cX12_held 95 = .ok (.iaload, 1) := by decide +kernel
theorem dX12_held_96 : decode cX12_held 96 = .ok (.ifCond .ne 29, 3) := by decide +kernel
theorem dX12_held_99 : decode cX12_held 99 = .ok (.aload_n 0, 1) := by decide +kernel
theorem dX12_held_100 : decode cX12_held 100 = .ok (.aload_n 0, 1) := by decide +kernel
theorem dX12_held_101 : decode cX12_held 101 = .ok (.getfield 44, 3) := by decide +kernel
theorem dX12_held_104 : decode cX12_held 104 = .ok (.iload 5, 2) := by decide +kernel
theorem dX12_held_106 : decode cX12_held 106 = .ok (.invokevirtual 241, 3) := by decide +kernel
theorem dX12_held_109 : decode cX12_held 109 = .ok (.aload_n 0, 1) := by decide +kernel
theorem dX12_held_110 : decode cX12_held 110 = .ok (.getfield 26, 3) := by decide +kernel
theorem dX12_held_113 : decode cX12_held 113 = .ok (.iconst 3, 1) := by decide +kernel
theorem dX12_held_114 : decode cX12_held 114 = .ok (.iload 5, 2) := by decide +kernel
theorem dX12_held_116 : decode cX12_held 116 = .ok (.imul, 1) := by decide +kernel
theorem dX12_held_117 : decode cX12_held 117 = .ok (.iload_n 1, 1) := by decide +kernel
theorem dX12_held_118 : decode cX12_held 118 = .ok (.iadd, 1) := by decide +kernel
theorem dX12_held_119 : decode cX12_held 119 = .ok (.iaload, 1) := by decide +kernel
theorem dX12_held_120 : decode cX12_held 120 = .ok (.i2l, 1) := by decide +kernel
theorem dX12_held_121 : decode cX12_held 121 = .ok (.lmul, 1) := by decide +kernel
theorem dX12_held_122 : decode cX12_held 122 = .ok (.goto 4, 3) := by decide +kernel
theorem dX12_held_125 : decode cX12_held 125 = .ok (.lconst 0, 1) := by decide +kernel
theorem dX12_held_126 : decode cX12_held 126 = .ok (.ladd, 1) := by decide +kernel
theorem dX12_held_127 : decode cX12_held 127 = .ok (.lstore_n 3, 1) := by decide +kernel
theorem dX12_held_128 : decode cX12_held 128 = .ok (.iinc 5 1, 3) := by decide +kernel
theorem dX12_held_131 : decode cX12_held 131 = .ok (.goto (-55), 3) := by decide +kernel
theorem dX12_held_134 : decode cX12_held 134 = .ok (.lload_n 3, 1) := by decide +kernel
theorem dX12_held_135 : decode cX12_held 135 = .ok (.aload_n 0, 1) := by decide +kernel
theorem dX12_held_136 : decode cX12_held 136 = .ok (.getfield 233, 3) := by decide +kernel
theorem dX12_held_139 : decode cX12_held 139 = .ok (.iload_n 2, 1) := by decide +kernel
theorem dX12_held_140 : decode cX12_held 140 = .ok (.invokestatic 387, 3) := by decide +kernel
theorem dX12_held_143 : decode cX12_held 143 = .ok (.lreturn, 1) := by decide +kernel
theorem dX12_load_0 : decode cX12_load 0 = .ok (.aload_n 0, 1) := by decide +kernel
theorem dX12_load_1 : decode cX12_load 1 = .ok (.iconst 0, 1) := by decide +kernel
theorem dX12_load_2 : decode cX12_load 2 = .ok (.putfield 79, 3) := by decide +kernel
theorem dX12_load_5 : decode cX12_load 5 = .ok (.aload_n 0, 1) := by decide +kernel
theorem dX12_load_6 : decode cX12_load 6 = .ok (.iload_n 1, 1) := by decide +kernel
theorem dX12_load_7 : decode cX12_load 7 = .ok (.invokevirtual 292, 3) := by decide +kernel
theorem dX12_load_10 : decode cX12_load 10 = .ok (.ifCond .eq 25, 3) := by decide +kernel
theorem dX12_load_13 : decode cX12_load 13 = .ok (.iload_n 2, 1) := by decide +kernel
theorem dX12_load_14 : decode cX12_load 14 = .ok (.i2l, 1) := by decide +kernel
theorem dX12_load_15 : decode cX12_load 15 = .ok (.lconst 0, 1) := by decide +kernel
theorem dX12_load_16 : decode cX12_load 16 = .ok (.lconst 1, 1) := by decide +kernel
theorem dX12_load_17 : decode cX12_load 17 = .ok (.invokestatic 122, 3) := by decide +kernel
theorem dX12_load_20 : decode cX12_load 20 = .ok (.ifCond .eq 15, 3) := by decide +kernel
theorem dX12_load_23 : decode cX12_load 23 = .ok (.aload_n 0, 1) := by decide +kernel
theorem dX12_load_24 : decode cX12_load 24 = .ok (.getfield 44, 3) := by decide +kernel
theorem dX12_load_27 : decode cX12_load 27 = .ok (.bipush 8, 2) := by decide +kernel
theorem dX12_load_29 : decode cX12_load 29 = .ok (.iload_n 1, 1) := by decide +kernel
theorem dX12_load_30 : decode cX12_load 30 = .ok (.iadd, 1) := by decide +kernel
theorem dX12_load_31 : decode cX12_load 31 = .ok (.iaload, 1) := by decide +kernel
theorem dX12_load_32 : decode cX12_load 32 = .ok (.ifCond .eq 7, 3) := by decide +kernel
theorem dX12_load_35 : decode cX12_load 35 = .ok (.ldc2_w 381, 3) := by decide +kernel
theorem dX12_load_38 : decode cX12_load 38 = .ok (.lreturn, 1) := by decide +kernel
theorem dX12_load_39 : decode cX12_load 39 = .ok (.aload_n 0, 1) := by decide +kernel
theorem dX12_load_40 : decode cX12_load 40 = .ok (.aload_n 0, 1) := by decide +kernel
theorem dX12_load_41 : decode cX12_load 41 = .ok (.getfield 44, 3) := by decide +kernel
theorem dX12_load_44 : decode cX12_load 44 = .ok (.invokevirtual 383, 3) := by decide +kernel
theorem dX12_load_47 : decode cX12_load 47 = .ok (.aload_n 0, 1) := by decide +kernel
theorem dX12_load_48 : decode cX12_load 48 = .ok (.aload_n 0, 1) := by decide +kernel
theorem dX12_load_49 : decode cX12_load 49 = .ok (.getfield 44, 3) := by decide +kernel
theorem dX12_load_52 : decode cX12_load 52 = .ok (.iload_n 1, 1) := by decide +kernel
theorem dX12_load_53 : decode cX12_load 53 = .ok (.invokevirtual 241, 3) := by decide +kernel
theorem dX12_load_56 : decode cX12_load 56 = .ok (.aload_n 0, 1) := by decide +kernel
theorem dX12_load_57 : decode cX12_load 57 = .ok (.getfield 233, 3) := by decide +kernel
theorem dX12_load_60 : decode cX12_load 60 = .ok (.aload_n 0, 1) := by decide +kernel
theorem dX12_load_61 : decode cX12_load 61 = .ok (.iload_n 1, 1) := by decide +kernel
theorem dX12_load_62 : decode cX12_load 62 = .ok (.invokevirtual 245, 3) := by decide +kernel
theorem dX12_load_65 : decode cX12_load 65 = .ok (.i2l, 1) := by decide +kernel
theorem dX12_load_66 : decode cX12_load 66 = .ok (.lmul, 1) := by decide +kernel
theorem dX12_load_67 : decode cX12_load 67 = .ok (.iload_n 2, 1) := by decide +kernel
theorem dX12_load_68 : decode cX12_load 68 = .ok (.invokestatic 387, 3) := by decide +kernel
theorem dX12_load_71 : decode cX12_load 71 = .ok (.lreturn, 1) := by decide +kernel
theorem dX12_worst_0 : decode cX12_worst 0 = .ok (.aload_n 0, 1) := by decide +kernel
theorem dX12_worst_1 : decode cX12_worst 1 = .ok (.iconst 0, 1) := by decide +kernel
theorem dX12_worst_2 : decode cX12_worst 2 = .ok (.putfield 79, 3) := by decide +kernel
theorem dX12_worst_5 : decode cX12_worst 5 = .ok (.aload_n 0, 1) := by decide +kernel
theorem dX12_worst_6 : decode cX12_worst 6 = .ok (.getfield 189, 3) := by decide +kernel
theorem dX12_worst_9 : decode cX12_worst 9 = .ok (.ifCond .ne 5, 3) := by decide +kernel
theorem dX12_worst_12 : decode cX12_worst 12 = .ok (.iconst (-1), 1) := by decide +kernel
theorem dX12_worst_13 : decode cX12_worst 13 = .ok (.ireturn, 1) := by decide +kernel
theorem dX12_worst_14 : decode cX12_worst 14 = .ok (.aload_n 0, 1) := by decide +kernel
theorem dX12_worst_15 : decode cX12_worst 15 = .ok (.aload_n 0, 1) := by decide +kernel
theorem dX12_worst_16 : decode cX12_worst 16 = .ok (.getfield 44, 3) := by decide +kernel
theorem dX12_worst_19 : decode cX12_worst 19 = .ok (.invokevirtual 383, 3) := by decide +kernel
theorem dX12_worst_22 : decode cX12_worst 22 = .ok (.aload_n 0, 1) := by decide +kernel
theorem dX12_worst_23 : decode cX12_worst 23 = .ok (.aload_n 0, 1) := by decide +kernel
theorem dX12_worst_24 : decode cX12_worst 24 = .ok (.getfield 44, 3) := by decide +kernel
theorem dX12_worst_27 : decode cX12_worst 27 = .ok (.aload_n 0, 1) := by decide +kernel
theorem dX12_worst_28 : decode cX12_worst 28 = .ok (.getfield 44, 3) := by decide +kernel
theorem dX12_worst_31 : decode cX12_worst 31 = .ok (.aload_n 0, 1) := by decide +kernel
theorem dX12_worst_32 : decode cX12_worst 32 = .ok (.getfield 189, 3) := by decide +kernel
theorem dX12_worst_35 : decode cX12_worst 35 = .ok (.iconst 0, 1) := by decide +kernel
theorem dX12_worst_36 : decode cX12_worst 36 = .ok (.invokestatic 248, 3) := by decide +kernel
theorem dX12_worst_39 : decode cX12_worst 39 = .ok (.iconst 0, 1) := by decide +kernel
theorem dX12_worst_40 : decode cX12_worst 40 = .ok (.invokevirtual 269, 3) := by decide +kernel
theorem dX12_worst_43 : decode cX12_worst 43 = .ok (.ireturn, 1) := by decide +kernel
theorem dX12_idlest_0 : decode cX12_idlest 0 = .ok (.iconst (-1), 1) := by decide +kernel
theorem dX12_idlest_1 : decode cX12_idlest 1 = .ok (.istore_n 1, 1) := by decide +kernel
theorem dX12_idlest_2 : decode cX12_idlest 2 = .ok (.iconst 0, 1) := by decide +kernel
theorem dX12_idlest_3 : decode cX12_idlest 3 = .ok (.istore_n 2, 1) := by decide +kernel
theorem dX12_idlest_4 : decode cX12_idlest 4 = .ok (.iload_n 2, 1) := by decide +kernel
theorem dX12_idlest_5 : decode cX12_idlest 5 = .ok (.aload_n 0, 1) := by decide +kernel
theorem dX12_idlest_6 : decode cX12_idlest 6 = .ok (.getfield 189, 3) := by decide +kernel
theorem dX12_idlest_9 : decode cX12_idlest 9 = .ok (.if_icmp .ge 67, 3) := by decide +kernel
theorem dX12_idlest_12 : decode cX12_idlest 12 = .ok (.aload_n 0, 1) := by decide +kernel
theorem dX12_idlest_13 : decode cX12_idlest 13 = .ok (.getfield 44, 3) := by decide +kernel
theorem dX12_idlest_16 : decode cX12_idlest 16 = .ok (.bipush 8, 2) := by decide +kernel
theorem dX12_idlest_18 : decode cX12_idlest 18 = .ok (.iload_n 2, 1) := by decide +kernel
theorem dX12_idlest_19 : decode cX12_idlest 19 = .ok (.iadd, 1) := by decide +kernel
theorem dX12_idlest_20 : decode cX12_idlest 20 = .ok (.iaload, 1) := by decide +kernel
theorem dX12_idlest_21 : decode cX12_idlest 21 = .ok (.ifCond .eq 6, 3) := by decide +kernel
theorem dX12_idlest_24 : decode cX12_idlest 24 = .ok (.goto 46, 3) := by decide +kernel
theorem dX12_idlest_27 : decode cX12_idlest 27 = .ok (.iload_n 1, 1) := by decide +kernel
theorem dX12_idlest_28 : decode cX12_idlest 28 = .ok (.iconst (-1), 1) := by decide +kernel
theorem dX12_idlest_29 : decode cX12_idlest 29 = .ok (.if_icmp .eq 39, 3) := by decide +kernel
theorem dX12_idlest_32 : decode cX12_idlest 32 = .ok (.aload_n 0, 1) := by decide +kernel
theorem dX12_idlest_33 : decode cX12_idlest 33 = .ok (.aload_n 0, 1) := by decide +kernel
theorem dX12_idlest_34 : decode cX12_idlest 34 = .ok (.getfield 44, 3) := by decide +kernel
theorem dX12_idlest_37 : decode cX12_idlest 37 = .ok (.iload_n 2, 1) := by decide +kernel
theorem dX12_idlest_38 : decode cX12_idlest 38 = .ok (.invokevirtual 241, 3) := by decide +kernel
theorem dX12_idlest_41 : decode cX12_idlest 41 = .ok (.aload_n 0, 1) := by decide +kernel
theorem dX12_idlest_42 : decode cX12_idlest 42 = .ok (.iload_n 1, 1) := by decide +kernel
theorem dX12_idlest_43 : decode cX12_idlest 43 = .ok (.invokevirtual 245, 3) := by decide +kernel
theorem dX12_idlest_46 : decode cX12_idlest 46 = .ok (.i2l, 1) := by decide +kernel
theorem dX12_idlest_47 : decode cX12_idlest 47 = .ok (.lmul, 1) := by decide +kernel
theorem dX12_idlest_48 : decode cX12_idlest 48 = .ok (.aload_n 0, 1) := by decide +kernel
theorem dX12_idlest_49 : decode cX12_idlest 49 = .ok (.aload_n 0, 1) := by decide +kernel
theorem dX12_idlest_50 : decode cX12_idlest 50 = .ok (.getfield 44, 3) := by decide +kernel
theorem dX12_idlest_53 : decode cX12_idlest 53 = .ok (.iload_n 1, 1) := by decide +kernel
theorem dX12_idlest_54 : decode cX12_idlest 54 = .ok (.invokevirtual 241, 3) := by decide +kernel
theorem dX12_idlest_57 : decode cX12_idlest 57 = .ok (.aload_n 0, 1) := by decide +kernel
theorem dX12_idlest_58 : decode cX12_idlest 58 = .ok (.iload_n 2, 1) := by decide +kernel
theorem dX12_idlest_59 : decode cX12_idlest 59 = .ok (.invokevirtual 245, 3) := by decide +kernel
theorem dX12_idlest_62 : decode cX12_idlest 62 = .ok (.i2l, 1) := by decide +kernel
theorem dX12_idlest_63 : decode cX12_idlest 63 = .ok (.lmul, 1) := by decide +kernel
theorem dX12_idlest_64 : decode cX12_idlest 64 = .ok (.lcmp, 1) := by decide +kernel
theorem dX12_idlest_65 : decode cX12_idlest 65 = .ok (.ifCond .ge 5, 3) := by decide +kernel
theorem dX12_idlest_68 : decode cX12_idlest 68 = .ok (.iload_n 2, 1) := by decide +kernel
theorem dX12_idlest_69 : decode cX12_idlest 69 = .ok (.istore_n 1, 1) := by decide +kernel
theorem dX12_idlest_70 : decode cX12_idlest 70 = .ok (.iinc 2 1, 3) := by decide +kernel
theorem dX12_idlest_73 : decode cX12_idlest 73 = .ok (.goto (-69), 3) := by decide +kernel
theorem dX12_idlest_76 : decode cX12_idlest 76 = .ok (.iload_n 1, 1) := by decide +kernel
theorem dX12_idlest_77 : decode cX12_idlest 77 = .ok (.ireturn, 1) := by decide +kernel
theorem dX12_uneven_0 : decode cX12_uneven 0 = .ok (.aload_n 0, 1) := by decide +kernel
theorem dX12_uneven_1 : decode cX12_uneven 1 = .ok (.iconst 0, 1) := by decide +kernel
theorem dX12_uneven_2 : decode cX12_uneven 2 = .ok (.putfield 79, 3) := by decide +kernel
theorem dX12_uneven_5 : decode cX12_uneven 5 = .ok (.aload_n 0, 1) := by decide +kernel
theorem dX12_uneven_6 : decode cX12_uneven 6 = .ok (.getfield 189, 3) := by decide +kernel
theorem dX12_uneven_9 : decode cX12_uneven 9 = .ok (.ifCond .eq 13, 3) := by decide +kernel
theorem dX12_uneven_12 : decode cX12_uneven 12 = .ok (.iload_n 1, 1) := by decide +kernel
theorem dX12_uneven_13 : decode cX12_uneven 13 = .ok (.i2l, 1) := by decide +kernel
theorem dX12_uneven_14 : decode cX12_uneven 14 = .ok (.lconst 0, 1) := by decide +kernel
theorem dX12_uneven_15 : decode cX12_uneven 15 = .ok (.lconst 1, 1) := by decide +kernel
theorem dX12_uneven_16 : decode cX12_uneven 16 = .ok (.invokestatic 122, 3) := by decide +kernel
theorem dX12_uneven_19 : decode cX12_uneven 19 = .ok (.ifCond .ne 7, 3) := by decide +kernel
theorem dX12_uneven_22 : decode cX12_uneven 22 = .ok (.ldc2_w 381, 3) := by decide +kernel
theorem dX12_uneven_25 : decode cX12_uneven 25 = .ok (.lreturn, 1) := by decide +kernel
theorem dX12_uneven_26 : decode cX12_uneven 26 = .ok (.aload_n 0, 1) := by decide +kernel
theorem dX12_uneven_27 : decode cX12_uneven 27 = .ok (.aload_n 0, 1) := by decide +kernel
theorem dX12_uneven_28 : decode cX12_uneven 28 = .ok (.getfield 44, 3) := by decide +kernel
theorem dX12_uneven_31 : decode cX12_uneven 31 = .ok (.invokevirtual 383, 3) := by decide +kernel
theorem dX12_uneven_34 : decode cX12_uneven 34 = .ok (.aload_n 0, 1) := by decide +kernel
theorem dX12_uneven_35 : decode cX12_uneven 35 = .ok (.aload_n 0, 1) := by decide +kernel
theorem dX12_uneven_36 : decode cX12_uneven 36 = .ok (.getfield 44, 3) := by decide +kernel
theorem dX12_uneven_39 : decode cX12_uneven 39 = .ok (.aload_n 0, 1) := by decide +kernel
theorem dX12_uneven_40 : decode cX12_uneven 40 = .ok (.getfield 44, 3) := by decide +kernel
theorem dX12_uneven_43 : decode cX12_uneven 43 = .ok (.aload_n 0, 1) := by decide +kernel
theorem dX12_uneven_44 : decode cX12_uneven 44 = .ok (.getfield 189, 3) := by decide +kernel
theorem dX12_uneven_47 : decode cX12_uneven 47 = .ok (.iconst 0, 1) := by decide +kernel
theorem dX12_uneven_48 : decode cX12_uneven 48 = .ok (.invokestatic 248, 3) := by decide +kernel
theorem dX12_uneven_51 : decode cX12_uneven 51 = .ok (.iconst 0, 1) := by decide +kernel
theorem dX12_uneven_52 : decode cX12_uneven 52 = .ok (.invokevirtual 269, 3) := by decide +kernel
theorem dX12_uneven_55 : decode cX12_uneven 55 = .ok (.istore_n 2, 1) := by decide +kernel
theorem dX12_uneven_56 : decode cX12_uneven 56 = .ok (.aload_n 0, 1) := by decide +kernel
theorem dX12_uneven_57 : decode cX12_uneven 57 = .ok (.invokevirtual 391, 3) := by decide +kernel
theorem dX12_uneven_60 : decode cX12_uneven 60 = .ok (.istore_n 3, 1) := by decide +kernel
theorem dX12_uneven_61 : decode cX12_uneven 61 = .ok (.aload_n 0, 1) := by decide +kernel
theorem dX12_uneven_62 : decode cX12_uneven 62 = .ok (.aload_n 0, 1) := by decide +kernel
theorem dX12_uneven_63 : decode cX12_uneven 63 = .ok (.getfield 44, 3) := by decide +kernel
theorem dX12_uneven_66 : decode cX12_uneven 66 = .ok (.iload_n 2, 1) := by decide +kernel
theorem dX12_uneven_67 : decode cX12_uneven 67 = .ok (.invokevirtual 241, 3) := by decide +kernel
theorem dX12_uneven_70 : decode cX12_uneven 70 = .ok (.aload_n 0, 1) := by decide +kernel
theorem dX12_uneven_71 : decode cX12_uneven 71 = .ok (.iload_n 3, 1) := by decide +kernel
theorem dX12_uneven_72 : decode cX12_uneven 72 = .ok (.invokevirtual 245, 3) := by decide +kernel
theorem dX12_uneven_75 : decode cX12_uneven 75 = .ok (.i2l, 1) := by decide +kernel
theorem dX12_uneven_76 : decode cX12_uneven 76 = .ok (.lmul, 1) := by decide +kernel
theorem dX12_uneven_77 : decode cX12_uneven 77 = .ok (.aload_n 0, 1) := by decide +kernel
theorem dX12_uneven_78 : decode cX12_uneven 78 = .ok (.aload_n 0, 1) := by decide +kernel
theorem dX12_uneven_79 : decode cX12_uneven 79 = .ok (.getfield 44, 3) := by decide +kernel
theorem dX12_uneven_82 : decode cX12_uneven 82 = .ok (.iload_n 3, 1) := by decide +kernel
theorem dX12_uneven_83 : decode cX12_uneven 83 = .ok (.invokevirtual 241, 3) := by decide +kernel
theorem dX12_uneven_86 : decode cX12_uneven 86 = .ok (.aload_n 0, 1) := by decide +kernel
theorem dX12_uneven_87 : decode cX12_uneven 87 = .ok (.iload_n 2, 1) := by decide +kernel
theorem dX12_uneven_88 : decode cX12_uneven 88 = .ok (.invokevirtual 245, 3) := by decide +kernel
theorem dX12_uneven_91 : decode cX12_uneven 91 = .ok (.i2l, 1) := by decide +kernel
theorem dX12_uneven_92 : decode cX12_uneven 92 = .ok (.lmul, 1) := by decide +kernel
theorem dX12_uneven_93 : decode cX12_uneven 93 = .ok (.lsub, 1) := by decide +kernel
theorem dX12_uneven_94 : decode cX12_uneven 94 = .ok (.aload_n 0, 1) := by decide +kernel
theorem dX12_uneven_95 : decode cX12_uneven 95 = .ok (.getfield 233, 3) := by decide +kernel
theorem dX12_uneven_98 : decode cX12_uneven 98 = .ok (.aload_n 0, 1) := by decide +kernel
theorem dX12_uneven_99 : decode cX12_uneven 99 = .ok (.iload_n 2, 1) := by decide +kernel
theorem dX12_uneven_100 : decode cX12_uneven 100 = .ok (.invokevirtual 245, 3) := by decide +kernel
theorem dX12_uneven_103 : decode cX12_uneven 103 = .ok (.i2l, 1) := by decide +kernel
theorem dX12_uneven_104 : decode cX12_uneven 104 = .ok (.lmul, 1) := by decide +kernel
theorem dX12_uneven_105 : decode cX12_uneven 105 = .ok (.aload_n 0, 1) := by decide +kernel
theorem dX12_uneven_106 : decode cX12_uneven 106 = .ok (.iload_n 3, 1) := by decide +kernel
theorem dX12_uneven_107 : decode cX12_uneven 107 = .ok (.invokevirtual 245, 3) := by decide +kernel
theorem dX12_uneven_110 : decode cX12_uneven 110 = .ok (.i2l, 1) := by decide +kernel
theorem dX12_uneven_111 : decode cX12_uneven 111 = .ok (.lmul, 1) := by decide +kernel
theorem dX12_uneven_112 : decode cX12_uneven 112 = .ok (.iload_n 1, 1) := by decide +kernel
theorem dX12_uneven_113 : decode cX12_uneven 113 = .ok (.invokestatic 387, 3) := by decide +kernel
theorem dX12_uneven_116 : decode cX12_uneven 116 = .ok (.lreturn, 1) := by decide +kernel
theorem dX12_accordOf_0 : decode cX12_accordOf 0 = .ok (.iconst 0, 1) := by decide +kernel
theorem dX12_accordOf_1 : decode cX12_accordOf 1 = .ok (.istore_n 3, 1) := by decide +kernel
theorem dX12_accordOf_2 : decode cX12_accordOf 2 = .ok (.iconst 0, 1) := by decide +kernel
theorem dX12_accordOf_3 : decode cX12_accordOf 3 = .ok (.istore 4, 2) := by decide +kernel
theorem dX12_accordOf_5 : decode cX12_accordOf 5 = .ok (.iload 4, 2) := by decide +kernel
theorem dX12_accordOf_7 : decode cX12_accordOf 7 = .ok (.iconst 3, 1) := by decide +kernel
theorem dX12_accordOf_8 : decode cX12_accordOf 8 = .ok (.if_icmp .ge 48, 3) := by decide +kernel
theorem dX12_accordOf_11 : decode cX12_accordOf 11 = .ok (.iload_n 3, 1) := by decide +kernel
theorem dX12_accordOf_12 : decode cX12_accordOf 12 = .ok (.aload_n 0, 1) := by decide +kernel
theorem dX12_accordOf_13 : decode cX12_accordOf 13 = .ok (.iload 4, 2) := by decide +kernel
theorem dX12_accordOf_15 : decode cX12_accordOf 15 = .ok (.invokevirtual 226, 3) := by decide +kernel
theorem dX12_accordOf_18 : decode cX12_accordOf 18 = .ok (.ifCond .eq 29, 3) := by decide +kernel
theorem dX12_accordOf_21 : decode cX12_accordOf 21 = .ok (.aload_n 0, 1) := by decide +kernel
theorem dX12_accordOf_22 : decode cX12_accordOf 22 = .ok (.getfield 26, 3) := by decide +kernel
theorem dX12_accordOf_25 : decode cX12_accordOf 25 = .ok (.iconst 3, 1) := by decide +kernel
theorem dX12_accordOf_26 : decode cX12_accordOf 26 = .ok (.iload_n 1, 1) := by decide +kernel
theorem dX12_accordOf_27 : decode cX12_accordOf 27 = .ok (.imul, 1) := by decide +kernel
theorem dX12_accordOf_28 : decode cX12_accordOf 28 = .ok (.iload 4, 2) := by decide +kernel
theorem dX12_accordOf_30 : decode cX12_accordOf 30 = .ok (.iadd, 1) := by decide +kernel
theorem dX12_accordOf_31 : decode cX12_accordOf 31 = .ok (.iaload, 1) := by decide +kernel
theorem dX12_accordOf_32 : decode cX12_accordOf 32 = .ok (.aload_n 0, 1) := by decide +kernel
theorem dX12_accordOf_33 : decode cX12_accordOf 33 = .ok (.getfield 26, 3) := by decide +kernel
theorem dX12_accordOf_36 : decode cX12_accordOf 36 = .ok (.iconst 3, 1) := by decide +kernel
theorem dX12_accordOf_37 : decode cX12_accordOf 37 = .ok (.iload_n 2, 1) := by decide +kernel
theorem dX12_accordOf_38 : decode cX12_accordOf 38 = .ok (.imul, 1) := by decide +kernel
theorem dX12_accordOf_39 : decode cX12_accordOf 39 = .ok (.iload 4, 2) := by decide +kernel
theorem dX12_accordOf_41 : decode cX12_accordOf 41 = .ok (.iadd, 1) := by decide +kernel
theorem dX12_accordOf_42 : decode cX12_accordOf 42 = .ok (.iaload, 1) := by decide +kernel
theorem dX12_accordOf_43 : decode cX12_accordOf 43 = .ok (.imul, 1) := by decide +kernel
theorem dX12_accordOf_44 : decode cX12_accordOf 44 = .ok (.goto 4, 3) := by decide +kernel
theorem dX12_accordOf_47 : decode cX12_accordOf 47 = .ok (.iconst 0, 1) := by decide +kernel
theorem dX12_accordOf_48 : decode cX12_accordOf 48 = .ok (.iadd, 1) := by decide +kernel
theorem dX12_accordOf_49 : decode cX12_accordOf 49 = .ok (.istore_n 3, 1) := by decide +kernel
theorem dX12_accordOf_50 : decode cX12_accordOf 50 = .ok (.iinc 4 1, 3) := by decide +kernel
theorem dX12_accordOf_53 : decode cX12_accordOf 53 = .ok (.goto (-48), 3) := by decide +kernel
theorem dX12_accordOf_56 : decode cX12_accordOf 56 = .ok (.iload_n 3, 1) := by decide +kernel
theorem dX12_accordOf_57 : decode cX12_accordOf 57 = .ok (.ireturn, 1) := by decide +kernel
theorem dX12_accord_0 : decode cX12_accord 0 = .ok (.aload_n 0, 1) := by decide +kernel
theorem dX12_accord_1 : decode cX12_accord 1 = .ok (.iconst 0, 1) := by decide +kernel
theorem dX12_accord_2 : decode cX12_accord 2 = .ok (.putfield 79, 3) := by decide +kernel
theorem dX12_accord_5 : decode cX12_accord 5 = .ok (.aload_n 0, 1) := by decide +kernel
theorem dX12_accord_6 : decode cX12_accord 6 = .ok (.iload_n 1, 1) := by decide +kernel
theorem dX12_accord_7 : decode cX12_accord 7 = .ok (.invokevirtual 292, 3) := by decide +kernel
theorem dX12_accord_10 : decode cX12_accord 10 = .ok (.ifCond .eq 20, 3) := by decide +kernel
theorem dX12_accord_13 : decode cX12_accord 13 = .ok (.aload_n 0, 1) := by decide +kernel
theorem dX12_accord_14 : decode cX12_accord 14 = .ok (.iload_n 2, 1) := by decide +kernel
theorem dX12_accord_15 : decode cX12_accord 15 = .ok (.invokevirtual 292, 3) := by decide +kernel
theorem dX12_accord_18 : decode cX12_accord 18 = .ok (.ifCond .eq 12, 3) := by decide +kernel
theorem dX12_accord_21 : decode cX12_accord 21 = .ok (.aload_n 0, 1) := by decide +kernel
theorem dX12_accord_22 : decode cX12_accord 22 = .ok (.iload_n 1, 1) := by decide +kernel
theorem dX12_accord_23 : decode cX12_accord 23 = .ok (.iload_n 2, 1) := by decide +kernel
theorem dX12_accord_24 : decode cX12_accord 24 = .ok (.invokevirtual 394, 3) := by decide +kernel
theorem dX12_accord_27 : decode cX12_accord 27 = .ok (.goto 5, 3) := by decide +kernel
theorem dX12_accord_30 : decode cX12_accord 30 = .ok (.ldc 173, 2) := by decide +kernel
theorem dX12_accord_32 : decode cX12_accord 32 = .ok (.ireturn, 1) := by decide +kernel
theorem dX12_shares_0 : decode cX12_shares 0 = .ok (.aload_n 0, 1) := by decide +kernel
theorem dX12_shares_1 : decode cX12_shares 1 = .ok (.iconst 0, 1) := by decide +kernel
theorem dX12_shares_2 : decode cX12_shares 2 = .ok (.putfield 79, 3) := by decide +kernel
theorem dX12_shares_5 : decode cX12_shares 5 = .ok (.aload_n 0, 1) := by decide +kernel
theorem dX12_shares_6 : decode cX12_shares 6 = .ok (.iload_n 1, 1) := by decide +kernel
theorem dX12_shares_7 : decode cX12_shares 7 = .ok (.invokevirtual 292, 3) := by decide +kernel
theorem dX12_shares_10 : decode cX12_shares 10 = .ok (.ifCond .eq 27, 3) := by decide +kernel
theorem dX12_shares_13 : decode cX12_shares 13 = .ok (.aload_n 0, 1) := by decide +kernel
theorem dX12_shares_14 : decode cX12_shares 14 = .ok (.getfield 44, 3) := by decide +kernel
theorem dX12_shares_17 : decode cX12_shares 17 = .ok (.bipush 8, 2) := by decide +kernel
theorem dX12_shares_19 : decode cX12_shares 19 = .ok (.iload_n 1, 1) := by decide +kernel
theorem dX12_shares_20 : decode cX12_shares 20 = .ok (.iadd, 1) := by decide +kernel
theorem dX12_shares_21 : decode cX12_shares 21 = .ok (.iaload, 1) := by decide +kernel
theorem dX12_shares_22 : decode cX12_shares 22 = .ok (.ifCond .ne 15, 3) := by decide +kernel
theorem dX12_shares_25 : decode cX12_shares 25 = .ok (.iload_n 2, 1) := by decide +kernel
theorem dX12_shares_26 : decode cX12_shares 26 = .ok (.i2l, 1) := by decide +kernel
theorem dX12_shares_27 : decode cX12_shares 27 = .ok (.lconst 0, 1) := by decide +kernel
theorem dX12_shares_28 : decode cX12_shares 28 = .ok (.ldc2_w 282, 3) := by decide +kernel
theorem dX12_shares_31 : decode cX12_shares 31 = .ok (.invokestatic 122, 3) := by decide +kernel
theorem dX12_shares_34 : decode cX12_shares 34 = .ok (.ifCond .ne 5, 3) := by decide +kernel
theorem dX12_shares_37 : decode cX12_shares 37 = .ok (.iconst (-1), 1) := by decide +kernel
theorem dX12_shares_38 : decode cX12_shares 38 = .ok (.ireturn, 1) := by decide +kernel
theorem dX12_shares_39 : decode cX12_shares 39 = .ok (.iload_n 2, 1) := by decide +kernel
theorem dX12_shares_40 : decode cX12_shares 40 = .ok (.aload_n 0, 1) := by decide +kernel
theorem dX12_shares_41 : decode cX12_shares 41 = .ok (.iload_n 1, 1) := by decide +kernel
theorem dX12_shares_42 : decode cX12_shares 42 = .ok (.invokevirtual 230, 3) := by decide +kernel
theorem dX12_shares_45 : decode cX12_shares 45 = .ok (.imul, 1) := by decide +kernel
theorem dX12_shares_46 : decode cX12_shares 46 = .ok (.aload_n 0, 1) := by decide +kernel
theorem dX12_shares_47 : decode cX12_shares 47 = .ok (.invokevirtual 397, 3) := by decide +kernel
theorem dX12_shares_50 : decode cX12_shares 50 = .ok (.idiv, 1) := by decide +kernel
theorem dX12_shares_51 : decode cX12_shares 51 = .ok (.ireturn, 1) := by decide +kernel
theorem dX12_stiffnesses_0 : decode cX12_stiffnesses 0 = .ok (.iconst 0, 1) := by decide +kernel
theorem dX12_stiffnesses_1 : decode cX12_stiffnesses 1 = .ok (.istore_n 1, 1) := by decide +kernel
theorem dX12_stiffnesses_2 : decode cX12_stiffnesses 2 = .ok (.iconst 0, 1) := by decide +kernel
theorem dX12_stiffnesses_3 : decode cX12_stiffnesses 3 = .ok (.istore_n 2, 1) := by decide +kernel
theorem dX12_stiffnesses_4 : decode cX12_stiffnesses 4 = .ok (.iload_n 2, 1) := by decide +kernel
theorem dX12_stiffnesses_5 : decode cX12_stiffnesses 5 = .ok (.aload_n 0, 1) := by decide +kernel
theorem dX12_stiffnesses_6 : decode cX12_stiffnesses 6 = .ok (.getfield 189, 3) := by decide +kernel
theorem dX12_stiffnesses_9 : decode cX12_stiffnesses 9 = .ok (.if_icmp .ge 33, 3) := by decide +kernel
theorem dX12_stiffnesses_12 : decode cX12_stiffnesses 12 = .ok (.iload_n 1, 1) := by decide +kernel
theorem dX12_stiffnesses_13 : decode cX12_stiffnesses 13 = .ok (.aload_n 0, 1) := by decide +kernel
theorem dX12_stiffnesses_14 : decode cX12_stiffnesses 14 = .ok (.getfield 44, 3) := by decide +kernel
theorem dX12_stiffnesses_17 : decode cX12_stiffnesses 17 = .ok (.bipush 8, 2) := by decide +kernel
theorem dX12_stiffnesses_19 : decode cX12_stiffnesses 19 = .ok (.iload_n 2, 1) := by decide +kernel
theorem dX12_stiffnesses_20 : decode cX12_stiffnesses 20 = .ok (.iadd, 1) := by decide +kernel
theorem dX12_stiffnesses_21 : decode cX12_stiffnesses 21 = .ok (.iaload, 1) := by decide +kernel
theorem dX12_stiffnesses_22 : decode cX12_stiffnesses 22 = .ok (.ifCond .ne 11, 3) := by decide +kernel
theorem dX12_stiffnesses_25 : decode cX12_stiffnesses 25 = .ok (.aload_n 0, 1) := by decide +kernel
theorem dX12_stiffnesses_26 : decode cX12_stiffnesses 26 = .ok (.iload_n 2, 1) := by decide +kernel
theorem dX12_stiffnesses_27 : decode cX12_stiffnesses 27 = .ok (.invokevirtual 230, 3) := by decide +kernel
theorem dX12_stiffnesses_30 : decode cX12_stiffnesses 30 = .ok (.goto 4, 3) := by decide +kernel
theorem dX12_stiffnesses_33 : decode cX12_stiffnesses 33 = .ok (.iconst 0, 1) := by decide +kernel
theorem dX12_stiffnesses_34 : decode cX12_stiffnesses 34 = .ok (.iadd, 1) := by decide +kernel
theorem dX12_stiffnesses_35 : decode cX12_stiffnesses 35 = .ok (.istore_n 1, 1) := by decide +kernel
theorem dX12_stiffnesses_36 : decode cX12_stiffnesses 36 = .ok (.iinc 2 1, 3) := by decide +kernel
theorem dX12_stiffnesses_39 : decode cX12_stiffnesses 39 = .ok (.goto (-35), 3) := by decide +kernel
theorem dX12_stiffnesses_42 : decode cX12_stiffnesses 42 = .ok (.iload_n 1, 1) := by decide +kernel
theorem dX12_stiffnesses_43 : decode cX12_stiffnesses 43 = .ok (.ireturn, 1) := by decide +kernel
theorem dX12_isWind_0 : decode cX12_isWind 0 = .ok (.aload_n 0, 1) := by decide +kernel
theorem dX12_isWind_1 : decode cX12_isWind 1 = .ok (.getfield 189, 3) := by decide +kernel
theorem dX12_isWind_4 : decode cX12_isWind 4 = .ok (.ifCond .le 29, 3) := by decide +kernel
theorem dX12_isWind_7 : decode cX12_isWind 7 = .ok (.aload_n 0, 1) := by decide +kernel
theorem dX12_isWind_8 : decode cX12_isWind 8 = .ok (.iload_n 1, 1) := by decide +kernel
theorem dX12_isWind_9 : decode cX12_isWind 9 = .ok (.iload_n 2, 1) := by decide +kernel
theorem dX12_isWind_10 : decode cX12_isWind 10 = .ok (.iload_n 3, 1) := by decide +kernel
theorem dX12_isWind_11 : decode cX12_isWind 11 = .ok (.invokevirtual 284, 3) := by decide +kernel
theorem dX12_isWind_14 : decode cX12_isWind 14 = .ok (.ifCond .eq 19, 3) := by decide +kernel
theorem dX12_isWind_17 : decode cX12_isWind 17 = .ok (.iload_n 1, 1) := by decide +kernel
theorem dX12_isWind_18 : decode cX12_isWind 18 = .ok (.ifCond .ne 11, 3) := by decide +kernel
theorem dX12_isWind_21 : decode cX12_isWind 21 = .ok (.iload_n 2, 1) := by decide +kernel
theorem dX12_isWind_22 : decode cX12_isWind 22 = .ok (.ifCond .ne 7, 3) := by decide +kernel
theorem dX12_isWind_25 : decode cX12_isWind 25 = .ok (.iload_n 3, 1) := by decide +kernel
theorem dX12_isWind_26 : decode cX12_isWind 26 = .ok (.ifCond .eq 7, 3) := by decide +kernel
theorem dX12_isWind_29 : decode cX12_isWind 29 = .ok (.iconst 1, 1) := by decide +kernel
theorem dX12_isWind_30 : decode cX12_isWind 30 = .ok (.goto 4, 3) := by decide +kernel
theorem dX12_isWind_33 : decode cX12_isWind 33 = .ok (.iconst 0, 1) := by decide +kernel
theorem dX12_isWind_34 : decode cX12_isWind 34 = .ok (.ireturn, 1) := by decide +kernel
theorem dX12_stand_0 : decode cX12_stand 0 = .ok (.aload_n 0, 1) := by decide +kernel
theorem dX12_stand_1 : decode cX12_stand 1 = .ok (.iconst 0, 1) := by decide +kernel
theorem dX12_stand_2 : decode cX12_stand 2 = .ok (.putfield 79, 3) := by decide +kernel
theorem dX12_stand_5 : decode cX12_stand 5 = .ok (.aload_n 0, 1) := by decide +kernel
theorem dX12_stand_6 : decode cX12_stand 6 = .ok (.iload_n 1, 1) := by decide +kernel
theorem dX12_stand_7 : decode cX12_stand 7 = .ok (.iload_n 2, 1) := by decide +kernel
theorem dX12_stand_8 : decode cX12_stand 8 = .ok (.iload_n 3, 1) := by decide +kernel
theorem dX12_stand_9 : decode cX12_stand 9 = .ok (.invokevirtual 400, 3) := by decide +kernel
theorem dX12_stand_12 : decode cX12_stand 12 = .ok (.ifCond .eq 14, 3) := by decide +kernel
theorem dX12_stand_15 : decode cX12_stand 15 = .ok (.iload 4, 2) := by decide +kernel
theorem dX12_stand_17 : decode cX12_stand 17 = .ok (.i2l, 1) := by decide +kernel
theorem dX12_stand_18 : decode cX12_stand 18 = .ok (.lconst 0, 1) := by decide +kernel
theorem dX12_stand_19 : decode cX12_stand 19 = .ok (.lconst 1, 1) := by decide +kernel
theorem dX12_stand_20 : decode cX12_stand 20 = .ok (.invokestatic 122, 3) := by decide +kernel
theorem dX12_stand_23 : decode cX12_stand 23 = .ok (.ifCond .ne 6, 3) := by decide +kernel
theorem dX12_stand_26 : decode cX12_stand 26 = .ok (.ldc 173, 2) := by decide +kernel
theorem dX12_stand_28 : decode cX12_stand 28 = .ok (.ireturn, 1) := by decide +kernel
theorem dX12_stand_29 : decode cX12_stand 29 = .ok (.aload_n 0, 1) := by decide +kernel
theorem dX12_stand_30 : decode cX12_stand 30 = .ok (.getfield 44, 3) := by decide +kernel
theorem dX12_stand_33 : decode cX12_stand 33 = .ok (.iconst 0, 1) := by decide +kernel
theorem dX12_stand_34 : decode cX12_stand 34 = .ok (.aload_n 0, 1) := by decide +kernel
theorem dX12_stand_35 : decode cX12_stand 35 = .ok (.getfield 47, 3) := by decide +kernel
theorem dX12_stand_38 : decode cX12_stand 38 = .ok (.iconst 0, 1) := by decide +kernel
theorem dX12_stand_39 : decode cX12_stand 39 = .ok (.invokestatic 208, 3) := by decide +kernel
theorem dX12_stand_42 : decode cX12_stand 42 = .ok (.iconst 0, 1) := by decide +kernel
theorem dX12_stand_43 : decode cX12_stand 43 = .ok (.istore 5, 2) := by decide +kernel
theorem dX12_stand_45 : decode cX12_stand 45 = .ok (.iload 5, 2) := by decide +kernel
theorem dX12_stand_47 : decode cX12_stand 47 = .ok (.bipush 60, 2) := by decide +kernel
theorem dX12_stand_49 : decode cX12_stand 49 = .ok (.if_icmp .ge 61, 3) := by decide +kernel
theorem dX12_stand_52 : decode cX12_stand 52 = .ok (.aload_n 0, 1) := by decide +kernel
theorem dX12_stand_53 : decode cX12_stand 53 = .ok (.aload_n 0, 1) := by decide +kernel
theorem dX12_stand_54 : decode cX12_stand 54 = .ok (.getfield 47, 3) := by decide +kernel
theorem dX12_stand_57 : decode cX12_stand 57 = .ok (.iconst 0, 1) := by decide +kernel
theorem dX12_stand_58 : decode cX12_stand 58 = .ok (.iload_n 1, 1) := by decide +kernel
theorem dX12_stand_59 : decode cX12_stand 59 = .ok (.iload_n 2, 1) := by decide +kernel
theorem dX12_stand_60 : decode cX12_stand 60 = .ok (.iload_n 3, 1) := by decide +kernel
theorem dX12_stand_61 : decode cX12_stand 61 = .ok (.invokevirtual 322, 3) := by decide +kernel
theorem dX12_stand_64 : decode cX12_stand 64 = .ok (.iconst (-1), 1) := by decide +kernel
theorem dX12_stand_65 : decode cX12_stand 65 = .ok (.if_icmp .eq 15, 3) := by decide +kernel
theorem dX12_stand_68 : decode cX12_stand 68 = .ok (.iload 4, 2) := by decide +kernel
theorem dX12_stand_70 : decode cX12_stand 70 = .ok (.ifCond .ne 8, 3) := by decide +kernel
theorem dX12_stand_73 : decode cX12_stand 73 = .ok (.iload 5, 2) := by decide +kernel
theorem dX12_stand_75 : decode cX12_stand 75 = .ok (.goto 4, 3) := by decide +kernel
theorem dX12_stand_78 : decode cX12_stand 78 = .ok (.iconst (-1), 1) := by decide +kernel
theorem dX12_stand_79 : decode cX12_stand 79 = .ok (.ireturn, 1) := by decide +kernel
theorem dX12_stand_80 : decode cX12_stand 80 = .ok (.aload_n 0, 1) := by decide +kernel
theorem dX12_stand_81 : decode cX12_stand 81 = .ok (.getfield 252, 3) := by decide +kernel
theorem dX12_stand_84 : decode cX12_stand 84 = .ok (.ifCond .le 20, 3) := by decide +kernel
theorem dX12_stand_87 : decode cX12_stand 87 = .ok (.iload 4, 2) := by decide +kernel
theorem dX12_stand_89 : decode cX12_stand 89 = .ok (.ifCond .ne 8, 3) := by decide +kernel
theorem dX12_stand_92 : decode cX12_stand 92 = .ok (.iload 5, 2) := by decide +kernel
theorem dX12_stand_94 : decode cX12_stand 94 = .ok (.goto 9, 3) := by decide +kernel
theorem dX12_stand_97 : decode cX12_stand 97 = .ok (.aload_n 0, 1) := by decide +kernel
theorem dX12_stand_98 : decode cX12_stand 98 = .ok (.getfield 70, 3) := by decide +kernel
theorem dX12_stand_101 : decode cX12_stand 101 = .ok (.iconst 0, 1) := by decide +kernel
theorem dX12_stand_102 : decode cX12_stand 102 = .ok (.iaload, 1) := by decide +kernel
theorem dX12_stand_103 : decode cX12_stand 103 = .ok (.ireturn, 1) := by decide +kernel
theorem dX12_stand_104 : decode cX12_stand 104 = .ok (.iinc 5 1, 3) := by decide +kernel
theorem dX12_stand_107 : decode cX12_stand 107 = .ok (.goto (-62), 3) := by decide +kernel
theorem dX12_stand_110 : decode cX12_stand 110 = .ok (.iload 4, 2) := by decide +kernel
theorem dX12_stand_112 : decode cX12_stand 112 = .ok (.ifCond .ne 8, 3) := by decide +kernel
theorem dX12_stand_115 : decode cX12_stand 115 = .ok (.iload 5, 2) := by decide +kernel
theorem dX12_stand_117 : decode cX12_stand 117 = .ok (.goto 4, 3) := by decide +kernel
theorem dX12_stand_120 : decode cX12_stand 120 = .ok (.iconst (-1), 1) := by decide +kernel
theorem dX12_stand_121 : decode cX12_stand 121 = .ok (.ireturn, 1) := by decide +kernel
theorem dX12_fall_0 : decode cX12_fall 0 = .ok (.aload_n 0, 1) := by decide +kernel
theorem dX12_fall_1 : decode cX12_fall 1 = .ok (.iconst 0, 1) := by decide +kernel
theorem dX12_fall_2 : decode cX12_fall 2 = .ok (.putfield 79, 3) := by decide +kernel
theorem dX12_fall_5 : decode cX12_fall 5 = .ok (.aload_n 0, 1) := by decide +kernel
theorem dX12_fall_6 : decode cX12_fall 6 = .ok (.iload_n 1, 1) := by decide +kernel
theorem dX12_fall_7 : decode cX12_fall 7 = .ok (.iload_n 2, 1) := by decide +kernel
theorem dX12_fall_8 : decode cX12_fall 8 = .ok (.iload_n 3, 1) := by decide +kernel
theorem dX12_fall_9 : decode cX12_fall 9 = .ok (.invokevirtual 400, 3) := by decide +kernel
theorem dX12_fall_12 : decode cX12_fall 12 = .ok (.ifCond .eq 19, 3) := by decide +kernel
theorem dX12_fall_15 : decode cX12_fall 15 = .ok (.iload 4, 2) := by decide +kernel
theorem dX12_fall_17 : decode cX12_fall 17 = .ok (.ifCond .lt 14, 3) := by decide +kernel
theorem dX12_fall_20 : decode cX12_fall 20 = .ok (.iload 5, 2) := by decide +kernel
theorem dX12_fall_22 : decode cX12_fall 22 = .ok (.i2l, 1) := by decide +kernel
theorem dX12_fall_23 : decode cX12_fall 23 = .ok (.lconst 0, 1) := by decide +kernel
theorem dX12_fall_24 : decode cX12_fall 24 = .ok (.lconst 1, 1) := by decide +kernel
theorem dX12_fall_25 : decode cX12_fall 25 = .ok (.invokestatic 122, 3) := by decide +kernel
theorem dX12_fall_28 : decode cX12_fall 28 = .ok (.ifCond .ne 6, 3) := by decide +kernel
theorem dX12_fall_31 : decode cX12_fall 31 = .ok (.ldc 173, 2) := by decide +kernel
theorem dX12_fall_33 : decode cX12_fall 33 = .ok (.ireturn, 1) := by decide +kernel
theorem dX12_fall_34 : decode cX12_fall 34 = .ok (.aload_n 0, 1) := by decide +kernel
theorem dX12_fall_35 : decode cX12_fall 35 = .ok (.getfield 44, 3) := by decide +kernel
theorem dX12_fall_38 : decode cX12_fall 38 = .ok (.iconst 0, 1) := by decide +kernel
theorem dX12_fall_39 : decode cX12_fall 39 = .ok (.aload_n 0, 1) := by decide +kernel
theorem dX12_fall_40 : decode cX12_fall 40 = .ok (.getfield 47, 3) := by decide +kernel
theorem dX12_fall_43 : decode cX12_fall 43 = .ok (.iconst 0, 1) := by decide +kernel
theorem dX12_fall_44 : decode cX12_fall 44 = .ok (.invokestatic 208, 3) := by decide +kernel
theorem dX12_fall_47 : decode cX12_fall 47 = .ok (.iconst 0, 1) := by decide +kernel
theorem dX12_fall_48 : decode cX12_fall 48 = .ok (.istore 6, 2) := by decide +kernel
theorem dX12_fall_50 : decode cX12_fall 50 = .ok (.iconst 1, 1) := by decide +kernel
theorem dX12_fall_51 : decode cX12_fall 51 = .ok (.istore 7, 2) := by decide +kernel
theorem dX12_fall_53 : decode cX12_fall 53 = .ok (.iload 7, 2) := by decide +kernel
theorem dX12_fall_55 : decode cX12_fall 55 = .ok (.bipush 60, 2) := by decide +kernel
theorem dX12_fall_57 : decode cX12_fall 57 = .ok (.if_icmp .gt 70, 3) := by decide +kernel
theorem dX12_fall_60 : decode cX12_fall 60 = .ok (.aload_n 0, 1) := by decide +kernel
theorem dX12_fall_61 : decode cX12_fall 61 = .ok (.aload_n 0, 1) := by decide +kernel
theorem dX12_fall_62 : decode cX12_fall 62 = .ok (.getfield 47, 3) := by decide +kernel
theorem dX12_fall_65 : decode cX12_fall 65 = .ok (.iconst 0, 1) := by decide +kernel
theorem dX12_fall_66 : decode cX12_fall 66 = .ok (.iload_n 1, 1) := by decide +kernel
theorem dX12_fall_67 : decode cX12_fall 67 = .ok (.iload_n 2, 1) := by decide +kernel
theorem dX12_fall_68 : decode cX12_fall 68 = .ok (.iload_n 3, 1) := by decide +kernel
theorem dX12_fall_69 : decode cX12_fall 69 = .ok (.invokevirtual 322, 3) := by decide +kernel
theorem dX12_fall_72 : decode cX12_fall 72 = .ok (.iconst (-1), 1) := by decide +kernel
theorem dX12_fall_73 : decode cX12_fall 73 = .ok (.if_icmp .eq 6, 3) := by decide +kernel
theorem dX12_fall_76 : decode cX12_fall 76 = .ok (.ldc 173, 2) := by decide +kernel
theorem dX12_fall_78 : decode cX12_fall 78 = .ok (.ireturn, 1) := by decide +kernel
theorem dX12_fall_79 : decode cX12_fall 79 = .ok (.iload 4, 2) := by decide +kernel
theorem dX12_fall_81 : decode cX12_fall 81 = .ok (.iload 6, 2) := by decide +kernel
theorem dX12_fall_83 : decode cX12_fall 83 = .ok (.aload_n 0, 1) := by decide +kernel
theorem dX12_fall_84 : decode cX12_fall 84 = .ok (.getfield 252, 3) := by decide +kernel
theorem dX12_fall_87 : decode cX12_fall 87 = .ok (.iadd, 1) := by decide +kernel
theorem dX12_fall_88 : decode cX12_fall 88 = .ok (.if_icmp .ge 24, 3) := by decide +kernel
theorem dX12_fall_91 : decode cX12_fall 91 = .ok (.iload 5, 2) := by decide +kernel
theorem dX12_fall_93 : decode cX12_fall 93 = .ok (.ifCond .ne 16, 3) := by decide +kernel
theorem dX12_fall_96 : decode cX12_fall 96 = .ok (.aload_n 0, 1) := by decide +kernel
theorem dX12_fall_97 : decode cX12_fall 97 = .ok (.getfield 70, 3) := by decide +kernel
theorem dX12_fall_100 : decode cX12_fall 100 = .ok (.iload 4, 2) := by decide +kernel
theorem dX12_fall_102 : decode cX12_fall 102 = .ok (.iload 6, 2) := by decide +kernel
theorem dX12_fall_104 : decode cX12_fall 104 = .ok (.isub, 1) := by decide +kernel
theorem dX12_fall_105 : decode cX12_fall 105 = .ok (.iaload, 1) := by decide +kernel
theorem dX12_fall_106 : decode cX12_fall 106 = .ok (.goto 5, 3) := by decide +kernel
theorem dX12_fall_109 : decode cX12_fall 109 = .ok (.iload 7, 2) := by decide +kernel
theorem dX12_fall_111 : decode cX12_fall 111 = .ok (.ireturn, 1) := by decide +kernel
theorem dX12_fall_112 : decode cX12_fall 112 = .ok (.iload 6, 2) := by decide +kernel
theorem dX12_fall_114 : decode cX12_fall 114 = .ok (.aload_n 0, 1) := by decide +kernel
theorem dX12_fall_115 : decode cX12_fall 115 = .ok (.getfield 252, 3) := by decide +kernel
theorem dX12_fall_118 : decode cX12_fall 118 = .ok (.iadd, 1) := by decide +kernel
theorem dX12_fall_119 : decode cX12_fall 119 = .ok (.istore 6, 2) := by decide +kernel
theorem dX12_fall_121 : decode cX12_fall 121 = .ok (.iinc 7 1, 3) := by decide +kernel
theorem dX12_fall_124 : decode cX12_fall 124 = .ok (.goto (-71), 3) := by decide +kernel
theorem dX12_fall_127 : decode cX12_fall 127 = .ok (.ldc 173, 2) := by decide +kernel
theorem dX12_fall_129 : decode cX12_fall 129 = .ok (.ireturn, 1) := by decide +kernel
theorem dX12_ease_0 : decode cX12_ease 0 = .ok (.aload_n 0, 1) := by decide +kernel
theorem dX12_ease_1 : decode cX12_ease 1 = .ok (.iconst 0, 1) := by decide +kernel
theorem dX12_ease_2 : decode cX12_ease 2 = .ok (.putfield 79, 3) := by decide +kernel
theorem dX12_ease_5 : decode cX12_ease 5 = .ok (.aload_n 0, 1) := by decide +kernel
theorem dX12_ease_6 : decode cX12_ease 6 = .ok (.iload_n 1, 1) := by decide +kernel
theorem dX12_ease_7 : decode cX12_ease 7 = .ok (.invokevirtual 292, 3) := by decide +kernel
theorem dX12_ease_10 : decode cX12_ease 10 = .ok (.ifCond .eq 16, 3) := by decide +kernel
theorem dX12_ease_13 : decode cX12_ease 13 = .ok (.aload_n 0, 1) := by decide +kernel
theorem dX12_ease_14 : decode cX12_ease 14 = .ok (.getfield 44, 3) := by decide +kernel
theorem dX12_ease_17 : decode cX12_ease 17 = .ok (.bipush 8, 2) := by decide +kernel
theorem dX12_ease_19 : decode cX12_ease 19 = .ok (.iload_n 1, 1) := by decide +kernel
theorem dX12_ease_20 : decode cX12_ease 20 = .ok (.iadd, 1) := by decide +kernel
theorem dX12_ease_21 : decode cX12_ease 21 = .ok (.iaload, 1) := by decide +kernel
theorem dX12_ease_22 : decode cX12_ease 22 = .ok (.iconst 2, 1) := by decide +kernel
theorem dX12_ease_23 : decode cX12_ease 23 = .ok (.if_icmp .lt 5, 3) := by decide +kernel
theorem dX12_ease_26 : decode cX12_ease 26 = .ok (.iconst (-1), 1) := by decide +kernel
theorem dX12_ease_27 : decode cX12_ease 27 = .ok (.ireturn, 1) := by decide +kernel
theorem dX12_ease_28 : decode cX12_ease 28 = .ok (.aload_n 0, 1) := by decide +kernel
theorem dX12_ease_29 : decode cX12_ease 29 = .ok (.getfield 44, 3) := by decide +kernel
theorem dX12_ease_32 : decode cX12_ease 32 = .ok (.iconst 0, 1) := by decide +kernel
theorem dX12_ease_33 : decode cX12_ease 33 = .ok (.aload_n 0, 1) := by decide +kernel
theorem dX12_ease_34 : decode cX12_ease 34 = .ok (.getfield 47, 3) := by decide +kernel
theorem dX12_ease_37 : decode cX12_ease 37 = .ok (.iconst 0, 1) := by decide +kernel
theorem dX12_ease_38 : decode cX12_ease 38 = .ok (.invokestatic 208, 3) := by decide +kernel
theorem dX12_ease_41 : decode cX12_ease 41 = .ok (.iconst 0, 1) := by decide +kernel
theorem dX12_ease_42 : decode cX12_ease 42 = .ok (.istore_n 2, 1) := by decide +kernel
theorem dX12_ease_43 : decode cX12_ease 43 = .ok (.iload_n 2, 1) := by decide +kernel
theorem dX12_ease_44 : decode cX12_ease 44 = .ok (.bipush 60, 2) := by decide +kernel
theorem dX12_ease_46 : decode cX12_ease 46 = .ok (.if_icmp .gt 55, 3) := by decide +kernel
theorem dX12_ease_49 : decode cX12_ease 49 = .ok (.aload_n 0, 1) := by decide +kernel
theorem dX12_ease_50 : decode cX12_ease 50 = .ok (.getfield 47, 3) := by decide +kernel
theorem dX12_ease_53 : decode cX12_ease 53 = .ok (.bipush 8, 2) := by decide +kernel
theorem dX12_ease_55 : decode cX12_ease 55 = .ok (.iload_n 1, 1) := by decide +kernel
theorem dX12_ease_56 : decode cX12_ease 56 = .ok (.iadd, 1) := by decide +kernel
theorem dX12_ease_57 : decode cX12_ease 57 = .ok (.iaload, 1) := by decide +kernel
theorem dX12_ease_58 : decode cX12_ease 58 = .ok (.iconst 1, 1) := by decide +kernel
theorem dX12_ease_59 : decode cX12_ease 59 = .ok (.if_icmp .ne 5, 3) := by decide +kernel
theorem dX12_ease_62 : decode cX12_ease 62 = .ok (.iload_n 2, 1) := by decide +kernel
theorem dX12_ease_63 : decode cX12_ease 63 = .ok (.ireturn, 1) := by decide +kernel
theorem dX12_ease_64 : decode cX12_ease 64 = .ok (.iload_n 2, 1) := by decide +kernel
theorem dX12_ease_65 : decode cX12_ease 65 = .ok (.bipush 60, 2) := by decide +kernel
theorem dX12_ease_67 : decode cX12_ease 67 = .ok (.if_icmp .eq 26, 3) := by decide +kernel
theorem dX12_ease_70 : decode cX12_ease 70 = .ok (.aload_n 0, 1) := by decide +kernel
theorem dX12_ease_71 : decode cX12_ease 71 = .ok (.aload_n 0, 1) := by decide +kernel
theorem dX12_ease_72 : decode cX12_ease 72 = .ok (.getfield 47, 3) := by decide +kernel
theorem dX12_ease_75 : decode cX12_ease 75 = .ok (.iconst 1, 1) := by decide +kernel
theorem dX12_ease_76 : decode cX12_ease 76 = .ok (.iload_n 1, 1) := by decide +kernel
theorem dX12_ease_77 : decode cX12_ease 77 = .ok (.iconst (-1), 1) := by decide +kernel
theorem dX12_ease_78 : decode cX12_ease 78 = .ok (.iconst 0, 1) := by decide +kernel
theorem dX12_ease_79 : decode cX12_ease 79 = .ok (.invokevirtual 322, 3) := by decide +kernel
theorem dX12_ease_82 : decode cX12_ease 82 = .ok (.iconst (-1), 1) := by decide +kernel
theorem dX12_ease_83 : decode cX12_ease 83 = .ok (.if_icmp .ne 10, 3) := by decide +kernel
theorem dX12_ease_86 : decode cX12_ease 86 = .ok (.aload_n 0, 1) := by decide +kernel
theorem dX12_ease_87 : decode cX12_ease 87 = .ok (.getfield 252, 3) := by decide +kernel
theorem dX12_ease_90 : decode cX12_ease 90 = .ok (.ifCond .le 5, 3) := by decide +kernel
theorem dX12_ease_93 : decode cX12_ease 93 = .ok (.iconst (-1), 1) := by decide +kernel
theorem dX12_ease_94 : decode cX12_ease 94 = .ok (.ireturn, 1) := by decide +kernel
theorem dX12_ease_95 : decode cX12_ease 95 = .ok (.iinc 2 1, 3) := by decide +kernel
theorem dX12_ease_98 : decode cX12_ease 98 = .ok (.goto (-55), 3) := by decide +kernel
theorem dX12_ease_101 : decode cX12_ease 101 = .ok (.iconst (-1), 1) := by decide +kernel
theorem dX12_ease_102 : decode cX12_ease 102 = .ok (.ireturn, 1) := by decide +kernel
theorem dX12_range_0 : decode cX12_range 0 = .ok (.aload_n 0, 1) := by decide +kernel
theorem dX12_range_1 : decode cX12_range 1 = .ok (.iconst 0, 1) := by decide +kernel
theorem dX12_range_2 : decode cX12_range 2 = .ok (.putfield 79, 3) := by decide +kernel
theorem dX12_range_5 : decode cX12_range 5 = .ok (.aload_n 0, 1) := by decide +kernel
theorem dX12_range_6 : decode cX12_range 6 = .ok (.getfield 189, 3) := by decide +kernel
theorem dX12_range_9 : decode cX12_range 9 = .ok (.ifCond .eq 15, 3) := by decide +kernel
theorem dX12_range_12 : decode cX12_range 12 = .ok (.iload_n 1, 1) := by decide +kernel
theorem dX12_range_13 : decode cX12_range 13 = .ok (.i2l, 1) := by decide +kernel
theorem dX12_range_14 : decode cX12_range 14 = .ok (.lconst 0, 1) := by decide +kernel
theorem dX12_range_15 : decode cX12_range 15 = .ok (.ldc2_w 357, 3) := by decide +kernel
theorem dX12_range_18 : decode cX12_range 18 = .ok (.invokestatic 122, 3) := by decide +kernel
theorem dX12_range_21 : decode cX12_range 21 = .ok (.ifCond .ne 5, 3) := by decide +kernel
theorem dX12_range_24 : decode cX12_range 24 = .ok (.iconst (-1), 1) := by decide +kernel
theorem dX12_range_25 : decode cX12_range 25 = .ok (.ireturn, 1) := by decide +kernel
theorem dX12_range_26 : decode cX12_range 26 = .ok (.aload_n 0, 1) := by decide +kernel
theorem dX12_range_27 : decode cX12_range 27 = .ok (.getfield 44, 3) := by decide +kernel
theorem dX12_range_30 : decode cX12_range 30 = .ok (.iconst 0, 1) := by decide +kernel
theorem dX12_range_31 : decode cX12_range 31 = .ok (.aload_n 0, 1) := by decide +kernel
theorem dX12_range_32 : decode cX12_range 32 = .ok (.getfield 47, 3) := by decide +kernel
theorem dX12_range_35 : decode cX12_range 35 = .ok (.iconst 0, 1) := by decide +kernel
theorem dX12_range_36 : decode cX12_range 36 = .ok (.invokestatic 208, 3) := by decide +kernel
theorem dX12_range_39 : decode cX12_range 39 = .ok (.aload_n 0, 1) := by decide +kernel
theorem dX12_range_40 : decode cX12_range 40 = .ok (.getfield 44, 3) := by decide +kernel
theorem dX12_range_43 : decode cX12_range 43 = .ok (.aload_n 0, 1) := by decide +kernel
theorem dX12_range_44 : decode cX12_range 44 = .ok (.getfield 189, 3) := by decide +kernel
theorem dX12_range_47 : decode cX12_range 47 = .ok (.iconst 0, 1) := by decide +kernel
theorem dX12_range_48 : decode cX12_range 48 = .ok (.invokestatic 248, 3) := by decide +kernel
theorem dX12_range_51 : decode cX12_range 51 = .ok (.istore_n 3, 1) := by decide +kernel
theorem dX12_range_52 : decode cX12_range 52 = .ok (.iload_n 2, 1) := by decide +kernel
theorem dX12_range_53 : decode cX12_range 53 = .ok (.ifCond .eq 7, 3) := by decide +kernel
theorem dX12_range_56 : decode cX12_range 56 = .ok (.iconst 1, 1) := by decide +kernel
theorem dX12_range_57 : decode cX12_range 57 = .ok (.goto 4, 3) := by decide +kernel
theorem dX12_range_60 : decode cX12_range 60 = .ok (.iconst (-1), 1) := by decide +kernel
theorem dX12_range_61 : decode cX12_range 61 = .ok (.istore 4, 2) := by decide +kernel
theorem dX12_range_63 : decode cX12_range 63 = .ok (.iconst 0, 1) := by decide +kernel
theorem dX12_range_64 : decode cX12_range 64 = .ok (.istore 5, 2) := by decide +kernel
theorem dX12_range_66 : decode cX12_range 66 = .ok (.iload 5, 2) := by decide +kernel
theorem dX12_range_68 : decode cX12_range 68 = .ok (.bipush 60, 2) := by decide +kernel
theorem dX12_range_70 : decode cX12_range 70 = .ok (.if_icmp .ge 80, 3) := by decide +kernel
theorem dX12_range_73 : decode cX12_range 73 = .ok (.aload_n 0, 1) := by decide +kernel
theorem dX12_range_74 : decode cX12_range 74 = .ok (.aload_n 0, 1) := by decide +kernel
theorem dX12_range_75 : decode cX12_range 75 = .ok (.getfield 47, 3) := by decide +kernel
theorem dX12_range_78 : decode cX12_range 78 = .ok (.iconst 0, 1) := by decide +kernel
theorem dX12_range_79 : decode cX12_range 79 = .ok (.iload_n 1, 1) := by decide +kernel
theorem dX12_range_80 : decode cX12_range 80 = .ok (.ifCond .ne 8, 3) := by decide +kernel
theorem dX12_range_83 : decode cX12_range 83 = .ok (.iload 4, 2) := by decide +kernel
theorem dX12_range_85 : decode cX12_range 85 = .ok (.goto 4, 3) := by decide +kernel
theorem dX12_range_88 : decode cX12_range 88 = .ok (.iconst 0, 1) := by decide +kernel
theorem dX12_range_89 : decode cX12_range 89 = .ok (.iload_n 1, 1) := by decide +kernel
theorem dX12_range_90 : decode cX12_range 90 = .ok (.iconst 1, 1) := by decide +kernel
theorem dX12_range_91 : decode cX12_range 91 = .ok (.if_icmp .ne 8, 3) := by decide +kernel
theorem dX12_range_94 : decode cX12_range 94 = .ok (.iload 4, 2) := by decide +kernel
theorem dX12_range_96 : decode cX12_range 96 = .ok (.goto 4, 3) := by decide +kernel
theorem dX12_range_99 : decode cX12_range 99 = .ok (.iconst 0, 1) := by decide +kernel
theorem dX12_range_100 : decode cX12_range 100 = .ok (.iload_n 1, 1) := by decide +kernel
theorem dX12_range_101 : decode cX12_range 101 = .ok (.iconst 2, 1) := by decide +kernel
theorem dX12_range_102 : decode cX12_range 102 = .ok (.if_icmp .ne 8, 3) := by decide +kernel
theorem dX12_range_105 : decode cX12_range 105 = .ok (.iload 4, 2) := by decide +kernel
theorem dX12_range_107 : decode cX12_range 107 = .ok (.goto 4, 3) := by decide +kernel
theorem dX12_range_110 : decode cX12_range 110 = .ok (.iconst 0, 1) := by decide +kernel
theorem dX12_range_111 : decode cX12_range 111 = .ok (.invokevirtual 322, 3) := by decide +kernel
theorem dX12_range_114 : decode cX12_range 114 = .ok (.iconst (-1), 1) := by decide +kernel
theorem dX12_range_115 : decode cX12_range 115 = .ok (.if_icmp .ne 26, 3) := by decide +kernel
theorem dX12_range_118 : decode cX12_range 118 = .ok (.aload_n 0, 1) := by decide +kernel
theorem dX12_range_119 : decode cX12_range 119 = .ok (.getfield 252, 3) := by decide +kernel
theorem dX12_range_122 : decode cX12_range 122 = .ok (.ifCond .gt 19, 3) := by decide +kernel
theorem dX12_range_125 : decode cX12_range 125 = .ok (.aload_n 0, 1) := by decide +kernel
theorem dX12_range_126 : decode cX12_range 126 = .ok (.getfield 47, 3) := by decide +kernel
theorem dX12_range_129 : decode cX12_range 129 = .ok (.aload_n 0, 1) := by decide +kernel
theorem dX12_range_130 : decode cX12_range 130 = .ok (.getfield 189, 3) := by decide +kernel
theorem dX12_range_133 : decode cX12_range 133 = .ok (.iconst 0, 1) := by decide +kernel
theorem dX12_range_134 : decode cX12_range 134 = .ok (.invokestatic 248, 3) := by decide +kernel
theorem dX12_range_137 : decode cX12_range 137 = .ok (.iload_n 3, 1) := by decide +kernel
theorem dX12_range_138 : decode cX12_range 138 = .ok (.if_icmp .eq 6, 3) := by decide +kernel
theorem dX12_range_141 : decode cX12_range 141 = .ok (.iload 5, 2) := by decide +kernel
theorem dX12_range_143 : decode cX12_range 143 = .ok (.ireturn, 1) := by decide +kernel
theorem dX12_range_144 : decode cX12_range 144 = .ok (.iinc 5 1, 3) := by decide +kernel
theorem dX12_range_147 : decode cX12_range 147 = .ok (.goto (-81), 3) := by decide +kernel
theorem dX12_range_150 : decode cX12_range 150 = .ok (.iload 5, 2) := by decide +kernel
theorem dX12_range_152 : decode cX12_range 152 = .ok (.ireturn, 1) := by decide +kernel
theorem dX12_stood_0 : decode cX12_stood 0 = .ok (.aload_n 0, 1) := by decide +kernel
theorem dX12_stood_1 : decode cX12_stood 1 = .ok (.getfield 44, 3) := by decide +kernel
theorem dX12_stood_4 : decode cX12_stood 4 = .ok (.iconst 0, 1) := by decide +kernel
theorem dX12_stood_5 : decode cX12_stood 5 = .ok (.aload_n 0, 1) := by decide +kernel
theorem dX12_stood_6 : decode cX12_stood 6 = .ok (.getfield 47, 3) := by decide +kernel
theorem dX12_stood_9 : decode cX12_stood 9 = .ok (.iconst 0, 1) := by decide +kernel
theorem dX12_stood_10 : decode cX12_stood 10 = .ok (.invokestatic 208, 3) := by decide +kernel
theorem dX12_stood_13 : decode cX12_stood 13 = .ok (.iconst 0, 1) := by decide +kernel
theorem dX12_stood_14 : decode cX12_stood 14 = .ok (.istore 5, 2) := by decide +kernel
theorem dX12_stood_16 : decode cX12_stood 16 = .ok (.iload 5, 2) := by decide +kernel
theorem dX12_stood_18 : decode cX12_stood 18 = .ok (.iload 4, 2) := by decide +kernel
theorem dX12_stood_20 : decode cX12_stood 20 = .ok (.if_icmp .ge 32, 3) := by decide +kernel
theorem dX12_stood_23 : decode cX12_stood 23 = .ok (.aload_n 0, 1) := by decide +kernel
theorem dX12_stood_24 : decode cX12_stood 24 = .ok (.aload_n 0, 1) := by decide +kernel
theorem dX12_stood_25 : decode cX12_stood 25 = .ok (.getfield 47, 3) := by decide +kernel
theorem dX12_stood_28 : decode cX12_stood 28 = .ok (.iconst 0, 1) := by decide +kernel
theorem dX12_stood_29 : decode cX12_stood 29 = .ok (.iload_n 1, 1) := by decide +kernel
theorem dX12_stood_30 : decode cX12_stood 30 = .ok (.iload_n 2, 1) := by decide +kernel
theorem dX12_stood_31 : decode cX12_stood 31 = .ok (.iload_n 3, 1) := by decide +kernel
theorem dX12_stood_32 : decode cX12_stood 32 = .ok (.invokevirtual 322, 3) := by decide +kernel
theorem dX12_stood_35 : decode cX12_stood 35 = .ok (.iconst (-1), 1) := by decide +kernel
theorem dX12_stood_36 : decode cX12_stood 36 = .ok (.if_icmp .ne 16, 3) := by decide +kernel
theorem dX12_stood_39 : decode cX12_stood 39 = .ok (.aload_n 0, 1) := by decide +kernel
theorem dX12_stood_40 : decode cX12_stood 40 = .ok (.getfield 252, 3) := by decide +kernel
theorem dX12_stood_43 : decode cX12_stood 43 = .ok (.ifCond .ne 9, 3) := by decide +kernel
theorem dX12_stood_46 : decode cX12_stood 46 = .ok (.iinc 5 1, 3) := by decide +kernel
theorem dX12_stood_49 : decode cX12_stood 49 = .ok (.goto (-33), 3) := by decide +kernel
theorem dX12_stood_52 : decode cX12_stood 52 = .ok (.iload 5, 2) := by decide +kernel
theorem dX12_stood_54 : decode cX12_stood 54 = .ok (.ireturn, 1) := by decide +kernel
theorem dX12_odds_0 : decode cX12_odds 0 = .ok (.aload_n 0, 1) := by decide +kernel
theorem dX12_odds_1 : decode cX12_odds 1 = .ok (.iconst 0, 1) := by decide +kernel
theorem dX12_odds_2 : decode cX12_odds 2 = .ok (.putfield 79, 3) := by decide +kernel
theorem dX12_odds_5 : decode cX12_odds 5 = .ok (.iload_n 1, 1) := by decide +kernel
theorem dX12_odds_6 : decode cX12_odds 6 = .ok (.i2l, 1) := by decide +kernel
theorem dX12_odds_7 : decode cX12_odds 7 = .ok (.lconst 0, 1) := by decide +kernel
theorem dX12_odds_8 : decode cX12_odds 8 = .ok (.ldc2_w 403, 3) := by decide +kernel
theorem dX12_odds_11 : decode cX12_odds 11 = .ok (.invokestatic 122, 3) := by decide +kernel
theorem dX12_odds_14 : decode cX12_odds 14 = .ok (.ifCond .eq 27, 3) := by decide +kernel
theorem dX12_odds_17 : decode cX12_odds 17 = .ok (.aload_n 0, 1) := by decide +kernel
theorem dX12_odds_18 : decode cX12_odds 18 = .ok (.iload_n 2, 1) := by decide +kernel
theorem dX12_odds_19 : decode cX12_odds 19 = .ok (.iload_n 3, 1) := by decide +kernel
theorem dX12_odds_20 : decode cX12_odds 20 = .ok (.iload 4, 2) := by decide +kernel
theorem dX12_odds_22 : decode cX12_odds 22 = .ok (.invokevirtual 400, 3) := by decide +kernel
theorem dX12_odds_25 : decode cX12_odds 25 = .ok (.ifCond .eq 16, 3) := by decide +kernel
theorem dX12_odds_28 : decode cX12_odds 28 = .ok (.iload 5, 2) := by decide +kernel
theorem dX12_odds_30 : decode cX12_odds 30 = .ok (.i2l, 1) := by decide +kernel
theorem dX12_odds_31 : decode cX12_odds 31 = .ok (.lconst 1, 1) := by decide +kernel
theorem dX12_odds_32 : decode cX12_odds 32 = .ok (.ldc2_w 405, 3) := by decide +kernel
theorem dX12_odds_35 : decode cX12_odds 35 = .ok (.invokestatic 122, 3) := by decide +kernel
theorem dX12_odds_38 : decode cX12_odds 38 = .ok (.ifCond .ne 5, 3) := by decide +kernel
theorem dX12_odds_41 : decode cX12_odds 41 = .ok (.iconst (-1), 1) := by decide +kernel
theorem dX12_odds_42 : decode cX12_odds 42 = .ok (.ireturn, 1) := by decide +kernel
theorem dX12_odds_43 : decode cX12_odds 43 = .ok (.aload_n 0, 1) := by decide +kernel
theorem dX12_odds_44 : decode cX12_odds 44 = .ok (.iload_n 2, 1) := by decide +kernel
theorem dX12_odds_45 : decode cX12_odds 45 = .ok (.iload_n 3, 1) := by decide +kernel
theorem dX12_odds_46 : decode cX12_odds 46 = .ok (.iload 4, 2) := by decide +kernel
theorem dX12_odds_48 : decode cX12_odds 48 = .ok (.iload 5, 2) := by decide +kernel
theorem dX12_odds_50 : decode cX12_odds 50 = .ok (.invokevirtual 407, 3) := by decide +kernel
theorem dX12_odds_53 : decode cX12_odds 53 = .ok (.istore 6, 2) := by decide +kernel
theorem dX12_odds_55 : decode cX12_odds 55 = .ok (.iconst 0, 1) := by decide +kernel
theorem dX12_odds_56 : decode cX12_odds 56 = .ok (.istore 7, 2) := by decide +kernel
theorem dX12_odds_58 : decode cX12_odds 58 = .ok (.iconst 0, 1) := by decide +kernel
theorem dX12_odds_59 : decode cX12_odds 59 = .ok (.istore 8, 2) := by decide +kernel
theorem dX12_odds_61 : decode cX12_odds 61 = .ok (.iload 8, 2) := by decide +kernel
theorem dX12_odds_63 : decode cX12_odds 63 = .ok (.iconst 1, 1) := by decide +kernel
theorem dX12_odds_64 : decode cX12_odds 64 = .ok (.iload 5, 2) := by decide +kernel
theorem dX12_odds_66 : decode cX12_odds 66 = .ok (.ishl, 1) := by decide +kernel
theorem dX12_odds_67 : decode cX12_odds 67 = .ok (.if_icmp .ge 84, 3) := by decide +kernel
theorem dX12_odds_70 : decode cX12_odds 70 = .ok (.iload 8, 2) := by decide +kernel
theorem dX12_odds_72 : decode cX12_odds 72 = .ok (.invokestatic 373, 3) := by decide +kernel
theorem dX12_odds_75 : decode cX12_odds 75 = .ok (.iload 6, 2) := by decide +kernel
theorem dX12_odds_77 : decode cX12_odds 77 = .ok (.if_icmp .le 6, 3) := by decide +kernel
theorem dX12_odds_80 : decode cX12_odds 80 = .ok (.goto 65, 3) := by decide +kernel
theorem dX12_odds_83 : decode cX12_odds 83 = .ok (.ldc2_w 410, 3) := by decide +kernel
theorem dX12_odds_86 : decode cX12_odds 86 = .ok (.lstore 9, 2) := by decide +kernel
theorem dX12_odds_88 : decode cX12_odds 88 = .ok (.iconst 0, 1) := by decide +kernel
theorem dX12_odds_89 : decode cX12_odds 89 = .ok (.istore 11, 2) := by decide +kernel
theorem dX12_odds_91 : decode cX12_odds 91 = .ok (.iload 11, 2) := by decide +kernel
theorem dX12_odds_93 : decode cX12_odds 93 = .ok (.iload 5, 2) := by decide +kernel
theorem dX12_odds_95 : decode cX12_odds 95 = .ok (.if_icmp .ge 42, 3) := by decide +kernel
theorem dX12_odds_98 : decode cX12_odds 98 = .ok (.lload 9, 2) := by decide +kernel
theorem dX12_odds_100 : decode cX12_odds 100 = .ok (.iload_n 1, 1) := by decide +kernel
theorem dX12_odds_101 : decode cX12_odds 101 = .ok (.i2l, 1) := by decide +kernel
theorem dX12_odds_102 : decode cX12_odds 102 = .ok (.lmul, 1) := by decide +kernel
theorem dX12_odds_103 : decode cX12_odds 103 = .ok (.ldc2_w 403, 3) := by decide +kernel
theorem dX12_odds_106 : decode cX12_odds 106 = .ok (.ldiv, 1) := by decide +kernel
theorem dX12_odds_107 : decode cX12_odds 107 = .ok (.lstore 12, 2) := by decide +kernel
theorem dX12_odds_109 : decode cX12_odds 109 = .ok (.iload 8, 2) := by decide +kernel
theorem dX12_odds_111 : decode cX12_odds 111 = .ok (.iload 11, 2) := by decide +kernel
theorem dX12_odds_113 : decode cX12_odds 113 = .ok (.invokestatic 137, 3) := by decide +kernel
theorem dX12_odds_116 : decode cX12_odds 116 = .ok (.ifCond .eq 8, 3) := by decide +kernel
theorem dX12_odds_119 : decode cX12_odds 119 = .ok (.lload 12, 2) := by decide +kernel
theorem dX12_odds_121 : decode cX12_odds 121 = .ok (.goto 8, 3) := by decide +kernel
theorem dX12_odds_124 : decode cX12_odds 124 = .ok (.lload 9, 2) := by decide +kernel
theorem dX12_odds_126 : decode cX12_odds 126 = .ok (.lload 12, 2) := by decide +kernel
theorem dX12_odds_128 : decode cX12_odds 128 = .ok (.lsub, 1) := by decide +kernel
theorem dX12_odds_129 : decode cX12_odds 129 = .ok (.lstore 9, 2) := by decide +kernel
theorem dX12_odds_131 : decode cX12_odds 131 = .ok (.iinc 11 1, 3) := by decide +kernel
theorem dX12_odds_134 : decode cX12_odds 134 = .ok (.goto (-43), 3) := by decide +kernel
theorem dX12_odds_137 : decode cX12_odds 137 = .ok (.iload 7, 2) := by decide +kernel
theorem dX12_odds_139 : decode cX12_odds 139 = .ok (.lload 9, 2) := by decide +kernel
theorem dX12_odds_141 : decode cX12_odds 141 = .ok (.l2i, 1) := by decide +kernel
theorem dX12_odds_142 : decode cX12_odds 142 = .ok (.iadd, 1) := by decide +kernel
theorem dX12_odds_143 : decode cX12_odds 143 = .ok (.istore 7, 2) := by decide +kernel
theorem dX12_odds_145 : decode cX12_odds 145 = .ok (.iinc 8 1, 3) := by decide +kernel
theorem dX12_odds_148 : decode cX12_odds 148 = .ok (.goto (-87), 3) := by decide +kernel
theorem dX12_odds_151 : decode cX12_odds 151 = .ok (.iload 7, 2) := by decide +kernel
theorem dX12_odds_153 : decode cX12_odds 153 = .ok (.ireturn, 1) := by decide +kernel
theorem dX12_turnsOne_0 : decode cX12_turnsOne 0 = .ok (.aload_n 0, 1) := by decide +kernel
theorem dX12_turnsOne_1 : decode cX12_turnsOne 1 = .ok (.getfield 44, 3) := by decide +kernel
theorem dX12_turnsOne_4 : decode cX12_turnsOne 4 = .ok (.iconst 0, 1) := by decide +kernel
theorem dX12_turnsOne_5 : decode cX12_turnsOne 5 = .ok (.aload_n 0, 1) := by decide +kernel
theorem dX12_turnsOne_6 : decode cX12_turnsOne 6 = .ok (.getfield 47, 3) := by decide +kernel
theorem dX12_turnsOne_9 : decode cX12_turnsOne 9 = .ok (.iconst 0, 1) := by decide +kernel
theorem dX12_turnsOne_10 : decode cX12_turnsOne 10 = .ok (.invokestatic 208, 3) := by decide +kernel
theorem dX12_turnsOne_13 : decode cX12_turnsOne 13 = .ok (.aload_n 0, 1) := by decide +kernel
theorem dX12_turnsOne_14 : decode cX12_turnsOne 14 = .ok (.aload_n 0, 1) := by decide +kernel
theorem dX12_turnsOne_15 : decode cX12_turnsOne 15 = .ok (.getfield 47, 3) := by decide +kernel
theorem dX12_turnsOne_18 : decode cX12_turnsOne 18 = .ok (.iconst 1, 1) := by decide +kernel
theorem dX12_turnsOne_19 : decode cX12_turnsOne 19 = .ok (.iload_n 1, 1) := by decide +kernel
theorem dX12_turnsOne_20 : decode cX12_turnsOne 20 = .ok (.iload_n 2, 1) := by decide +kernel
theorem dX12_turnsOne_21 : decode cX12_turnsOne 21 = .ok (.iconst 0, 1) := by decide +kernel
theorem dX12_turnsOne_22 : decode cX12_turnsOne 22 = .ok (.invokevirtual 322, 3) := by decide +kernel
theorem dX12_turnsOne_25 : decode cX12_turnsOne 25 = .ok (.iconst (-1), 1) := by decide +kernel
theorem dX12_turnsOne_26 : decode cX12_turnsOne 26 = .ok (.if_icmp .ne 10, 3) := by decide +kernel
theorem dX12_turnsOne_29 : decode cX12_turnsOne 29 = .ok (.aload_n 0, 1) := by decide +kernel
theorem dX12_turnsOne_30 : decode cX12_turnsOne 30 = .ok (.getfield 252, 3) := by decide +kernel
theorem dX12_turnsOne_33 : decode cX12_turnsOne 33 = .ok (.ifCond .le 4, 3) := by decide +kernel
theorem dX12_turnsOne_36 : decode cX12_turnsOne 36 = .ok (.return_, 1) := by decide +kernel
