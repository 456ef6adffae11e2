theorem dX2_commonDivisor_47 : decode cX2_commonDivisor 47 = .ok (.lreturn, 1) := by decide +kernel
theorem dX2_told_0 : decode cX2_told 0 = .ok (.iload_n 1, 1) := by decide +kernel
theorem dX2_told_1 : decode cX2_told 1 = .ok (.ifCond .ne 10, 3) := by decide +kernel
theorem dX2_told_4 : decode cX2_told 4 = .ok (.aload_n 0, 1) := by decide +kernel
theorem dX2_told_5 : decode cX2_told 5 = .ok (.getfield 7, 3) := by decide +kernel
theorem dX2_told_8 : decode cX2_told 8 = .ok (.goto 7, 3) := by decide +kernel
theorem dX2_told_11 : decode cX2_told 11 = .ok (.aload_n 0, 1) := by decide +kernel
theorem dX2_told_12 : decode cX2_told 12 = .ok (.getfield 13, 3) := by decide +kernel
theorem dX2_told_15 : decode cX2_told 15 = .ok (.lreturn, 1) := by decide +kernel
theorem dX2_isBelow_0 : decode cX2_isBelow 0 = .ok (.aload_n 0, 1) := by decide +kernel
theorem dX2_isBelow_1 : decode cX2_isBelow 1 = .ok (.getfield 7, 3) := by decide +kernel
theorem dX2_isBelow_4 : decode cX2_isBelow 4 = .ok (.lstore_n 2, 1) := by decide +kernel
theorem dX2_isBelow_5 : decode cX2_isBelow 5 = .ok (.aload_n 0, 1) := by decide +kernel
theorem dX2_isBelow_6 : decode cX2_isBelow 6 = .ok (.getfield 13, 3) := by decide +kernel
theorem dX2_isBelow_9 : decode cX2_isBelow 9 = .ok (.lstore 4, 2) := by decide +kernel
theorem dX2_isBelow_11 : decode cX2_isBelow 11 = .ok (.aload_n 1, 1) := by decide +kernel
theorem dX2_isBelow_12 : decode cX2_isBelow 12 = .ok (.getfield 7, 3) := by decide +kernel
theorem dX2_isBelow_15 : decode cX2_isBelow 15 = .ok (.lstore 6, 2) := by decide +kernel
theorem dX2_isBelow_17 : decode cX2_isBelow 17 = .ok (.aload_n 1, 1) := by decide +kernel
theorem dX2_isBelow_18 : decode cX2_isBelow 18 = .ok (.getfield 13, 3) := by decide +kernel
theorem dX2_isBelow_21 : decode cX2_isBelow 21 = .ok (.lstore 8, 2) := by decide +kernel
theorem dX2_isBelow_23 : decode cX2_isBelow 23 = .ok (.iconst 0, 1) := by decide +kernel
theorem dX2_isBelow_24 : decode cX2_isBelow 24 = .ok (.istore 10, 2) := by decide +kernel
theorem dX2_isBelow_26 : decode cX2_isBelow 26 = .ok (.iconst 0, 1) := by decide +kernel
theorem dX2_isBelow_27 : decode cX2_isBelow 27 = .ok (.istore 11, 2) := by decide +kernel
theorem dX2_isBelow_29 : decode cX2_isBelow 29 = .ok (.iload 11, 2) := by decide +kernel
theorem dX2_isBelow_31 : decode cX2_isBelow 31 = .ok (.sipush 200, 3) := by decide +kernel
theorem dX2_isBelow_34 : decode cX2_isBelow 34 = .ok (.if_icmp .ge 150, 3) := by decide +kernel
theorem dX2_isBelow_37 : decode cX2_isBelow 37 = .ok (.lload 4, 2) := by decide +kernel
theorem dX2_isBelow_39 : decode cX2_isBelow 39 = .ok (.lconst 0, 1) := by decide +kernel
theorem dX2_isBelow_40 : decode cX2_isBelow 40 = .ok (.lcmp, 1) := by decide +kernel
theorem dX2_isBelow_41 : decode cX2_isBelow 41 = .ok (.ifCond .le 143, 3) := by decide +kernel
theorem dX2_isBelow_44 : decode cX2_isBelow 44 = .ok (.lload 8, 2) := by decide +kernel
theorem dX2_isBelow_46 : decode cX2_isBelow 46 = .ok (.lconst 0, 1) := by decide +kernel
theorem dX2_isBelow_47 : decode cX2_isBelow 47 = .ok (.lcmp, 1) := by decide +kernel
theorem dX2_isBelow_48 : decode cX2_isBelow 48 = .ok (.ifCond .le 136, 3) := by decide +kernel
theorem dX2_isBelow_51 : decode cX2_isBelow 51 = .ok (.lload_n 2, 1) := by decide +kernel
theorem dX2_isBelow_52 : decode cX2_isBelow 52 = .ok (.lload 4, 2) := by decide +kernel
theorem dX2_isBelow_54 : decode cX2_isBelow 54 = .ok (.ldiv, 1) := by decide +kernel
theorem dX2_isBelow_55 : decode cX2_isBelow 55 = .ok (.lload 6, 2) := by decide +kernel
theorem dX2_isBelow_57 : decode cX2_isBelow 57 = .ok (.lload 8, 2) := by decide +kernel
theorem dX2_isBelow_59 : decode cX2_isBelow 59 = .ok (.ldiv, 1) := by decide +kernel
theorem dX2_isBelow_60 : decode cX2_isBelow 60 = .ok (.lcmp, 1) := by decide +kernel
theorem dX2_isBelow_61 : decode cX2_isBelow 61 = .ok (.ifCond .eq 32, 3) := by decide +kernel
theorem dX2_isBelow_64 : decode cX2_isBelow 64 = .ok (.lload_n 2, 1) := by decide +kernel
theorem dX2_isBelow_65 : decode cX2_isBelow 65 = .ok (.lload 4, 2) := by decide +kernel
theorem dX2_isBelow_67 : decode cX2_isBelow 67 = .ok (.ldiv, 1) := by decide +kernel
theorem dX2_isBelow_68 : decode cX2_isBelow 68 = .ok (.lload 6, 2) := by decide +kernel
theorem dX2_isBelow_70 : decode cX2_isBelow 70 = .ok (.lload 8, 2) := by decide +kernel
theorem dX2_isBelow_72 : decode cX2_isBelow 72 = .ok (.ldiv, 1) := by decide +kernel
theorem dX2_isBelow_73 : decode cX2_isBelow 73 = .ok (.lcmp, 1) := by decide +kernel
theorem dX2_isBelow_74 : decode cX2_isBelow 74 = .ok (.ifCond .ge 7, 3) := by decide +kernel
theorem dX2_isBelow_77 : decode cX2_isBelow 77 = .ok (.iconst 1, 1) := by decide +kernel
theorem dX2_isBelow_78 : decode cX2_isBelow 78 = .ok (.goto 4, 3) := by decide +kernel
theorem dX2_isBelow_81 : decode cX2_isBelow 81 = .ok (.iconst 0, 1) := by decide +kernel
theorem dX2_isBelow_82 : decode cX2_isBelow 82 = .ok (.iload 10, 2) := by decide +kernel
theorem dX2_isBelow_84 : decode cX2_isBelow 84 = .ok (.if_icmp .eq 7, 3) := by decide +kernel
theorem dX2_isBelow_87 : decode cX2_isBelow 87 = .ok (.iconst 1, 1) := by decide +kernel
theorem dX2_isBelow_88 : decode cX2_isBelow 88 = .ok (.goto 4, 3) := by decide +kernel
theorem dX2_isBelow_91 : decode cX2_isBelow 91 = .ok (.iconst 0, 1) := by decide +kernel
theorem dX2_isBelow_92 : decode cX2_isBelow 92 = .ok (.ireturn, 1) := by decide +kernel
theorem dX2_isBelow_93 : decode cX2_isBelow 93 = .ok (.lload_n 2, 1) := by decide +kernel
theorem dX2_isBelow_94 : decode cX2_isBelow 94 = .ok (.lload 4, 2) := by decide +kernel
theorem dX2_isBelow_96 : decode cX2_isBelow 96 = .ok (.lrem, 1) := by decide +kernel
theorem dX2_isBelow_97 : decode cX2_isBelow 97 = .ok (.lstore 12, 2) := by decide +kernel
theorem dX2_isBelow_99 : decode cX2_isBelow 99 = .ok (.lload 6, 2) := by decide +kernel
theorem dX2_isBelow_101 : decode cX2_isBelow 101 = .ok (.lload 8, 2) := by decide +kernel
theorem dX2_isBelow_103 : decode cX2_isBelow 103 = .ok (.lrem, 1) := by decide +kernel
theorem dX2_isBelow_104 : decode cX2_isBelow 104 = .ok (.lstore 14, 2) := by decide +kernel
theorem dX2_isBelow_106 : decode cX2_isBelow 106 = .ok (.lload 12, 2) := by decide +kernel
theorem dX2_isBelow_108 : decode cX2_isBelow 108 = .ok (.lconst 0, 1) := by decide +kernel
theorem dX2_isBelow_109 : decode cX2_isBelow 109 = .ok (.lcmp, 1) := by decide +kernel
theorem dX2_isBelow_110 : decode cX2_isBelow 110 = .ok (.ifCond .eq 10, 3) := by decide +kernel
theorem dX2_isBelow_113 : decode cX2_isBelow 113 = .ok (.lload 14, 2) := by decide +kernel
theorem dX2_isBelow_115 : decode cX2_isBelow 115 = .ok (.lconst 0, 1) := by decide +kernel
theorem dX2_isBelow_116 : decode cX2_isBelow 116 = .ok (.lcmp, 1) := by decide +kernel
theorem dX2_isBelow_117 : decode cX2_isBelow 117 = .ok (.ifCond .ne 34, 3) := by decide +kernel
theorem dX2_isBelow_120 : decode cX2_isBelow 120 = .ok (.lload 12, 2) := by decide +kernel
theorem dX2_isBelow_122 : decode cX2_isBelow 122 = .ok (.lload 14, 2) := by decide +kernel
theorem dX2_isBelow_124 : decode cX2_isBelow 124 = .ok (.lcmp, 1) := by decide +kernel
theorem dX2_isBelow_125 : decode cX2_isBelow 125 = .ok (.ifCond .eq 24, 3) := by decide +kernel
theorem dX2_isBelow_128 : decode cX2_isBelow 128 = .ok (.lload 12, 2) := by decide +kernel
theorem dX2_isBelow_130 : decode cX2_isBelow 130 = .ok (.lconst 0, 1) := by decide +kernel
theorem dX2_isBelow_131 : decode cX2_isBelow 131 = .ok (.lcmp, 1) := by decide +kernel
theorem dX2_isBelow_132 : decode cX2_isBelow 132 = .ok (.ifCond .ne 7, 3) := by decide +kernel
theorem dX2_isBelow_135 : decode cX2_isBelow 135 = .ok (.iconst 1, 1) := by decide +kernel
theorem dX2_isBelow_136 : decode cX2_isBelow 136 = .ok (.goto 4, 3) := by decide +kernel
theorem dX2_isBelow_139 : decode cX2_isBelow 139 = .ok (.iconst 0, 1) := by decide +kernel
theorem dX2_isBelow_140 : decode cX2_isBelow 140 = .ok (.iload 10, 2) := by decide +kernel
theorem dX2_isBelow_142 : decode cX2_isBelow 142 = .ok (.if_icmp .eq 7, 3) := by decide +kernel
theorem dX2_isBelow_145 : decode cX2_isBelow 145 = .ok (.iconst 1, 1) := by decide +kernel
theorem dX2_isBelow_146 : decode cX2_isBelow 146 = .ok (.goto 4, 3) := by decide +kernel
theorem dX2_isBelow_149 : decode cX2_isBelow 149 = .ok (.iconst 0, 1) := by decide +kernel
theorem dX2_isBelow_150 : decode cX2_isBelow 150 = .ok (.ireturn, 1) := by decide +kernel
theorem dX2_isBelow_151 : decode cX2_isBelow 151 = .ok (.lload 4, 2) := by decide +kernel
theorem dX2_isBelow_153 : decode cX2_isBelow 153 = .ok (.lstore_n 2, 1) := by decide +kernel
theorem dX2_isBelow_154 : decode cX2_isBelow 154 = .ok (.lload 12, 2) := by decide +kernel
theorem dX2_isBelow_156 : decode cX2_isBelow 156 = .ok (.lstore 4, 2) := by decide +kernel
theorem dX2_isBelow_158 : decode cX2_isBelow 158 = .ok (.lload 8, 2) := by decide +kernel
theorem dX2_isBelow_160 : decode cX2_isBelow 160 = .ok (.lstore 6, 2) := by decide +kernel
theorem dX2_isBelow_162 : decode cX2_isBelow 162 = .ok (.lload 14, 2) := by decide +kernel
theorem dX2_isBelow_164 : decode cX2_isBelow 164 = .ok (.lstore 8, 2) := by decide +kernel
theorem dX2_isBelow_166 : decode cX2_isBelow 166 = .ok (.iload 10, 2) := by decide +kernel
theorem dX2_isBelow_168 : decode cX2_isBelow 168 = .ok (.ifCond .ne 7, 3) := by decide +kernel
theorem dX2_isBelow_171 : decode cX2_isBelow 171 = .ok (.iconst 1, 1) := by decide +kernel
theorem dX2_isBelow_172 : decode cX2_isBelow 172 = .ok (.goto 4, 3) := by decide +kernel
theorem dX2_isBelow_175 : decode cX2_isBelow 175 = .ok (.iconst 0, 1) := by decide +kernel
theorem dX2_isBelow_176 : decode cX2_isBelow 176 = .ok (.istore 10, 2) := by decide +kernel
theorem dX2_isBelow_178 : decode cX2_isBelow 178 = .ok (.iinc 11 1, 3) := by decide +kernel
theorem dX2_isBelow_181 : decode cX2_isBelow 181 = .ok (.goto (-152), 3) := by decide +kernel
theorem dX2_isBelow_184 : decode cX2_isBelow 184 = .ok (.iconst 0, 1) := by decide +kernel
theorem dX2_isBelow_185 : decode cX2_isBelow 185 = .ok (.ireturn, 1) := by decide +kernel
theorem dX3_init_0 : decode cX3_init 0 = .ok (.aload_n 0, 1) := by decide +kernel
theorem dX3_init_1 : decode cX3_init 1 = .ok (.invokespecial 3, 3) := by decide +kernel
theorem dX3_init_4 : decode cX3_init 4 = .ok (.aload_n 0, 1) := by decide +kernel
theorem dX3_init_5 : decode cX3_init 5 = .ok (.bipush 8, 2) := by decide +kernel
theorem dX3_init_7 : decode cX3_init 7 = .ok (.newarray .int, 2) := by decide +kernel
theorem dX3_init_9 : decode cX3_init 9 = .ok (.putfield 9, 3) := by decide +kernel
theorem dX3_init_12 : decode cX3_init 12 = .ok (.aload_n 0, 1) := by decide +kernel
theorem dX3_init_13 : decode cX3_init 13 = .ok (.iconst 3, 1) := by decide +kernel
theorem dX3_init_14 : decode cX3_init 14 = .ok (.newarray .int, 2) := by decide +kernel
theorem dX3_init_16 : decode cX3_init 16 = .ok (.putfield 15, 3) := by decide +kernel
theorem dX3_init_19 : decode cX3_init 19 = .ok (.aload_n 0, 1) := by decide +kernel
theorem dX3_init_20 : decode cX3_init 20 = .ok (.iconst 0, 1) := by decide +kernel
theorem dX3_init_21 : decode cX3_init 21 = .ok (.putfield 18, 3) := by decide +kernel
theorem dX3_init_24 : decode cX3_init 24 = .ok (.aload_n 0, 1) := by decide +kernel
theorem dX3_init_25 : decode cX3_init 25 = .ok (.iconst 0, 1) := by decide +kernel
theorem dX3_init_26 : decode cX3_init 26 = .ok (.putfield 22, 3) := by decide +kernel
theorem dX3_init_29 : decode cX3_init 29 = .ok (.aload_n 0, 1) := by decide +kernel
theorem dX3_init_30 : decode cX3_init 30 = .ok (.iconst 0, 1) := by decide +kernel
theorem dX3_init_31 : decode cX3_init 31 = .ok (.putfield 25, 3) := by decide +kernel
theorem dX3_init_34 : decode cX3_init 34 = .ok (.aload_n 0, 1) := by decide +kernel
theorem dX3_init_35 : decode cX3_init 35 = .ok (.iconst 0, 1) := by decide +kernel
theorem dX3_init_36 : decode cX3_init 36 = .ok (.putfield 28, 3) := by decide +kernel
theorem dX3_init_39 : decode cX3_init 39 = .ok (.aload_n 0, 1) := by decide +kernel
theorem dX3_init_40 : decode cX3_init 40 = .ok (.iconst 0, 1) := by decide +kernel
theorem dX3_init_41 : decode cX3_init 41 = .ok (.putfield 31, 3) := by decide +kernel
theorem dX3_init_44 : decode cX3_init 44 = .ok (.aload_n 0, 1) := by decide +kernel
theorem dX3_init_45 : decode cX3_init 45 = .ok (.iconst 0, 1) := by decide +kernel
theorem dX3_init_46 : decode cX3_init 46 = .ok (.putfield 34, 3) := by decide +kernel
theorem dX3_init_49 : decode cX3_init 49 = .ok (.return_, 1) := by decide +kernel
theorem dX3_copy_0 : decode cX3_copy 0 = .ok (.aload_n 1, 1) := by decide +kernel
theorem dX3_copy_1 : decode cX3_copy 1 = .ok (.getfield 9, 3) := by decide +kernel
theorem dX3_copy_4 : decode cX3_copy 4 = .ok (.iconst 0, 1) := by decide +kernel
theorem dX3_copy_5 : decode cX3_copy 5 = .ok (.aload_n 0, 1) := by decide +kernel
theorem dX3_copy_6 : decode cX3_copy 6 = .ok (.getfield 9, 3) := by decide +kernel
theorem dX3_copy_9 : decode cX3_copy 9 = .ok (.iconst 0, 1) := by decide +kernel
theorem dX3_copy_10 : decode cX3_copy 10 = .ok (.bipush 8, 2) := by decide +kernel
theorem dX3_copy_12 : decode cX3_copy 12 = .ok (.invokestatic 37, 3) := by decide +kernel
theorem dX3_copy_15 : decode cX3_copy 15 = .ok (.aload_n 1, 1) := by decide +kernel
theorem dX3_copy_16 : decode cX3_copy 16 = .ok (.getfield 15, 3) := by decide +kernel
theorem dX3_copy_19 : decode cX3_copy 19 = .ok (.iconst 0, 1) := by decide +kernel
theorem dX3_copy_20 : decode cX3_copy 20 = .ok (.aload_n 0, 1) := by decide +kernel
theorem dX3_copy_21 : decode cX3_copy 21 = .ok (.getfield 15, 3) := by decide +kernel
theorem dX3_copy_24 : decode cX3_copy 24 = .ok (.iconst 0, 1) := by decide +kernel
theorem dX3_copy_25 : decode cX3_copy 25 = .ok (.iconst 3, 1) := by decide +kernel
theorem dX3_copy_26 : decode cX3_copy 26 = .ok (.invokestatic 37, 3) := by decide +kernel
theorem dX3_copy_29 : decode cX3_copy 29 = .ok (.aload_n 0, 1) := by decide +kernel
theorem dX3_copy_30 : decode cX3_copy 30 = .ok (.aload_n 1, 1) := by decide +kernel
theorem dX3_copy_31 : decode cX3_copy 31 = .ok (.getfield 18, 3) := by decide +kernel
theorem dX3_copy_34 : decode cX3_copy 34 = .ok (.putfield 18, 3) := by decide +kernel
theorem dX3_copy_37 : decode cX3_copy 37 = .ok (.aload_n 0, 1) := by decide +kernel
theorem dX3_copy_38 : decode cX3_copy 38 = .ok (.aload_n 1, 1) := by decide +kernel
theorem dX3_copy_39 : decode cX3_copy 39 = .ok (.getfield 22, 3) := by decide +kernel
theorem dX3_copy_42 : decode cX3_copy 42 = .ok (.putfield 22, 3) := by decide +kernel
theorem dX3_copy_45 : decode cX3_copy 45 = .ok (.aload_n 0, 1) := by decide +kernel
theorem dX3_copy_46 : decode cX3_copy 46 = .ok (.aload_n 1, 1) := by decide +kernel
theorem dX3_copy_47 : decode cX3_copy 47 = .ok (.getfield 25, 3) := by decide +kernel
theorem dX3_copy_50 : decode cX3_copy 50 = .ok (.putfield 25, 3) := by decide +kernel
theorem dX3_copy_53 : decode cX3_copy 53 = .ok (.aload_n 0, 1) := by decide +kernel
theorem dX3_copy_54 : decode cX3_copy 54 = .ok (.aload_n 1, 1) := by decide +kernel
theorem dX3_copy_55 : decode cX3_copy 55 = .ok (.getfield 28, 3) := by decide +kernel
theorem dX3_copy_58 : decode cX3_copy 58 = .ok (.putfield 28, 3) := by decide +kernel
theorem dX3_copy_61 : decode cX3_copy 61 = .ok (.aload_n 0, 1) := by decide +kernel
theorem dX3_copy_62 : decode cX3_copy 62 = .ok (.aload_n 1, 1) := by decide +kernel
theorem dX3_copy_63 : decode cX3_copy 63 = .ok (.getfield 31, 3) := by decide +kernel
theorem dX3_copy_66 : decode cX3_copy 66 = .ok (.putfield 31, 3) := by decide +kernel
theorem dX3_copy_69 : decode cX3_copy 69 = .ok (.aload_n 0, 1) := by decide +kernel
theorem dX3_copy_70 : decode cX3_copy 70 = .ok (.aload_n 1, 1) := by decide +kernel
theorem dX3_copy_71 : decode cX3_copy 71 = .ok (.getfield 34, 3) := by decide +kernel
theorem dX3_copy_74 : decode cX3_copy 74 = .ok (.putfield 34, 3) := by decide +kernel
theorem dX3_copy_77 : decode cX3_copy 77 = .ok (.return_, 1) := by decide +kernel
theorem dX3_begin_0 : decode cX3_begin 0 = .ok (.iconst 0, 1) := by decide +kernel
theorem dX3_begin_1 : decode cX3_begin 1 = .ok (.istore_n 2, 1) := by decide +kernel
theorem dX3_begin_2 : decode cX3_begin 2 = .ok (.iload_n 2, 1) := by decide +kernel
theorem dX3_begin_3 : decode cX3_begin 3 = .ok (.aload_n 1, 1) := by decide +kernel
theorem dX3_begin_4 : decode cX3_begin 4 = .ok (.getfield 43, 3) := by decide +kernel
theorem dX3_begin_7 : decode cX3_begin 7 = .ok (.if_icmp .ge 21, 3) := by decide +kernel
theorem dX3_begin_10 : decode cX3_begin 10 = .ok (.aload_n 0, 1) := by decide +kernel
theorem dX3_begin_11 : decode cX3_begin 11 = .ok (.getfield 9, 3) := by decide +kernel
theorem dX3_begin_14 : decode cX3_begin 14 = .ok (.iload_n 2, 1) := by decide +kernel
theorem dX3_begin_15 : decode cX3_begin 15 = .ok (.aload_n 1, 1) := by decide +kernel
theorem dX3_begin_16 : decode cX3_begin 16 = .ok (.iload_n 2, 1) := by decide +kernel
theorem dX3_begin_17 : decode cX3_begin 17 = .ok (.iconst 5, 1) := by decide +kernel
theorem dX3_begin_18 : decode cX3_begin 18 = .ok (.invokevirtual 48, 3) := by decide +kernel
theorem dX3_begin_21 : decode cX3_begin 21 = .ok (.iastore, 1) := by decide +kernel
theorem dX3_begin_22 : decode cX3_begin 22 = .ok (.iinc 2 1, 3) := by decide +kernel
theorem dX3_begin_25 : decode cX3_begin 25 = .ok (.goto (-23), 3) := by decide +kernel
theorem dX3_begin_28 : decode cX3_begin 28 = .ok (.aload_n 1, 1) := by decide +kernel
theorem dX3_begin_29 : decode cX3_begin 29 = .ok (.getfield 52, 3) := by decide +kernel
theorem dX3_begin_32 : decode cX3_begin 32 = .ok (.iconst 1, 1) := by decide +kernel
theorem dX3_begin_33 : decode cX3_begin 33 = .ok (.aload_n 0, 1) := by decide +kernel
theorem dX3_begin_34 : decode cX3_begin 34 = .ok (.getfield 15, 3) := by decide +kernel
theorem dX3_begin_37 : decode cX3_begin 37 = .ok (.iconst 0, 1) := by decide +kernel
theorem dX3_begin_38 : decode cX3_begin 38 = .ok (.iconst 3, 1) := by decide +kernel
theorem dX3_begin_39 : decode cX3_begin 39 = .ok (.invokestatic 37, 3) := by decide +kernel
theorem dX3_begin_42 : decode cX3_begin 42 = .ok (.aload_n 0, 1) := by decide +kernel
theorem dX3_begin_43 : decode cX3_begin 43 = .ok (.iconst 1, 1) := by decide +kernel
theorem dX3_begin_44 : decode cX3_begin 44 = .ok (.aload_n 1, 1) := by decide +kernel
theorem dX3_begin_45 : decode cX3_begin 45 = .ok (.getfield 43, 3) := by decide +kernel
theorem dX3_begin_48 : decode cX3_begin 48 = .ok (.ishl, 1) := by decide +kernel
theorem dX3_begin_49 : decode cX3_begin 49 = .ok (.iconst 1, 1) := by decide +kernel
theorem dX3_begin_50 : decode cX3_begin 50 = .ok (.isub, 1) := by decide +kernel
theorem dX3_begin_51 : decode cX3_begin 51 = .ok (.putfield 18, 3) := by decide +kernel
theorem dX3_begin_54 : decode cX3_begin 54 = .ok (.aload_n 0, 1) := by decide +kernel
theorem dX3_begin_55 : decode cX3_begin 55 = .ok (.iconst 0, 1) := by decide +kernel
theorem dX3_begin_56 : decode cX3_begin 56 = .ok (.putfield 22, 3) := by decide +kernel
theorem dX3_begin_59 : decode cX3_begin 59 = .ok (.aload_n 0, 1) := by decide +kernel
theorem dX3_begin_60 : decode cX3_begin 60 = .ok (.iconst 0, 1) := by decide +kernel
theorem dX3_begin_61 : decode cX3_begin 61 = .ok (.putfield 25, 3) := by decide +kernel
theorem dX3_begin_64 : decode cX3_begin 64 = .ok (.aload_n 0, 1) := by decide +kernel
theorem dX3_begin_65 : decode cX3_begin 65 = .ok (.iconst 0, 1) := by decide +kernel
theorem dX3_begin_66 : decode cX3_begin 66 = .ok (.putfield 31, 3) := by decide +kernel
theorem dX3_begin_69 : decode cX3_begin 69 = .ok (.aload_n 0, 1) := by decide +kernel
theorem dX3_begin_70 : decode cX3_begin 70 = .ok (.iconst 0, 1) := by decide +kernel
theorem dX3_begin_71 : decode cX3_begin 71 = .ok (.putfield 34, 3) := by decide +kernel
theorem dX3_begin_74 : decode cX3_begin 74 = .ok (.return_, 1) := by decide +kernel
theorem dX3_isFast_0 : decode cX3_isFast 0 = .ok (.aload_n 0, 1) := by decide +kernel
theorem dX3_isFast_1 : decode cX3_isFast 1 = .ok (.getfield 22, 3) := by decide +kernel
theorem dX3_isFast_4 : decode cX3_isFast 4 = .ok (.aload_n 0, 1) := by decide +kernel
theorem dX3_isFast_5 : decode cX3_isFast 5 = .ok (.getfield 25, 3) := by decide +kernel
theorem dX3_isFast_8 : decode cX3_isFast 8 = .ok (.ior, 1) := by decide +kernel
theorem dX3_isFast_9 : decode cX3_isFast 9 = .ok (.iload_n 1, 1) := by decide +kernel
theorem dX3_isFast_10 : decode cX3_isFast 10 = .ok (.ishr, 1) := by decide +kernel
theorem dX3_isFast_11 : decode cX3_isFast 11 = .ok (.iconst 1, 1) := by decide +kernel
theorem dX3_isFast_12 : decode cX3_isFast 12 = .ok (.iand, 1) := by decide +kernel
theorem dX3_isFast_13 : decode cX3_isFast 13 = .ok (.ifCond .ne 7, 3) := by decide +kernel
theorem dX3_isFast_16 : decode cX3_isFast 16 = .ok (.iconst 1, 1) := by decide +kernel
theorem dX3_isFast_17 : decode cX3_isFast 17 = .ok (.goto 4, 3) := by decide +kernel
theorem dX3_isFast_20 : decode cX3_isFast 20 = .ok (.iconst 0, 1) := by decide +kernel
theorem dX3_isFast_21 : decode cX3_isFast 21 = .ok (.ireturn, 1) := by decide +kernel
theorem dX3_stateOf_0 : decode cX3_stateOf 0 = .ok (.aload_n 0, 1) := by decide +kernel
theorem dX3_stateOf_1 : decode cX3_stateOf 1 = .ok (.getfield 18, 3) := by decide +kernel
theorem dX3_stateOf_4 : decode cX3_stateOf 4 = .ok (.iload_n 1, 1) := by decide +kernel
theorem dX3_stateOf_5 : decode cX3_stateOf 5 = .ok (.ishr, 1) := by decide +kernel
theorem dX3_stateOf_6 : decode cX3_stateOf 6 = .ok (.iconst 1, 1) := by decide +kernel
theorem dX3_stateOf_7 : decode cX3_stateOf 7 = .ok (.iand, 1) := by decide +kernel
theorem dX3_stateOf_8 : decode cX3_stateOf 8 = .ok (.ifCond .eq 5, 3) := by decide +kernel
theorem dX3_stateOf_11 : decode cX3_stateOf 11 = .ok (.iconst 0, 1) := by decide +kernel
theorem dX3_stateOf_12 : decode cX3_stateOf 12 = .ok (.ireturn, 1) := by decide +kernel
theorem dX3_stateOf_13 : decode cX3_stateOf 13 = .ok (.aload_n 0, 1) := by decide +kernel
theorem dX3_stateOf_14 : decode cX3_stateOf 14 = .ok (.iload_n 1, 1) := by decide +kernel
theorem dX3_stateOf_15 : decode cX3_stateOf 15 = .ok (.invokevirtual 55, 3) := by decide +kernel
theorem dX3_stateOf_18 : decode cX3_stateOf 18 = .ok (.ifCond .eq 5, 3) := by decide +kernel
theorem dX3_stateOf_21 : decode cX3_stateOf 21 = .ok (.iconst 1, 1) := by decide +kernel
theorem dX3_stateOf_22 : decode cX3_stateOf 22 = .ok (.ireturn, 1) := by decide +kernel
theorem dX3_stateOf_23 : decode cX3_stateOf 23 = .ok (.aload_n 0, 1) := by decide +kernel
theorem dX3_stateOf_24 : decode cX3_stateOf 24 = .ok (.getfield 22, 3) := by decide +kernel
theorem dX3_stateOf_27 : decode cX3_stateOf 27 = .ok (.iload_n 1, 1) := by decide +kernel
theorem dX3_stateOf_28 : decode cX3_stateOf 28 = .ok (.ishr, 1) := by decide +kernel
theorem dX3_stateOf_29 : decode cX3_stateOf 29 = .ok (.iconst 1, 1) := by decide +kernel
theorem dX3_stateOf_30 : decode cX3_stateOf 30 = .ok (.iand, 1) := by decide +kernel
theorem dX3_stateOf_31 : decode cX3_stateOf 31 = .ok (.ifCond .eq 7, 3) := by decide +kernel
theorem dX3_stateOf_34 : decode cX3_stateOf 34 = .ok (.iconst 2, 1) := by decide +kernel
theorem dX3_stateOf_35 : decode cX3_stateOf 35 = .ok (.goto 4, 3) := by decide +kernel
theorem dX3_stateOf_38 : decode cX3_stateOf 38 = .ok (.iconst 3, 1) := by decide +kernel
theorem dX3_stateOf_39 : decode cX3_stateOf 39 = .ok (.ireturn, 1) := by decide +kernel
theorem dX3_slackOf_0 : decode cX3_slackOf 0 = .ok (.iconst 1, 1) := by decide +kernel
theorem dX3_slackOf_1 : decode cX3_slackOf 1 = .ok (.aload_n 1, 1) := by decide +kernel
theorem dX3_slackOf_2 : decode cX3_slackOf 2 = .ok (.getfield 43, 3) := by decide +kernel
theorem dX3_slackOf_5 : decode cX3_slackOf 5 = .ok (.ishl, 1) := by decide +kernel
theorem dX3_slackOf_6 : decode cX3_slackOf 6 = .ok (.iconst 1, 1) := by decide +kernel
theorem dX3_slackOf_7 : decode cX3_slackOf 7 = .ok (.isub, 1) := by decide +kernel
theorem dX3_slackOf_8 : decode cX3_slackOf 8 = .ok (.aload_n 0, 1) := by decide +kernel
theorem dX3_slackOf_9 : decode cX3_slackOf 9 = .ok (.getfield 18, 3) := by decide +kernel
theorem dX3_slackOf_12 : decode cX3_slackOf 12 = .ok (.aload_n 0, 1) := by decide +kernel
theorem dX3_slackOf_13 : decode cX3_slackOf 13 = .ok (.getfield 22, 3) := by decide +kernel
theorem dX3_slackOf_16 : decode cX3_slackOf 16 = .ok (.ior, 1) := by decide +kernel
theorem dX3_slackOf_17 : decode cX3_slackOf 17 = .ok (.aload_n 0, 1) := by decide +kernel
theorem dX3_slackOf_18 : decode cX3_slackOf 18 = .ok (.getfield 25, 3) := by decide +kernel
theorem dX3_slackOf_21 : decode cX3_slackOf 21 = .ok (.ior, 1) := by decide +kernel
theorem dX3_slackOf_22 : decode cX3_slackOf 22 = .ok (.iconst (-1), 1) := by decide +kernel
theorem dX3_slackOf_23 : decode cX3_slackOf 23 = .ok (.ixor, 1) := by decide +kernel
theorem dX3_slackOf_24 : decode cX3_slackOf 24 = .ok (.iand, 1) := by decide +kernel
theorem dX3_slackOf_25 : decode cX3_slackOf 25 = .ok (.ireturn, 1) := by decide +kernel
theorem dX4_init_0 : decode cX4_init 0 = .ok (.aload_n 0, 1) := by decide +kernel
theorem dX4_init_1 : decode cX4_init 1 = .ok (.invokespecial 3, 3) := by decide +kernel
theorem dX4_init_4 : decode cX4_init 4 = .ok (.aload_n 0, 1) := by decide +kernel
theorem dX4_init_5 : decode cX4_init 5 = .ok (.sipush 716, 3) := by decide +kernel
theorem dX4_init_8 : decode cX4_init 8 = .ok (.newarray .int, 2) := by decide +kernel
theorem dX4_init_10 : decode cX4_init 10 = .ok (.putfield 11, 3) := by decide +kernel
theorem dX4_init_13 : decode cX4_init 13 = .ok (.return_, 1) := by decide +kernel
theorem dX4_write_0 : decode cX4_write 0 = .ok (.aload_n 0, 1) := by decide +kernel
theorem dX4_write_1 : decode cX4_write 1 = .ok (.iload_n 1, 1) := by decide +kernel
theorem dX4_write_2 : decode cX4_write 2 = .ok (.iload_n 2, 1) := by decide +kernel
theorem dX4_write_3 : decode cX4_write 3 = .ok (.iload_n 3, 1) := by decide +kernel
theorem dX4_write_4 : decode cX4_write 4 = .ok (.iconst 1, 1) := by decide +kernel
theorem dX4_write_5 : decode cX4_write 5 = .ok (.iadd, 1) := by decide +kernel
theorem dX4_write_6 : decode cX4_write 6 = .ok (.iconst 2, 1) := by decide +kernel
theorem dX4_write_7 : decode cX4_write 7 = .ok (.ishl, 1) := by decide +kernel
theorem dX4_write_8 : decode cX4_write 8 = .ok (.ior, 1) := by decide +kernel
theorem dX4_write_9 : decode cX4_write 9 = .ok (.iload 4, 2) := by decide +kernel
theorem dX4_write_11 : decode cX4_write 11 = .ok (.bipush 6, 2) := by decide +kernel
theorem dX4_write_13 : decode cX4_write 13 = .ok (.ishl, 1) := by decide +kernel
theorem dX4_write_14 : decode cX4_write 14 = .ok (.ior, 1) := by decide +kernel
theorem dX4_write_15 : decode cX4_write 15 = .ok (.invokevirtual 15, 3) := by decide +kernel
theorem dX4_write_18 : decode cX4_write 18 = .ok (.return_, 1) := by decide +kernel
theorem dX4_putLine_0 : decode cX4_putLine 0 = .ok (.iload_n 1, 1) := by decide +kernel
theorem dX4_putLine_1 : decode cX4_putLine 1 = .ok (.ifCond .lt 14, 3) := by decide +kernel
theorem dX4_putLine_4 : decode cX4_putLine 4 = .ok (.aload_n 0, 1) := by decide +kernel
theorem dX4_putLine_5 : decode cX4_putLine 5 = .ok (.getfield 11, 3) := by decide +kernel
theorem dX4_putLine_8 : decode cX4_putLine 8 = .ok (.iload_n 1, 1) := by decide +kernel
theorem dX4_putLine_9 : decode cX4_putLine 9 = .ok (.sipush 716, 3) := by decide +kernel
theorem dX4_putLine_12 : decode cX4_putLine 12 = .ok (.irem, 1) := by decide +kernel
theorem dX4_putLine_13 : decode cX4_putLine 13 = .ok (.iload_n 2, 1) := by decide +kernel
theorem dX4_putLine_14 : decode cX4_putLine 14 = .ok (.iastore, 1) := by decide +kernel
theorem dX4_putLine_15 : decode cX4_putLine 15 = .ok (.return_, 1) := by decide +kernel
theorem dX4_lineAt_0 : decode cX4_lineAt 0 = .ok (.iload_n 1, 1) := by decide +kernel
theorem dX4_lineAt_1 : decode cX4_lineAt 1 = .ok (.ifCond .lt 16, 3) := by decide +kernel
theorem dX4_lineAt_4 : decode cX4_lineAt 4 = .ok (.aload_n 0, 1) := by decide +kernel
theorem dX4_lineAt_5 : decode cX4_lineAt 5 = .ok (.getfield 11, 3) := by decide +kernel
theorem dX4_lineAt_8 : decode cX4_lineAt 8 = .ok (.iload_n 1, 1) := by decide +kernel
theorem dX4_lineAt_9 : decode cX4_lineAt 9 = .ok (.sipush 716, 3) := by decide +kernel
theorem dX4_lineAt_12 : decode cX4_lineAt 12 = .ok (.irem, 1) := by decide +kernel
theorem dX4_lineAt_13 : decode cX4_lineAt 13 = .ok (.iaload, 1) := by decide +kernel
theorem dX4_lineAt_14 : decode cX4_lineAt 14 = .ok (.goto 4, 3) := by decide +kernel
theorem dX4_lineAt_17 : decode cX4_lineAt 17 = .ok (.iconst 0, 1) := by decide +kernel
theorem dX4_lineAt_18 : decode cX4_lineAt 18 = .ok (.ireturn, 1) := by decide +kernel
theorem dX4_read_0 : decode cX4_read 0 = .ok (.aload_n 0, 1) := by decide +kernel
theorem dX4_read_1 : decode cX4_read 1 = .ok (.iload_n 1, 1) := by decide +kernel
theorem dX4_read_2 : decode cX4_read 2 = .ok (.invokevirtual 19, 3) := by decide +kernel
theorem dX4_read_5 : decode cX4_read 5 = .ok (.istore_n 3, 1) := by decide +kernel
theorem dX4_read_6 : decode cX4_read 6 = .ok (.iload_n 2, 1) := by decide +kernel
theorem dX4_read_7 : decode cX4_read 7 = .ok (.ifCond .ne 7, 3) := by decide +kernel
theorem dX4_read_10 : decode cX4_read 10 = .ok (.iload_n 3, 1) := by decide +kernel
theorem dX4_read_11 : decode cX4_read 11 = .ok (.iconst 3, 1) := by decide +kernel
theorem dX4_read_12 : decode cX4_read 12 = .ok (.iand, 1) := by decide +kernel
theorem dX4_read_13 : decode cX4_read 13 = .ok (.ireturn, 1) := by decide +kernel
theorem dX4_read_14 : decode cX4_read 14 = .ok (.iload_n 2, 1) := by decide +kernel
theorem dX4_read_15 : decode cX4_read 15 = .ok (.iconst 1, 1) := by decide +kernel
theorem dX4_read_16 : decode cX4_read 16 = .ok (.if_icmp .ne 14, 3) := by decide +kernel
theorem dX4_read_19 : decode cX4_read 19 = .ok (.iload_n 3, 1) := by decide +kernel
theorem dX4_read_20 : decode cX4_read 20 = .ok (.iconst 2, 1) := by decide +kernel
theorem dX4_read_21 : decode cX4_read 21 = .ok (.ishr, 1) := by decide +kernel
theorem dX4_read_22 : decode cX4_read 22 = .ok (.bipush 15, 2) := by decide +kernel
theorem dX4_read_24 : decode cX4_read 24 = .ok (.iand, 1) := by decide +kernel
theorem dX4_read_25 : decode cX4_read 25 = .ok (.iconst 1, 1) := by decide +kernel
theorem dX4_read_26 : decode cX4_read 26 = .ok (.isub, 1) := by decide +kernel
theorem dX4_read_27 : decode cX4_read 27 = .ok (.goto 7, 3) := by decide +kernel
theorem dX4_read_30 : decode cX4_read 30 = .ok (.iload_n 3, 1) := by decide +kernel
theorem dX4_read_31 : decode cX4_read 31 = .ok (.bipush 6, 2) := by decide +kernel
theorem dX4_read_33 : decode cX4_read 33 = .ok (.ishr, 1) := by decide +kernel
theorem dX4_read_34 : decode cX4_read 34 = .ok (.ireturn, 1) := by decide +kernel
theorem dX5_init_0 : decode cX5_init 0 = .ok (.aload_n 0, 1) := by decide +kernel
theorem dX5_init_1 : decode cX5_init 1 = .ok (.invokespecial 3, 3) := by decide +kernel
theorem dX5_init_4 : decode cX5_init 4 = .ok (.aload_n 0, 1) := by decide +kernel
theorem dX5_init_5 : decode cX5_init 5 = .ok (.iconst 4, 1) := by decide +kernel
theorem dX5_init_6 : decode cX5_init 6 = .ok (.newarray .int, 2) := by decide +kernel
theorem dX5_init_8 : decode cX5_init 8 = .ok (.putfield 9, 3) := by decide +kernel
theorem dX5_init_11 : decode cX5_init 11 = .ok (.aload_n 0, 1) := by decide +kernel
theorem dX5_init_12 : decode cX5_init 12 = .ok (.bipush 56, 2) := by decide +kernel
theorem dX5_init_14 : decode cX5_init 14 = .ok (.newarray .int, 2) := by decide +kernel
theorem dX5_init_16 : decode cX5_init 16 = .ok (.putfield 15, 3) := by decide +kernel
theorem dX5_init_19 : decode cX5_init 19 = .ok (.aload_n 0, 1) := by decide +kernel
theorem dX5_init_20 : decode cX5_init 20 = .ok (.bipush 24, 2) := by decide +kernel
theorem dX5_init_22 : decode cX5_init 22 = .ok (.newarray .int, 2) := by decide +kernel
theorem dX5_init_24 : decode cX5_init 24 = .ok (.putfield 18, 3) := by decide +kernel
theorem dX5_init_27 : decode cX5_init 27 = .ok (.aload_n 0, 1) := by decide +kernel
theorem dX5_init_28 : decode cX5_init 28 = .ok (.bipush 8, 2) := by decide +kernel
theorem dX5_init_30 : decode cX5_init 30 = .ok (.newarray .int, 2) := by decide +kernel
theorem dX5_init_32 : decode cX5_init 32 = .ok (.putfield 21, 3) := by decide +kernel
theorem dX5_init_35 : decode cX5_init 35 = .ok (.aload_n 0, 1) := by decide +kernel
theorem dX5_init_36 : decode cX5_init 36 = .ok (.bipush 8, 2) := by decide +kernel
theorem dX5_init_38 : decode cX5_init 38 = .ok (.newarray .int, 2) := by decide +kernel
theorem dX5_init_40 : decode cX5_init 40 = .ok (.putfield 24, 3) := by decide +kernel
theorem dX5_init_43 : decode cX5_init 43 = .ok (.aload_n 0, 1) := by decide +kernel
theorem dX5_init_44 : decode cX5_init 44 = .ok (.iconst 3, 1) := by decide +kernel
theorem dX5_init_45 : decode cX5_init 45 = .ok (.newarray .boolean, 2) := by decide +kernel
theorem dX5_init_47 : decode cX5_init 47 = .ok (.putfield 27, 3) := by decide +kernel
theorem dX5_init_50 : decode cX5_init 50 = .ok (.aload_n 0, 1) := by decide +kernel
theorem dX5_init_51 : decode cX5_init 51 = .ok (.iconst 0, 1) := by decide +kernel
theorem dX5_init_52 : decode cX5_init 52 = .ok (.putfield 31, 3) := by decide +kernel
theorem dX5_init_55 : decode cX5_init 55 = .ok (.return_, 1) := by decide +kernel
theorem dX5_clear_0 : decode cX5_clear 0 = .ok (.aload_n 0, 1) := by decide +kernel
theorem dX5_clear_1 : decode cX5_clear 1 = .ok (.iconst 0, 1) := by decide +kernel
theorem dX5_clear_2 : decode cX5_clear 2 = .ok (.putfield 31, 3) := by decide +kernel
theorem dX5_clear_5 : decode cX5_clear 5 = .ok (.getstatic 35, 3) := by decide +kernel
theorem dX5_clear_8 : decode cX5_clear 8 = .ok (.iconst 0, 1) := by decide +kernel
theorem dX5_clear_9 : decode cX5_clear 9 = .ok (.aload_n 0, 1) := by decide +kernel
theorem dX5_clear_10 : decode cX5_clear 10 = .ok (.getfield 9, 3) := by decide +kernel
theorem dX5_clear_13 : decode cX5_clear 13 = .ok (.iconst 0, 1) := by decide +kernel
theorem dX5_clear_14 : decode cX5_clear 14 = .ok (.iconst 4, 1) := by decide +kernel
theorem dX5_clear_15 : decode cX5_clear 15 = .ok (.invokestatic 38, 3) := by decide +kernel
theorem dX5_clear_18 : decode cX5_clear 18 = .ok (.return_, 1) := by decide +kernel
theorem dX5_addRope_0 : decode cX5_addRope 0 = .ok (.aload_n 0, 1) := by decide +kernel
theorem dX5_addRope_1 : decode cX5_addRope 1 = .ok (.getfield 31, 3) := by decide +kernel
theorem dX5_addRope_4 : decode cX5_addRope 4 = .ok (.bipush 7, 2) := by decide +kernel
theorem dX5_addRope_6 : decode cX5_addRope 6 = .ok (.imul, 1) := by decide +kernel
theorem dX5_addRope_7 : decode cX5_addRope 7 = .ok (.istore_n 1, 1) := by decide +kernel
theorem dX5_addRope_8 : decode cX5_addRope 8 = .ok (.getstatic 44, 3) := by decide +kernel
theorem dX5_addRope_11 : decode cX5_addRope 11 = .ok (.iconst 0, 1) := by decide +kernel
theorem dX5_addRope_12 : decode cX5_addRope 12 = .ok (.aload_n 0, 1) := by decide +kernel
theorem dX5_addRope_13 : decode cX5_addRope 13 = .ok (.getfield 15, 3) := by decide +kernel
theorem dX5_addRope_16 : decode cX5_addRope 16 = .ok (.iload_n 1, 1) := by decide +kernel
theorem dX5_addRope_17 : decode cX5_addRope 17 = .ok (.bipush 7, 2) := by decide +kernel
theorem dX5_addRope_19 : decode cX5_addRope 19 = .ok (.invokestatic 38, 3) := by decide +kernel
theorem dX5_addRope_22 : decode cX5_addRope 22 = .ok (.aload_n 0, 1) := by decide +kernel
theorem dX5_addRope_23 : decode cX5_addRope 23 = .ok (.dup, 1) := by decide +kernel
theorem dX5_addRope_24 : decode cX5_addRope 24 = .ok (.getfield 31, 3) := by decide +kernel
theorem dX5_addRope_27 : decode cX5_addRope 27 = .ok (.iconst 1, 1) := by decide +kernel
theorem dX5_addRope_28 : decode cX5_addRope 28 = .ok (.iadd, 1) := by decide +kernel
theorem dX5_addRope_29 : decode cX5_addRope 29 = .ok (.putfield 31, 3) := by decide +kernel
theorem dX5_addRope_32 : decode cX5_addRope 32 = .ok (.iload_n 1, 1) := by decide +kernel
theorem dX5_addRope_33 : decode cX5_addRope 33 = .ok (.ireturn, 1) := by decide +kernel
theorem dX5_isWhole_0 : decode cX5_isWhole 0 = .ok (.iconst 0, 1) := by decide +kernel
theorem dX5_isWhole_1 : decode cX5_isWhole 1 = .ok (.istore_n 1, 1) := by decide +kernel
theorem dX5_isWhole_2 : decode cX5_isWhole 2 = .ok (.iload_n 1, 1) := by decide +kernel
theorem dX5_isWhole_3 : decode cX5_isWhole 3 = .ok (.aload_n 0, 1) := by decide +kernel
theorem dX5_isWhole_4 : decode cX5_isWhole 4 = .ok (.getfield 31, 3) := by decide +kernel
theorem dX5_isWhole_7 : decode cX5_isWhole 7 = .ok (.if_icmp .ge 29, 3) := by decide +kernel
theorem dX5_isWhole_10 : decode cX5_isWhole 10 = .ok (.aload_n 0, 1) := by decide +kernel
theorem dX5_isWhole_11 : decode cX5_isWhole 11 = .ok (.iload_n 1, 1) := by decide +kernel
theorem dX5_isWhole_12 : decode cX5_isWhole 12 = .ok (.iconst 3, 1) := by decide +kernel
theorem dX5_isWhole_13 : decode cX5_isWhole 13 = .ok (.invokevirtual 47, 3) := by decide +kernel
theorem dX5_isWhole_16 : decode cX5_isWhole 16 = .ok (.ifCond .ne 14, 3) := by decide +kernel
theorem dX5_isWhole_19 : decode cX5_isWhole 19 = .ok (.aload_n 0, 1) := by decide +kernel
theorem dX5_isWhole_20 : decode cX5_isWhole 20 = .ok (.iload_n 1, 1) := by decide +kernel
theorem dX5_isWhole_21 : decode cX5_isWhole 21 = .ok (.iconst 4, 1) := by decide +kernel
theorem dX5_isWhole_22 : decode cX5_isWhole 22 = .ok (.invokevirtual 47, 3) := by decide +kernel
theorem dX5_isWhole_25 : decode cX5_isWhole 25 = .ok (.ifCond .ne 5, 3) := by decide +kernel
theorem dX5_isWhole_28 : decode cX5_isWhole 28 = .ok (.iconst 0, 1) := by decide +kernel
theorem dX5_isWhole_29 : decode cX5_isWhole 29 = .ok (.ireturn, 1) := by decide +kernel
theorem dX5_isWhole_30 : decode cX5_isWhole 30 = .ok (.iinc 1 1, 3) := by decide +kernel
theorem dX5_isWhole_33 : decode cX5_isWhole 33 = .ok (.goto (-31), 3) := by decide +kernel
theorem dX5_isWhole_36 : decode cX5_isWhole 36 = .ok (.aload_n 0, 1) := by decide +kernel
theorem dX5_isWhole_37 : decode cX5_isWhole 37 = .ok (.getfield 31, 3) := by decide +kernel
theorem dX5_isWhole_40 : decode cX5_isWhole 40 = .ok (.ifCond .le 7, 3) := by decide +kernel
theorem dX5_isWhole_43 : decode cX5_isWhole 43 = .ok (.iconst 1, 1) := by decide +kernel
theorem dX5_isWhole_44 : decode cX5_isWhole 44 = .ok (.goto 4, 3) := by decide +kernel
theorem dX5_isWhole_47 : decode cX5_isWhole 47 = .ok (.iconst 0, 1) := by decide +kernel
theorem dX5_isWhole_48 : decode cX5_isWhole 48 = .ok (.ireturn, 1) := by decide +kernel
theorem dX5_measure_0 : decode cX5_measure 0 = .ok (.iconst 0, 1) := by decide +kernel
theorem dX5_measure_1 : decode cX5_measure 1 = .ok (.istore_n 1, 1) := by decide +kernel
theorem dX5_measure_2 : decode cX5_measure 2 = .ok (.iload_n 1, 1) := by decide +kernel
theorem dX5_measure_3 : decode cX5_measure 3 = .ok (.iconst 3, 1) := by decide +kernel
theorem dX5_measure_4 : decode cX5_measure 4 = .ok (.if_icmp .ge 33, 3) := by decide +kernel
theorem dX5_measure_7 : decode cX5_measure 7 = .ok (.aload_n 0, 1) := by decide +kernel
theorem dX5_measure_8 : decode cX5_measure 8 = .ok (.getfield 27, 3) := by decide +kernel
theorem dX5_measure_11 : decode cX5_measure 11 = .ok (.iload_n 1, 1) := by decide +kernel
theorem dX5_measure_12 : decode cX5_measure 12 = .ok (.aload_n 0, 1) := by decide +kernel
theorem dX5_measure_13 : decode cX5_measure 13 = .ok (.getfield 9, 3) := by decide +kernel
theorem dX5_measure_16 : decode cX5_measure 16 = .ok (.iconst 0, 1) := by decide +kernel
theorem dX5_measure_17 : decode cX5_measure 17 = .ok (.iaload, 1) := by decide +kernel
theorem dX5_measure_18 : decode cX5_measure 18 = .ok (.iload_n 1, 1) := by decide +kernel
theorem dX5_measure_19 : decode cX5_measure 19 = .ok (.ishr, 1) := by decide +kernel
theorem dX5_measure_20 : decode cX5_measure 20 = .ok (.iconst 1, 1) := by decide +kernel
theorem dX5_measure_21 : decode cX5_measure 21 = .ok (.iand, 1) := by decide +kernel
theorem dX5_measure_22 : decode cX5_measure 22 = .ok (.ifCond .eq 7, 3) := by decide +kernel
theorem dX5_measure_25 : decode cX5_measure 25 = .ok (.iconst 1, 1) := by decide +kernel
theorem dX5_measure_26 : decode cX5_measure 26 = .ok (.goto 4, 3) := by decide +kernel
theorem dX5_measure_29 : decode cX5_measure 29 = .ok (.iconst 0, 1) := by decide +kernel
theorem dX5_measure_30 : decode cX5_measure 30 = .ok (.bastore, 1) := by decide +kernel
theorem dX5_measure_31 : decode cX5_measure 31 = .ok (.iinc 1 1, 3) := by decide +kernel
theorem dX5_measure_34 : decode cX5_measure 34 = .ok (.goto (-32), 3) := by decide +kernel
theorem dX5_measure_37 : decode cX5_measure 37 = .ok (.iconst 0, 1) := by decide +kernel
theorem dX5_measure_38 : decode cX5_measure 38 = .ok (.istore_n 1, 1) := by decide +kernel
theorem dX5_measure_39 : decode cX5_measure 39 = .ok (.iload_n 1, 1) := by decide +kernel
theorem dX5_measure_40 : decode cX5_measure 40 = .ok (.aload_n 0, 1) := by decide +kernel
theorem dX5_measure_41 : decode cX5_measure 41 = .ok (.getfield 31, 3) := by decide +kernel
theorem dX5_measure_44 : decode cX5_measure 44 = .ok (.if_icmp .ge 95, 3) := by decide +kernel
theorem dX5_measure_47 : decode cX5_measure 47 = .ok (.aload_n 0, 1) := by decide +kernel
theorem dX5_measure_48 : decode cX5_measure 48 = .ok (.iload_n 1, 1) := by decide +kernel
theorem dX5_measure_49 : decode cX5_measure 49 = .ok (.iconst 3, 1) := by decide +kernel
theorem dX5_measure_50 : decode cX5_measure 50 = .ok (.invokevirtual 47, 3) := by decide +kernel
theorem dX5_measure_53 : decode cX5_measure 53 = .ok (.istore_n 2, 1) := by decide +kernel
theorem dX5_measure_54 : decode cX5_measure 54 = .ok (.aload_n 0, 1) := by decide +kernel
theorem dX5_measure_55 : decode cX5_measure 55 = .ok (.iload_n 1, 1) := by decide +kernel
theorem dX5_measure_56 : decode cX5_measure 56 = .ok (.iconst 4, 1) := by decide +kernel
theorem dX5_measure_57 : decode cX5_measure 57 = .ok (.invokevirtual 47, 3) := by decide +kernel
theorem dX5_measure_60 : decode cX5_measure 60 = .ok (.istore_n 3, 1) := by decide +kernel
theorem dX5_measure_61 : decode cX5_measure 61 = .ok (.aload_n 0, 1) := by decide +kernel
theorem dX5_measure_62 : decode cX5_measure 62 = .ok (.getfield 18, 3) := by decide +kernel
theorem dX5_measure_65 : decode cX5_measure 65 = .ok (.iconst 3, 1) := by decide +kernel
theorem dX5_measure_66 : decode cX5_measure 66 = .ok (.iload_n 1, 1) := by decide +kernel
theorem dX5_measure_67 : decode cX5_measure 67 = .ok (.imul, 1) := by decide +kernel
theorem dX5_measure_68 : decode cX5_measure 68 = .ok (.iload_n 2, 1) := by decide +kernel
theorem dX5_measure_69 : decode cX5_measure 69 = .ok (.iastore, 1) := by decide +kernel
theorem dX5_measure_70 : decode cX5_measure 70 = .ok (.aload_n 0, 1) := by decide +kernel
theorem dX5_measure_71 : decode cX5_measure 71 = .ok (.getfield 18, 3) := by decide +kernel
theorem dX5_measure_74 : decode cX5_measure 74 = .ok (.iconst 3, 1) := by decide +kernel
theorem dX5_measure_75 : decode cX5_measure 75 = .ok (.iload_n 1, 1) := by decide +kernel
theorem dX5_measure_76 : decode cX5_measure 76 = .ok (.imul, 1) := by decide +kernel
theorem dX5_measure_77 : decode cX5_measure 77 = .ok (.iconst 1, 1) := by decide +kernel
theorem dX5_measure_78 : decode cX5_measure 78 = .ok (.iadd, 1) := by decide +kernel
theorem dX5_measure_79 : decode cX5_measure 79 = .ok (.iload_n 3, 1) := by decide +kernel
theorem dX5_measure_80 : decode cX5_measure 80 = .ok (.iastore, 1) := by decide +kernel
theorem dX5_measure_81 : decode cX5_measure 81 = .ok (.aload_n 0, 1) := by decide +kernel
theorem dX5_measure_82 : decode cX5_measure 82 = .ok (.getfield 18, 3) := by decide +kernel
theorem dX5_measure_85 : decode cX5_measure 85 = .ok (.iconst 3, 1) := by decide +kernel
theorem dX5_measure_86 : decode cX5_measure 86 = .ok (.iload_n 1, 1) := by decide +kernel
theorem dX5_measure_87 : decode cX5_measure 87 = .ok (.imul, 1) := by decide +kernel
theorem dX5_measure_88 : decode cX5_measure 88 = .ok (.iconst 2, 1) := by decide +kernel
theorem dX5_measure_89 : decode cX5_measure 89 = .ok (.iadd, 1) := by decide +kernel
theorem dX5_measure_90 : decode cX5_measure 90 = .ok (.aload_n 0, 1) := by decide +kernel
theorem dX5_measure_91 : decode cX5_measure 91 = .ok (.iload_n 1, 1) := by decide +kernel
theorem dX5_measure_92 : decode cX5_measure 92 = .ok (.iconst 1, 1) := by decide +kernel
theorem dX5_measure_93 : decode cX5_measure 93 = .ok (.invokevirtual 47, 3) := by decide +kernel
theorem dX5_measure_96 : decode cX5_measure 96 = .ok (.iload_n 3, 1) := by decide +kernel
theorem dX5_measure_97 : decode cX5_measure 97 = .ok (.imul, 1) := by decide +kernel
theorem dX5_measure_98 : decode cX5_measure 98 = .ok (.aload_n 0, 1) := by decide +kernel
theorem dX5_measure_99 : decode cX5_measure 99 = .ok (.iload_n 1, 1) := by decide +kernel
theorem dX5_measure_100 : decode cX5_measure 100 = .ok (.iconst 2, 1) := by decide +kernel
theorem dX5_measure_101 : decode cX5_measure 101 = .ok (.invokevirtual 47, 3) := by decide +kernel
theorem dX5_measure_104 : decode cX5_measure 104 = .ok (.iload_n 2, 1) := by decide +kernel
theorem dX5_measure_105 : decode cX5_measure 105 = .ok (.imul, 1) := by decide +kernel
theorem dX5_measure_106 : decode cX5_measure 106 = .ok (.isub, 1) := by decide +kernel
theorem dX5_measure_107 : decode cX5_measure 107 = .ok (.iastore, 1) := by decide +kernel
theorem dX5_measure_108 : decode cX5_measure 108 = .ok (.aload_n 0, 1) := by decide +kernel
theorem dX5_measure_109 : decode cX5_measure 109 = .ok (.getfield 21, 3) := by decide +kernel
theorem dX5_measure_112 : decode cX5_measure 112 = .ok (.iload_n 1, 1) := by decide +kernel
theorem dX5_measure_113 : decode cX5_measure 113 = .ok (.aload_n 0, 1) := by decide +kernel
theorem dX5_measure_114 : decode cX5_measure 114 = .ok (.iload_n 1, 1) := by decide +kernel
theorem dX5_measure_115 : decode cX5_measure 115 = .ok (.iconst 0, 1) := by decide +kernel
theorem dX5_measure_116 : decode cX5_measure 116 = .ok (.invokevirtual 47, 3) := by decide +kernel
theorem dX5_measure_119 : decode cX5_measure 119 = .ok (.iastore, 1) := by decide +kernel
theorem dX5_measure_120 : decode cX5_measure 120 = .ok (.aload_n 0, 1) := by decide +kernel
theorem dX5_measure_121 : decode cX5_measure 121 = .ok (.getfield 24, 3) := by decide +kernel
theorem dX5_measure_124 : decode cX5_measure 124 = .ok (.iload_n 1, 1) := by decide +kernel
theorem dX5_measure_125 : decode cX5_measure 125 = .ok (.aload_n 0, 1) := by decide +kernel
theorem dX5_measure_126 : decode cX5_measure 126 = .ok (.iload_n 1, 1) := by decide +kernel
theorem dX5_measure_127 : decode cX5_measure 127 = .ok (.bipush 6, 2) := by decide +kernel
theorem dX5_measure_129 : decode cX5_measure 129 = .ok (.invokevirtual 47, 3) := by decide +kernel
theorem dX5_measure_132 : decode cX5_measure 132 = .ok (.iastore, 1) := by decide +kernel
theorem dX5_measure_133 : decode cX5_measure 133 = .ok (.iinc 1 1, 3) := by decide +kernel
theorem dX5_measure_136 : decode cX5_measure 136 = .ok (.goto (-97), 3) := by decide +kernel
theorem dX5_measure_139 : decode cX5_measure 139 = .ok (.return_, 1) := by decide +kernel
theorem dX5_itemOf_0 : decode cX5_itemOf 0 = .ok (.aload_n 0, 1) := by decide +kernel
theorem dX5_itemOf_1 : decode cX5_itemOf 1 = .ok (.getfield 15, 3) := by decide +kernel
theorem dX5_itemOf_4 : decode cX5_itemOf 4 = .ok (.bipush 7, 2) := by decide +kernel
theorem dX5_itemOf_6 : decode cX5_itemOf 6 = .ok (.iload_n 1, 1) := by decide +kernel
theorem dX5_itemOf_7 : decode cX5_itemOf 7 = .ok (.imul, 1) := by decide +kernel
theorem dX5_itemOf_8 : decode cX5_itemOf 8 = .ok (.iload_n 2, 1) := by decide +kernel
theorem dX5_itemOf_9 : decode cX5_itemOf 9 = .ok (.iadd, 1) := by decide +kernel
theorem dX5_itemOf_10 : decode cX5_itemOf 10 = .ok (.iaload, 1) := by decide +kernel
theorem dX5_itemOf_11 : decode cX5_itemOf 11 = .ok (.ireturn, 1) := by decide +kernel
theorem dX5_accordOf_0 : decode cX5_accordOf 0 = .ok (.iconst 0, 1) := by decide +kernel
theorem dX5_accordOf_1 : decode cX5_accordOf 1 = .ok (.istore_n 3, 1) := by decide +kernel
theorem dX5_accordOf_2 : decode cX5_accordOf 2 = .ok (.iconst 0, 1) := by decide +kernel
theorem dX5_accordOf_3 : decode cX5_accordOf 3 = .ok (.istore 4, 2) := by decide +kernel
theorem dX5_accordOf_5 : decode cX5_accordOf 5 = .ok (.iload 4, 2) := by decide +kernel
theorem dX5_accordOf_7 : decode cX5_accordOf 7 = .ok (.iconst 3, 1) := by decide +kernel
theorem dX5_accordOf_8 : decode cX5_accordOf 8 = .ok (.if_icmp .ge 45, 3) := by decide +kernel
theorem dX5_accordOf_11 : decode cX5_accordOf 11 = .ok (.aload_n 0, 1) := by decide +kernel
theorem dX5_accordOf_12 : decode cX5_accordOf 12 = .ok (.getfield 27, 3) := by decide +kernel
theorem dX5_accordOf_15 : decode cX5_accordOf 15 = .ok (.iload 4, 2) := by decide +kernel
theorem dX5_accordOf_17 : decode cX5_accordOf 17 = .ok (.baload, 1) := by decide +kernel
theorem dX5_accordOf_18 : decode cX5_accordOf 18 = .ok (.ifCond .eq 29, 3) := by decide +kernel
theorem dX5_accordOf_21 : decode cX5_accordOf 21 = .ok (.iload_n 3, 1) := by decide +kernel
theorem dX5_accordOf_22 : decode cX5_accordOf 22 = .ok (.aload_n 0, 1) := by decide +kernel
theorem dX5_accordOf_23 : decode cX5_accordOf 23 = .ok (.getfield 18, 3) := by decide +kernel
theorem dX5_accordOf_26 : decode cX5_accordOf 26 = .ok (.iconst 3, 1) := by decide +kernel
theorem dX5_accordOf_27 : decode cX5_accordOf 27 = .ok (.iload_n 1, 1) := by decide +kernel
theorem dX5_accordOf_28 : decode cX5_accordOf 28 = .ok (.imul, 1) := by decide +kernel
theorem dX5_accordOf_29 : decode cX5_accordOf 29 = .ok (.iload 4, 2) := by decide +kernel
theorem dX5_accordOf_31 : decode cX5_accordOf 31 = .ok (.iadd, 1) := by decide +kernel
theorem dX5_accordOf_32 : decode cX5_accordOf 32 = .ok (.iaload, 1) := by decide +kernel
theorem dX5_accordOf_33 : decode cX5_accordOf 33 = .ok (.aload_n 0, 1) := by decide +kernel
theorem dX5_accordOf_34 : decode cX5_accordOf 34 = .ok (.getfield 18, 3) := by decide +kernel
theorem dX5_accordOf_37 : decode cX5_accordOf 37 = .ok (.iconst 3, 1) := by decide +kernel
theorem dX5_accordOf_38 : decode cX5_accordOf 38 = .ok (.iload_n 2, 1) := by decide +kernel
theorem dX5_accordOf_39 : decode cX5_accordOf 39 = .ok (.imul, 1) := by decide +kernel
theorem dX5_accordOf_40 : decode cX5_accordOf 40 = .ok (.iload 4, 2) := by decide +kernel
theorem dX5_accordOf_42 : decode cX5_accordOf 42 = .ok (.iadd, 1) := by decide +kernel
theorem dX5_accordOf_43 : decode cX5_accordOf 43 = .ok (.iaload, 1) := by decide +kernel
theorem dX5_accordOf_44 : decode cX5_accordOf 44 = .ok (.imul, 1) := by decide +kernel
theorem dX5_accordOf_45 : decode cX5_accordOf 45 = .ok (.iadd, 1) := by decide +kernel
theorem dX5_accordOf_46 : decode cX5_accordOf 46 = .ok (.istore_n 3, 1) := by decide +kernel
theorem dX5_accordOf_47 : decode cX5_accordOf 47 = .ok (.iinc 4 1, 3) := by decide +kernel
theorem dX5_accordOf_50 : decode cX5_accordOf 50 = .ok (.goto (-45), 3) := by decide +kernel
theorem dX5_accordOf_53 : decode cX5_accordOf 53 = .ok (.iload_n 3, 1) := by decide +kernel
theorem dX5_accordOf_54 : decode cX5_accordOf 54 = .ok (.ireturn, 1) := by decide +kernel
theorem dX5_stiffnessOf_0 : decode cX5_stiffnessOf 0 = .ok (.iconst 0, 1) := by decide +kernel
theorem dX5_stiffnessOf_1 : decode cX5_stiffnessOf 1 = .ok (.istore_n 2, 1) := by decide +kernel
theorem dX5_stiffnessOf_2 : decode cX5_stiffnessOf 2 = .ok (.iconst 0, 1) := by decide +kernel
theorem dX5_stiffnessOf_3 : decode cX5_stiffnessOf 3 = .ok (.istore_n 3, 1) := by decide +kernel
theorem dX5_stiffnessOf_4 : decode cX5_stiffnessOf 4 = .ok (.iload_n 3, 1) := by decide +kernel
theorem dX5_stiffnessOf_5 : decode cX5_stiffnessOf 5 = .ok (.aload_n 0, 1) := by decide +kernel
theorem dX5_stiffnessOf_6 : decode cX5_stiffnessOf 6 = .ok (.getfield 31, 3) := by decide +kernel
theorem dX5_stiffnessOf_9 : decode cX5_stiffnessOf 9 = .ok (.if_icmp .ge 26, 3) := by decide +kernel
theorem dX5_stiffnessOf_12 : decode cX5_stiffnessOf 12 = .ok (.iload_n 1, 1) := by decide +kernel
theorem dX5_stiffnessOf_13 : decode cX5_stiffnessOf 13 = .ok (.iload_n 3, 1) := by decide +kernel
theorem dX5_stiffnessOf_14 : decode cX5_stiffnessOf 14 = .ok (.ishr, 1) := by decide +kernel
theorem dX5_stiffnessOf_15 : decode cX5_stiffnessOf 15 = .ok (.iconst 1, 1) := by decide +kernel
theorem dX5_stiffnessOf_16 : decode cX5_stiffnessOf 16 = .ok (.iand, 1) := by decide +kernel
theorem dX5_stiffnessOf_17 : decode cX5_stiffnessOf 17 = .ok (.ifCond .eq 12, 3) := by decide +kernel
theorem dX5_stiffnessOf_20 : decode cX5_stiffnessOf 20 = .ok (.iload_n 2, 1) := by decide +kernel
theorem dX5_stiffnessOf_21 : decode cX5_stiffnessOf 21 = .ok (.aload_n 0, 1) := by decide +kernel
theorem dX5_stiffnessOf_22 : decode cX5_stiffnessOf 22 = .ok (.getfield 21, 3) := by decide +kernel
theorem dX5_stiffnessOf_25 : decode cX5_stiffnessOf 25 = .ok (.iload_n 3, 1) := by decide +kernel
theorem dX5_stiffnessOf_26 : decode cX5_stiffnessOf 26 = .ok (.iaload, 1) := by decide +kernel
theorem dX5_stiffnessOf_27 : decode cX5_stiffnessOf 27 = .ok (.iadd, 1) := by decide +kernel
theorem dX5_stiffnessOf_28 : decode cX5_stiffnessOf 28 = .ok (.istore_n 2, 1) := by decide +kernel
theorem dX5_stiffnessOf_29 : decode cX5_stiffnessOf 29 = .ok (.iinc 3 1, 3) := by decide +kernel
theorem dX5_stiffnessOf_32 : decode cX5_stiffnessOf 32 = .ok (.goto (-28), 3) := by decide +kernel
theorem dX5_stiffnessOf_35 : decode cX5_stiffnessOf 35 = .ok (.iload_n 2, 1) := by decide +kernel
theorem dX5_stiffnessOf_36 : decode cX5_stiffnessOf 36 = .ok (.ireturn, 1) := by decide +kernel
theorem dX6_init_0 : decode cX6_init 0 = .ok (.aload_n 0, 1) := by decide +kernel
theorem dX6_init_1 : decode cX6_init 1 = .ok (.invokespecial 3, 3) := by decide +kernel
theorem dX6_init_4 : decode cX6_init 4 = .ok (.aload_n 0, 1) := by decide +kernel
theorem dX6_init_5 : decode cX6_init 5 = .ok (.bipush 40, 2) := by decide +kernel
theorem dX6_init_7 : decode cX6_init 7 = .ok (.anewarray 9, 3) := by decide +kernel
theorem dX6_init_10 : decode cX6_init 10 = .ok (.putfield 11, 3) := by decide +kernel
theorem dX6_init_13 : decode cX6_init 13 = .ok (.aload_n 0, 1) := by decide +kernel
theorem dX6_init_14 : decode cX6_init 14 = .ok (.iconst 0, 1) := by decide +kernel
theorem dX6_init_15 : decode cX6_init 15 = .ok (.putfield 17, 3) := by decide +kernel
theorem dX6_init_18 : decode cX6_init 18 = .ok (.aload_n 0, 1) := by decide +kernel
theorem dX6_init_19 : decode cX6_init 19 = .ok (.iconst 0, 1) := by decide +kernel
theorem dX6_init_20 : decode cX6_init 20 = .ok (.putfield 21, 3) := by decide +kernel
theorem dX6_init_23 : decode cX6_init 23 = .ok (.iconst 0, 1) := by decide +kernel
theorem dX6_init_24 : decode cX6_init 24 = .ok (.istore_n 1, 1) := by decide +kernel
theorem dX6_init_25 : decode cX6_init 25 = .ok (.iload_n 1, 1) := by decide +kernel
theorem dX6_init_26 : decode cX6_init 26 = .ok (.aload_n 0, 1) := by decide +kernel
theorem dX6_init_27 : decode cX6_init 27 = .ok (.getfield 11, 3) := by decide +kernel
theorem dX6_init_30 : decode cX6_init 30 = .ok (.arraylength, 1) := by decide +kernel
theorem dX6_init_31 : decode cX6_init 31 = .ok (.if_icmp .ge 22, 3) := by decide +kernel
theorem dX6_init_34 : decode cX6_init 34 = .ok (.aload_n 0, 1) := by decide +kernel
theorem dX6_init_35 : decode cX6_init 35 = .ok (.getfield 11, 3) := by decide +kernel
theorem dX6_init_38 : decode cX6_init 38 = .ok (.iload_n 1, 1) := by decide +kernel
theorem dX6_init_39 : decode cX6_init 39 = .ok (.new 9, 3) := by decide +kernel
theorem dX6_init_42 : decode cX6_init 42 = .ok (.dup, 1) := by decide +kernel
theorem dX6_init_43 : decode cX6_init 43 = .ok (.invokespecial 24, 3) := by decide +kernel
theorem dX6_init_46 : decode cX6_init 46 = .ok (.aastore, 1) := by decide +kernel
theorem dX6_init_47 : decode cX6_init 47 = .ok (.iinc 1 1, 3) := by decide +kernel
theorem dX6_init_50 : decode cX6_init 50 = .ok (.goto (-25), 3) := by decide +kernel
theorem dX6_init_53 : decode cX6_init 53 = .ok (.return_, 1) := by decide +kernel
theorem dX6_clear_0 : decode cX6_clear 0 = .ok (.aload_n 0, 1) := by decide +kernel
theorem dX6_clear_1 : decode cX6_clear 1 = .ok (.iconst 0, 1) := by decide +kernel
theorem dX6_clear_2 : decode cX6_clear 2 = .ok (.putfield 21, 3) := by decide +kernel
theorem dX6_clear_5 : decode cX6_clear 5 = .ok (.return_, 1) := by decide +kernel
theorem dX6_push_0 : decode cX6_push 0 = .ok (.aload_n 0, 1) := by decide +kernel
theorem dX6_push_1 : decode cX6_push 1 = .ok (.getfield 11, 3) := by decide +kernel
theorem dX6_push_4 : decode cX6_push 4 = .ok (.aload_n 0, 1) := by decide +kernel
theorem dX6_push_5 : decode cX6_push 5 = .ok (.getfield 17, 3) := by decide +kernel
theorem dX6_push_8 : decode cX6_push 8 = .ok (.aaload, 1) := by decide +kernel
theorem dX6_push_9 : decode cX6_push 9 = .ok (.aload_n 1, 1) := by decide +kernel
theorem dX6_push_10 : decode cX6_push 10 = .ok (.invokevirtual 25, 3) := by decide +kernel
theorem dX6_push_13 : decode cX6_push 13 = .ok (.aload_n 0, 1) := by decide +kernel
theorem dX6_push_14 : decode cX6_push 14 = .ok (.aload_n 0, 1) := by decide +kernel
theorem dX6_push_15 : decode cX6_push 15 = .ok (.getfield 17, 3) := by decide +kernel
theorem dX6_push_18 : decode cX6_push 18 = .ok (.iconst 1, 1) := by decide +kernel
theorem dX6_push_19 : decode cX6_push 19 = .ok (.iadd, 1) := by decide +kernel
theorem dX6_push_20 : decode cX6_push 20 = .ok (.bipush 40, 2) := by decide +kernel
theorem dX6_push_22 : decode cX6_push 22 = .ok (.irem, 1) := by decide +kernel
theorem dX6_push_23 : decode cX6_push 23 = .ok (.putfield 17, 3) := by decide +kernel
theorem dX6_push_26 : decode cX6_push 26 = .ok (.aload_n 0, 1) := by decide +kernel
theorem dX6_push_27 : decode cX6_push 27 = .ok (.aload_n 0, 1) := by decide +kernel
theorem dX6_push_28 : decode cX6_push 28 = .ok (.getfield 21, 3) := by decide +kernel
theorem dX6_push_31 : decode cX6_push 31 = .ok (.iconst 1, 1) := by decide +kernel
theorem dX6_push_32 : decode cX6_push 32 = .ok (.iadd, 1) := by decide +kernel
theorem dX6_push_33 : decode cX6_push 33 = .ok (.bipush 40, 2) := by decide +kernel
theorem dX6_push_35 : decode cX6_push 35 = .ok (.invokestatic 29, 3) := by decide +kernel
theorem dX6_push_38 : decode cX6_push 38 = .ok (.putfield 21, 3) := by decide +kernel
theorem dX6_push_41 : decode cX6_push 41 = .ok (.return_, 1) := by decide +kernel
theorem dX6_pop_0 : decode cX6_pop 0 = .ok (.aload_n 0, 1) := by decide +kernel
theorem dX6_pop_1 : decode cX6_pop 1 = .ok (.getfield 21, 3) := by decide +kernel
theorem dX6_pop_4 : decode cX6_pop 4 = .ok (.ifCond .ne 5, 3) := by decide +kernel
theorem dX6_pop_7 : decode cX6_pop 7 = .ok (.iconst 0, 1) := by decide +kernel
theorem dX6_pop_8 : decode cX6_pop 8 = .ok (.ireturn, 1) := by decide +kernel
theorem dX6_pop_9 : decode cX6_pop 9 = .ok (.aload_n 0, 1) := by decide +kernel
theorem dX6_pop_10 : decode cX6_pop 10 = .ok (.aload_n 0, 1) := by decide +kernel
theorem dX6_pop_11 : decode cX6_pop 11 = .ok (.getfield 17, 3) := by decide +kernel
theorem dX6_pop_14 : decode cX6_pop 14 = .ok (.bipush 40, 2) := by decide +kernel
theorem dX6_pop_16 : decode cX6_pop 16 = .ok (.iadd, 1) := by decide +kernel
theorem dX6_pop_17 : decode cX6_pop 17 = .ok (.iconst 1, 1) := by decide +kernel
theorem dX6_pop_18 : decode cX6_pop 18 = .ok (.isub, 1) := by decide +kernel
theorem dX6_pop_19 : decode cX6_pop 19 = .ok (.bipush 40, 2) := by decide +kernel
theorem dX6_pop_21 : decode cX6_pop 21 = .ok (.irem, 1) := by decide +kernel
theorem dX6_pop_22 : decode cX6_pop 22 = .ok (.putfield 17, 3) := by decide +kernel
theorem dX6_pop_25 : decode cX6_pop 25 = .ok (.aload_n 0, 1) := by decide +kernel
theorem dX6_pop_26 : decode cX6_pop 26 = .ok (.dup, 1) := by decide +kernel
theorem dX6_pop_27 : decode cX6_pop 27 = .ok (.getfield 21, 3) := by decide +kernel
theorem dX6_pop_30 : decode cX6_pop 30 = .ok (.iconst 1, 1) := by decide +kernel
theorem dX6_pop_31 : decode cX6_pop 31 = .ok (.isub, 1) := by decide +kernel
theorem dX6_pop_32 : decode cX6_pop 32 = .ok (.putfield 21, 3) := by decide +kernel
theorem dX6_pop_35 : decode cX6_pop 35 = .ok (.aload_n 1, 1) := by decide +kernel
theorem dX6_pop_36 : decode cX6_pop 36 = .ok (.aload_n 0, 1) := by decide +kernel
theorem dX6_pop_37 : decode cX6_pop 37 = .ok (.getfield 11, 3) := by decide +kernel
theorem dX6_pop_40 : decode cX6_pop 40 = .ok (.aload_n 0, 1) := by decide +kernel
theorem dX6_pop_41 : decode cX6_pop 41 = .ok (.getfield 17, 3) := by decide +kernel
theorem dX6_pop_44 : decode cX6_pop 44 = .ok (.aaload, 1) := by decide +kernel
theorem dX6_pop_45 : decode cX6_pop 45 = .ok (.invokevirtual 25, 3) := by decide +kernel
theorem dX6_pop_48 : decode cX6_pop 48 = .ok (.iconst 1, 1) := by decide +kernel
theorem dX6_pop_49 : decode cX6_pop 49 = .ok (.ireturn, 1) := by decide +kernel
theorem dX7_init_0 : decode cX7_init 0 = .ok (.aload_n 0, 1) := by decide +kernel
theorem dX7_init_1 : decode cX7_init 1 = .ok (.invokespecial 3, 3) := by decide +kernel
theorem dX7_init_4 : decode cX7_init 4 = .ok (.aload_n 0, 1) := by decide +kernel
theorem dX7_init_5 : decode cX7_init 5 = .ok (.iconst 0, 1) := by decide +kernel
theorem dX7_init_6 : decode cX7_init 6 = .ok (.putfield 9, 3) := by decide +kernel
theorem dX7_init_9 : decode cX7_init 9 = .ok (.aload_n 0, 1) := by decide +kernel
theorem dX7_init_10 : decode cX7_init 10 = .ok (.iconst 0, 1) := by decide +kernel
theorem dX7_init_11 : decode cX7_init 11 = .ok (.putfield 15, 3) := by decide +kernel
theorem dX7_init_14 : decode cX7_init 14 = .ok (.aload_n 0, 1) := by decide +kernel
theorem dX7_init_15 : decode cX7_init 15 = .ok (.iconst 0, 1) := by decide +kernel
theorem dX7_init_16 : decode cX7_init 16 = .ok (.putfield 18, 3) := by decide +kernel
theorem dX7_init_19 : decode cX7_init 19 = .ok (.aload_n 0, 1) := by decide +kernel
theorem dX7_init_20 : decode cX7_init 20 = .ok (.aload_n 1, 1) := by decide +kernel
theorem dX7_init_21 : decode cX7_init 21 = .ok (.putfield 22, 3) := by decide +kernel
theorem dX7_init_24 : decode cX7_init 24 = .ok (.return_, 1) := by decide +kernel
theorem dX7_sign_0 : decode cX7_sign 0 = .ok (.aload_n 0, 1) := by decide +kernel
theorem dX7_sign_1 : decode cX7_sign 1 = .ok (.getfield 9, 3) := by decide +kernel
theorem dX7_sign_4 : decode cX7_sign 4 = .ok (.ifCond .lt 36, 3) := by decide +kernel
theorem dX7_sign_7 : decode cX7_sign 7 = .ok (.aload_n 0, 1) := by decide +kernel
theorem dX7_sign_8 : decode cX7_sign 8 = .ok (.getfield 9, 3) := by decide +kernel
theorem dX7_sign_11 : decode cX7_sign 11 = .ok (.aload_n 0, 1) := by decide +kernel
theorem dX7_sign_12 : decode cX7_sign 12 = .ok (.getfield 22, 3) := by decide +kernel
theorem dX7_sign_15 : decode cX7_sign 15 = .ok (.getfield 26, 3) := by decide +kernel
theorem dX7_sign_18 : decode cX7_sign 18 = .ok (.if_icmp .ge 22, 3) := by decide +kernel
theorem dX7_sign_21 : decode cX7_sign 21 = .ok (.aload_n 0, 1) := by decide +kernel
theorem dX7_sign_22 : decode cX7_sign 22 = .ok (.getfield 22, 3) := by decide +kernel
theorem dX7_sign_25 : decode cX7_sign 25 = .ok (.getfield 31, 3) := by decide +kernel
theorem dX7_sign_28 : decode cX7_sign 28 = .ok (.aload_n 0, 1) := by decide +kernel
theorem dX7_sign_29 : decode cX7_sign 29 = .ok (.getfield 9, 3) := by decide +kernel
theorem dX7_sign_32 : decode cX7_sign 32 = .ok (.baload, 1) := by decide +kernel
theorem dX7_sign_33 : decode cX7_sign 33 = .ok (.sipush 255, 3) := by decide +kernel
theorem dX7_sign_36 : decode cX7_sign 36 = .ok (.iand, 1) := by decide +kernel
theorem dX7_sign_37 : decode cX7_sign 37 = .ok (.goto 4, 3) := by decide +kernel
theorem dX7_sign_40 : decode cX7_sign 40 = .ok (.iconst (-1), 1) := by decide +kernel
theorem dX7_sign_41 : decode cX7_sign 41 = .ok (.ireturn, 1) := by decide +kernel
theorem dX7_skipBlanks_0 : decode cX7_skipBlanks 0 = .ok (.aload_n 0, 1) := by decide +kernel
theorem dX7_skipBlanks_1 : decode cX7_skipBlanks 1 = .ok (.getfield 9, 3) := by decide +kernel
theorem dX7_skipBlanks_4 : decode cX7_skipBlanks 4 = .ok (.ifCond .lt 47, 3) := by decide +kernel
theorem dX7_skipBlanks_7 : decode cX7_skipBlanks 7 = .ok (.aload_n 0, 1) := by decide +kernel
theorem dX7_skipBlanks_8 : decode cX7_skipBlanks 8 = .ok (.getfield 9, 3) := by decide +kernel
theorem dX7_skipBlanks_11 : decode cX7_skipBlanks 11 = .ok (.aload_n 0, 1) := by decide +kernel
theorem dX7_skipBlanks_12 : decode cX7_skipBlanks 12 = .ok (.getfield 22, 3) := by decide +kernel
theorem dX7_skipBlanks_15 : decode cX7_skipBlanks 15 = .ok (.getfield 26, 3) := by decide +kernel
theorem dX7_skipBlanks_18 : decode cX7_skipBlanks 18 = .ok (.if_icmp .ge 33, 3) := by decide +kernel
theorem dX7_skipBlanks_21 : decode cX7_skipBlanks 21 = .ok (.aload_n 0, 1) := by decide +kernel
theorem dX7_skipBlanks_22 : decode cX7_skipBlanks 22 = .ok (.getfield 22, 3) := by decide +kernel
theorem dX7_skipBlanks_25 : decode cX7_skipBlanks 25 = .ok (.getfield 31, 3) := by decide +kernel
theorem dX7_skipBlanks_28 : decode cX7_skipBlanks 28 = .ok (.aload_n 0, 1) := by decide +kernel
theorem dX7_skipBlanks_29 : decode cX7_skipBlanks 29 = .ok (.getfield 9, 3) := by decide +kernel
theorem dX7_skipBlanks_32 : decode cX7_skipBlanks 32 = .ok (.baload, 1) := by decide +kernel
theorem dX7_skipBlanks_33 : decode cX7_skipBlanks 33 = .ok (.bipush 32, 2) := by decide +kernel
theorem dX7_skipBlanks_35 : decode cX7_skipBlanks 35 = .ok (.if_icmp .ne 16, 3) := by decide +kernel
theorem dX7_skipBlanks_38 : decode cX7_skipBlanks 38 = .ok (.aload_n 0, 1) := by decide +kernel
theorem dX7_skipBlanks_39 : decode cX7_skipBlanks 39 = .ok (.dup, 1) := by decide +kernel
theorem dX7_skipBlanks_40 : decode cX7_skipBlanks 40 = .ok (.getfield 9, 3) := by decide +kernel
theorem dX7_skipBlanks_43 : decode cX7_skipBlanks 43 = .ok (.iconst 1, 1) := by decide +kernel
theorem dX7_skipBlanks_44 : decode cX7_skipBlanks 44 = .ok (.iadd, 1) := by decide +kernel
theorem dX7_skipBlanks_45 : decode cX7_skipBlanks 45 = .ok (.putfield 9, 3) := by decide +kernel
theorem dX7_skipBlanks_48 : decode cX7_skipBlanks 48 = .ok (.goto (-48), 3) := by decide +kernel
theorem dX7_skipBlanks_51 : decode cX7_skipBlanks 51 = .ok (.return_, 1) := by decide +kernel
theorem dX7_readSign_0 : decode cX7_readSign 0 = .ok (.aload_n 0, 1) := by decide +kernel
theorem dX7_readSign_1 : decode cX7_readSign 1 = .ok (.invokevirtual 35, 3) := by decide +kernel
theorem dX7_readSign_4 : decode cX7_readSign 4 = .ok (.aload_n 0, 1) := by decide +kernel
theorem dX7_readSign_5 : decode cX7_readSign 5 = .ok (.invokevirtual 38, 3) := by decide +kernel
theorem dX7_readSign_8 : decode cX7_readSign 8 = .ok (.iload_n 1, 1) := by decide +kernel
theorem dX7_readSign_9 : decode cX7_readSign 9 = .ok (.if_icmp .eq 5, 3) := by decide +kernel
theorem dX7_readSign_12 : decode cX7_readSign 12 = .ok (.iconst 0, 1) := by decide +kernel
theorem dX7_readSign_13 : decode cX7_readSign 13 = .ok (.ireturn, 1) := by decide +kernel
theorem dX7_readSign_14 : decode cX7_readSign 14 = .ok (.aload_n 0, 1) := by decide +kernel
theorem dX7_readSign_15 : decode cX7_readSign 15 = .ok (.dup, 1) := by decide +kernel
theorem dX7_readSign_16 : decode cX7_readSign 16 = .ok (.getfield 9, 3) := by decide +kernel
theorem dX7_readSign_19 : decode cX7_readSign 19 = .ok (.iconst 1, 1) := by decide +kernel
theorem dX7_readSign_20 : decode cX7_readSign 20 = .ok (.iadd, 1) := by decide +kernel
theorem dX7_readSign_21 : decode cX7_readSign 21 = .ok (.putfield 9, 3) := by decide +kernel
theorem dX7_readSign_24 : decode cX7_readSign 24 = .ok (.iconst 1, 1) := by decide +kernel
theorem dX7_readSign_25 : decode cX7_readSign 25 = .ok (.ireturn, 1) := by decide +kernel
theorem dX7_readDigit_0 : decode cX7_readDigit 0 = .ok (.aload_n 0, 1) := by decide +kernel
theorem dX7_readDigit_1 : decode cX7_readDigit 1 = .ok (.invokevirtual 35, 3) := by decide +kernel
theorem dX7_readDigit_4 : decode cX7_readDigit 4 = .ok (.aload_n 0, 1) := by decide +kernel
theorem dX7_readDigit_5 : decode cX7_readDigit 5 = .ok (.invokevirtual 38, 3) := by decide +kernel
theorem dX7_readDigit_8 : decode cX7_readDigit 8 = .ok (.istore_n 1, 1) := by decide +kernel
theorem dX7_readDigit_9 : decode cX7_readDigit 9 = .ok (.iload_n 1, 1) := by decide +kernel
theorem dX7_readDigit_10 : decode cX7_readDigit 10 = .ok (.bipush 48, 2) := by decide +kernel
theorem dX7_readDigit_12 : decode cX7_readDigit 12 = .ok (.if_icmp .lt 9, 3) := by decide +kernel
theorem dX7_readDigit_15 : decode cX7_readDigit 15 = .ok (.iload_n 1, 1) := by decide +kernel
theorem dX7_readDigit_16 : decode cX7_readDigit 16 = .ok (.bipush 57, 2) := by decide +kernel
theorem dX7_readDigit_18 : decode cX7_readDigit 18 = .ok (.if_icmp .le 5, 3) := by decide +kernel
theorem dX7_readDigit_21 : decode cX7_readDigit 21 = .ok (.iconst 0, 1) := by decide +kernel
theorem dX7_readDigit_22 : decode cX7_readDigit 22 = .ok (.ireturn, 1) := by decide +kernel
theorem dX7_readDigit_23 : decode cX7_readDigit 23 = .ok (.aload_n 0, 1) := by decide +kernel
theorem dX7_readDigit_24 : decode cX7_readDigit 24 = .ok (.iload_n 1, 1) := by decide +kernel
theorem dX7_readDigit_25 : decode cX7_readDigit 25 = .ok (.bipush 48, 2) := by decide +kernel
theorem dX7_readDigit_27 : decode cX7_readDigit 27 = .ok (.isub, 1) := by decide +kernel
theorem dX7_readDigit_28 : decode cX7_readDigit 28 = .ok (.putfield 15, 3) := by decide +kernel
theorem dX7_readDigit_31 : decode cX7_readDigit 31 = .ok (.aload_n 0, 1) := by decide +kernel
theorem dX7_readDigit_32 : decode cX7_readDigit 32 = .ok (.dup, 1) := by decide +kernel
theorem dX7_readDigit_33 : decode cX7_readDigit 33 = .ok (.getfield 9, 3) := by decide +kernel
theorem dX7_readDigit_36 : decode cX7_readDigit 36 = .ok (.iconst 1, 1) := by decide +kernel
theorem dX7_readDigit_37 : decode cX7_readDigit 37 = .ok (.iadd, 1) := by decide +kernel
theorem dX7_readDigit_38 : decode cX7_readDigit 38 = .ok (.putfield 9, 3) := by decide +kernel
theorem dX7_readDigit_41 : decode cX7_readDigit 41 = .ok (.iconst 1, 1) := by decide +kernel
theorem dX7_readDigit_42 : decode cX7_readDigit 42 = .ok (.ireturn, 1) := by decide +kernel
theorem dX7_readNumber_0 : decode cX7_readNumber 0 = .ok (.aload_n 0, 1) := by decide +kernel
theorem dX7_readNumber_1 : decode cX7_readNumber 1 = .ok (.invokevirtual 35, 3) := by decide +kernel
theorem dX7_readNumber_4 : decode cX7_readNumber 4 = .ok (.aload_n 0, 1) := by decide +kernel
theorem dX7_readNumber_5 : decode cX7_readNumber 5 = .ok (.invokevirtual 38, 3) := by decide +kernel
theorem dX7_readNumber_8 : decode cX7_readNumber 8 = .ok (.istore_n 3, 1) := by decide +kernel
theorem dX7_readNumber_9 : decode cX7_readNumber 9 = .ok (.iload_n 3, 1) := by decide +kernel
theorem dX7_readNumber_10 : decode cX7_readNumber 10 = .ok (.bipush 45, 2) := by decide +kernel
theorem dX7_readNumber_12 : decode cX7_readNumber 12 = .ok (.if_icmp .ne 7, 3) := by decide +kernel
theorem dX7_readNumber_15 : decode cX7_readNumber 15 = .ok (.iconst 1, 1) := by decide +kernel
theorem dX7_readNumber_16 : decode cX7_readNumber 16 = .ok (.goto 4, 3) := by decide +kernel
theorem dX7_readNumber_19 : decode cX7_readNumber 19 = .ok (.iconst 0, 1) := by decide +kernel
theorem dX7_readNumber_20 : decode cX7_readNumber 20 = .ok (.istore 4, 2) := by decide +kernel
theorem dX7_readNumber_22 : decode cX7_readNumber 22 = .ok (.iload 4, 2) := by decide +kernel
theorem dX7_readNumber_24 : decode cX7_readNumber 24 = .ok (.ifCond .eq 18, 3) := by decide +kernel
theorem dX7_readNumber_27 : decode cX7_readNumber 27 = .ok (.aload_n 0, 1) := by decide +kernel
theorem dX7_readNumber_28 : decode cX7_readNumber 28 = .ok (.dup, 1) := by decide +kernel
theorem dX7_readNumber_29 : decode cX7_readNumber 29 = .ok (.getfield 9, 3) := by decide +kernel
theorem dX7_readNumber_32 : decode cX7_readNumber 32 = .ok (.iconst 1, 1) := by decide +kernel
theorem dX7_readNumber_33 : decode cX7_readNumber 33 = .ok (.iadd, 1) := by decide +kernel
theorem dX7_readNumber_34 : decode cX7_readNumber 34 = .ok (.putfield 9, 3) := by decide +kernel
theorem dX7_readNumber_37 : decode cX7_readNumber 37 = .ok (.aload_n 0, 1) := by decide +kernel
theorem dX7_readNumber_38 : decode cX7_readNumber 38 = .ok (.invokevirtual 38, 3) := by decide +kernel
theorem dX7_readNumber_41 : decode cX7_readNumber 41 = .ok (.istore_n 3, 1) := by decide +kernel
theorem dX7_readNumber_42 : decode cX7_readNumber 42 = .ok (.iconst 0, 1) := by decide +kernel
theorem dX7_readNumber_43 : decode cX7_readNumber 43 = .ok (.istore 5, 2) := by decide +kernel
theorem dX7_readNumber_45 : decode cX7_readNumber 45 = .ok (.iconst 0, 1) := by decide +kernel
theorem dX7_readNumber_46 : decode cX7_readNumber 46 = .ok (.istore 6, 2) := by decide +kernel
theorem dX7_readNumber_48 : decode cX7_readNumber 48 = .ok (.iload 6, 2) := by decide +kernel
theorem dX7_readNumber_50 : decode cX7_readNumber 50 = .ok (.iconst 3, 1) := by decide +kernel
theorem dX7_readNumber_51 : decode cX7_readNumber 51 = .ok (.if_icmp .ge 48, 3) := by decide +kernel
theorem dX7_readNumber_54 : decode cX7_readNumber 54 = .ok (.iload_n 3, 1) := by decide +kernel
theorem dX7_readNumber_55 : decode cX7_readNumber 55 = .ok (.bipush 48, 2) := by decide +kernel
theorem dX7_readNumber_57 : decode cX7_readNumber 57 = .ok (.if_icmp .lt 42, 3) := by decide +kernel
theorem dX7_readNumber_60 : decode cX7_readNumber 60 = .ok (.iload_n 3, 1) := by decide +kernel
theorem dX7_readNumber_61 : decode cX7_readNumber 61 = .ok (.bipush 57, 2) := by decide +kernel
theorem dX7_readNumber_63 : decode cX7_readNumber 63 = .ok (.if_icmp .gt 36, 3) := by decide +kernel
theorem dX7_readNumber_66 : decode cX7_readNumber 66 = .ok (.bipush 10, 2) := by decide +kernel
theorem dX7_readNumber_68 : decode cX7_readNumber 68 = .ok (.iload 5, 2) := by decide +kernel
theorem dX7_readNumber_70 : decode cX7_readNumber 70 = .ok (.imul, 1) := by decide +kernel
theorem dX7_readNumber_71 : decode cX7_readNumber 71 = .ok (.iload_n 3, 1) := by decide +kernel
theorem dX7_readNumber_72 : decode cX7_readNumber 72 = .ok (.iadd, 1) := by decide +kernel
theorem dX7_readNumber_73 : decode cX7_readNumber 73 = .ok (.bipush 48, 2) := by decide +kernel
theorem dX7_readNumber_75 : decode cX7_readNumber 75 = .ok (.isub, 1) := by decide +kernel
theorem dX7_readNumber_76 : decode cX7_readNumber 76 = .ok (.istore 5, 2) := by decide +kernel
theorem dX7_readNumber_78 : decode cX7_readNumber 78 = .ok (.iinc 6 1, 3) := by decide +kernel
theorem dX7_readNumber_81 : decode cX7_readNumber 81 = .ok (.aload_n 0, 1) := by decide +kernel
theorem dX7_readNumber_82 : decode cX7_readNumber 82 = .ok (.dup, 1) := by decide +kernel
theorem dX7_readNumber_83 : decode cX7_readNumber 83 = .ok (.getfield 9, 3) := by decide +kernel
theorem dX7_readNumber_86 : decode cX7_readNumber 86 = .ok (.iconst 1, 1) := by decide +kernel
theorem dX7_readNumber_87 : decode cX7_readNumber 87 = .ok (.iadd, 1) := by decide +kernel
theorem dX7_readNumber_88 : decode cX7_readNumber 88 = .ok (.putfield 9, 3) := by decide +kernel
theorem dX7_readNumber_91 : decode cX7_readNumber 91 = .ok (.aload_n 0, 1) := by decide +kernel
theorem dX7_readNumber_92 : decode cX7_readNumber 92 = .ok (.invokevirtual 38, 3) := by decide +kernel
theorem dX7_readNumber_95 : decode cX7_readNumber 95 = .ok (.istore_n 3, 1) := by decide +kernel
theorem dX7_readNumber_96 : decode cX7_readNumber 96 = .ok (.goto (-48), 3) := by decide +kernel
theorem dX7_readNumber_99 : decode cX7_readNumber 99 = .ok (.iload 6, 2) := by decide +kernel
theorem dX7_readNumber_101 : decode cX7_readNumber 101 = .ok (.ifCond .eq 15, 3) := by decide +kernel
theorem dX7_readNumber_104 : decode cX7_readNumber 104 = .ok (.iload_n 3, 1) := by decide +kernel
theorem dX7_readNumber_105 : decode cX7_readNumber 105 = .ok (.bipush 48, 2) := by decide +kernel
theorem dX7_readNumber_107 : decode cX7_readNumber 107 = .ok (.if_icmp .lt 11, 3) := by decide +kernel
theorem dX7_readNumber_110 : decode cX7_readNumber 110 = .ok (.iload_n 3, 1) := by decide +kernel
theorem dX7_readNumber_111 : decode cX7_readNumber 111 = .ok (.bipush 57, 2) := by decide +kernel
theorem dX7_readNumber_113 : decode cX7_readNumber 113 = .ok (.if_icmp .gt 5, 3) := by decide +kernel
theorem dX7_readNumber_116 : decode cX7_readNumber 116 = .ok (.iconst 0, 1) := by decide +kernel
theorem dX7_readNumber_117 : decode cX7_readNumber 117 = .ok (.ireturn, 1) := by decide +kernel
theorem dX7_readNumber_118 : decode cX7_readNumber 118 = .ok (.aload_n 0, 1) := by decide +kernel
theorem dX7_readNumber_119 : decode cX7_readNumber 119 = .ok (.iload 4, 2) := by decide +kernel
theorem dX7_readNumber_121 : decode cX7_readNumber 121 = .ok (.ifCond .eq 9, 3) := by decide +kernel
theorem dX7_readNumber_124 : decode cX7_readNumber 124 = .ok (.iload 5, 2) := by decide +kernel
theorem dX7_readNumber_126 : decode cX7_readNumber 126 = .ok (.ineg, 1) := by decide +kernel
theorem dX7_readNumber_127 : decode cX7_readNumber 127 = .ok (.goto 5, 3) := by decide +kernel
theorem dX7_readNumber_130 : decode cX7_readNumber 130 = .ok (.iload 5, 2) := by decide +kernel
theorem dX7_readNumber_132 : decode cX7_readNumber 132 = .ok (.putfield 15, 3) := by decide +kernel
theorem dX7_readNumber_135 : decode cX7_readNumber 135 = .ok (.aload_n 0, 1) := by decide +kernel
theorem dX7_readNumber_136 : decode cX7_readNumber 136 = .ok (.getfield 15, 3) := by decide +kernel
theorem dX7_readNumber_139 : decode cX7_readNumber 139 = .ok (.iload_n 1, 1) := by decide +kernel
theorem dX7_readNumber_140 : decode cX7_readNumber 140 = .ok (.if_icmp .lt 11, 3) := by decide +kernel
theorem dX7_readNumber_143 : decode cX7_readNumber 143 = .ok (.aload_n 0, 1) := by decide +kernel
theorem dX7_readNumber_144 : decode cX7_readNumber 144 = .ok (.getfield 15, 3) := by decide +kernel
theorem dX7_readNumber_147 : decode cX7_readNumber 147 = .ok (.iload_n 2, 1) := by decide +kernel
theorem dX7_readNumber_148 : decode cX7_readNumber 148 = .ok (.if_icmp .le 15, 3) := by decide +kernel
theorem dX7_readNumber_151 : decode cX7_readNumber 151 = .ok (.aload_n 0, 1) := by decide +kernel
theorem dX7_readNumber_152 : decode cX7_readNumber 152 = .ok (.dup, 1) := by decide +kernel
theorem dX7_readNumber_153 : decode cX7_readNumber 153 = .ok (.getfield 9, 3) := by decide +kernel
theorem dX7_readNumber_156 : decode cX7_readNumber 156 = .ok (.iconst 1, 1) := by decide +kernel
theorem dX7_readNumber_157 : decode cX7_readNumber 157 = .ok (.isub, 1) := by decide +kernel
theorem dX7_readNumber_158 : decode cX7_readNumber 158 = .ok (.putfield 9, 3) := by decide +kernel
theorem dX7_readNumber_161 : decode cX7_readNumber 161 = .ok (.iconst 0, 1) := by decide +kernel
theorem dX7_readNumber_162 : decode cX7_readNumber 162 = .ok (.ireturn, 1) := by decide +kernel
theorem dX7_readNumber_163 : decode cX7_readNumber 163 = .ok (.iconst 1, 1) := by decide +kernel
theorem dX7_readNumber_164 : decode cX7_readNumber 164 = .ok (.ireturn, 1) := by decide +kernel
theorem dX7_readMooring_0 : decode cX7_readMooring 0 = .ok (.aload_n 0, 1) := by decide +kernel
theorem dX7_readMooring_1 : decode cX7_readMooring 1 = .ok (.iconst 0, 1) := by decide +kernel
theorem dX7_readMooring_2 : decode cX7_readMooring 2 = .ok (.putfield 9, 3) := by decide +kernel
theorem dX7_readMooring_5 : decode cX7_readMooring 5 = .ok (.aload_n 0, 1) := by decide +kernel
theorem dX7_readMooring_6 : decode cX7_readMooring 6 = .ok (.iconst 0, 1) := by decide +kernel
theorem dX7_readMooring_7 : decode cX7_readMooring 7 = .ok (.putfield 18, 3) := by decide +kernel
theorem dX7_readMooring_10 : decode cX7_readMooring 10 = .ok (.aload_n 1, 1) := by decide +kernel
theorem dX7_readMooring_11 : decode cX7_readMooring 11 = .ok (.invokevirtual 42, 3) := by decide +kernel
theorem dX7_readMooring_14 : decode cX7_readMooring 14 = .ok (.iconst 0, 1) := by decide +kernel
theorem dX7_readMooring_15 : decode cX7_readMooring 15 = .ok (.istore_n 2, 1) := by decide +kernel
theorem dX7_readMooring_16 : decode cX7_readMooring 16 = .ok (.iload_n 2, 1) := by decide +kernel
theorem dX7_readMooring_17 : decode cX7_readMooring 17 = .ok (.sipush 240, 3) := by decide +kernel
theorem dX7_readMooring_20 : decode cX7_readMooring 20 = .ok (.if_icmp .ge 50, 3) := by decide +kernel
theorem dX7_readMooring_23 : decode cX7_readMooring 23 = .ok (.aload_n 0, 1) := by decide +kernel
theorem dX7_readMooring_24 : decode cX7_readMooring 24 = .ok (.aload_n 1, 1) := by decide +kernel
theorem dX7_readMooring_25 : decode cX7_readMooring 25 = .ok (.invokevirtual 47, 3) := by decide +kernel
theorem dX7_readMooring_28 : decode cX7_readMooring 28 = .ok (.ifCond .ne 8, 3) := by decide +kernel
theorem dX7_readMooring_31 : decode cX7_readMooring 31 = .ok (.aload_n 0, 1) := by decide +kernel
theorem dX7_readMooring_32 : decode cX7_readMooring 32 = .ok (.getfield 9, 3) := by decide +kernel
theorem dX7_readMooring_35 : decode cX7_readMooring 35 = .ok (.ireturn, 1) := by decide +kernel
theorem dX7_readMooring_36 : decode cX7_readMooring 36 = .ok (.aload_n 0, 1) := by decide +kernel
theorem dX7_readMooring_37 : decode cX7_readMooring 37 = .ok (.invokevirtual 35, 3) := by decide +kernel
theorem dX7_readMooring_40 : decode cX7_readMooring 40 = .ok (.aload_n 0, 1) := by decide +kernel
theorem dX7_readMooring_41 : decode cX7_readMooring 41 = .ok (.invokevirtual 38, 3) := by decide +kernel
theorem dX7_readMooring_44 : decode cX7_readMooring 44 = .ok (.iconst (-1), 1) := by decide +kernel
theorem dX7_readMooring_45 : decode cX7_readMooring 45 = .ok (.if_icmp .ne 9, 3) := by decide +kernel
theorem dX7_readMooring_48 : decode cX7_readMooring 48 = .ok (.aload_n 0, 1) := by decide +kernel
theorem dX7_readMooring_49 : decode cX7_readMooring 49 = .ok (.aload_n 1, 1) := by decide +kernel
theorem dX7_readMooring_50 : decode cX7_readMooring 50 = .ok (.invokevirtual 51, 3) := by decide +kernel
theorem dX7_readMooring_53 : decode cX7_readMooring 53 = .ok (.ireturn, 1) := by decide +kernel
theorem dX7_readMooring_54 : decode cX7_readMooring 54 = .ok (.aload_n 0, 1) := by decide +kernel
theorem dX7_readMooring_55 : decode cX7_readMooring 55 = .ok (.dup, 1) := by decide +kernel
theorem dX7_readMooring_56 : decode cX7_readMooring 56 = .ok (.getfield 9, 3) := by decide +kernel
theorem dX7_readMooring_59 : decode cX7_readMooring 59 = .ok (.iconst 1, 1) := by decide +kernel
theorem dX7_readMooring_60 : decode cX7_readMooring 60 = .ok (.iadd, 1) := by decide +kernel
theorem dX7_readMooring_61 : decode cX7_readMooring 61 = .ok (.putfield 9, 3) := by decide +kernel
theorem dX7_readMooring_64 : decode cX7_readMooring 64 = .ok (.iinc 2 1, 3) := by decide +kernel
theorem dX7_readMooring_67 : decode cX7_readMooring 67 = .ok (.goto (-51), 3) := by decide +kernel
theorem dX7_readMooring_70 : decode cX7_readMooring 70 = .ok (.aload_n 0, 1) := by decide +kernel
theorem dX7_readMooring_71 : decode cX7_readMooring 71 = .ok (.getfield 9, 3) := by decide +kernel
theorem dX7_readMooring_74 : decode cX7_readMooring 74 = .ok (.ireturn, 1) := by decide +kernel
theorem dX7_finish_0 : decode cX7_finish 0 = .ok (.aload_n 1, 1) := by decide +kernel
theorem dX7_finish_1 : decode cX7_finish 1 = .ok (.invokevirtual 55, 3) := by decide +kernel
theorem dX7_finish_4 : decode cX7_finish 4 = .ok (.ifCond .ne 8, 3) := by decide +kernel
theorem dX7_finish_7 : decode cX7_finish 7 = .ok (.aload_n 0, 1) := by decide +kernel
theorem dX7_finish_8 : decode cX7_finish 8 = .ok (.getfield 9, 3) := by decide +kernel
theorem dX7_finish_11 : decode cX7_finish 11 = .ok (.ireturn, 1) := by decide +kernel
theorem dX7_finish_12 : decode cX7_finish 12 = .ok (.aload_n 1, 1) := by decide +kernel
theorem dX7_finish_13 : decode cX7_finish 13 = .ok (.invokevirtual 59, 3) := by decide +kernel
theorem dX7_finish_16 : decode cX7_finish 16 = .ok (.iconst (-1), 1) := by decide +kernel
theorem dX7_finish_17 : decode cX7_finish 17 = .ok (.ireturn, 1) := by decide +kernel
theorem dX7_readClause_0 : decode cX7_readClause 0 = .ok (.aload_n 0, 1) := by decide +kernel
theorem dX7_readClause_1 : decode cX7_readClause 1 = .ok (.invokevirtual 35, 3) := by decide +kernel
theorem dX7_readClause_4 : decode cX7_readClause 4 = .ok (.aload_n 0, 1) := by decide +kernel
theorem dX7_readClause_5 : decode cX7_readClause 5 = .ok (.invokevirtual 38, 3) := by decide +kernel
theorem dX7_readClause_8 : decode cX7_readClause 8 = .ok (.istore_n 2, 1) := by decide +kernel
theorem dX7_readClause_9 : decode cX7_readClause 9 = .ok (.iload_n 2, 1) := by decide +kernel
theorem dX7_readClause_10 : decode cX7_readClause 10 = .ok (.bipush 115, 2) := by decide +kernel
theorem dX7_readClause_12 : decode cX7_readClause 12 = .ok (.if_icmp .ne 44, 3) := by decide +kernel
theorem dX7_readClause_15 : decode cX7_readClause 15 = .ok (.aload_n 0, 1) := by decide +kernel
theorem dX7_readClause_16 : decode cX7_readClause 16 = .ok (.getfield 18, 3) := by decide +kernel
theorem dX7_readClause_19 : decode cX7_readClause 19 = .ok (.ifCond .ne 37, 3) := by decide +kernel
theorem dX7_readClause_22 : decode cX7_readClause 22 = .ok (.aload_n 0, 1) := by decide +kernel
theorem dX7_readClause_23 : decode cX7_readClause 23 = .ok (.dup, 1) := by decide +kernel
theorem dX7_readClause_24 : decode cX7_readClause 24 = .ok (.getfield 9, 3) := by decide +kernel
theorem dX7_readClause_27 : decode cX7_readClause 27 = .ok (.iconst 1, 1) := by decide +kernel
theorem dX7_readClause_28 : decode cX7_readClause 28 = .ok (.iadd, 1) := by decide +kernel
theorem dX7_readClause_29 : decode cX7_readClause 29 = .ok (.putfield 9, 3) := by decide +kernel
theorem dX7_readClause_32 : decode cX7_readClause 32 = .ok (.aload_n 0, 1) := by decide +kernel
theorem dX7_readClause_33 : decode cX7_readClause 33 = .ok (.iconst 1, 1) := by decide +kernel
theorem dX7_readClause_34 : decode cX7_readClause 34 = .ok (.putfield 18, 3) := by decide +kernel
theorem dX7_readClause_37 : decode cX7_readClause 37 = .ok (.aload_n 0, 1) := by decide +kernel
theorem dX7_readClause_38 : decode cX7_readClause 38 = .ok (.getstatic 62, 3) := by decide +kernel
theorem dX7_readClause_41 : decode cX7_readClause 41 = .ok (.getstatic 66, 3) := by decide +kernel
theorem dX7_readClause_44 : decode cX7_readClause 44 = .ok (.getstatic 70, 3) := by decide +kernel
theorem dX7_readClause_47 : decode cX7_readClause 47 = .ok (.aload_n 1, 1) := by decide +kernel
theorem dX7_readClause_48 : decode cX7_readClause 48 = .ok (.getfield 73, 3) := by decide +kernel
theorem dX7_readClause_51 : decode cX7_readClause 51 = .ok (.iconst 0, 1) := by decide +kernel
theorem dX7_readClause_52 : decode cX7_readClause 52 = .ok (.invokevirtual 76, 3) := by decide +kernel
theorem dX7_readClause_55 : decode cX7_readClause 55 = .ok (.ireturn, 1) := by decide +kernel
theorem dX7_readClause_56 : decode cX7_readClause 56 = .ok (.iload_n 2, 1) := by decide +kernel
theorem dX7_readClause_57 : decode cX7_readClause 57 = .ok (.bipush 114, 2) := by decide +kernel
theorem dX7_readClause_59 : decode cX7_readClause 59 = .ok (.if_icmp .ne 46, 3) := by decide +kernel
theorem dX7_readClause_62 : decode cX7_readClause 62 = .ok (.aload_n 1, 1) := by decide +kernel
theorem dX7_readClause_63 : decode cX7_readClause 63 = .ok (.getfield 80, 3) := by decide +kernel
theorem dX7_readClause_66 : decode cX7_readClause 66 = .ok (.bipush 8, 2) := by decide +kernel
theorem dX7_readClause_68 : decode cX7_readClause 68 = .ok (.if_icmp .ge 37, 3) := by decide +kernel
theorem dX7_readClause_71 : decode cX7_readClause 71 = .ok (.aload_n 0, 1) := by decide +kernel
theorem dX7_readClause_72 : decode cX7_readClause 72 = .ok (.dup, 1) := by decide +kernel
theorem dX7_readClause_73 : decode cX7_readClause 73 = .ok (.getfield 9, 3) := by decide +kernel
theorem dX7_readClause_76 : decode cX7_readClause 76 = .ok (.iconst 1, 1) := by decide +kernel
theorem dX7_readClause_77 : decode cX7_readClause 77 = .ok (.iadd, 1) := by decide +kernel
theorem dX7_readClause_78 : decode cX7_readClause 78 = .ok (.putfield 9, 3) := by decide +kernel
theorem dX7_readClause_81 : decode cX7_readClause 81 = .ok (.aload_n 1, 1) := by decide +kernel
theorem dX7_readClause_82 : decode cX7_readClause 82 = .ok (.invokevirtual 83, 3) := by decide +kernel
theorem dX7_readClause_85 : decode cX7_readClause 85 = .ok (.istore_n 3, 1) := by decide +kernel
theorem dX7_readClause_86 : decode cX7_readClause 86 = .ok (.aload_n 0, 1) := by decide +kernel
theorem dX7_readClause_87 : decode cX7_readClause 87 = .ok (.getstatic 86, 3) := by decide +kernel
theorem dX7_readClause_90 : decode cX7_readClause 90 = .ok (.getstatic 89, 3) := by decide +kernel
theorem dX7_readClause_93 : decode cX7_readClause 93 = .ok (.getstatic 92, 3) := by decide +kernel
theorem dX7_readClause_96 : decode cX7_readClause 96 = .ok (.aload_n 1, 1) := by decide +kernel
theorem dX7_readClause_97 : decode cX7_readClause 97 = .ok (.getfield 95, 3) := by decide +kernel
theorem dX7_readClause_100 : decode cX7_readClause 100 = .ok (.iload_n 3, 1) := by decide +kernel
theorem dX7_readClause_101 : decode cX7_readClause 101 = .ok (.invokevirtual 76, 3) := by decide +kernel
theorem dX7_readClause_104 : decode cX7_readClause 104 = .ok (.ireturn, 1) := by decide +kernel
theorem dX7_readClause_105 : decode cX7_readClause 105 = .ok (.iconst 0, 1) := by decide +kernel
theorem dX7_readClause_106 : decode cX7_readClause 106 = .ok (.ireturn, 1) := by decide +kernel
theorem dX7_readItems_0 : decode cX7_readItems 0 = .ok (.iconst 0, 1) := by decide +kernel
theorem dX7_readItems_1 : decode cX7_readItems 1 = .ok (.istore 6, 2) := by decide +kernel
theorem dX7_readItems_3 : decode cX7_readItems 3 = .ok (.iconst 0, 1) := by decide +kernel
theorem dX7_readItems_4 : decode cX7_readItems 4 = .ok (.istore 7, 2) := by decide +kernel
theorem dX7_readItems_6 : decode cX7_readItems 6 = .ok (.iload 7, 2) := by decide +kernel
theorem dX7_readItems_8 : decode cX7_readItems 8 = .ok (.aload_n 1, 1) := by decide +kernel
theorem dX7_readItems_9 : decode cX7_readItems 9 = .ok (.arraylength, 1) := by decide +kernel
theorem dX7_readItems_10 : decode cX7_readItems 10 = .ok (.if_icmp .gt 108, 3) := by decide +kernel
theorem dX7_readItems_13 : decode cX7_readItems 13 = .ok (.aload_n 0, 1) := by decide +kernel
theorem dX7_readItems_14 : decode cX7_readItems 14 = .ok (.invokevirtual 35, 3) := by decide +kernel
theorem dX7_readItems_17 : decode cX7_readItems 17 = .ok (.aload_n 0, 1) := by decide +kernel
theorem dX7_readItems_18 : decode cX7_readItems 18 = .ok (.invokevirtual 38, 3) := by decide +kernel
theorem dX7_readItems_21 : decode cX7_readItems 21 = .ok (.istore 8, 2) := by decide +kernel
theorem dX7_readItems_23 : decode cX7_readItems 23 = .ok (.iload 8, 2) := by decide +kernel
theorem dX7_readItems_25 : decode cX7_readItems 25 = .ok (.iconst (-1), 1) := by decide +kernel
theorem dX7_readItems_26 : decode cX7_readItems 26 = .ok (.if_icmp .eq 10, 3) := by decide +kernel
theorem dX7_readItems_29 : decode cX7_readItems 29 = .ok (.iload 8, 2) := by decide +kernel
theorem dX7_readItems_31 : decode cX7_readItems 31 = .ok (.bipush 59, 2) := by decide +kernel
theorem dX7_readItems_33 : decode cX7_readItems 33 = .ok (.if_icmp .ne 5, 3) := by decide +kernel
theorem dX7_readItems_36 : decode cX7_readItems 36 = .ok (.iconst 1, 1) := by decide +kernel
theorem dX7_readItems_37 : decode cX7_readItems 37 = .ok (.ireturn, 1) := by decide +kernel
theorem dX7_readItems_38 : decode cX7_readItems 38 = .ok (.aload_n 1, 1) := by decide +kernel
theorem dX7_readItems_39 : decode cX7_readItems 39 = .ok (.iload 8, 2) := by decide +kernel
theorem dX7_readItems_41 : decode cX7_readItems 41 = .ok (.invokestatic 98, 3) := by decide +kernel
theorem dX7_readItems_44 : decode cX7_readItems 44 = .ok (.istore 9, 2) := by decide +kernel
theorem dX7_readItems_46 : decode cX7_readItems 46 = .ok (.iload 9, 2) := by decide +kernel
theorem dX7_readItems_48 : decode cX7_readItems 48 = .ok (.iconst (-1), 1) := by decide +kernel
theorem dX7_readItems_49 : decode cX7_readItems 49 = .ok (.if_icmp .eq 13, 3) := by decide +kernel
theorem dX7_readItems_52 : decode cX7_readItems 52 = .ok (.iload 6, 2) := by decide +kernel
theorem dX7_readItems_54 : decode cX7_readItems 54 = .ok (.iload 9, 2) := by decide +kernel
theorem dX7_readItems_56 : decode cX7_readItems 56 = .ok (.ishr, 1) := by decide +kernel
theorem dX7_readItems_57 : decode cX7_readItems 57 = .ok (.iconst 1, 1) := by decide +kernel
theorem dX7_readItems_58 : decode cX7_readItems 58 = .ok (.iand, 1) := by decide +kernel
theorem dX7_readItems_59 : decode cX7_readItems 59 = .ok (.ifCond .eq 5, 3) := by decide +kernel
theorem dX7_readItems_62 : decode cX7_readItems 62 = .ok (.iconst 0, 1) := by decide +kernel
theorem dX7_readItems_63 : decode cX7_readItems 63 = .ok (.ireturn, 1) := by decide +kernel
theorem dX7_readItems_64 : decode cX7_readItems 64 = .ok (.aload_n 0, 1) := by decide +kernel
theorem dX7_readItems_65 : decode cX7_readItems 65 = .ok (.dup, 1) := by decide +kernel
theorem dX7_readItems_66 : decode cX7_readItems 66 = .ok (.getfield 9, 3) := by decide +kernel
theorem dX7_readItems_69 : decode cX7_readItems 69 = .ok (.iconst 1, 1) := by decide +kernel
theorem dX7_readItems_70 : decode cX7_readItems 70 = .ok (.iadd, 1) := by decide +kernel
theorem dX7_readItems_71 : decode cX7_readItems 71 = .ok (.putfield 9, 3) := by decide +kernel
theorem dX7_readItems_74 : decode cX7_readItems 74 = .ok (.aload_n 0, 1) := by decide +kernel
theorem dX7_readItems_75 : decode cX7_readItems 75 = .ok (.aload_n 2, 1) := by decide +kernel
theorem dX7_readItems_76 : decode cX7_readItems 76 = .ok (.iload 9, 2) := by decide +kernel
theorem dX7_readItems_78 : decode cX7_readItems 78 = .ok (.iaload, 1) := by decide +kernel
theorem dX7_readItems_79 : decode cX7_readItems 79 = .ok (.aload_n 3, 1) := by decide +kernel
theorem dX7_readItems_80 : decode cX7_readItems 80 = .ok (.iload 9, 2) := by decide +kernel
theorem dX7_readItems_82 : decode cX7_readItems 82 = .ok (.iaload, 1) := by decide +kernel
theorem dX7_readItems_83 : decode cX7_readItems 83 = .ok (.invokevirtual 102, 3) := by decide +kernel
theorem dX7_readItems_86 : decode cX7_readItems 86 = .ok (.ifCond .ne 5, 3) := by decide +kernel
theorem dX7_readItems_89 : decode cX7_readItems 89 = .ok (.iconst 0, 1) := by decide +kernel
theorem dX7_readItems_90 : decode cX7_readItems 90 = .ok (.ireturn, 1) := by decide +kernel
theorem dX7_readItems_91 : decode cX7_readItems 91 = .ok (.iload 6, 2) := by decide +kernel
theorem dX7_readItems_93 : decode cX7_readItems 93 = .ok (.iconst 1, 1) := by decide +kernel
theorem dX7_readItems_94 : decode cX7_readItems 94 = .ok (.iload 9, 2) := by decide +kernel
theorem dX7_readItems_96 : decode cX7_readItems 96 = .ok (.ishl, 1) := by decide +kernel
theorem dX7_readItems_97 : decode cX7_readItems 97 = .ok (.ior, 1) := by decide +kernel
theorem dX7_readItems_98 : decode cX7_readItems 98 = .ok (.istore 6, 2) := by decide +kernel
theorem dX7_readItems_100 : decode cX7_readItems 100 = .ok (.aload 4, 2) := by decide +kernel
theorem dX7_readItems_102 : decode cX7_readItems 102 = .ok (.iload 5, 2) := by decide +kernel
theorem dX7_readItems_104 : decode cX7_readItems 104 = .ok (.iload 9, 2) := by decide +kernel
theorem dX7_readItems_106 : decode cX7_readItems 106 = .ok (.iadd, 1) := by decide +kernel
theorem dX7_readItems_107 : decode cX7_readItems 107 = .ok (.aload_n 0, 1) := by decide +kernel
theorem dX7_readItems_108 : decode cX7_readItems 108 = .ok (.getfield 15, 3) := by decide +kernel
theorem dX7_readItems_111 : decode cX7_readItems 111 = .ok (.iastore, 1) := by decide +kernel
theorem dX7_readItems_112 : decode cX7_readItems 112 = .ok (.iinc 7 1, 3) := by decide +kernel
theorem dX7_readItems_115 : decode cX7_readItems 115 = .ok (.goto (-109), 3) := by decide +kernel
theorem dX7_readItems_118 : decode cX7_readItems 118 = .ok (.iconst 0, 1) := by decide +kernel
theorem dX7_readItems_119 : decode cX7_readItems 119 = .ok (.ireturn, 1) := by decide +kernel
theorem dX7_indexIn_0 : decode cX7_indexIn 0 = .ok (.iconst 0, 1) := by decide +kernel
theorem dX7_indexIn_1 : decode cX7_indexIn 1 = .ok (.istore_n 2, 1) := by decide +kernel
theorem dX7_indexIn_2 : decode cX7_indexIn 2 = .ok (.iload_n 2, 1) := by decide +kernel
theorem dX7_indexIn_3 : decode cX7_indexIn 3 = .ok (.aload_n 0, 1) := by decide +kernel
theorem dX7_indexIn_4 : decode cX7_indexIn 4 = .ok (.arraylength, 1) := by decide +kernel
theorem dX7_indexIn_5 : decode cX7_indexIn 5 = .ok (.if_icmp .ge 18, 3) := by decide +kernel
theorem dX7_indexIn_8 : decode cX7_indexIn 8 = .ok (.aload_n 0, 1) := by decide +kernel
theorem dX7_indexIn_9 : decode cX7_indexIn 9 = .ok (.iload_n 2, 1) := by decide +kernel
theorem dX7_indexIn_10 : decode cX7_indexIn 10 = .ok (.caload, 1) := by decide +kernel
theorem dX7_indexIn_11 : decode cX7_indexIn 11 = .ok (.iload_n 1, 1) := by decide +kernel
theorem dX7_indexIn_12 : decode cX7_indexIn 12 = .ok (.if_icmp .ne 5, 3) := by decide +kernel
theorem dX7_indexIn_15 : decode cX7_indexIn 15 = .ok (.iload_n 2, 1) := by decide +kernel
theorem dX7_indexIn_16 : decode cX7_indexIn 16 = .ok (.ireturn, 1) := by decide +kernel
theorem dX7_indexIn_17 : decode cX7_indexIn 17 = .ok (.iinc 2 1, 3) := by decide +kernel
theorem dX7_indexIn_20 : decode cX7_indexIn 20 = .ok (.goto (-18), 3) := by decide +kernel
theorem dX7_indexIn_23 : decode cX7_indexIn 23 = .ok (.iconst (-1), 1) := by decide +kernel
theorem dX7_indexIn_24 : decode cX7_indexIn 24 = .ok (.ireturn, 1) := by decide +kernel
theorem dX7_readScript_0 : decode cX7_readScript 0 = .ok (.aload_n 0, 1) := by decide +kernel
theorem dX7_readScript_1 : decode cX7_readScript 1 = .ok (.iconst 0, 1) := by decide +kernel
theorem dX7_readScript_2 : decode cX7_readScript 2 = .ok (.putfield 9, 3) := by decide +kernel
theorem dX7_readScript_5 : decode cX7_readScript 5 = .ok (.aload_n 1, 1) := by decide +kernel
theorem dX7_readScript_6 : decode cX7_readScript 6 = .ok (.iconst 0, 1) := by decide +kernel
theorem dX7_readScript_7 : decode cX7_readScript 7 = .ok (.putfield 106, 3) := by decide +kernel
theorem dX7_readScript_10 : decode cX7_readScript 10 = .ok (.iconst 0, 1) := by decide +kernel
theorem dX7_readScript_11 : decode cX7_readScript 11 = .ok (.istore_n 2, 1) := by decide +kernel
theorem dX7_readScript_12 : decode cX7_readScript 12 = .ok (.iload_n 2, 1) := by decide +kernel
theorem dX7_readScript_13 : decode cX7_readScript 13 = .ok (.bipush 16, 2) := by decide +kernel
theorem dX7_readScript_15 : decode cX7_readScript 15 = .ok (.if_icmp .ge 74, 3) := by decide +kernel
theorem dX7_readScript_18 : decode cX7_readScript 18 = .ok (.aload_n 0, 1) := by decide +kernel
theorem dX7_readScript_19 : decode cX7_readScript 19 = .ok (.aload_n 1, 1) := by decide +kernel
theorem dX7_readScript_20 : decode cX7_readScript 20 = .ok (.iload_n 2, 1) := by decide +kernel
theorem dX7_readScript_21 : decode cX7_readScript 21 = .ok (.invokevirtual 111, 3) := by decide +kernel
theorem dX7_readScript_24 : decode cX7_readScript 24 = .ok (.ifCond .ne 8, 3) := by decide +kernel
theorem dX7_readScript_27 : decode cX7_readScript 27 = .ok (.aload_n 0, 1) := by decide +kernel
theorem dX7_readScript_28 : decode cX7_readScript 28 = .ok (.getfield 9, 3) := by decide +kernel
theorem dX7_readScript_31 : decode cX7_readScript 31 = .ok (.ireturn, 1) := by decide +kernel
theorem dX7_readScript_32 : decode cX7_readScript 32 = .ok (.aload_n 1, 1) := by decide +kernel
