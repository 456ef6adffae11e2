theorem dX12_brokenBits_0 : decode cX12_brokenBits 0 = .ok (.iconst 0, 1) := by decide +kernel
theorem dX12_brokenBits_1 : decode cX12_brokenBits 1 = .ok (.istore_n 1, 1) := by decide +kernel
theorem dX12_brokenBits_2 : decode cX12_brokenBits 2 = .ok (.iconst 0, 1) := by decide +kernel
theorem dX12_brokenBits_3 : decode cX12_brokenBits 3 = .ok (.istore_n 2, 1) := by decide +kernel
theorem dX12_brokenBits_4 : decode cX12_brokenBits 4 = .ok (.iload_n 2, 1) := by decide +kernel
theorem dX12_brokenBits_5 : decode cX12_brokenBits 5 = .ok (.aload_n 0, 1) := by decide +kernel
theorem dX12_brokenBits_6 : decode cX12_brokenBits 6 = .ok (.getfield 252, 3) := by decide +kernel
theorem dX12_brokenBits_9 : decode cX12_brokenBits 9 = .ok (.if_icmp .ge 20, 3) := by decide +kernel
theorem dX12_brokenBits_12 : decode cX12_brokenBits 12 = .ok (.iload_n 1, 1) := by decide +kernel
theorem dX12_brokenBits_13 : decode cX12_brokenBits 13 = .ok (.iconst 1, 1) := by decide +kernel
theorem dX12_brokenBits_14 : decode cX12_brokenBits 14 = .ok (.aload_n 0, 1) := by decide +kernel
theorem dX12_brokenBits_15 : decode cX12_brokenBits 15 = .ok (.getfield 70, 3) := by decide +kernel
theorem dX12_brokenBits_18 : decode cX12_brokenBits 18 = .ok (.iload_n 2, 1) := by decide +kernel
theorem dX12_brokenBits_19 : decode cX12_brokenBits 19 = .ok (.iaload, 1) := by decide +kernel
theorem dX12_brokenBits_20 : decode cX12_brokenBits 20 = .ok (.ishl, 1) := by decide +kernel
theorem dX12_brokenBits_21 : decode cX12_brokenBits 21 = .ok (.ior, 1) := by decide +kernel
theorem dX12_brokenBits_22 : decode cX12_brokenBits 22 = .ok (.istore_n 1, 1) := by decide +kernel
theorem dX12_brokenBits_23 : decode cX12_brokenBits 23 = .ok (.iinc 2 1, 3) := by decide +kernel
theorem dX12_brokenBits_26 : decode cX12_brokenBits 26 = .ok (.goto (-22), 3) := by decide +kernel
theorem dX12_brokenBits_29 : decode cX12_brokenBits 29 = .ok (.iload_n 1, 1) := by decide +kernel
theorem dX12_brokenBits_30 : decode cX12_brokenBits 30 = .ok (.ireturn, 1) := by decide +kernel
theorem dX12_causes_0 : decode cX12_causes 0 = .ok (.aload_n 0, 1) := by decide +kernel
theorem dX12_causes_1 : decode cX12_causes 1 = .ok (.getfield 73, 3) := by decide +kernel
theorem dX12_causes_4 : decode cX12_causes 4 = .ok (.aload_n 0, 1) := by decide +kernel
theorem dX12_causes_5 : decode cX12_causes 5 = .ok (.getfield 273, 3) := by decide +kernel
theorem dX12_causes_8 : decode cX12_causes 8 = .ok (.iload_n 1, 1) := by decide +kernel
theorem dX12_causes_9 : decode cX12_causes 9 = .ok (.iastore, 1) := by decide +kernel
theorem dX12_causes_10 : decode cX12_causes 10 = .ok (.aload_n 0, 1) := by decide +kernel
theorem dX12_causes_11 : decode cX12_causes 11 = .ok (.dup, 1) := by decide +kernel
theorem dX12_causes_12 : decode cX12_causes 12 = .ok (.getfield 273, 3) := by decide +kernel
theorem dX12_causes_15 : decode cX12_causes 15 = .ok (.iconst 1, 1) := by decide +kernel
theorem dX12_causes_16 : decode cX12_causes 16 = .ok (.iadd, 1) := by decide +kernel
theorem dX12_causes_17 : decode cX12_causes 17 = .ok (.putfield 273, 3) := by decide +kernel
theorem dX12_causes_20 : decode cX12_causes 20 = .ok (.return_, 1) := by decide +kernel
theorem dX12_isRope_0 : decode cX12_isRope 0 = .ok (.iload_n 1, 1) := by decide +kernel
theorem dX12_isRope_1 : decode cX12_isRope 1 = .ok (.ifCond .lt 15, 3) := by decide +kernel
theorem dX12_isRope_4 : decode cX12_isRope 4 = .ok (.iload_n 1, 1) := by decide +kernel
theorem dX12_isRope_5 : decode cX12_isRope 5 = .ok (.aload_n 0, 1) := by decide +kernel
theorem dX12_isRope_6 : decode cX12_isRope 6 = .ok (.getfield 189, 3) := by decide +kernel
theorem dX12_isRope_9 : decode cX12_isRope 9 = .ok (.if_icmp .ge 7, 3) := by decide +kernel
theorem dX12_isRope_12 : decode cX12_isRope 12 = .ok (.iconst 1, 1) := by decide +kernel
theorem dX12_isRope_13 : decode cX12_isRope 13 = .ok (.goto 4, 3) := by decide +kernel
theorem dX12_isRope_16 : decode cX12_isRope 16 = .ok (.iconst 0, 1) := by decide +kernel
theorem dX12_isRope_17 : decode cX12_isRope 17 = .ok (.ireturn, 1) := by decide +kernel
theorem dX12_isGust_0 : decode cX12_isGust 0 = .ok (.iload_n 1, 1) := by decide +kernel
theorem dX12_isGust_1 : decode cX12_isGust 1 = .ok (.i2l, 1) := by decide +kernel
theorem dX12_isGust_2 : decode cX12_isGust 2 = .ok (.ldc2_w 276, 3) := by decide +kernel
theorem dX12_isGust_5 : decode cX12_isGust 5 = .ok (.ldc2_w 278, 3) := by decide +kernel
theorem dX12_isGust_8 : decode cX12_isGust 8 = .ok (.invokestatic 122, 3) := by decide +kernel
theorem dX12_isGust_11 : decode cX12_isGust 11 = .ok (.ifCond .eq 35, 3) := by decide +kernel
theorem dX12_isGust_14 : decode cX12_isGust 14 = .ok (.iload_n 2, 1) := by decide +kernel
theorem dX12_isGust_15 : decode cX12_isGust 15 = .ok (.i2l, 1) := by decide +kernel
theorem dX12_isGust_16 : decode cX12_isGust 16 = .ok (.ldc2_w 276, 3) := by decide +kernel
theorem dX12_isGust_19 : decode cX12_isGust 19 = .ok (.ldc2_w 278, 3) := by decide +kernel
theorem dX12_isGust_22 : decode cX12_isGust 22 = .ok (.invokestatic 122, 3) := by decide +kernel
theorem dX12_isGust_25 : decode cX12_isGust 25 = .ok (.ifCond .eq 21, 3) := by decide +kernel
theorem dX12_isGust_28 : decode cX12_isGust 28 = .ok (.iload_n 3, 1) := by decide +kernel
theorem dX12_isGust_29 : decode cX12_isGust 29 = .ok (.i2l, 1) := by decide +kernel
theorem dX12_isGust_30 : decode cX12_isGust 30 = .ok (.ldc2_w 280, 3) := by decide +kernel
theorem dX12_isGust_33 : decode cX12_isGust 33 = .ok (.ldc2_w 282, 3) := by decide +kernel
theorem dX12_isGust_36 : decode cX12_isGust 36 = .ok (.invokestatic 122, 3) := by decide +kernel
theorem dX12_isGust_39 : decode cX12_isGust 39 = .ok (.ifCond .eq 7, 3) := by decide +kernel
theorem dX12_isGust_42 : decode cX12_isGust 42 = .ok (.iconst 1, 1) := by decide +kernel
theorem dX12_isGust_43 : decode cX12_isGust 43 = .ok (.goto 4, 3) := by decide +kernel
theorem dX12_isGust_46 : decode cX12_isGust 46 = .ok (.iconst 0, 1) := by decide +kernel
theorem dX12_isGust_47 : decode cX12_isGust 47 = .ok (.ireturn, 1) := by decide +kernel
theorem dX12_stops_0 : decode cX12_stops 0 = .ok (.aload_n 0, 1) := by decide +kernel
theorem dX12_stops_1 : decode cX12_stops 1 = .ok (.getfield 189, 3) := by decide +kernel
theorem dX12_stops_4 : decode cX12_stops 4 = .ok (.ifCond .ne 5, 3) := by decide +kernel
theorem dX12_stops_7 : decode cX12_stops 7 = .ok (.iconst 0, 1) := by decide +kernel
theorem dX12_stops_8 : decode cX12_stops 8 = .ok (.ireturn, 1) := by decide +kernel
theorem dX12_stops_9 : decode cX12_stops 9 = .ok (.iload_n 2, 1) := by decide +kernel
theorem dX12_stops_10 : decode cX12_stops 10 = .ok (.ifCond .ne 96, 3) := by decide +kernel
theorem dX12_stops_13 : decode cX12_stops 13 = .ok (.aload_n 0, 1) := by decide +kernel
theorem dX12_stops_14 : decode cX12_stops 14 = .ok (.iload_n 3, 1) := by decide +kernel
theorem dX12_stops_15 : decode cX12_stops 15 = .ok (.iload 4, 2) := by decide +kernel
theorem dX12_stops_17 : decode cX12_stops 17 = .ok (.iload 5, 2) := by decide +kernel
theorem dX12_stops_19 : decode cX12_stops 19 = .ok (.invokevirtual 284, 3) := by decide +kernel
theorem dX12_stops_22 : decode cX12_stops 22 = .ok (.ifCond .eq 62, 3) := by decide +kernel
theorem dX12_stops_25 : decode cX12_stops 25 = .ok (.aload_n 1, 1) := by decide +kernel
theorem dX12_stops_26 : decode cX12_stops 26 = .ok (.bipush 16, 2) := by decide +kernel
theorem dX12_stops_28 : decode cX12_stops 28 = .ok (.iaload, 1) := by decide +kernel
theorem dX12_stops_29 : decode cX12_stops 29 = .ok (.iload_n 3, 1) := by decide +kernel
theorem dX12_stops_30 : decode cX12_stops 30 = .ok (.iadd, 1) := by decide +kernel
theorem dX12_stops_31 : decode cX12_stops 31 = .ok (.i2l, 1) := by decide +kernel
theorem dX12_stops_32 : decode cX12_stops 32 = .ok (.ldc2_w 280, 3) := by decide +kernel
theorem dX12_stops_35 : decode cX12_stops 35 = .ok (.ldc2_w 282, 3) := by decide +kernel
theorem dX12_stops_38 : decode cX12_stops 38 = .ok (.invokestatic 122, 3) := by decide +kernel
theorem dX12_stops_41 : decode cX12_stops 41 = .ok (.ifCond .eq 43, 3) := by decide +kernel
theorem dX12_stops_44 : decode cX12_stops 44 = .ok (.aload_n 1, 1) := by decide +kernel
theorem dX12_stops_45 : decode cX12_stops 45 = .ok (.bipush 17, 2) := by decide +kernel
theorem dX12_stops_47 : decode cX12_stops 47 = .ok (.iaload, 1) := by decide +kernel
theorem dX12_stops_48 : decode cX12_stops 48 = .ok (.iload 4, 2) := by decide +kernel
theorem dX12_stops_50 : decode cX12_stops 50 = .ok (.iadd, 1) := by decide +kernel
theorem dX12_stops_51 : decode cX12_stops 51 = .ok (.i2l, 1) := by decide +kernel
theorem dX12_stops_52 : decode cX12_stops 52 = .ok (.ldc2_w 280, 3) := by decide +kernel
theorem dX12_stops_55 : decode cX12_stops 55 = .ok (.ldc2_w 282, 3) := by decide +kernel
theorem dX12_stops_58 : decode cX12_stops 58 = .ok (.invokestatic 122, 3) := by decide +kernel
theorem dX12_stops_61 : decode cX12_stops 61 = .ok (.ifCond .eq 23, 3) := by decide +kernel
theorem dX12_stops_64 : decode cX12_stops 64 = .ok (.aload_n 1, 1) := by decide +kernel
theorem dX12_stops_65 : decode cX12_stops 65 = .ok (.bipush 18, 2) := by decide +kernel
theorem dX12_stops_67 : decode cX12_stops 67 = .ok (.iaload, 1) := by decide +kernel
theorem dX12_stops_68 : decode cX12_stops 68 = .ok (.iload 5, 2) := by decide +kernel
theorem dX12_stops_70 : decode cX12_stops 70 = .ok (.iadd, 1) := by decide +kernel
theorem dX12_stops_71 : decode cX12_stops 71 = .ok (.i2l, 1) := by decide +kernel
theorem dX12_stops_72 : decode cX12_stops 72 = .ok (.ldc2_w 288, 3) := by decide +kernel
theorem dX12_stops_75 : decode cX12_stops 75 = .ok (.ldc2_w 290, 3) := by decide +kernel
theorem dX12_stops_78 : decode cX12_stops 78 = .ok (.invokestatic 122, 3) := by decide +kernel
theorem dX12_stops_81 : decode cX12_stops 81 = .ok (.ifCond .ne 5, 3) := by decide +kernel
theorem dX12_stops_84 : decode cX12_stops 84 = .ok (.iconst 1, 1) := by decide +kernel
theorem dX12_stops_85 : decode cX12_stops 85 = .ok (.ireturn, 1) := by decide +kernel
theorem dX12_stops_86 : decode cX12_stops 86 = .ok (.iload_n 3, 1) := by decide +kernel
theorem dX12_stops_87 : decode cX12_stops 87 = .ok (.ifCond .ne 17, 3) := by decide +kernel
theorem dX12_stops_90 : decode cX12_stops 90 = .ok (.iload 4, 2) := by decide +kernel
theorem dX12_stops_92 : decode cX12_stops 92 = .ok (.ifCond .ne 12, 3) := by decide +kernel
theorem dX12_stops_95 : decode cX12_stops 95 = .ok (.iload 5, 2) := by decide +kernel
theorem dX12_stops_97 : decode cX12_stops 97 = .ok (.ifCond .ne 7, 3) := by decide +kernel
theorem dX12_stops_100 : decode cX12_stops 100 = .ok (.iconst 2, 1) := by decide +kernel
theorem dX12_stops_101 : decode cX12_stops 101 = .ok (.goto 4, 3) := by decide +kernel
theorem dX12_stops_104 : decode cX12_stops 104 = .ok (.iconst (-1), 1) := by decide +kernel
theorem dX12_stops_105 : decode cX12_stops 105 = .ok (.ireturn, 1) := by decide +kernel
theorem dX12_stops_106 : decode cX12_stops 106 = .ok (.aload_n 0, 1) := by decide +kernel
theorem dX12_stops_107 : decode cX12_stops 107 = .ok (.iload_n 3, 1) := by decide +kernel
theorem dX12_stops_108 : decode cX12_stops 108 = .ok (.invokevirtual 292, 3) := by decide +kernel
theorem dX12_stops_111 : decode cX12_stops 111 = .ok (.ifCond .ne 5, 3) := by decide +kernel
theorem dX12_stops_114 : decode cX12_stops 114 = .ok (.iconst 0, 1) := by decide +kernel
theorem dX12_stops_115 : decode cX12_stops 115 = .ok (.ireturn, 1) := by decide +kernel
theorem dX12_stops_116 : decode cX12_stops 116 = .ok (.aload_n 1, 1) := by decide +kernel
theorem dX12_stops_117 : decode cX12_stops 117 = .ok (.bipush 8, 2) := by decide +kernel
theorem dX12_stops_119 : decode cX12_stops 119 = .ok (.iload_n 3, 1) := by decide +kernel
theorem dX12_stops_120 : decode cX12_stops 120 = .ok (.iadd, 1) := by decide +kernel
theorem dX12_stops_121 : decode cX12_stops 121 = .ok (.iaload, 1) := by decide +kernel
theorem dX12_stops_122 : decode cX12_stops 122 = .ok (.iconst 2, 1) := by decide +kernel
theorem dX12_stops_123 : decode cX12_stops 123 = .ok (.if_icmp .ge 7, 3) := by decide +kernel
theorem dX12_stops_126 : decode cX12_stops 126 = .ok (.iconst 1, 1) := by decide +kernel
theorem dX12_stops_127 : decode cX12_stops 127 = .ok (.goto 4, 3) := by decide +kernel
theorem dX12_stops_130 : decode cX12_stops 130 = .ok (.iconst 0, 1) := by decide +kernel
theorem dX12_stops_131 : decode cX12_stops 131 = .ok (.istore 6, 2) := by decide +kernel
theorem dX12_stops_133 : decode cX12_stops 133 = .ok (.iload_n 2, 1) := by decide +kernel
theorem dX12_stops_134 : decode cX12_stops 134 = .ok (.iconst 1, 1) := by decide +kernel
theorem dX12_stops_135 : decode cX12_stops 135 = .ok (.if_icmp .ne 63, 3) := by decide +kernel
theorem dX12_stops_138 : decode cX12_stops 138 = .ok (.iload 4, 2) := by decide +kernel
theorem dX12_stops_140 : decode cX12_stops 140 = .ok (.i2l, 1) := by decide +kernel
theorem dX12_stops_141 : decode cX12_stops 141 = .ok (.ldc2_w 295, 3) := by decide +kernel
theorem dX12_stops_144 : decode cX12_stops 144 = .ok (.ldc2_w 297, 3) := by decide +kernel
theorem dX12_stops_147 : decode cX12_stops 147 = .ok (.invokestatic 122, 3) := by decide +kernel
theorem dX12_stops_150 : decode cX12_stops 150 = .ok (.ifCond .eq 30, 3) := by decide +kernel
theorem dX12_stops_153 : decode cX12_stops 153 = .ok (.aload_n 1, 1) := by decide +kernel
theorem dX12_stops_154 : decode cX12_stops 154 = .ok (.iconst 0, 1) := by decide +kernel
theorem dX12_stops_155 : decode cX12_stops 155 = .ok (.iload_n 3, 1) := by decide +kernel
theorem dX12_stops_156 : decode cX12_stops 156 = .ok (.iadd, 1) := by decide +kernel
theorem dX12_stops_157 : decode cX12_stops 157 = .ok (.iaload, 1) := by decide +kernel
theorem dX12_stops_158 : decode cX12_stops 158 = .ok (.iload 4, 2) := by decide +kernel
theorem dX12_stops_160 : decode cX12_stops 160 = .ok (.aload_n 0, 1) := by decide +kernel
theorem dX12_stops_161 : decode cX12_stops 161 = .ok (.iload_n 3, 1) := by decide +kernel
theorem dX12_stops_162 : decode cX12_stops 162 = .ok (.invokevirtual 230, 3) := by decide +kernel
theorem dX12_stops_165 : decode cX12_stops 165 = .ok (.imul, 1) := by decide +kernel
theorem dX12_stops_166 : decode cX12_stops 166 = .ok (.iadd, 1) := by decide +kernel
theorem dX12_stops_167 : decode cX12_stops 167 = .ok (.i2l, 1) := by decide +kernel
theorem dX12_stops_168 : decode cX12_stops 168 = .ok (.ldc2_w 280, 3) := by decide +kernel
theorem dX12_stops_171 : decode cX12_stops 171 = .ok (.ldc2_w 282, 3) := by decide +kernel
theorem dX12_stops_174 : decode cX12_stops 174 = .ok (.invokestatic 122, 3) := by decide +kernel
theorem dX12_stops_177 : decode cX12_stops 177 = .ok (.ifCond .ne 5, 3) := by decide +kernel
theorem dX12_stops_180 : decode cX12_stops 180 = .ok (.iconst 1, 1) := by decide +kernel
theorem dX12_stops_181 : decode cX12_stops 181 = .ok (.ireturn, 1) := by decide +kernel
theorem dX12_stops_182 : decode cX12_stops 182 = .ok (.iload 4, 2) := by decide +kernel
theorem dX12_stops_184 : decode cX12_stops 184 = .ok (.ifCond .eq 8, 3) := by decide +kernel
theorem dX12_stops_187 : decode cX12_stops 187 = .ok (.iload 6, 2) := by decide +kernel
theorem dX12_stops_189 : decode cX12_stops 189 = .ok (.ifCond .ne 7, 3) := by decide +kernel
theorem dX12_stops_192 : decode cX12_stops 192 = .ok (.iconst 2, 1) := by decide +kernel
theorem dX12_stops_193 : decode cX12_stops 193 = .ok (.goto 4, 3) := by decide +kernel
theorem dX12_stops_196 : decode cX12_stops 196 = .ok (.iconst (-1), 1) := by decide +kernel
theorem dX12_stops_197 : decode cX12_stops 197 = .ok (.ireturn, 1) := by decide +kernel
theorem dX12_stops_198 : decode cX12_stops 198 = .ok (.iload 6, 2) := by decide +kernel
theorem dX12_stops_200 : decode cX12_stops 200 = .ok (.iload_n 2, 1) := by decide +kernel
theorem dX12_stops_201 : decode cX12_stops 201 = .ok (.iconst 2, 1) := by decide +kernel
theorem dX12_stops_202 : decode cX12_stops 202 = .ok (.if_icmp .ne 7, 3) := by decide +kernel
theorem dX12_stops_205 : decode cX12_stops 205 = .ok (.iconst 1, 1) := by decide +kernel
theorem dX12_stops_206 : decode cX12_stops 206 = .ok (.goto 4, 3) := by decide +kernel
theorem dX12_stops_209 : decode cX12_stops 209 = .ok (.iconst 0, 1) := by decide +kernel
theorem dX12_stops_210 : decode cX12_stops 210 = .ok (.if_icmp .ne 7, 3) := by decide +kernel
theorem dX12_stops_213 : decode cX12_stops 213 = .ok (.iconst (-1), 1) := by decide +kernel
theorem dX12_stops_214 : decode cX12_stops 214 = .ok (.goto 4, 3) := by decide +kernel
theorem dX12_stops_217 : decode cX12_stops 217 = .ok (.iconst 2, 1) := by decide +kernel
theorem dX12_stops_218 : decode cX12_stops 218 = .ok (.ireturn, 1) := by decide +kernel
theorem dX12_changes_0 : decode cX12_changes 0 = .ok (.iload_n 2, 1) := by decide +kernel
theorem dX12_changes_1 : decode cX12_changes 1 = .ok (.tableswitch 85 0 2 #[27, 56, 75], 27) := by decide +kernel
theorem dX12_changes_28 : decode cX12_changes 28 = .ok (.aload_n 1, 1) := by decide +kernel
theorem dX12_changes_29 : decode cX12_changes 29 = .ok (.bipush 16, 2) := by decide +kernel
theorem dX12_changes_31 : decode cX12_changes 31 = .ok (.dup2, 1) := by decide +kernel
theorem dX12_changes_32 : decode cX12_changes 32 = .ok (.iaload, 1) := by decide +kernel
theorem dX12_changes_33 : decode cX12_changes 33 = .ok (.iload_n 3, 1) := by decide +kernel
theorem dX12_changes_34 : decode cX12_changes 34 = .ok (.iadd, 1) := by decide +kernel
theorem dX12_changes_35 : decode cX12_changes 35 = .ok (.iastore, 1) := by decide +kernel
theorem dX12_changes_36 : decode cX12_changes 36 = .ok (.aload_n 1, 1) := by decide +kernel
theorem dX12_changes_37 : decode cX12_changes 37 = .ok (.bipush 17, 2) := by decide +kernel
theorem dX12_changes_39 : decode cX12_changes 39 = .ok (.dup2, 1) := by decide +kernel
theorem dX12_changes_40 : decode cX12_changes 40 = .ok (.iaload, 1) := by decide +kernel
theorem dX12_changes_41 : decode cX12_changes 41 = .ok (.iload 4, 2) := by decide +kernel
theorem dX12_changes_43 : decode cX12_changes 43 = .ok (.iadd, 1) := by decide +kernel
theorem dX12_changes_44 : decode cX12_changes 44 = .ok (.iastore, 1) := by decide +kernel
theorem dX12_changes_45 : decode cX12_changes 45 = .ok (.aload_n 1, 1) := by decide +kernel
theorem dX12_changes_46 : decode cX12_changes 46 = .ok (.bipush 18, 2) := by decide +kernel
theorem dX12_changes_48 : decode cX12_changes 48 = .ok (.dup2, 1) := by decide +kernel
theorem dX12_changes_49 : decode cX12_changes 49 = .ok (.iaload, 1) := by decide +kernel
theorem dX12_changes_50 : decode cX12_changes 50 = .ok (.iload 5, 2) := by decide +kernel
theorem dX12_changes_52 : decode cX12_changes 52 = .ok (.iadd, 1) := by decide +kernel
theorem dX12_changes_53 : decode cX12_changes 53 = .ok (.iastore, 1) := by decide +kernel
theorem dX12_changes_54 : decode cX12_changes 54 = .ok (.goto 55, 3) := by decide +kernel
theorem dX12_changes_57 : decode cX12_changes 57 = .ok (.aload_n 1, 1) := by decide +kernel
theorem dX12_changes_58 : decode cX12_changes 58 = .ok (.iconst 0, 1) := by decide +kernel
theorem dX12_changes_59 : decode cX12_changes 59 = .ok (.iload_n 3, 1) := by decide +kernel
theorem dX12_changes_60 : decode cX12_changes 60 = .ok (.iadd, 1) := by decide +kernel
theorem dX12_changes_61 : decode cX12_changes 61 = .ok (.dup2, 1) := by decide +kernel
theorem dX12_changes_62 : decode cX12_changes 62 = .ok (.iaload, 1) := by decide +kernel
theorem dX12_changes_63 : decode cX12_changes 63 = .ok (.iload 4, 2) := by decide +kernel
theorem dX12_changes_65 : decode cX12_changes 65 = .ok (.aload_n 0, 1) := by decide +kernel
theorem dX12_changes_66 : decode cX12_changes 66 = .ok (.iload_n 3, 1) := by decide +kernel
theorem dX12_changes_67 : decode cX12_changes 67 = .ok (.invokevirtual 230, 3) := by decide +kernel
theorem dX12_changes_70 : decode cX12_changes 70 = .ok (.imul, 1) := by decide +kernel
theorem dX12_changes_71 : decode cX12_changes 71 = .ok (.iadd, 1) := by decide +kernel
theorem dX12_changes_72 : decode cX12_changes 72 = .ok (.iastore, 1) := by decide +kernel
theorem dX12_changes_73 : decode cX12_changes 73 = .ok (.goto 36, 3) := by decide +kernel
theorem dX12_changes_76 : decode cX12_changes 76 = .ok (.aload_n 1, 1) := by decide +kernel
theorem dX12_changes_77 : decode cX12_changes 77 = .ok (.bipush 8, 2) := by decide +kernel
theorem dX12_changes_79 : decode cX12_changes 79 = .ok (.iload_n 3, 1) := by decide +kernel
theorem dX12_changes_80 : decode cX12_changes 80 = .ok (.iadd, 1) := by decide +kernel
theorem dX12_changes_81 : decode cX12_changes 81 = .ok (.iconst 3, 1) := by decide +kernel
theorem dX12_changes_82 : decode cX12_changes 82 = .ok (.iastore, 1) := by decide +kernel
theorem dX12_changes_83 : decode cX12_changes 83 = .ok (.goto 26, 3) := by decide +kernel
theorem dX12_changes_86 : decode cX12_changes 86 = .ok (.aload_n 1, 1) := by decide +kernel
theorem dX12_changes_87 : decode cX12_changes 87 = .ok (.iconst 0, 1) := by decide +kernel
theorem dX12_changes_88 : decode cX12_changes 88 = .ok (.iload_n 3, 1) := by decide +kernel
theorem dX12_changes_89 : decode cX12_changes 89 = .ok (.iadd, 1) := by decide +kernel
theorem dX12_changes_90 : decode cX12_changes 90 = .ok (.aload_n 0, 1) := by decide +kernel
theorem dX12_changes_91 : decode cX12_changes 91 = .ok (.getfield 23, 3) := by decide +kernel
theorem dX12_changes_94 : decode cX12_changes 94 = .ok (.bipush 7, 2) := by decide +kernel
theorem dX12_changes_96 : decode cX12_changes 96 = .ok (.iload_n 3, 1) := by decide +kernel
theorem dX12_changes_97 : decode cX12_changes 97 = .ok (.imul, 1) := by decide +kernel
theorem dX12_changes_98 : decode cX12_changes 98 = .ok (.iconst 5, 1) := by decide +kernel
theorem dX12_changes_99 : decode cX12_changes 99 = .ok (.iadd, 1) := by decide +kernel
theorem dX12_changes_100 : decode cX12_changes 100 = .ok (.iaload, 1) := by decide +kernel
theorem dX12_changes_101 : decode cX12_changes 101 = .ok (.iastore, 1) := by decide +kernel
theorem dX12_changes_102 : decode cX12_changes 102 = .ok (.aload_n 1, 1) := by decide +kernel
theorem dX12_changes_103 : decode cX12_changes 103 = .ok (.bipush 8, 2) := by decide +kernel
theorem dX12_changes_105 : decode cX12_changes 105 = .ok (.iload_n 3, 1) := by decide +kernel
theorem dX12_changes_106 : decode cX12_changes 106 = .ok (.iadd, 1) := by decide +kernel
theorem dX12_changes_107 : decode cX12_changes 107 = .ok (.iconst 0, 1) := by decide +kernel
theorem dX12_changes_108 : decode cX12_changes 108 = .ok (.iastore, 1) := by decide +kernel
theorem dX12_changes_109 : decode cX12_changes 109 = .ok (.return_, 1) := by decide +kernel
theorem dX12_notes_0 : decode cX12_notes 0 = .ok (.aload_n 1, 1) := by decide +kernel
theorem dX12_notes_1 : decode cX12_notes 1 = .ok (.bipush 21, 2) := by decide +kernel
theorem dX12_notes_3 : decode cX12_notes 3 = .ok (.iaload, 1) := by decide +kernel
theorem dX12_notes_4 : decode cX12_notes 4 = .ok (.bipush 60, 2) := by decide +kernel
theorem dX12_notes_6 : decode cX12_notes 6 = .ok (.if_icmp .ne 44, 3) := by decide +kernel
theorem dX12_notes_9 : decode cX12_notes 9 = .ok (.iconst 1, 1) := by decide +kernel
theorem dX12_notes_10 : decode cX12_notes 10 = .ok (.istore 5, 2) := by decide +kernel
theorem dX12_notes_12 : decode cX12_notes 12 = .ok (.iload 5, 2) := by decide +kernel
theorem dX12_notes_14 : decode cX12_notes 14 = .ok (.sipush 177, 3) := by decide +kernel
theorem dX12_notes_17 : decode cX12_notes 17 = .ok (.if_icmp .gt 25, 3) := by decide +kernel
theorem dX12_notes_20 : decode cX12_notes 20 = .ok (.aload_n 1, 1) := by decide +kernel
theorem dX12_notes_21 : decode cX12_notes 21 = .ok (.bipush 21, 2) := by decide +kernel
theorem dX12_notes_23 : decode cX12_notes 23 = .ok (.iload 5, 2) := by decide +kernel
theorem dX12_notes_25 : decode cX12_notes 25 = .ok (.iadd, 1) := by decide +kernel
theorem dX12_notes_26 : decode cX12_notes 26 = .ok (.aload_n 1, 1) := by decide +kernel
theorem dX12_notes_27 : decode cX12_notes 27 = .ok (.bipush 21, 2) := by decide +kernel
theorem dX12_notes_29 : decode cX12_notes 29 = .ok (.iload 5, 2) := by decide +kernel
theorem dX12_notes_31 : decode cX12_notes 31 = .ok (.iadd, 1) := by decide +kernel
theorem dX12_notes_32 : decode cX12_notes 32 = .ok (.iconst 3, 1) := by decide +kernel
theorem dX12_notes_33 : decode cX12_notes 33 = .ok (.iadd, 1) := by decide +kernel
theorem dX12_notes_34 : decode cX12_notes 34 = .ok (.iaload, 1) := by decide +kernel
theorem dX12_notes_35 : decode cX12_notes 35 = .ok (.iastore, 1) := by decide +kernel
theorem dX12_notes_36 : decode cX12_notes 36 = .ok (.iinc 5 1, 3) := by decide +kernel
theorem dX12_notes_39 : decode cX12_notes 39 = .ok (.goto (-27), 3) := by decide +kernel
theorem dX12_notes_42 : decode cX12_notes 42 = .ok (.aload_n 1, 1) := by decide +kernel
theorem dX12_notes_43 : decode cX12_notes 43 = .ok (.bipush 21, 2) := by decide +kernel
theorem dX12_notes_45 : decode cX12_notes 45 = .ok (.dup2, 1) := by decide +kernel
theorem dX12_notes_46 : decode cX12_notes 46 = .ok (.iaload, 1) := by decide +kernel
theorem dX12_notes_47 : decode cX12_notes 47 = .ok (.iconst 1, 1) := by decide +kernel
theorem dX12_notes_48 : decode cX12_notes 48 = .ok (.isub, 1) := by decide +kernel
theorem dX12_notes_49 : decode cX12_notes 49 = .ok (.iastore, 1) := by decide +kernel
theorem dX12_notes_50 : decode cX12_notes 50 = .ok (.bipush 22, 2) := by decide +kernel
theorem dX12_notes_52 : decode cX12_notes 52 = .ok (.iconst 3, 1) := by decide +kernel
theorem dX12_notes_53 : decode cX12_notes 53 = .ok (.aload_n 1, 1) := by decide +kernel
theorem dX12_notes_54 : decode cX12_notes 54 = .ok (.bipush 21, 2) := by decide +kernel
theorem dX12_notes_56 : decode cX12_notes 56 = .ok (.iaload, 1) := by decide +kernel
theorem dX12_notes_57 : decode cX12_notes 57 = .ok (.imul, 1) := by decide +kernel
theorem dX12_notes_58 : decode cX12_notes 58 = .ok (.iadd, 1) := by decide +kernel
theorem dX12_notes_59 : decode cX12_notes 59 = .ok (.istore 5, 2) := by decide +kernel
theorem dX12_notes_61 : decode cX12_notes 61 = .ok (.aload_n 1, 1) := by decide +kernel
theorem dX12_notes_62 : decode cX12_notes 62 = .ok (.iload 5, 2) := by decide +kernel
theorem dX12_notes_64 : decode cX12_notes 64 = .ok (.iload_n 2, 1) := by decide +kernel
theorem dX12_notes_65 : decode cX12_notes 65 = .ok (.iastore, 1) := by decide +kernel
theorem dX12_notes_66 : decode cX12_notes 66 = .ok (.aload_n 1, 1) := by decide +kernel
theorem dX12_notes_67 : decode cX12_notes 67 = .ok (.iload 5, 2) := by decide +kernel
theorem dX12_notes_69 : decode cX12_notes 69 = .ok (.iconst 1, 1) := by decide +kernel
theorem dX12_notes_70 : decode cX12_notes 70 = .ok (.iadd, 1) := by decide +kernel
theorem dX12_notes_71 : decode cX12_notes 71 = .ok (.iload_n 3, 1) := by decide +kernel
theorem dX12_notes_72 : decode cX12_notes 72 = .ok (.iastore, 1) := by decide +kernel
theorem dX12_notes_73 : decode cX12_notes 73 = .ok (.aload_n 1, 1) := by decide +kernel
theorem dX12_notes_74 : decode cX12_notes 74 = .ok (.iload 5, 2) := by decide +kernel
theorem dX12_notes_76 : decode cX12_notes 76 = .ok (.iconst 2, 1) := by decide +kernel
theorem dX12_notes_77 : decode cX12_notes 77 = .ok (.iadd, 1) := by decide +kernel
theorem dX12_notes_78 : decode cX12_notes 78 = .ok (.iload 4, 2) := by decide +kernel
theorem dX12_notes_80 : decode cX12_notes 80 = .ok (.iastore, 1) := by decide +kernel
theorem dX12_notes_81 : decode cX12_notes 81 = .ok (.aload_n 1, 1) := by decide +kernel
theorem dX12_notes_82 : decode cX12_notes 82 = .ok (.bipush 21, 2) := by decide +kernel
theorem dX12_notes_84 : decode cX12_notes 84 = .ok (.dup2, 1) := by decide +kernel
theorem dX12_notes_85 : decode cX12_notes 85 = .ok (.iaload, 1) := by decide +kernel
theorem dX12_notes_86 : decode cX12_notes 86 = .ok (.iconst 1, 1) := by decide +kernel
theorem dX12_notes_87 : decode cX12_notes 87 = .ok (.iadd, 1) := by decide +kernel
theorem dX12_notes_88 : decode cX12_notes 88 = .ok (.iastore, 1) := by decide +kernel
theorem dX12_notes_89 : decode cX12_notes 89 = .ok (.return_, 1) := by decide +kernel
theorem dX12_does_0 : decode cX12_does 0 = .ok (.aload_n 0, 1) := by decide +kernel
theorem dX12_does_1 : decode cX12_does 1 = .ok (.iconst 0, 1) := by decide +kernel
theorem dX12_does_2 : decode cX12_does 2 = .ok (.putfield 299, 3) := by decide +kernel
theorem dX12_does_5 : decode cX12_does 5 = .ok (.aload_n 0, 1) := by decide +kernel
theorem dX12_does_6 : decode cX12_does 6 = .ok (.aload_n 1, 1) := by decide +kernel
theorem dX12_does_7 : decode cX12_does 7 = .ok (.iload_n 2, 1) := by decide +kernel
theorem dX12_does_8 : decode cX12_does 8 = .ok (.iload_n 3, 1) := by decide +kernel
theorem dX12_does_9 : decode cX12_does 9 = .ok (.iload 4, 2) := by decide +kernel
theorem dX12_does_11 : decode cX12_does 11 = .ok (.iload 5, 2) := by decide +kernel
theorem dX12_does_13 : decode cX12_does 13 = .ok (.invokevirtual 302, 3) := by decide +kernel
theorem dX12_does_16 : decode cX12_does 16 = .ok (.istore 6, 2) := by decide +kernel
theorem dX12_does_18 : decode cX12_does 18 = .ok (.iload 6, 2) := by decide +kernel
theorem dX12_does_20 : decode cX12_does 20 = .ok (.iconst (-1), 1) := by decide +kernel
theorem dX12_does_21 : decode cX12_does 21 = .ok (.if_icmp .eq 6, 3) := by decide +kernel
theorem dX12_does_24 : decode cX12_does 24 = .ok (.iload 6, 2) := by decide +kernel
theorem dX12_does_26 : decode cX12_does 26 = .ok (.ireturn, 1) := by decide +kernel
theorem dX12_does_27 : decode cX12_does 27 = .ok (.aload_n 0, 1) := by decide +kernel
theorem dX12_does_28 : decode cX12_does 28 = .ok (.aload_n 1, 1) := by decide +kernel
theorem dX12_does_29 : decode cX12_does 29 = .ok (.iload_n 2, 1) := by decide +kernel
theorem dX12_does_30 : decode cX12_does 30 = .ok (.iload_n 3, 1) := by decide +kernel
theorem dX12_does_31 : decode cX12_does 31 = .ok (.iload 4, 2) := by decide +kernel
theorem dX12_does_33 : decode cX12_does 33 = .ok (.iload 5, 2) := by decide +kernel
theorem dX12_does_35 : decode cX12_does 35 = .ok (.invokevirtual 306, 3) := by decide +kernel
theorem dX12_does_38 : decode cX12_does 38 = .ok (.aload_n 0, 1) := by decide +kernel
theorem dX12_does_39 : decode cX12_does 39 = .ok (.aload_n 1, 1) := by decide +kernel
theorem dX12_does_40 : decode cX12_does 40 = .ok (.invokevirtual 204, 3) := by decide +kernel
theorem dX12_does_43 : decode cX12_does 43 = .ok (.istore 6, 2) := by decide +kernel
theorem dX12_does_45 : decode cX12_does 45 = .ok (.aload_n 0, 1) := by decide +kernel
theorem dX12_does_46 : decode cX12_does 46 = .ok (.iload 6, 2) := by decide +kernel
theorem dX12_does_48 : decode cX12_does 48 = .ok (.iconst (-1), 1) := by decide +kernel
theorem dX12_does_49 : decode cX12_does 49 = .ok (.if_icmp .eq 7, 3) := by decide +kernel
theorem dX12_does_52 : decode cX12_does 52 = .ok (.iconst 1, 1) := by decide +kernel
theorem dX12_does_53 : decode cX12_does 53 = .ok (.goto 4, 3) := by decide +kernel
theorem dX12_does_56 : decode cX12_does 56 = .ok (.iconst 0, 1) := by decide +kernel
theorem dX12_does_57 : decode cX12_does 57 = .ok (.putfield 299, 3) := by decide +kernel
theorem dX12_does_60 : decode cX12_does 60 = .ok (.iload 6, 2) := by decide +kernel
theorem dX12_does_62 : decode cX12_does 62 = .ok (.iconst (-1), 1) := by decide +kernel
theorem dX12_does_63 : decode cX12_does 63 = .ok (.if_icmp .ne 22, 3) := by decide +kernel
theorem dX12_does_66 : decode cX12_does 66 = .ok (.aload_n 0, 1) := by decide +kernel
theorem dX12_does_67 : decode cX12_does 67 = .ok (.aload_n 1, 1) := by decide +kernel
theorem dX12_does_68 : decode cX12_does 68 = .ok (.iload_n 2, 1) := by decide +kernel
theorem dX12_does_69 : decode cX12_does 69 = .ok (.iload_n 2, 1) := by decide +kernel
theorem dX12_does_70 : decode cX12_does 70 = .ok (.ifCond .ne 7, 3) := by decide +kernel
theorem dX12_does_73 : decode cX12_does 73 = .ok (.iconst (-1), 1) := by decide +kernel
theorem dX12_does_74 : decode cX12_does 74 = .ok (.goto 4, 3) := by decide +kernel
theorem dX12_does_77 : decode cX12_does 77 = .ok (.iload_n 3, 1) := by decide +kernel
theorem dX12_does_78 : decode cX12_does 78 = .ok (.aload_n 0, 1) := by decide +kernel
theorem dX12_does_79 : decode cX12_does 79 = .ok (.invokevirtual 310, 3) := by decide +kernel
theorem dX12_does_82 : decode cX12_does 82 = .ok (.invokevirtual 313, 3) := by decide +kernel
theorem dX12_does_85 : decode cX12_does 85 = .ok (.iload 6, 2) := by decide +kernel
theorem dX12_does_87 : decode cX12_does 87 = .ok (.ireturn, 1) := by decide +kernel
theorem dX12_remember_0 : decode cX12_remember 0 = .ok (.aload_n 0, 1) := by decide +kernel
theorem dX12_remember_1 : decode cX12_remember 1 = .ok (.getfield 212, 3) := by decide +kernel
theorem dX12_remember_4 : decode cX12_remember 4 = .ok (.bipush 40, 2) := by decide +kernel
theorem dX12_remember_6 : decode cX12_remember 6 = .ok (.if_icmp .ne 19, 3) := by decide +kernel
theorem dX12_remember_9 : decode cX12_remember 9 = .ok (.aload_n 0, 1) := by decide +kernel
theorem dX12_remember_10 : decode cX12_remember 10 = .ok (.aload_n 0, 1) := by decide +kernel
theorem dX12_remember_11 : decode cX12_remember 11 = .ok (.getfield 317, 3) := by decide +kernel
theorem dX12_remember_14 : decode cX12_remember 14 = .ok (.iconst 1, 1) := by decide +kernel
theorem dX12_remember_15 : decode cX12_remember 15 = .ok (.iadd, 1) := by decide +kernel
theorem dX12_remember_16 : decode cX12_remember 16 = .ok (.bipush 40, 2) := by decide +kernel
theorem dX12_remember_18 : decode cX12_remember 18 = .ok (.irem, 1) := by decide +kernel
theorem dX12_remember_19 : decode cX12_remember 19 = .ok (.putfield 317, 3) := by decide +kernel
theorem dX12_remember_22 : decode cX12_remember 22 = .ok (.goto 13, 3) := by decide +kernel
theorem dX12_remember_25 : decode cX12_remember 25 = .ok (.aload_n 0, 1) := by decide +kernel
theorem dX12_remember_26 : decode cX12_remember 26 = .ok (.dup, 1) := by decide +kernel
theorem dX12_remember_27 : decode cX12_remember 27 = .ok (.getfield 212, 3) := by decide +kernel
theorem dX12_remember_30 : decode cX12_remember 30 = .ok (.iconst 1, 1) := by decide +kernel
theorem dX12_remember_31 : decode cX12_remember 31 = .ok (.iadd, 1) := by decide +kernel
theorem dX12_remember_32 : decode cX12_remember 32 = .ok (.putfield 212, 3) := by decide +kernel
theorem dX12_remember_35 : decode cX12_remember 35 = .ok (.aload_n 0, 1) := by decide +kernel
theorem dX12_remember_36 : decode cX12_remember 36 = .ok (.getfield 44, 3) := by decide +kernel
theorem dX12_remember_39 : decode cX12_remember 39 = .ok (.iconst 0, 1) := by decide +kernel
theorem dX12_remember_40 : decode cX12_remember 40 = .ok (.aload_n 0, 1) := by decide +kernel
theorem dX12_remember_41 : decode cX12_remember 41 = .ok (.getfield 53, 3) := by decide +kernel
theorem dX12_remember_44 : decode cX12_remember 44 = .ok (.sipush 202, 3) := by decide +kernel
theorem dX12_remember_47 : decode cX12_remember 47 = .ok (.aload_n 0, 1) := by decide +kernel
theorem dX12_remember_48 : decode cX12_remember 48 = .ok (.getfield 317, 3) := by decide +kernel
theorem dX12_remember_51 : decode cX12_remember 51 = .ok (.aload_n 0, 1) := by decide +kernel
theorem dX12_remember_52 : decode cX12_remember 52 = .ok (.getfield 212, 3) := by decide +kernel
theorem dX12_remember_55 : decode cX12_remember 55 = .ok (.iadd, 1) := by decide +kernel
theorem dX12_remember_56 : decode cX12_remember 56 = .ok (.iconst 1, 1) := by decide +kernel
theorem dX12_remember_57 : decode cX12_remember 57 = .ok (.isub, 1) := by decide +kernel
theorem dX12_remember_58 : decode cX12_remember 58 = .ok (.bipush 40, 2) := by decide +kernel
theorem dX12_remember_60 : decode cX12_remember 60 = .ok (.irem, 1) := by decide +kernel
theorem dX12_remember_61 : decode cX12_remember 61 = .ok (.imul, 1) := by decide +kernel
theorem dX12_remember_62 : decode cX12_remember 62 = .ok (.invokestatic 208, 3) := by decide +kernel
theorem dX12_remember_65 : decode cX12_remember 65 = .ok (.return_, 1) := by decide +kernel
theorem dX12_blames_0 : decode cX12_blames 0 = .ok (.aload_n 0, 1) := by decide +kernel
theorem dX12_blames_1 : decode cX12_blames 1 = .ok (.bipush 100, 2) := by decide +kernel
theorem dX12_blames_3 : decode cX12_blames 3 = .ok (.iload_n 2, 1) := by decide +kernel
theorem dX12_blames_4 : decode cX12_blames 4 = .ok (.iadd, 1) := by decide +kernel
theorem dX12_blames_5 : decode cX12_blames 5 = .ok (.invokevirtual 320, 3) := by decide +kernel
theorem dX12_blames_8 : decode cX12_blames 8 = .ok (.aload_n 0, 1) := by decide +kernel
theorem dX12_blames_9 : decode cX12_blames 9 = .ok (.getfield 299, 3) := by decide +kernel
theorem dX12_blames_12 : decode cX12_blames 12 = .ok (.ifCond .eq 15, 3) := by decide +kernel
theorem dX12_blames_15 : decode cX12_blames 15 = .ok (.aload_n 0, 1) := by decide +kernel
theorem dX12_blames_16 : decode cX12_blames 16 = .ok (.sipush 200, 3) := by decide +kernel
theorem dX12_blames_19 : decode cX12_blames 19 = .ok (.aload_n 0, 1) := by decide +kernel
theorem dX12_blames_20 : decode cX12_blames 20 = .ok (.getfield 252, 3) := by decide +kernel
theorem dX12_blames_23 : decode cX12_blames 23 = .ok (.iadd, 1) := by decide +kernel
theorem dX12_blames_24 : decode cX12_blames 24 = .ok (.invokevirtual 320, 3) := by decide +kernel
theorem dX12_blames_27 : decode cX12_blames 27 = .ok (.aload_n 0, 1) := by decide +kernel
theorem dX12_blames_28 : decode cX12_blames 28 = .ok (.iload_n 1, 1) := by decide +kernel
theorem dX12_blames_29 : decode cX12_blames 29 = .ok (.invokevirtual 320, 3) := by decide +kernel
theorem dX12_blames_32 : decode cX12_blames 32 = .ok (.aload_n 0, 1) := by decide +kernel
theorem dX12_blames_33 : decode cX12_blames 33 = .ok (.getfield 35, 3) := by decide +kernel
theorem dX12_blames_36 : decode cX12_blames 36 = .ok (.iload_n 1, 1) := by decide +kernel
theorem dX12_blames_37 : decode cX12_blames 37 = .ok (.dup2, 1) := by decide +kernel
theorem dX12_blames_38 : decode cX12_blames 38 = .ok (.iaload, 1) := by decide +kernel
theorem dX12_blames_39 : decode cX12_blames 39 = .ok (.iconst 1, 1) := by decide +kernel
theorem dX12_blames_40 : decode cX12_blames 40 = .ok (.iadd, 1) := by decide +kernel
theorem dX12_blames_41 : decode cX12_blames 41 = .ok (.iastore, 1) := by decide +kernel
theorem dX12_blames_42 : decode cX12_blames 42 = .ok (.return_, 1) := by decide +kernel
theorem dX12_act_0 : decode cX12_act 0 = .ok (.aload_n 0, 1) := by decide +kernel
theorem dX12_act_1 : decode cX12_act 1 = .ok (.iconst 0, 1) := by decide +kernel
theorem dX12_act_2 : decode cX12_act 2 = .ok (.putfield 79, 3) := by decide +kernel
theorem dX12_act_5 : decode cX12_act 5 = .ok (.aload_n 0, 1) := by decide +kernel
theorem dX12_act_6 : decode cX12_act 6 = .ok (.getfield 44, 3) := by decide +kernel
theorem dX12_act_9 : decode cX12_act 9 = .ok (.iconst 0, 1) := by decide +kernel
theorem dX12_act_10 : decode cX12_act 10 = .ok (.aload_n 0, 1) := by decide +kernel
theorem dX12_act_11 : decode cX12_act 11 = .ok (.getfield 47, 3) := by decide +kernel
theorem dX12_act_14 : decode cX12_act 14 = .ok (.iconst 0, 1) := by decide +kernel
theorem dX12_act_15 : decode cX12_act 15 = .ok (.invokestatic 208, 3) := by decide +kernel
theorem dX12_act_18 : decode cX12_act 18 = .ok (.aload_n 0, 1) := by decide +kernel
theorem dX12_act_19 : decode cX12_act 19 = .ok (.aload_n 0, 1) := by decide +kernel
theorem dX12_act_20 : decode cX12_act 20 = .ok (.getfield 47, 3) := by decide +kernel
theorem dX12_act_23 : decode cX12_act 23 = .ok (.iload_n 1, 1) := by decide +kernel
theorem dX12_act_24 : decode cX12_act 24 = .ok (.iload_n 2, 1) := by decide +kernel
theorem dX12_act_25 : decode cX12_act 25 = .ok (.iload_n 3, 1) := by decide +kernel
theorem dX12_act_26 : decode cX12_act 26 = .ok (.iload 4, 2) := by decide +kernel
theorem dX12_act_28 : decode cX12_act 28 = .ok (.invokevirtual 322, 3) := by decide +kernel
theorem dX12_act_31 : decode cX12_act 31 = .ok (.istore 5, 2) := by decide +kernel
theorem dX12_act_33 : decode cX12_act 33 = .ok (.iload 5, 2) := by decide +kernel
theorem dX12_act_35 : decode cX12_act 35 = .ok (.iconst (-1), 1) := by decide +kernel
theorem dX12_act_36 : decode cX12_act 36 = .ok (.if_icmp .eq 17, 3) := by decide +kernel
theorem dX12_act_39 : decode cX12_act 39 = .ok (.aload_n 0, 1) := by decide +kernel
theorem dX12_act_40 : decode cX12_act 40 = .ok (.iconst 0, 1) := by decide +kernel
theorem dX12_act_41 : decode cX12_act 41 = .ok (.putfield 273, 3) := by decide +kernel
theorem dX12_act_44 : decode cX12_act 44 = .ok (.aload_n 0, 1) := by decide +kernel
theorem dX12_act_45 : decode cX12_act 45 = .ok (.iload 5, 2) := by decide +kernel
theorem dX12_act_47 : decode cX12_act 47 = .ok (.iload_n 1, 1) := by decide +kernel
theorem dX12_act_48 : decode cX12_act 48 = .ok (.invokevirtual 325, 3) := by decide +kernel
theorem dX12_act_51 : decode cX12_act 51 = .ok (.iconst (-1), 1) := by decide +kernel
theorem dX12_act_52 : decode cX12_act 52 = .ok (.ireturn, 1) := by decide +kernel
theorem dX12_act_53 : decode cX12_act 53 = .ok (.aload_n 0, 1) := by decide +kernel
theorem dX12_act_54 : decode cX12_act 54 = .ok (.invokevirtual 329, 3) := by decide +kernel
theorem dX12_act_57 : decode cX12_act 57 = .ok (.aload_n 0, 1) := by decide +kernel
theorem dX12_act_58 : decode cX12_act 58 = .ok (.getfield 47, 3) := by decide +kernel
theorem dX12_act_61 : decode cX12_act 61 = .ok (.iconst 0, 1) := by decide +kernel
theorem dX12_act_62 : decode cX12_act 62 = .ok (.aload_n 0, 1) := by decide +kernel
theorem dX12_act_63 : decode cX12_act 63 = .ok (.getfield 44, 3) := by decide +kernel
theorem dX12_act_66 : decode cX12_act 66 = .ok (.iconst 0, 1) := by decide +kernel
theorem dX12_act_67 : decode cX12_act 67 = .ok (.invokestatic 208, 3) := by decide +kernel
theorem dX12_act_70 : decode cX12_act 70 = .ok (.aload_n 0, 1) := by decide +kernel
theorem dX12_act_71 : decode cX12_act 71 = .ok (.invokevirtual 310, 3) := by decide +kernel
theorem dX12_act_74 : decode cX12_act 74 = .ok (.ireturn, 1) := by decide +kernel
theorem dX12_wind_0 : decode cX12_wind 0 = .ok (.aload_n 0, 1) := by decide +kernel
theorem dX12_wind_1 : decode cX12_wind 1 = .ok (.iconst 0, 1) := by decide +kernel
theorem dX12_wind_2 : decode cX12_wind 2 = .ok (.iload_n 1, 1) := by decide +kernel
theorem dX12_wind_3 : decode cX12_wind 3 = .ok (.iload_n 2, 1) := by decide +kernel
theorem dX12_wind_4 : decode cX12_wind 4 = .ok (.iload_n 3, 1) := by decide +kernel
theorem dX12_wind_5 : decode cX12_wind 5 = .ok (.invokevirtual 332, 3) := by decide +kernel
theorem dX12_wind_8 : decode cX12_wind 8 = .ok (.ireturn, 1) := by decide +kernel
theorem dX12_winch_0 : decode cX12_winch 0 = .ok (.aload_n 0, 1) := by decide +kernel
theorem dX12_winch_1 : decode cX12_winch 1 = .ok (.iconst 1, 1) := by decide +kernel
theorem dX12_winch_2 : decode cX12_winch 2 = .ok (.iload_n 1, 1) := by decide +kernel
theorem dX12_winch_3 : decode cX12_winch 3 = .ok (.iload_n 2, 1) := by decide +kernel
theorem dX12_winch_4 : decode cX12_winch 4 = .ok (.iconst 0, 1) := by decide +kernel
theorem dX12_winch_5 : decode cX12_winch 5 = .ok (.invokevirtual 332, 3) := by decide +kernel
theorem dX12_winch_8 : decode cX12_winch 8 = .ok (.ireturn, 1) := by decide +kernel
theorem dX12_cast_0 : decode cX12_cast 0 = .ok (.aload_n 0, 1) := by decide +kernel
theorem dX12_cast_1 : decode cX12_cast 1 = .ok (.iconst 2, 1) := by decide +kernel
theorem dX12_cast_2 : decode cX12_cast 2 = .ok (.iload_n 1, 1) := by decide +kernel
theorem dX12_cast_3 : decode cX12_cast 3 = .ok (.iconst 0, 1) := by decide +kernel
theorem dX12_cast_4 : decode cX12_cast 4 = .ok (.iconst 0, 1) := by decide +kernel
theorem dX12_cast_5 : decode cX12_cast 5 = .ok (.invokevirtual 332, 3) := by decide +kernel
theorem dX12_cast_8 : decode cX12_cast 8 = .ok (.ireturn, 1) := by decide +kernel
theorem dX12_renew_0 : decode cX12_renew 0 = .ok (.aload_n 0, 1) := by decide +kernel
theorem dX12_renew_1 : decode cX12_renew 1 = .ok (.iconst 3, 1) := by decide +kernel
theorem dX12_renew_2 : decode cX12_renew 2 = .ok (.iload_n 1, 1) := by decide +kernel
theorem dX12_renew_3 : decode cX12_renew 3 = .ok (.iconst 0, 1) := by decide +kernel
theorem dX12_renew_4 : decode cX12_renew 4 = .ok (.iconst 0, 1) := by decide +kernel
theorem dX12_renew_5 : decode cX12_renew 5 = .ok (.invokevirtual 332, 3) := by decide +kernel
theorem dX12_renew_8 : decode cX12_renew 8 = .ok (.ireturn, 1) := by decide +kernel
theorem dX12_draw_0 : decode cX12_draw 0 = .ok (.aload_n 0, 1) := by decide +kernel
theorem dX12_draw_1 : decode cX12_draw 1 = .ok (.aload_n 0, 1) := by decide +kernel
theorem dX12_draw_2 : decode cX12_draw 2 = .ok (.getfield 336, 3) := by decide +kernel
theorem dX12_draw_5 : decode cX12_draw 5 = .ok (.ldc2_w 339, 3) := by decide +kernel
theorem dX12_draw_8 : decode cX12_draw 8 = .ok (.lmul, 1) := by decide +kernel
theorem dX12_draw_9 : decode cX12_draw 9 = .ok (.ldc2_w 341, 3) := by decide +kernel
theorem dX12_draw_12 : decode cX12_draw 12 = .ok (.ladd, 1) := by decide +kernel
theorem dX12_draw_13 : decode cX12_draw 13 = .ok (.putfield 336, 3) := by decide +kernel
theorem dX12_draw_16 : decode cX12_draw 16 = .ok (.aload_n 0, 1) := by decide +kernel
theorem dX12_draw_17 : decode cX12_draw 17 = .ok (.getfield 336, 3) := by decide +kernel
theorem dX12_draw_20 : decode cX12_draw 20 = .ok (.bipush 33, 2) := by decide +kernel
theorem dX12_draw_22 : decode cX12_draw 22 = .ok (.lushr, 1) := by decide +kernel
theorem dX12_draw_23 : decode cX12_draw 23 = .ok (.iload_n 1, 1) := by decide +kernel
theorem dX12_draw_24 : decode cX12_draw 24 = .ok (.i2l, 1) := by decide +kernel
theorem dX12_draw_25 : decode cX12_draw 25 = .ok (.lrem, 1) := by decide +kernel
theorem dX12_draw_26 : decode cX12_draw 26 = .ok (.l2i, 1) := by decide +kernel
theorem dX12_draw_27 : decode cX12_draw 27 = .ok (.ireturn, 1) := by decide +kernel
theorem dX12_tries_0 : decode cX12_tries 0 = .ok (.aload_n 0, 1) := by decide +kernel
theorem dX12_tries_1 : decode cX12_tries 1 = .ok (.getfield 44, 3) := by decide +kernel
theorem dX12_tries_4 : decode cX12_tries 4 = .ok (.iconst 0, 1) := by decide +kernel
theorem dX12_tries_5 : decode cX12_tries 5 = .ok (.aload_n 0, 1) := by decide +kernel
theorem dX12_tries_6 : decode cX12_tries 6 = .ok (.getfield 47, 3) := by decide +kernel
theorem dX12_tries_9 : decode cX12_tries 9 = .ok (.iconst 0, 1) := by decide +kernel
theorem dX12_tries_10 : decode cX12_tries 10 = .ok (.invokestatic 208, 3) := by decide +kernel
theorem dX12_tries_13 : decode cX12_tries 13 = .ok (.aload_n 0, 1) := by decide +kernel
theorem dX12_tries_14 : decode cX12_tries 14 = .ok (.aload_n 0, 1) := by decide +kernel
theorem dX12_tries_15 : decode cX12_tries 15 = .ok (.getfield 47, 3) := by decide +kernel
theorem dX12_tries_18 : decode cX12_tries 18 = .ok (.iload_n 1, 1) := by decide +kernel
theorem dX12_tries_19 : decode cX12_tries 19 = .ok (.iload_n 2, 1) := by decide +kernel
theorem dX12_tries_20 : decode cX12_tries 20 = .ok (.iload_n 3, 1) := by decide +kernel
theorem dX12_tries_21 : decode cX12_tries 21 = .ok (.iload 4, 2) := by decide +kernel
theorem dX12_tries_23 : decode cX12_tries 23 = .ok (.invokevirtual 322, 3) := by decide +kernel
theorem dX12_tries_26 : decode cX12_tries 26 = .ok (.iconst (-1), 1) := by decide +kernel
theorem dX12_tries_27 : decode cX12_tries 27 = .ok (.if_icmp .eq 4, 3) := by decide +kernel
theorem dX12_tries_30 : decode cX12_tries 30 = .ok (.return_, 1) := by decide +kernel
theorem dX12_tries_31 : decode cX12_tries 31 = .ok (.aload_n 0, 1) := by decide +kernel
theorem dX12_tries_32 : decode cX12_tries 32 = .ok (.invokevirtual 329, 3) := by decide +kernel
theorem dX12_tries_35 : decode cX12_tries 35 = .ok (.aload_n 0, 1) := by decide +kernel
theorem dX12_tries_36 : decode cX12_tries 36 = .ok (.getfield 47, 3) := by decide +kernel
theorem dX12_tries_39 : decode cX12_tries 39 = .ok (.iconst 0, 1) := by decide +kernel
theorem dX12_tries_40 : decode cX12_tries 40 = .ok (.aload_n 0, 1) := by decide +kernel
theorem dX12_tries_41 : decode cX12_tries 41 = .ok (.getfield 44, 3) := by decide +kernel
theorem dX12_tries_44 : decode cX12_tries 44 = .ok (.iconst 0, 1) := by decide +kernel
theorem dX12_tries_45 : decode cX12_tries 45 = .ok (.invokestatic 208, 3) := by decide +kernel
theorem dX12_tries_48 : decode cX12_tries 48 = .ok (.return_, 1) := by decide +kernel
theorem dX12_happens_0 : decode cX12_happens 0 = .ok (.aload_n 0, 1) := by decide +kernel
theorem dX12_happens_1 : decode cX12_happens 1 = .ok (.bipush 8, 2) := by decide +kernel
theorem dX12_happens_3 : decode cX12_happens 3 = .ok (.invokevirtual 343, 3) := by decide +kernel
theorem dX12_happens_6 : decode cX12_happens 6 = .ok (.istore_n 1, 1) := by decide +kernel
theorem dX12_happens_7 : decode cX12_happens 7 = .ok (.iload_n 1, 1) := by decide +kernel
theorem dX12_happens_8 : decode cX12_happens 8 = .ok (.iconst 5, 1) := by decide +kernel
theorem dX12_happens_9 : decode cX12_happens 9 = .ok (.if_icmp .ge 42, 3) := by decide +kernel
theorem dX12_happens_12 : decode cX12_happens 12 = .ok (.aload_n 0, 1) := by decide +kernel
theorem dX12_happens_13 : decode cX12_happens 13 = .ok (.bipush 21, 2) := by decide +kernel
theorem dX12_happens_15 : decode cX12_happens 15 = .ok (.invokevirtual 343, 3) := by decide +kernel
theorem dX12_happens_18 : decode cX12_happens 18 = .ok (.bipush 10, 2) := by decide +kernel
theorem dX12_happens_20 : decode cX12_happens 20 = .ok (.isub, 1) := by decide +kernel
theorem dX12_happens_21 : decode cX12_happens 21 = .ok (.istore_n 2, 1) := by decide +kernel
theorem dX12_happens_22 : decode cX12_happens 22 = .ok (.aload_n 0, 1) := by decide +kernel
theorem dX12_happens_23 : decode cX12_happens 23 = .ok (.bipush 21, 2) := by decide +kernel
theorem dX12_happens_25 : decode cX12_happens 25 = .ok (.invokevirtual 343, 3) := by decide +kernel
theorem dX12_happens_28 : decode cX12_happens 28 = .ok (.bipush 10, 2) := by decide +kernel
theorem dX12_happens_30 : decode cX12_happens 30 = .ok (.isub, 1) := by decide +kernel
theorem dX12_happens_31 : decode cX12_happens 31 = .ok (.istore_n 3, 1) := by decide +kernel
theorem dX12_happens_32 : decode cX12_happens 32 = .ok (.aload_n 0, 1) := by decide +kernel
theorem dX12_happens_33 : decode cX12_happens 33 = .ok (.iconst 0, 1) := by decide +kernel
theorem dX12_happens_34 : decode cX12_happens 34 = .ok (.iload_n 2, 1) := by decide +kernel
theorem dX12_happens_35 : decode cX12_happens 35 = .ok (.iload_n 3, 1) := by decide +kernel
theorem dX12_happens_36 : decode cX12_happens 36 = .ok (.aload_n 0, 1) := by decide +kernel
theorem dX12_happens_37 : decode cX12_happens 37 = .ok (.bipush 61, 2) := by decide +kernel
theorem dX12_happens_39 : decode cX12_happens 39 = .ok (.invokevirtual 343, 3) := by decide +kernel
theorem dX12_happens_42 : decode cX12_happens 42 = .ok (.bipush 30, 2) := by decide +kernel
theorem dX12_happens_44 : decode cX12_happens 44 = .ok (.isub, 1) := by decide +kernel
theorem dX12_happens_45 : decode cX12_happens 45 = .ok (.invokevirtual 346, 3) := by decide +kernel
theorem dX12_happens_48 : decode cX12_happens 48 = .ok (.goto 70, 3) := by decide +kernel
theorem dX12_happens_51 : decode cX12_happens 51 = .ok (.iload_n 1, 1) := by decide +kernel
theorem dX12_happens_52 : decode cX12_happens 52 = .ok (.bipush 7, 2) := by decide +kernel
theorem dX12_happens_54 : decode cX12_happens 54 = .ok (.if_icmp .ge 30, 3) := by decide +kernel
theorem dX12_happens_57 : decode cX12_happens 57 = .ok (.aload_n 0, 1) := by decide +kernel
theorem dX12_happens_58 : decode cX12_happens 58 = .ok (.aload_n 0, 1) := by decide +kernel
theorem dX12_happens_59 : decode cX12_happens 59 = .ok (.getfield 189, 3) := by decide +kernel
theorem dX12_happens_62 : decode cX12_happens 62 = .ok (.invokevirtual 343, 3) := by decide +kernel
theorem dX12_happens_65 : decode cX12_happens 65 = .ok (.istore_n 2, 1) := by decide +kernel
theorem dX12_happens_66 : decode cX12_happens 66 = .ok (.aload_n 0, 1) := by decide +kernel
theorem dX12_happens_67 : decode cX12_happens 67 = .ok (.iconst 1, 1) := by decide +kernel
theorem dX12_happens_68 : decode cX12_happens 68 = .ok (.iload_n 2, 1) := by decide +kernel
theorem dX12_happens_69 : decode cX12_happens 69 = .ok (.aload_n 0, 1) := by decide +kernel
theorem dX12_happens_70 : decode cX12_happens 70 = .ok (.bipush 7, 2) := by decide +kernel
theorem dX12_happens_72 : decode cX12_happens 72 = .ok (.invokevirtual 343, 3) := by decide +kernel
theorem dX12_happens_75 : decode cX12_happens 75 = .ok (.iconst 3, 1) := by decide +kernel
theorem dX12_happens_76 : decode cX12_happens 76 = .ok (.isub, 1) := by decide +kernel
theorem dX12_happens_77 : decode cX12_happens 77 = .ok (.iconst 0, 1) := by decide +kernel
theorem dX12_happens_78 : decode cX12_happens 78 = .ok (.invokevirtual 346, 3) := by decide +kernel
theorem dX12_happens_81 : decode cX12_happens 81 = .ok (.goto 37, 3) := by decide +kernel
theorem dX12_happens_84 : decode cX12_happens 84 = .ok (.aload_n 0, 1) := by decide +kernel
theorem dX12_happens_85 : decode cX12_happens 85 = .ok (.aload_n 0, 1) := by decide +kernel
theorem dX12_happens_86 : decode cX12_happens 86 = .ok (.getfield 189, 3) := by decide +kernel
theorem dX12_happens_89 : decode cX12_happens 89 = .ok (.invokevirtual 343, 3) := by decide +kernel
theorem dX12_happens_92 : decode cX12_happens 92 = .ok (.istore_n 2, 1) := by decide +kernel
theorem dX12_happens_93 : decode cX12_happens 93 = .ok (.aload_n 0, 1) := by decide +kernel
theorem dX12_happens_94 : decode cX12_happens 94 = .ok (.aload_n 0, 1) := by decide +kernel
theorem dX12_happens_95 : decode cX12_happens 95 = .ok (.getfield 44, 3) := by decide +kernel
theorem dX12_happens_98 : decode cX12_happens 98 = .ok (.bipush 8, 2) := by decide +kernel
theorem dX12_happens_100 : decode cX12_happens 100 = .ok (.iload_n 2, 1) := by decide +kernel
theorem dX12_happens_101 : decode cX12_happens 101 = .ok (.iadd, 1) := by decide +kernel
theorem dX12_happens_102 : decode cX12_happens 102 = .ok (.iaload, 1) := by decide +kernel
theorem dX12_happens_103 : decode cX12_happens 103 = .ok (.iconst 2, 1) := by decide +kernel
theorem dX12_happens_104 : decode cX12_happens 104 = .ok (.if_icmp .ge 7, 3) := by decide +kernel
theorem dX12_happens_107 : decode cX12_happens 107 = .ok (.iconst 2, 1) := by decide +kernel
theorem dX12_happens_108 : decode cX12_happens 108 = .ok (.goto 4, 3) := by decide +kernel
theorem dX12_happens_111 : decode cX12_happens 111 = .ok (.iconst 3, 1) := by decide +kernel
theorem dX12_happens_112 : decode cX12_happens 112 = .ok (.iload_n 2, 1) := by decide +kernel
theorem dX12_happens_113 : decode cX12_happens 113 = .ok (.iconst 0, 1) := by decide +kernel
theorem dX12_happens_114 : decode cX12_happens 114 = .ok (.iconst 0, 1) := by decide +kernel
theorem dX12_happens_115 : decode cX12_happens 115 = .ok (.invokevirtual 346, 3) := by decide +kernel
theorem dX12_happens_118 : decode cX12_happens 118 = .ok (.return_, 1) := by decide +kernel
theorem dX12_years_0 : decode cX12_years 0 = .ok (.aload_n 0, 1) := by decide +kernel
theorem dX12_years_1 : decode cX12_years 1 = .ok (.iconst 0, 1) := by decide +kernel
theorem dX12_years_2 : decode cX12_years 2 = .ok (.putfield 79, 3) := by decide +kernel
theorem dX12_years_5 : decode cX12_years 5 = .ok (.aload_n 0, 1) := by decide +kernel
theorem dX12_years_6 : decode cX12_years 6 = .ok (.getfield 189, 3) := by decide +kernel
theorem dX12_years_9 : decode cX12_years 9 = .ok (.ifCond .eq 15, 3) := by decide +kernel
theorem dX12_years_12 : decode cX12_years 12 = .ok (.iload_n 1, 1) := by decide +kernel
theorem dX12_years_13 : decode cX12_years 13 = .ok (.i2l, 1) := by decide +kernel
theorem dX12_years_14 : decode cX12_years 14 = .ok (.lconst 1, 1) := by decide +kernel
theorem dX12_years_15 : decode cX12_years 15 = .ok (.ldc2_w 350, 3) := by decide +kernel
theorem dX12_years_18 : decode cX12_years 18 = .ok (.invokestatic 122, 3) := by decide +kernel
theorem dX12_years_21 : decode cX12_years 21 = .ok (.ifCond .ne 5, 3) := by decide +kernel
theorem dX12_years_24 : decode cX12_years 24 = .ok (.iconst (-1), 1) := by decide +kernel
theorem dX12_years_25 : decode cX12_years 25 = .ok (.ireturn, 1) := by decide +kernel
theorem dX12_years_26 : decode cX12_years 26 = .ok (.aload_n 0, 1) := by decide +kernel
theorem dX12_years_27 : decode cX12_years 27 = .ok (.lload_n 2, 1) := by decide +kernel
theorem dX12_years_28 : decode cX12_years 28 = .ok (.putfield 336, 3) := by decide +kernel
theorem dX12_years_31 : decode cX12_years 31 = .ok (.iconst 0, 1) := by decide +kernel
theorem dX12_years_32 : decode cX12_years 32 = .ok (.istore 4, 2) := by decide +kernel
theorem dX12_years_34 : decode cX12_years 34 = .ok (.iload 4, 2) := by decide +kernel
theorem dX12_years_36 : decode cX12_years 36 = .ok (.iload_n 1, 1) := by decide +kernel
theorem dX12_years_37 : decode cX12_years 37 = .ok (.if_icmp .ge 13, 3) := by decide +kernel
theorem dX12_years_40 : decode cX12_years 40 = .ok (.aload_n 0, 1) := by decide +kernel
theorem dX12_years_41 : decode cX12_years 41 = .ok (.invokevirtual 352, 3) := by decide +kernel
theorem dX12_years_44 : decode cX12_years 44 = .ok (.iinc 4 1, 3) := by decide +kernel
theorem dX12_years_47 : decode cX12_years 47 = .ok (.goto (-13), 3) := by decide +kernel
theorem dX12_years_50 : decode cX12_years 50 = .ok (.aload_n 0, 1) := by decide +kernel
theorem dX12_years_51 : decode cX12_years 51 = .ok (.getfield 44, 3) := by decide +kernel
theorem dX12_years_54 : decode cX12_years 54 = .ok (.aload_n 0, 1) := by decide +kernel
theorem dX12_years_55 : decode cX12_years 55 = .ok (.getfield 189, 3) := by decide +kernel
theorem dX12_years_58 : decode cX12_years 58 = .ok (.iconst 0, 1) := by decide +kernel
theorem dX12_years_59 : decode cX12_years 59 = .ok (.invokestatic 248, 3) := by decide +kernel
theorem dX12_years_62 : decode cX12_years 62 = .ok (.ireturn, 1) := by decide +kernel
theorem dX12_status_0 : decode cX12_status 0 = .ok (.aload_n 0, 1) := by decide +kernel
theorem dX12_status_1 : decode cX12_status 1 = .ok (.iconst 0, 1) := by decide +kernel
theorem dX12_status_2 : decode cX12_status 2 = .ok (.putfield 79, 3) := by decide +kernel
theorem dX12_status_5 : decode cX12_status 5 = .ok (.iload_n 1, 1) := by decide +kernel
theorem dX12_status_6 : decode cX12_status 6 = .ok (.i2l, 1) := by decide +kernel
theorem dX12_status_7 : decode cX12_status 7 = .ok (.lconst 0, 1) := by decide +kernel
theorem dX12_status_8 : decode cX12_status 8 = .ok (.ldc2_w 355, 3) := by decide +kernel
theorem dX12_status_11 : decode cX12_status 11 = .ok (.invokestatic 122, 3) := by decide +kernel
theorem dX12_status_14 : decode cX12_status 14 = .ok (.ifCond .eq 12, 3) := by decide +kernel
theorem dX12_status_17 : decode cX12_status 17 = .ok (.aload_n 0, 1) := by decide +kernel
theorem dX12_status_18 : decode cX12_status 18 = .ok (.getfield 35, 3) := by decide +kernel
theorem dX12_status_21 : decode cX12_status 21 = .ok (.iload_n 1, 1) := by decide +kernel
theorem dX12_status_22 : decode cX12_status 22 = .ok (.iaload, 1) := by decide +kernel
theorem dX12_status_23 : decode cX12_status 23 = .ok (.goto 4, 3) := by decide +kernel
theorem dX12_status_26 : decode cX12_status 26 = .ok (.iconst (-1), 1) := by decide +kernel
theorem dX12_status_27 : decode cX12_status 27 = .ok (.ireturn, 1) := by decide +kernel
theorem dX12_cause_0 : decode cX12_cause 0 = .ok (.aload_n 0, 1) := by decide +kernel
theorem dX12_cause_1 : decode cX12_cause 1 = .ok (.iconst 0, 1) := by decide +kernel
theorem dX12_cause_2 : decode cX12_cause 2 = .ok (.putfield 79, 3) := by decide +kernel
theorem dX12_cause_5 : decode cX12_cause 5 = .ok (.iload_n 1, 1) := by decide +kernel
theorem dX12_cause_6 : decode cX12_cause 6 = .ok (.i2l, 1) := by decide +kernel
theorem dX12_cause_7 : decode cX12_cause 7 = .ok (.lconst 0, 1) := by decide +kernel
theorem dX12_cause_8 : decode cX12_cause 8 = .ok (.aload_n 0, 1) := by decide +kernel
theorem dX12_cause_9 : decode cX12_cause 9 = .ok (.getfield 273, 3) := by decide +kernel
theorem dX12_cause_12 : decode cX12_cause 12 = .ok (.iconst 1, 1) := by decide +kernel
theorem dX12_cause_13 : decode cX12_cause 13 = .ok (.isub, 1) := by decide +kernel
theorem dX12_cause_14 : decode cX12_cause 14 = .ok (.i2l, 1) := by decide +kernel
theorem dX12_cause_15 : decode cX12_cause 15 = .ok (.invokestatic 122, 3) := by decide +kernel
theorem dX12_cause_18 : decode cX12_cause 18 = .ok (.ifCond .eq 12, 3) := by decide +kernel
theorem dX12_cause_21 : decode cX12_cause 21 = .ok (.aload_n 0, 1) := by decide +kernel
theorem dX12_cause_22 : decode cX12_cause 22 = .ok (.getfield 73, 3) := by decide +kernel
theorem dX12_cause_25 : decode cX12_cause 25 = .ok (.iload_n 1, 1) := by decide +kernel
theorem dX12_cause_26 : decode cX12_cause 26 = .ok (.iaload, 1) := by decide +kernel
theorem dX12_cause_27 : decode cX12_cause 27 = .ok (.goto 4, 3) := by decide +kernel
theorem dX12_cause_30 : decode cX12_cause 30 = .ok (.iconst (-1), 1) := by decide +kernel
theorem dX12_cause_31 : decode cX12_cause 31 = .ok (.ireturn, 1) := by decide +kernel
theorem dX12_undo_0 : decode cX12_undo 0 = .ok (.aload_n 0, 1) := by decide +kernel
theorem dX12_undo_1 : decode cX12_undo 1 = .ok (.iconst 0, 1) := by decide +kernel
theorem dX12_undo_2 : decode cX12_undo 2 = .ok (.putfield 79, 3) := by decide +kernel
theorem dX12_undo_5 : decode cX12_undo 5 = .ok (.aload_n 0, 1) := by decide +kernel
theorem dX12_undo_6 : decode cX12_undo 6 = .ok (.getfield 212, 3) := by decide +kernel
theorem dX12_undo_9 : decode cX12_undo 9 = .ok (.ifCond .ne 5, 3) := by decide +kernel
theorem dX12_undo_12 : decode cX12_undo 12 = .ok (.iconst (-1), 1) := by decide +kernel
theorem dX12_undo_13 : decode cX12_undo 13 = .ok (.ireturn, 1) := by decide +kernel
theorem dX12_undo_14 : decode cX12_undo 14 = .ok (.aload_n 0, 1) := by decide +kernel
theorem dX12_undo_15 : decode cX12_undo 15 = .ok (.dup, 1) := by decide +kernel
theorem dX12_undo_16 : decode cX12_undo 16 = .ok (.getfield 212, 3) := by decide +kernel
theorem dX12_undo_19 : decode cX12_undo 19 = .ok (.iconst 1, 1) := by decide +kernel
theorem dX12_undo_20 : decode cX12_undo 20 = .ok (.isub, 1) := by decide +kernel
theorem dX12_undo_21 : decode cX12_undo 21 = .ok (.putfield 212, 3) := by decide +kernel
theorem dX12_undo_24 : decode cX12_undo 24 = .ok (.aload_n 0, 1) := by decide +kernel
theorem dX12_undo_25 : decode cX12_undo 25 = .ok (.getfield 53, 3) := by decide +kernel
theorem dX12_undo_28 : decode cX12_undo 28 = .ok (.sipush 202, 3) := by decide +kernel
theorem dX12_undo_31 : decode cX12_undo 31 = .ok (.aload_n 0, 1) := by decide +kernel
theorem dX12_undo_32 : decode cX12_undo 32 = .ok (.getfield 317, 3) := by decide +kernel
theorem dX12_undo_35 : decode cX12_undo 35 = .ok (.aload_n 0, 1) := by decide +kernel
theorem dX12_undo_36 : decode cX12_undo 36 = .ok (.getfield 212, 3) := by decide +kernel
theorem dX12_undo_39 : decode cX12_undo 39 = .ok (.iadd, 1) := by decide +kernel
theorem dX12_undo_40 : decode cX12_undo 40 = .ok (.bipush 40, 2) := by decide +kernel
theorem dX12_undo_42 : decode cX12_undo 42 = .ok (.irem, 1) := by decide +kernel
theorem dX12_undo_43 : decode cX12_undo 43 = .ok (.imul, 1) := by decide +kernel
theorem dX12_undo_44 : decode cX12_undo 44 = .ok (.aload_n 0, 1) := by decide +kernel
theorem dX12_undo_45 : decode cX12_undo 45 = .ok (.getfield 44, 3) := by decide +kernel
theorem dX12_undo_48 : decode cX12_undo 48 = .ok (.iconst 0, 1) := by decide +kernel
theorem dX12_undo_49 : decode cX12_undo 49 = .ok (.invokestatic 208, 3) := by decide +kernel
theorem dX12_undo_52 : decode cX12_undo 52 = .ok (.aload_n 0, 1) := by decide +kernel
theorem dX12_undo_53 : decode cX12_undo 53 = .ok (.getfield 212, 3) := by decide +kernel
theorem dX12_undo_56 : decode cX12_undo 56 = .ok (.ireturn, 1) := by decide +kernel
theorem dX12_log_0 : decode cX12_log 0 = .ok (.aload_n 0, 1) := by decide +kernel
theorem dX12_log_1 : decode cX12_log 1 = .ok (.iconst 0, 1) := by decide +kernel
theorem dX12_log_2 : decode cX12_log 2 = .ok (.putfield 79, 3) := by decide +kernel
theorem dX12_log_5 : decode cX12_log 5 = .ok (.iload_n 1, 1) := by decide +kernel
theorem dX12_log_6 : decode cX12_log 6 = .ok (.ifCond .lt 26, 3) := by decide +kernel
theorem dX12_log_9 : decode cX12_log 9 = .ok (.iload_n 1, 1) := by decide +kernel
theorem dX12_log_10 : decode cX12_log 10 = .ok (.aload_n 0, 1) := by decide +kernel
theorem dX12_log_11 : decode cX12_log 11 = .ok (.getfield 44, 3) := by decide +kernel
theorem dX12_log_14 : decode cX12_log 14 = .ok (.bipush 21, 2) := by decide +kernel
theorem dX12_log_16 : decode cX12_log 16 = .ok (.iaload, 1) := by decide +kernel
theorem dX12_log_17 : decode cX12_log 17 = .ok (.if_icmp .ge 15, 3) := by decide +kernel
theorem dX12_log_20 : decode cX12_log 20 = .ok (.iload_n 2, 1) := by decide +kernel
theorem dX12_log_21 : decode cX12_log 21 = .ok (.i2l, 1) := by decide +kernel
theorem dX12_log_22 : decode cX12_log 22 = .ok (.lconst 0, 1) := by decide +kernel
theorem dX12_log_23 : decode cX12_log 23 = .ok (.ldc2_w 357, 3) := by decide +kernel
theorem dX12_log_26 : decode cX12_log 26 = .ok (.invokestatic 122, 3) := by decide +kernel
theorem dX12_log_29 : decode cX12_log 29 = .ok (.ifCond .ne 6, 3) := by decide +kernel
theorem dX12_log_32 : decode cX12_log 32 = .ok (.ldc 173, 2) := by decide +kernel
theorem dX12_log_34 : decode cX12_log 34 = .ok (.ireturn, 1) := by decide +kernel
theorem dX12_log_35 : decode cX12_log 35 = .ok (.aload_n 0, 1) := by decide +kernel
theorem dX12_log_36 : decode cX12_log 36 = .ok (.getfield 44, 3) := by decide +kernel
theorem dX12_log_39 : decode cX12_log 39 = .ok (.bipush 22, 2) := by decide +kernel
theorem dX12_log_41 : decode cX12_log 41 = .ok (.iconst 3, 1) := by decide +kernel
theorem dX12_log_42 : decode cX12_log 42 = .ok (.aload_n 0, 1) := by decide +kernel
theorem dX12_log_43 : decode cX12_log 43 = .ok (.getfield 44, 3) := by decide +kernel
theorem dX12_log_46 : decode cX12_log 46 = .ok (.bipush 21, 2) := by decide +kernel
theorem dX12_log_48 : decode cX12_log 48 = .ok (.iaload, 1) := by decide +kernel
theorem dX12_log_49 : decode cX12_log 49 = .ok (.iconst 1, 1) := by decide +kernel
theorem dX12_log_50 : decode cX12_log 50 = .ok (.isub, 1) := by decide +kernel
theorem dX12_log_51 : decode cX12_log 51 = .ok (.iload_n 1, 1) := by decide +kernel
theorem dX12_log_52 : decode cX12_log 52 = .ok (.isub, 1) := by decide +kernel
theorem dX12_log_53 : decode cX12_log 53 = .ok (.imul, 1) := by decide +kernel
theorem dX12_log_54 : decode cX12_log 54 = .ok (.iadd, 1) := by decide +kernel
theorem dX12_log_55 : decode cX12_log 55 = .ok (.iload_n 2, 1) := by decide +kernel
theorem dX12_log_56 : decode cX12_log 56 = .ok (.iadd, 1) := by decide +kernel
theorem dX12_log_57 : decode cX12_log 57 = .ok (.iaload, 1) := by decide +kernel
theorem dX12_log_58 : decode cX12_log 58 = .ok (.ireturn, 1) := by decide +kernel
theorem dX12_image_0 : decode cX12_image 0 = .ok (.aload_n 0, 1) := by decide +kernel
theorem dX12_image_1 : decode cX12_image 1 = .ok (.iconst 0, 1) := by decide +kernel
theorem dX12_image_2 : decode cX12_image 2 = .ok (.putfield 79, 3) := by decide +kernel
theorem dX12_image_5 : decode cX12_image 5 = .ok (.aload_n 0, 1) := by decide +kernel
theorem dX12_image_6 : decode cX12_image 6 = .ok (.getfield 189, 3) := by decide +kernel
theorem dX12_image_9 : decode cX12_image 9 = .ok (.ifCond .ne 5, 3) := by decide +kernel
theorem dX12_image_12 : decode cX12_image 12 = .ok (.iconst (-1), 1) := by decide +kernel
theorem dX12_image_13 : decode cX12_image 13 = .ok (.ireturn, 1) := by decide +kernel
theorem dX12_image_14 : decode cX12_image 14 = .ok (.aload_n 0, 1) := by decide +kernel
theorem dX12_image_15 : decode cX12_image 15 = .ok (.getfield 44, 3) := by decide +kernel
theorem dX12_image_18 : decode cX12_image 18 = .ok (.iconst 0, 1) := by decide +kernel
theorem dX12_image_19 : decode cX12_image 19 = .ok (.aload_n 0, 1) := by decide +kernel
theorem dX12_image_20 : decode cX12_image 20 = .ok (.getfield 50, 3) := by decide +kernel
theorem dX12_image_23 : decode cX12_image 23 = .ok (.iconst 0, 1) := by decide +kernel
theorem dX12_image_24 : decode cX12_image 24 = .ok (.invokestatic 208, 3) := by decide +kernel
theorem dX12_image_27 : decode cX12_image 27 = .ok (.aload_n 0, 1) := by decide +kernel
theorem dX12_image_28 : decode cX12_image 28 = .ok (.iconst 1, 1) := by decide +kernel
theorem dX12_image_29 : decode cX12_image 29 = .ok (.putfield 215, 3) := by decide +kernel
theorem dX12_image_32 : decode cX12_image 32 = .ok (.aload_n 0, 1) := by decide +kernel
theorem dX12_image_33 : decode cX12_image 33 = .ok (.getfield 44, 3) := by decide +kernel
theorem dX12_image_36 : decode cX12_image 36 = .ok (.aload_n 0, 1) := by decide +kernel
theorem dX12_image_37 : decode cX12_image 37 = .ok (.getfield 189, 3) := by decide +kernel
theorem dX12_image_40 : decode cX12_image 40 = .ok (.iconst 0, 1) := by decide +kernel
theorem dX12_image_41 : decode cX12_image 41 = .ok (.invokestatic 248, 3) := by decide +kernel
theorem dX12_image_44 : decode cX12_image 44 = .ok (.ireturn, 1) := by decide +kernel
theorem dX12_back_0 : decode cX12_back 0 = .ok (.aload_n 0, 1) := by decide +kernel
theorem dX12_back_1 : decode cX12_back 1 = .ok (.iconst 0, 1) := by decide +kernel
theorem dX12_back_2 : decode cX12_back 2 = .ok (.putfield 79, 3) := by decide +kernel
theorem dX12_back_5 : decode cX12_back 5 = .ok (.aload_n 0, 1) := by decide +kernel
theorem dX12_back_6 : decode cX12_back 6 = .ok (.getfield 215, 3) := by decide +kernel
theorem dX12_back_9 : decode cX12_back 9 = .ok (.ifCond .ne 5, 3) := by decide +kernel
theorem dX12_back_12 : decode cX12_back 12 = .ok (.iconst (-1), 1) := by decide +kernel
theorem dX12_back_13 : decode cX12_back 13 = .ok (.ireturn, 1) := by decide +kernel
theorem dX12_back_14 : decode cX12_back 14 = .ok (.aload_n 0, 1) := by decide +kernel
theorem dX12_back_15 : decode cX12_back 15 = .ok (.getfield 50, 3) := by decide +kernel
theorem dX12_back_18 : decode cX12_back 18 = .ok (.iconst 0, 1) := by decide +kernel
theorem dX12_back_19 : decode cX12_back 19 = .ok (.aload_n 0, 1) := by decide +kernel
theorem dX12_back_20 : decode cX12_back 20 = .ok (.getfield 44, 3) := by decide +kernel
theorem dX12_back_23 : decode cX12_back 23 = .ok (.iconst 0, 1) := by decide +kernel
theorem dX12_back_24 : decode cX12_back 24 = .ok (.invokestatic 208, 3) := by decide +kernel
theorem dX12_back_27 : decode cX12_back 27 = .ok (.aload_n 0, 1) := by decide +kernel
theorem dX12_back_28 : decode cX12_back 28 = .ok (.iconst 0, 1) := by decide +kernel
theorem dX12_back_29 : decode cX12_back 29 = .ok (.putfield 212, 3) := by decide +kernel
theorem dX12_back_32 : decode cX12_back 32 = .ok (.aload_n 0, 1) := by decide +kernel
theorem dX12_back_33 : decode cX12_back 33 = .ok (.getfield 44, 3) := by decide +kernel
theorem dX12_back_36 : decode cX12_back 36 = .ok (.aload_n 0, 1) := by decide +kernel
theorem dX12_back_37 : decode cX12_back 37 = .ok (.getfield 189, 3) := by decide +kernel
theorem dX12_back_40 : decode cX12_back 40 = .ok (.iconst 0, 1) := by decide +kernel
theorem dX12_back_41 : decode cX12_back 41 = .ok (.invokestatic 248, 3) := by decide +kernel
theorem dX12_back_44 : decode cX12_back 44 = .ok (.ireturn, 1) := by decide +kernel
theorem dX12_isScript_0 : decode cX12_isScript 0 = .ok (.iload_n 1, 1) := by decide +kernel
theorem dX12_isScript_1 : decode cX12_isScript 1 = .ok (.i2l, 1) := by decide +kernel
theorem dX12_isScript_2 : decode cX12_isScript 2 = .ok (.lconst 0, 1) := by decide +kernel
theorem dX12_isScript_3 : decode cX12_isScript 3 = .ok (.aload_n 0, 1) := by decide +kernel
theorem dX12_isScript_4 : decode cX12_isScript 4 = .ok (.getfield 192, 3) := by decide +kernel
theorem dX12_isScript_7 : decode cX12_isScript 7 = .ok (.iconst 1, 1) := by decide +kernel
theorem dX12_isScript_8 : decode cX12_isScript 8 = .ok (.isub, 1) := by decide +kernel
theorem dX12_isScript_9 : decode cX12_isScript 9 = .ok (.i2l, 1) := by decide +kernel
theorem dX12_isScript_10 : decode cX12_isScript 10 = .ok (.invokestatic 122, 3) := by decide +kernel
theorem dX12_isScript_13 : decode cX12_isScript 13 = .ok (.ireturn, 1) := by decide +kernel
theorem dX12_step_0 : decode cX12_step 0 = .ok (.aload_n 0, 1) := by decide +kernel
theorem dX12_step_1 : decode cX12_step 1 = .ok (.iconst 0, 1) := by decide +kernel
theorem dX12_step_2 : decode cX12_step 2 = .ok (.putfield 79, 3) := by decide +kernel
theorem dX12_step_5 : decode cX12_step 5 = .ok (.aload_n 0, 1) := by decide +kernel
theorem dX12_step_6 : decode cX12_step 6 = .ok (.iload_n 1, 1) := by decide +kernel
theorem dX12_step_7 : decode cX12_step 7 = .ok (.invokevirtual 359, 3) := by decide +kernel
theorem dX12_step_10 : decode cX12_step 10 = .ok (.ifCond .eq 33, 3) := by decide +kernel
theorem dX12_step_13 : decode cX12_step 13 = .ok (.iload_n 2, 1) := by decide +kernel
theorem dX12_step_14 : decode cX12_step 14 = .ok (.i2l, 1) := by decide +kernel
theorem dX12_step_15 : decode cX12_step 15 = .ok (.lconst 0, 1) := by decide +kernel
theorem dX12_step_16 : decode cX12_step 16 = .ok (.aload_n 0, 1) := by decide +kernel
theorem dX12_step_17 : decode cX12_step 17 = .ok (.getfield 32, 3) := by decide +kernel
theorem dX12_step_20 : decode cX12_step 20 = .ok (.iload_n 1, 1) := by decide +kernel
theorem dX12_step_21 : decode cX12_step 21 = .ok (.iaload, 1) := by decide +kernel
theorem dX12_step_22 : decode cX12_step 22 = .ok (.iconst 1, 1) := by decide +kernel
theorem dX12_step_23 : decode cX12_step 23 = .ok (.isub, 1) := by decide +kernel
theorem dX12_step_24 : decode cX12_step 24 = .ok (.i2l, 1) := by decide +kernel
theorem dX12_step_25 : decode cX12_step 25 = .ok (.invokestatic 122, 3) := by decide +kernel
theorem dX12_step_28 : decode cX12_step 28 = .ok (.ifCond .eq 15, 3) := by decide +kernel
theorem dX12_step_31 : decode cX12_step 31 = .ok (.iload_n 3, 1) := by decide +kernel
theorem dX12_step_32 : decode cX12_step 32 = .ok (.i2l, 1) := by decide +kernel
theorem dX12_step_33 : decode cX12_step 33 = .ok (.lconst 0, 1) := by decide +kernel
theorem dX12_step_34 : decode cX12_step 34 = .ok (.ldc2_w 362, 3) := by decide +kernel
theorem dX12_step_37 : decode cX12_step 37 = .ok (.invokestatic 122, 3) := by decide +kernel
theorem dX12_step_40 : decode cX12_step 40 = .ok (.ifCond .ne 6, 3) := by decide +kernel
theorem dX12_step_43 : decode cX12_step 43 = .ok (.ldc 173, 2) := by decide +kernel
theorem dX12_step_45 : decode cX12_step 45 = .ok (.ireturn, 1) := by decide +kernel
theorem dX12_step_46 : decode cX12_step 46 = .ok (.aload_n 0, 1) := by decide +kernel
theorem dX12_step_47 : decode cX12_step 47 = .ok (.getfield 29, 3) := by decide +kernel
theorem dX12_step_50 : decode cX12_step 50 = .ok (.iconst 4, 1) := by decide +kernel
theorem dX12_step_51 : decode cX12_step 51 = .ok (.bipush 16, 2) := by decide +kernel
theorem dX12_step_53 : decode cX12_step 53 = .ok (.iload_n 1, 1) := by decide +kernel
theorem dX12_step_54 : decode cX12_step 54 = .ok (.imul, 1) := by decide +kernel
theorem dX12_step_55 : decode cX12_step 55 = .ok (.iload_n 2, 1) := by decide +kernel
theorem dX12_step_56 : decode cX12_step 56 = .ok (.iadd, 1) := by decide +kernel
theorem dX12_step_57 : decode cX12_step 57 = .ok (.imul, 1) := by decide +kernel
theorem dX12_step_58 : decode cX12_step 58 = .ok (.iload_n 3, 1) := by decide +kernel
theorem dX12_step_59 : decode cX12_step 59 = .ok (.iadd, 1) := by decide +kernel
theorem dX12_step_60 : decode cX12_step 60 = .ok (.iaload, 1) := by decide +kernel
theorem dX12_step_61 : decode cX12_step 61 = .ok (.ireturn, 1) := by decide +kernel
theorem dX12_doesStep_0 : decode cX12_doesStep 0 = .ok (.aload_n 0, 1) := by decide +kernel
theorem dX12_doesStep_1 : decode cX12_doesStep 1 = .ok (.getfield 29, 3) := by decide +kernel
theorem dX12_doesStep_4 : decode cX12_doesStep 4 = .ok (.iload_n 2, 1) := by decide +kernel
theorem dX12_doesStep_5 : decode cX12_doesStep 5 = .ok (.iaload, 1) := by decide +kernel
theorem dX12_doesStep_6 : decode cX12_doesStep 6 = .ok (.istore_n 3, 1) := by decide +kernel
theorem dX12_doesStep_7 : decode cX12_doesStep 7 = .ok (.aload_n 0, 1) := by decide +kernel
theorem dX12_doesStep_8 : decode cX12_doesStep 8 = .ok (.aload_n 1, 1) := by decide +kernel
theorem dX12_doesStep_9 : decode cX12_doesStep 9 = .ok (.iload_n 3, 1) := by decide +kernel
theorem dX12_doesStep_10 : decode cX12_doesStep 10 = .ok (.aload_n 0, 1) := by decide +kernel
theorem dX12_doesStep_11 : decode cX12_doesStep 11 = .ok (.getfield 29, 3) := by decide +kernel
theorem dX12_doesStep_14 : decode cX12_doesStep 14 = .ok (.iload_n 2, 1) := by decide +kernel
theorem dX12_doesStep_15 : decode cX12_doesStep 15 = .ok (.iconst 1, 1) := by decide +kernel
theorem dX12_doesStep_16 : decode cX12_doesStep 16 = .ok (.iadd, 1) := by decide +kernel
theorem dX12_doesStep_17 : decode cX12_doesStep 17 = .ok (.iaload, 1) := by decide +kernel
theorem dX12_doesStep_18 : decode cX12_doesStep 18 = .ok (.iload_n 3, 1) := by decide +kernel
theorem dX12_doesStep_19 : decode cX12_doesStep 19 = .ok (.iconst 2, 1) := by decide +kernel
theorem dX12_doesStep_20 : decode cX12_doesStep 20 = .ok (.if_icmp .ge 14, 3) := by decide +kernel
theorem dX12_doesStep_23 : decode cX12_doesStep 23 = .ok (.aload_n 0, 1) := by decide +kernel
theorem dX12_doesStep_24 : decode cX12_doesStep 24 = .ok (.getfield 29, 3) := by decide +kernel
theorem dX12_doesStep_27 : decode cX12_doesStep 27 = .ok (.iload_n 2, 1) := by decide +kernel
theorem dX12_doesStep_28 : decode cX12_doesStep 28 = .ok (.iconst 2, 1) := by decide +kernel
theorem dX12_doesStep_29 : decode cX12_doesStep 29 = .ok (.iadd, 1) := by decide +kernel
theorem dX12_doesStep_30 : decode cX12_doesStep 30 = .ok (.iaload, 1) := by decide +kernel
theorem dX12_doesStep_31 : decode cX12_doesStep 31 = .ok (.goto 4, 3) := by decide +kernel
theorem dX12_doesStep_34 : decode cX12_doesStep 34 = .ok (.iconst 0, 1) := by decide +kernel
theorem dX12_doesStep_35 : decode cX12_doesStep 35 = .ok (.iload_n 3, 1) := by decide +kernel
theorem dX12_doesStep_36 : decode cX12_doesStep 36 = .ok (.ifCond .ne 14, 3) := by decide +kernel
theorem dX12_doesStep_39 : decode cX12_doesStep 39 = .ok (.aload_n 0, 1) := by decide +kernel
theorem dX12_doesStep_40 : decode cX12_doesStep 40 = .ok (.getfield 29, 3) := by decide +kernel
theorem dX12_doesStep_43 : decode cX12_doesStep 43 = .ok (.iload_n 2, 1) := by decide +kernel
theorem dX12_doesStep_44 : decode cX12_doesStep 44 = .ok (.iconst 3, 1) := by decide +kernel
theorem dX12_doesStep_45 : decode cX12_doesStep 45 = .ok (.iadd, 1) := by decide +kernel
theorem dX12_doesStep_46 : decode cX12_doesStep 46 = .ok (.iaload, 1) := by decide +kernel
theorem dX12_doesStep_47 : decode cX12_doesStep 47 = .ok (.goto 4, 3) := by decide +kernel
theorem dX12_doesStep_50 : decode cX12_doesStep 50 = .ok (.iconst 0, 1) := by decide +kernel
theorem dX12_doesStep_51 : decode cX12_doesStep 51 = .ok (.invokevirtual 322, 3) := by decide +kernel
theorem dX12_doesStep_54 : decode cX12_doesStep 54 = .ok (.ireturn, 1) := by decide +kernel
theorem dX12_goes_0 : decode cX12_goes 0 = .ok (.aload_n 0, 1) := by decide +kernel
theorem dX12_goes_1 : decode cX12_goes 1 = .ok (.getfield 44, 3) := by decide +kernel
theorem dX12_goes_4 : decode cX12_goes 4 = .ok (.iconst 0, 1) := by decide +kernel
theorem dX12_goes_5 : decode cX12_goes 5 = .ok (.aload_n 0, 1) := by decide +kernel
theorem dX12_goes_6 : decode cX12_goes 6 = .ok (.getfield 47, 3) := by decide +kernel
theorem dX12_goes_9 : decode cX12_goes 9 = .ok (.iconst 0, 1) := by decide +kernel
theorem dX12_goes_10 : decode cX12_goes 10 = .ok (.invokestatic 208, 3) := by decide +kernel
theorem dX12_goes_13 : decode cX12_goes 13 = .ok (.iconst 0, 1) := by decide +kernel
theorem dX12_goes_14 : decode cX12_goes 14 = .ok (.istore_n 2, 1) := by decide +kernel
theorem dX12_goes_15 : decode cX12_goes 15 = .ok (.aload_n 0, 1) := by decide +kernel
theorem dX12_goes_16 : decode cX12_goes 16 = .ok (.iconst (-1), 1) := by decide +kernel
theorem dX12_goes_17 : decode cX12_goes 17 = .ok (.putfield 364, 3) := by decide +kernel
theorem dX12_goes_20 : decode cX12_goes 20 = .ok (.iload_n 2, 1) := by decide +kernel
theorem dX12_goes_21 : decode cX12_goes 21 = .ok (.aload_n 0, 1) := by decide +kernel
theorem dX12_goes_22 : decode cX12_goes 22 = .ok (.getfield 32, 3) := by decide +kernel
theorem dX12_goes_25 : decode cX12_goes 25 = .ok (.iload_n 1, 1) := by decide +kernel
theorem dX12_goes_26 : decode cX12_goes 26 = .ok (.iaload, 1) := by decide +kernel
theorem dX12_goes_27 : decode cX12_goes 27 = .ok (.if_icmp .ge 58, 3) := by decide +kernel
theorem dX12_goes_30 : decode cX12_goes 30 = .ok (.aload_n 0, 1) := by decide +kernel
theorem dX12_goes_31 : decode cX12_goes 31 = .ok (.getfield 364, 3) := by decide +kernel
theorem dX12_goes_34 : decode cX12_goes 34 = .ok (.iconst (-1), 1) := by decide +kernel
theorem dX12_goes_35 : decode cX12_goes 35 = .ok (.if_icmp .ne 50, 3) := by decide +kernel
theorem dX12_goes_38 : decode cX12_goes 38 = .ok (.aload_n 0, 1) := by decide +kernel
theorem dX12_goes_39 : decode cX12_goes 39 = .ok (.getfield 47, 3) := by decide +kernel
theorem dX12_goes_42 : decode cX12_goes 42 = .ok (.iconst 0, 1) := by decide +kernel
theorem dX12_goes_43 : decode cX12_goes 43 = .ok (.aload_n 0, 1) := by decide +kernel
theorem dX12_goes_44 : decode cX12_goes 44 = .ok (.getfield 76, 3) := by decide +kernel
theorem dX12_goes_47 : decode cX12_goes 47 = .ok (.iconst 0, 1) := by decide +kernel
theorem dX12_goes_48 : decode cX12_goes 48 = .ok (.invokestatic 208, 3) := by decide +kernel
theorem dX12_goes_51 : decode cX12_goes 51 = .ok (.aload_n 0, 1) := by decide +kernel
theorem dX12_goes_52 : decode cX12_goes 52 = .ok (.aload_n 0, 1) := by decide +kernel
theorem dX12_goes_53 : decode cX12_goes 53 = .ok (.aload_n 0, 1) := by decide +kernel
theorem dX12_goes_54 : decode cX12_goes 54 = .ok (.getfield 47, 3) := by decide +kernel
theorem dX12_goes_57 : decode cX12_goes 57 = .ok (.iconst 4, 1) := by decide +kernel
theorem dX12_goes_58 : decode cX12_goes 58 = .ok (.bipush 16, 2) := by decide +kernel
theorem dX12_goes_60 : decode cX12_goes 60 = .ok (.iload_n 1, 1) := by decide +kernel
theorem dX12_goes_61 : decode cX12_goes 61 = .ok (.imul, 1) := by decide +kernel
theorem dX12_goes_62 : decode cX12_goes 62 = .ok (.iload_n 2, 1) := by decide +kernel
theorem dX12_goes_63 : decode cX12_goes 63 = .ok (.iadd, 1) := by decide +kernel
theorem dX12_goes_64 : decode cX12_goes 64 = .ok (.imul, 1) := by decide +kernel
theorem dX12_goes_65 : decode cX12_goes 65 = .ok (.invokevirtual 367, 3) := by decide +kernel
theorem dX12_goes_68 : decode cX12_goes 68 = .ok (.putfield 364, 3) := by decide +kernel
theorem dX12_goes_71 : decode cX12_goes 71 = .ok (.aload_n 0, 1) := by decide +kernel
theorem dX12_goes_72 : decode cX12_goes 72 = .ok (.getfield 364, 3) := by decide +kernel
theorem dX12_goes_75 : decode cX12_goes 75 = .ok (.iconst (-1), 1) := by decide +kernel
theorem dX12_goes_76 : decode cX12_goes 76 = .ok (.if_icmp .ne (-56), 3) := by decide +kernel
theorem dX12_goes_79 : decode cX12_goes 79 = .ok (.iinc 2 1, 3) := by decide +kernel
theorem dX12_goes_82 : decode cX12_goes 82 = .ok (.goto (-62), 3) := by decide +kernel
theorem dX12_goes_85 : decode cX12_goes 85 = .ok (.iload_n 2, 1) := by decide +kernel
theorem dX12_goes_86 : decode cX12_goes 86 = .ok (.ireturn, 1) := by decide +kernel
theorem dX12_run_0 : decode cX12_run 0 = .ok (.aload_n 0, 1) := by decide +kernel
theorem dX12_run_1 : decode cX12_run 1 = .ok (.iconst 0, 1) := by decide +kernel
theorem dX12_run_2 : decode cX12_run 2 = .ok (.putfield 79, 3) := by decide +kernel
theorem dX12_run_5 : decode cX12_run 5 = .ok (.aload_n 0, 1) := by decide +kernel
theorem dX12_run_6 : decode cX12_run 6 = .ok (.iload_n 1, 1) := by decide +kernel
theorem dX12_run_7 : decode cX12_run 7 = .ok (.invokevirtual 359, 3) := by decide +kernel
theorem dX12_run_10 : decode cX12_run 10 = .ok (.ifCond .eq 20, 3) := by decide +kernel
theorem dX12_run_13 : decode cX12_run 13 = .ok (.aload_n 0, 1) := by decide +kernel
theorem dX12_run_14 : decode cX12_run 14 = .ok (.getfield 189, 3) := by decide +kernel
theorem dX12_run_17 : decode cX12_run 17 = .ok (.ifCond .eq 13, 3) := by decide +kernel
theorem dX12_run_20 : decode cX12_run 20 = .ok (.iload_n 2, 1) := by decide +kernel
theorem dX12_run_21 : decode cX12_run 21 = .ok (.i2l, 1) := by decide +kernel
theorem dX12_run_22 : decode cX12_run 22 = .ok (.lconst 0, 1) := by decide +kernel
theorem dX12_run_23 : decode cX12_run 23 = .ok (.lconst 1, 1) := by decide +kernel
theorem dX12_run_24 : decode cX12_run 24 = .ok (.invokestatic 122, 3) := by decide +kernel
theorem dX12_run_27 : decode cX12_run 27 = .ok (.ifCond .ne 6, 3) := by decide +kernel
theorem dX12_run_30 : decode cX12_run 30 = .ok (.ldc 173, 2) := by decide +kernel
theorem dX12_run_32 : decode cX12_run 32 = .ok (.ireturn, 1) := by decide +kernel
theorem dX12_run_33 : decode cX12_run 33 = .ok (.aload_n 0, 1) := by decide +kernel
theorem dX12_run_34 : decode cX12_run 34 = .ok (.iload_n 1, 1) := by decide +kernel
theorem dX12_run_35 : decode cX12_run 35 = .ok (.invokevirtual 370, 3) := by decide +kernel
theorem dX12_run_38 : decode cX12_run 38 = .ok (.istore_n 3, 1) := by decide +kernel
theorem dX12_run_39 : decode cX12_run 39 = .ok (.iload_n 2, 1) := by decide +kernel
theorem dX12_run_40 : decode cX12_run 40 = .ok (.ifCond .ne 17, 3) := by decide +kernel
theorem dX12_run_43 : decode cX12_run 43 = .ok (.aload_n 0, 1) := by decide +kernel
theorem dX12_run_44 : decode cX12_run 44 = .ok (.getfield 364, 3) := by decide +kernel
theorem dX12_run_47 : decode cX12_run 47 = .ok (.iconst (-1), 1) := by decide +kernel
theorem dX12_run_48 : decode cX12_run 48 = .ok (.if_icmp .ne 7, 3) := by decide +kernel
theorem dX12_run_51 : decode cX12_run 51 = .ok (.iconst (-1), 1) := by decide +kernel
theorem dX12_run_52 : decode cX12_run 52 = .ok (.goto 4, 3) := by decide +kernel
theorem dX12_run_55 : decode cX12_run 55 = .ok (.iload_n 3, 1) := by decide +kernel
theorem dX12_run_56 : decode cX12_run 56 = .ok (.ireturn, 1) := by decide +kernel
theorem dX12_run_57 : decode cX12_run 57 = .ok (.aload_n 0, 1) := by decide +kernel
theorem dX12_run_58 : decode cX12_run 58 = .ok (.getfield 364, 3) := by decide +kernel
theorem dX12_run_61 : decode cX12_run 61 = .ok (.iconst (-1), 1) := by decide +kernel
theorem dX12_run_62 : decode cX12_run 62 = .ok (.if_icmp .ne 10, 3) := by decide +kernel
theorem dX12_run_65 : decode cX12_run 65 = .ok (.aload_n 0, 1) := by decide +kernel
theorem dX12_run_66 : decode cX12_run 66 = .ok (.getfield 47, 3) := by decide +kernel
theorem dX12_run_69 : decode cX12_run 69 = .ok (.goto 7, 3) := by decide +kernel
theorem dX12_run_72 : decode cX12_run 72 = .ok (.aload_n 0, 1) := by decide +kernel
theorem dX12_run_73 : decode cX12_run 73 = .ok (.getfield 76, 3) := by decide +kernel
theorem dX12_run_76 : decode cX12_run 76 = .ok (.aload_n 0, 1) := by decide +kernel
theorem dX12_run_77 : decode cX12_run 77 = .ok (.getfield 189, 3) := by decide +kernel
theorem dX12_run_80 : decode cX12_run 80 = .ok (.iconst 0, 1) := by decide +kernel
theorem dX12_run_81 : decode cX12_run 81 = .ok (.invokestatic 248, 3) := by decide +kernel
theorem dX12_run_84 : decode cX12_run 84 = .ok (.invokestatic 373, 3) := by decide +kernel
theorem dX12_run_87 : decode cX12_run 87 = .ok (.ireturn, 1) := by decide +kernel
theorem dX12_perform_0 : decode cX12_perform 0 = .ok (.aload_n 0, 1) := by decide +kernel
theorem dX12_perform_1 : decode cX12_perform 1 = .ok (.iconst 0, 1) := by decide +kernel
theorem dX12_perform_2 : decode cX12_perform 2 = .ok (.putfield 79, 3) := by decide +kernel
theorem dX12_perform_5 : decode cX12_perform 5 = .ok (.aload_n 0, 1) := by decide +kernel
theorem dX12_perform_6 : decode cX12_perform 6 = .ok (.iload_n 1, 1) := by decide +kernel
theorem dX12_perform_7 : decode cX12_perform 7 = .ok (.invokevirtual 359, 3) := by decide +kernel
theorem dX12_perform_10 : decode cX12_perform 10 = .ok (.ifCond .eq 10, 3) := by decide +kernel
theorem dX12_perform_13 : decode cX12_perform 13 = .ok (.aload_n 0, 1) := by decide +kernel
theorem dX12_perform_14 : decode cX12_perform 14 = .ok (.getfield 189, 3) := by decide +kernel
theorem dX12_perform_17 : decode cX12_perform 17 = .ok (.ifCond .ne 25, 3) := by decide +kernel
theorem dX12_perform_20 : decode cX12_perform 20 = .ok (.aload_n 0, 1) := by decide +kernel
theorem dX12_perform_21 : decode cX12_perform 21 = .ok (.iconst 0, 1) := by decide +kernel
theorem dX12_perform_22 : decode cX12_perform 22 = .ok (.putfield 273, 3) := by decide +kernel
theorem dX12_perform_25 : decode cX12_perform 25 = .ok (.aload_n 0, 1) := by decide +kernel
theorem dX12_perform_26 : decode cX12_perform 26 = .ok (.iconst 0, 1) := by decide +kernel
theorem dX12_perform_27 : decode cX12_perform 27 = .ok (.invokevirtual 320, 3) := by decide +kernel
theorem dX12_perform_30 : decode cX12_perform 30 = .ok (.aload_n 0, 1) := by decide +kernel
theorem dX12_perform_31 : decode cX12_perform 31 = .ok (.getfield 35, 3) := by decide +kernel
theorem dX12_perform_34 : decode cX12_perform 34 = .ok (.iconst 0, 1) := by decide +kernel
theorem dX12_perform_35 : decode cX12_perform 35 = .ok (.dup2, 1) := by decide +kernel
theorem dX12_perform_36 : decode cX12_perform 36 = .ok (.iaload, 1) := by decide +kernel
theorem dX12_perform_37 : decode cX12_perform 37 = .ok (.iconst 1, 1) := by decide +kernel
theorem dX12_perform_38 : decode cX12_perform 38 = .ok (.iadd, 1) := by decide +kernel
theorem dX12_perform_39 : decode cX12_perform 39 = .ok (.iastore, 1) := by decide +kernel
theorem dX12_perform_40 : decode cX12_perform 40 = .ok (.iconst (-1), 1) := by decide +kernel
theorem dX12_perform_41 : decode cX12_perform 41 = .ok (.ireturn, 1) := by decide +kernel
theorem dX12_perform_42 : decode cX12_perform 42 = .ok (.aload_n 0, 1) := by decide +kernel
theorem dX12_perform_43 : decode cX12_perform 43 = .ok (.iload_n 1, 1) := by decide +kernel
theorem dX12_perform_44 : decode cX12_perform 44 = .ok (.invokevirtual 370, 3) := by decide +kernel
theorem dX12_perform_47 : decode cX12_perform 47 = .ok (.istore_n 2, 1) := by decide +kernel
theorem dX12_perform_48 : decode cX12_perform 48 = .ok (.aload_n 0, 1) := by decide +kernel
theorem dX12_perform_49 : decode cX12_perform 49 = .ok (.getfield 364, 3) := by decide +kernel
theorem dX12_perform_52 : decode cX12_perform 52 = .ok (.iconst (-1), 1) := by decide +kernel
theorem dX12_perform_53 : decode cX12_perform 53 = .ok (.if_icmp .eq 40, 3) := by decide +kernel
theorem dX12_perform_56 : decode cX12_perform 56 = .ok (.aload_n 0, 1) := by decide +kernel
theorem dX12_perform_57 : decode cX12_perform 57 = .ok (.iconst 0, 1) := by decide +kernel
theorem dX12_perform_58 : decode cX12_perform 58 = .ok (.putfield 273, 3) := by decide +kernel
theorem dX12_perform_61 : decode cX12_perform 61 = .ok (.aload_n 0, 1) := by decide +kernel
theorem dX12_perform_62 : decode cX12_perform 62 = .ok (.sipush 1000, 3) := by decide +kernel
theorem dX12_perform_65 : decode cX12_perform 65 = .ok (.iload_n 2, 1) := by decide +kernel
theorem dX12_perform_66 : decode cX12_perform 66 = .ok (.iadd, 1) := by decide +kernel
theorem dX12_perform_67 : decode cX12_perform 67 = .ok (.invokevirtual 320, 3) := by decide +kernel
theorem dX12_perform_70 : decode cX12_perform 70 = .ok (.aload_n 0, 1) := by decide +kernel
theorem dX12_perform_71 : decode cX12_perform 71 = .ok (.aload_n 0, 1) := by decide +kernel
theorem dX12_perform_72 : decode cX12_perform 72 = .ok (.getfield 364, 3) := by decide +kernel
theorem dX12_perform_75 : decode cX12_perform 75 = .ok (.aload_n 0, 1) := by decide +kernel
theorem dX12_perform_76 : decode cX12_perform 76 = .ok (.getfield 29, 3) := by decide +kernel
theorem dX12_perform_79 : decode cX12_perform 79 = .ok (.iconst 4, 1) := by decide +kernel
theorem dX12_perform_80 : decode cX12_perform 80 = .ok (.bipush 16, 2) := by decide +kernel
theorem dX12_perform_82 : decode cX12_perform 82 = .ok (.iload_n 1, 1) := by decide +kernel
theorem dX12_perform_83 : decode cX12_perform 83 = .ok (.imul, 1) := by decide +kernel
theorem dX12_perform_84 : decode cX12_perform 84 = .ok (.iload_n 2, 1) := by decide +kernel
theorem dX12_perform_85 : decode cX12_perform 85 = .ok (.iadd, 1) := by decide +kernel
theorem dX12_perform_86 : decode cX12_perform 86 = .ok (.imul, 1) := by decide +kernel
theorem dX12_perform_87 : decode cX12_perform 87 = .ok (.iaload, 1) := by decide +kernel
theorem dX12_perform_88 : decode cX12_perform 88 = .ok (.invokevirtual 325, 3) := by decide +kernel
theorem dX12_perform_91 : decode cX12_perform 91 = .ok (.iconst (-1), 1) := by decide +kernel
theorem dX12_perform_92 : decode cX12_perform 92 = .ok (.ireturn, 1) := by decide +kernel
theorem dX12_perform_93 : decode cX12_perform 93 = .ok (.aload_n 0, 1) := by decide +kernel
theorem dX12_perform_94 : decode cX12_perform 94 = .ok (.invokevirtual 329, 3) := by decide +kernel
theorem dX12_perform_97 : decode cX12_perform 97 = .ok (.aload_n 0, 1) := by decide +kernel
theorem dX12_perform_98 : decode cX12_perform 98 = .ok (.getfield 47, 3) := by decide +kernel
theorem dX12_perform_101 : decode cX12_perform 101 = .ok (.iconst 0, 1) := by decide +kernel
theorem dX12_perform_102 : decode cX12_perform 102 = .ok (.aload_n 0, 1) := by decide +kernel
theorem dX12_perform_103 : decode cX12_perform 103 = .ok (.getfield 44, 3) := by decide +kernel
theorem dX12_perform_106 : decode cX12_perform 106 = .ok (.iconst 0, 1) := by decide +kernel
theorem dX12_perform_107 : decode cX12_perform 107 = .ok (.invokestatic 208, 3) := by decide +kernel
theorem dX12_perform_110 : decode cX12_perform 110 = .ok (.iload_n 2, 1) := by decide +kernel
theorem dX12_perform_111 : decode cX12_perform 111 = .ok (.ireturn, 1) := by decide +kernel
theorem dX12_size_0 : decode cX12_size 0 = .ok (.iconst 0, 1) := by decide +kernel
theorem dX12_size_1 : decode cX12_size 1 = .ok (.istore_n 1, 1) := by decide +kernel
theorem dX12_size_2 : decode cX12_size 2 = .ok (.iconst 0, 1) := by decide +kernel
theorem dX12_size_3 : decode cX12_size 3 = .ok (.istore_n 2, 1) := by decide +kernel
theorem dX12_size_4 : decode cX12_size 4 = .ok (.iload_n 2, 1) := by decide +kernel
theorem dX12_size_5 : decode cX12_size 5 = .ok (.bipush 8, 2) := by decide +kernel
theorem dX12_size_7 : decode cX12_size 7 = .ok (.if_icmp .ge 17, 3) := by decide +kernel
theorem dX12_size_10 : decode cX12_size 10 = .ok (.iload_n 1, 1) := by decide +kernel
theorem dX12_size_11 : decode cX12_size 11 = .ok (.iload_n 0, 1) := by decide +kernel
theorem dX12_size_12 : decode cX12_size 12 = .ok (.iload_n 2, 1) := by decide +kernel
theorem dX12_size_13 : decode cX12_size 13 = .ok (.ishr, 1) := by decide +kernel
theorem dX12_size_14 : decode cX12_size 14 = .ok (.iconst 1, 1) := by decide +kernel
theorem dX12_size_15 : decode cX12_size 15 = .ok (.iand, 1) := by decide +kernel
theorem dX12_size_16 : decode cX12_size 16 = .ok (.iadd, 1) := by decide +kernel
theorem dX12_size_17 : decode cX12_size 17 = .ok (.istore_n 1, 1) := by decide +kernel
theorem dX12_size_18 : decode cX12_size 18 = .ok (.iinc 2 1, 3) := by decide +kernel
theorem dX12_size_21 : decode cX12_size 21 = .ok (.goto (-17), 3) := by decide +kernel
theorem dX12_size_24 : decode cX12_size 24 = .ok (.iload_n 1, 1) := by decide +kernel
theorem dX12_size_25 : decode cX12_size 25 = .ok (.ireturn, 1) := by decide +kernel
theorem dX12_common_0 : decode cX12_common 0 = .ok (.lload_n 0, 1) := by decide +kernel
theorem dX12_common_1 : decode cX12_common 1 = .ok (.lconst 0, 1) := by decide +kernel
theorem dX12_common_2 : decode cX12_common 2 = .ok (.lcmp, 1) := by decide +kernel
theorem dX12_common_3 : decode cX12_common 3 = .ok (.ifCond .ge 8, 3) := by decide +kernel
theorem dX12_common_6 : decode cX12_common 6 = .ok (.lload_n 0, 1) := by decide +kernel
theorem dX12_common_7 : decode cX12_common 7 = .ok (.lneg, 1) := by decide +kernel
theorem dX12_common_8 : decode cX12_common 8 = .ok (.goto 4, 3) := by decide +kernel
theorem dX12_common_11 : decode cX12_common 11 = .ok (.lload_n 0, 1) := by decide +kernel
theorem dX12_common_12 : decode cX12_common 12 = .ok (.lstore 4, 2) := by decide +kernel
theorem dX12_common_14 : decode cX12_common 14 = .ok (.lload_n 2, 1) := by decide +kernel
theorem dX12_common_15 : decode cX12_common 15 = .ok (.lstore 6, 2) := by decide +kernel
theorem dX12_common_17 : decode cX12_common 17 = .ok (.lload 6, 2) := by decide +kernel
theorem dX12_common_19 : decode cX12_common 19 = .ok (.lconst 0, 1) := by decide +kernel
theorem dX12_common_20 : decode cX12_common 20 = .ok (.lcmp, 1) := by decide +kernel
theorem dX12_common_21 : decode cX12_common 21 = .ok (.ifCond .eq 21, 3) := by decide +kernel
theorem dX12_common_24 : decode cX12_common 24 = .ok (.lload 4, 2) := by decide +kernel
theorem dX12_common_26 : decode cX12_common 26 = .ok (.lload 6, 2) := by decide +kernel
theorem dX12_common_28 : decode cX12_common 28 = .ok (.lrem, 1) := by decide +kernel
theorem dX12_common_29 : decode cX12_common 29 = .ok (.lstore 8, 2) := by decide +kernel
theorem dX12_common_31 : decode cX12_common 31 = .ok (.lload 6, 2) := by decide +kernel
theorem dX12_common_33 : decode cX12_common 33 = .ok (.lstore 4, 2) := by decide +kernel
theorem dX12_common_35 : decode cX12_common 35 = .ok (.lload 8, 2) := by decide +kernel
theorem dX12_common_37 : decode cX12_common 37 = .ok (.lstore 6, 2) := by decide +kernel
theorem dX12_common_39 : decode cX12_common 39 = .ok (.goto (-22), 3) := by decide +kernel
theorem dX12_common_42 : decode cX12_common 42 = .ok (.lload 4, 2) := by decide +kernel
theorem dX12_common_44 : decode cX12_common 44 = .ok (.lreturn, 1) := by decide +kernel
