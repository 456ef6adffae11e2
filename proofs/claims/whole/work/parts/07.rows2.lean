theorem dX7_readScript_33 : decode cX7_readScript 33 = .ok (.iload_n 2, 1) := by decide +kernel
theorem dX7_readScript_34 : decode cX7_readScript 34 = .ok (.iconst 1, 1) := by decide +kernel
theorem dX7_readScript_35 : decode cX7_readScript 35 = .ok (.iadd, 1) := by decide +kernel
theorem dX7_readScript_36 : decode cX7_readScript 36 = .ok (.putfield 106, 3) := by decide +kernel
theorem dX7_readScript_39 : decode cX7_readScript 39 = .ok (.aload_n 0, 1) := by decide +kernel
theorem dX7_readScript_40 : decode cX7_readScript 40 = .ok (.invokevirtual 35, 3) := by decide +kernel
theorem dX7_readScript_43 : decode cX7_readScript 43 = .ok (.aload_n 0, 1) := by decide +kernel
theorem dX7_readScript_44 : decode cX7_readScript 44 = .ok (.invokevirtual 38, 3) := by decide +kernel
theorem dX7_readScript_47 : decode cX7_readScript 47 = .ok (.iconst (-1), 1) := by decide +kernel
theorem dX7_readScript_48 : decode cX7_readScript 48 = .ok (.if_icmp .ne 5, 3) := by decide +kernel
theorem dX7_readScript_51 : decode cX7_readScript 51 = .ok (.iconst (-1), 1) := by decide +kernel
theorem dX7_readScript_52 : decode cX7_readScript 52 = .ok (.ireturn, 1) := by decide +kernel
theorem dX7_readScript_53 : decode cX7_readScript 53 = .ok (.aload_n 0, 1) := by decide +kernel
theorem dX7_readScript_54 : decode cX7_readScript 54 = .ok (.invokevirtual 38, 3) := by decide +kernel
theorem dX7_readScript_57 : decode cX7_readScript 57 = .ok (.bipush 59, 2) := by decide +kernel
theorem dX7_readScript_59 : decode cX7_readScript 59 = .ok (.if_icmp .ne 9, 3) := by decide +kernel
theorem dX7_readScript_62 : decode cX7_readScript 62 = .ok (.iload_n 2, 1) := by decide +kernel
theorem dX7_readScript_63 : decode cX7_readScript 63 = .ok (.bipush 15, 2) := by decide +kernel
theorem dX7_readScript_65 : decode cX7_readScript 65 = .ok (.if_icmp .ne 8, 3) := by decide +kernel
theorem dX7_readScript_68 : decode cX7_readScript 68 = .ok (.aload_n 0, 1) := by decide +kernel
theorem dX7_readScript_69 : decode cX7_readScript 69 = .ok (.getfield 9, 3) := by decide +kernel
theorem dX7_readScript_72 : decode cX7_readScript 72 = .ok (.ireturn, 1) := by decide +kernel
theorem dX7_readScript_73 : decode cX7_readScript 73 = .ok (.aload_n 0, 1) := by decide +kernel
theorem dX7_readScript_74 : decode cX7_readScript 74 = .ok (.dup, 1) := by decide +kernel
theorem dX7_readScript_75 : decode cX7_readScript 75 = .ok (.getfield 9, 3) := by decide +kernel
theorem dX7_readScript_78 : decode cX7_readScript 78 = .ok (.iconst 1, 1) := by decide +kernel
theorem dX7_readScript_79 : decode cX7_readScript 79 = .ok (.iadd, 1) := by decide +kernel
theorem dX7_readScript_80 : decode cX7_readScript 80 = .ok (.putfield 9, 3) := by decide +kernel
theorem dX7_readScript_83 : decode cX7_readScript 83 = .ok (.iinc 2 1, 3) := by decide +kernel
theorem dX7_readScript_86 : decode cX7_readScript 86 = .ok (.goto (-74), 3) := by decide +kernel
theorem dX7_readScript_89 : decode cX7_readScript 89 = .ok (.aload_n 0, 1) := by decide +kernel
theorem dX7_readScript_90 : decode cX7_readScript 90 = .ok (.getfield 9, 3) := by decide +kernel
theorem dX7_readScript_93 : decode cX7_readScript 93 = .ok (.ireturn, 1) := by decide +kernel
theorem dX7_readStep_0 : decode cX7_readStep 0 = .ok (.aload_n 0, 1) := by decide +kernel
theorem dX7_readStep_1 : decode cX7_readStep 1 = .ok (.invokevirtual 35, 3) := by decide +kernel
theorem dX7_readStep_4 : decode cX7_readStep 4 = .ok (.aload_n 0, 1) := by decide +kernel
theorem dX7_readStep_5 : decode cX7_readStep 5 = .ok (.invokevirtual 38, 3) := by decide +kernel
theorem dX7_readStep_8 : decode cX7_readStep 8 = .ok (.istore_n 3, 1) := by decide +kernel
theorem dX7_readStep_9 : decode cX7_readStep 9 = .ok (.iload_n 3, 1) := by decide +kernel
theorem dX7_readStep_10 : decode cX7_readStep 10 = .ok (.bipush 119, 2) := by decide +kernel
theorem dX7_readStep_12 : decode cX7_readStep 12 = .ok (.if_icmp .eq 23, 3) := by decide +kernel
theorem dX7_readStep_15 : decode cX7_readStep 15 = .ok (.iload_n 3, 1) := by decide +kernel
theorem dX7_readStep_16 : decode cX7_readStep 16 = .ok (.bipush 104, 2) := by decide +kernel
theorem dX7_readStep_18 : decode cX7_readStep 18 = .ok (.if_icmp .eq 17, 3) := by decide +kernel
theorem dX7_readStep_21 : decode cX7_readStep 21 = .ok (.iload_n 3, 1) := by decide +kernel
theorem dX7_readStep_22 : decode cX7_readStep 22 = .ok (.bipush 99, 2) := by decide +kernel
theorem dX7_readStep_24 : decode cX7_readStep 24 = .ok (.if_icmp .eq 11, 3) := by decide +kernel
theorem dX7_readStep_27 : decode cX7_readStep 27 = .ok (.iload_n 3, 1) := by decide +kernel
theorem dX7_readStep_28 : decode cX7_readStep 28 = .ok (.bipush 110, 2) := by decide +kernel
theorem dX7_readStep_30 : decode cX7_readStep 30 = .ok (.if_icmp .eq 5, 3) := by decide +kernel
theorem dX7_readStep_33 : decode cX7_readStep 33 = .ok (.iconst 0, 1) := by decide +kernel
theorem dX7_readStep_34 : decode cX7_readStep 34 = .ok (.ireturn, 1) := by decide +kernel
theorem dX7_readStep_35 : decode cX7_readStep 35 = .ok (.aload_n 0, 1) := by decide +kernel
theorem dX7_readStep_36 : decode cX7_readStep 36 = .ok (.dup, 1) := by decide +kernel
theorem dX7_readStep_37 : decode cX7_readStep 37 = .ok (.getfield 9, 3) := by decide +kernel
theorem dX7_readStep_40 : decode cX7_readStep 40 = .ok (.iconst 1, 1) := by decide +kernel
theorem dX7_readStep_41 : decode cX7_readStep 41 = .ok (.iadd, 1) := by decide +kernel
theorem dX7_readStep_42 : decode cX7_readStep 42 = .ok (.putfield 9, 3) := by decide +kernel
theorem dX7_readStep_45 : decode cX7_readStep 45 = .ok (.iload_n 3, 1) := by decide +kernel
theorem dX7_readStep_46 : decode cX7_readStep 46 = .ok (.bipush 119, 2) := by decide +kernel
theorem dX7_readStep_48 : decode cX7_readStep 48 = .ok (.if_icmp .ne 17, 3) := by decide +kernel
theorem dX7_readStep_51 : decode cX7_readStep 51 = .ok (.aload_n 1, 1) := by decide +kernel
theorem dX7_readStep_52 : decode cX7_readStep 52 = .ok (.iload_n 2, 1) := by decide +kernel
theorem dX7_readStep_53 : decode cX7_readStep 53 = .ok (.iconst 0, 1) := by decide +kernel
theorem dX7_readStep_54 : decode cX7_readStep 54 = .ok (.iconst 0, 1) := by decide +kernel
theorem dX7_readStep_55 : decode cX7_readStep 55 = .ok (.invokevirtual 115, 3) := by decide +kernel
theorem dX7_readStep_58 : decode cX7_readStep 58 = .ok (.aload_n 0, 1) := by decide +kernel
theorem dX7_readStep_59 : decode cX7_readStep 59 = .ok (.aload_n 1, 1) := by decide +kernel
theorem dX7_readStep_60 : decode cX7_readStep 60 = .ok (.iload_n 2, 1) := by decide +kernel
theorem dX7_readStep_61 : decode cX7_readStep 61 = .ok (.invokevirtual 119, 3) := by decide +kernel
theorem dX7_readStep_64 : decode cX7_readStep 64 = .ok (.ireturn, 1) := by decide +kernel
theorem dX7_readStep_65 : decode cX7_readStep 65 = .ok (.aload_n 1, 1) := by decide +kernel
theorem dX7_readStep_66 : decode cX7_readStep 66 = .ok (.iload_n 2, 1) := by decide +kernel
theorem dX7_readStep_67 : decode cX7_readStep 67 = .ok (.iconst 0, 1) := by decide +kernel
theorem dX7_readStep_68 : decode cX7_readStep 68 = .ok (.iload_n 3, 1) := by decide +kernel
theorem dX7_readStep_69 : decode cX7_readStep 69 = .ok (.bipush 104, 2) := by decide +kernel
theorem dX7_readStep_71 : decode cX7_readStep 71 = .ok (.if_icmp .ne 7, 3) := by decide +kernel
theorem dX7_readStep_74 : decode cX7_readStep 74 = .ok (.iconst 1, 1) := by decide +kernel
theorem dX7_readStep_75 : decode cX7_readStep 75 = .ok (.goto 14, 3) := by decide +kernel
theorem dX7_readStep_78 : decode cX7_readStep 78 = .ok (.iload_n 3, 1) := by decide +kernel
theorem dX7_readStep_79 : decode cX7_readStep 79 = .ok (.bipush 99, 2) := by decide +kernel
theorem dX7_readStep_81 : decode cX7_readStep 81 = .ok (.if_icmp .ne 7, 3) := by decide +kernel
theorem dX7_readStep_84 : decode cX7_readStep 84 = .ok (.iconst 2, 1) := by decide +kernel
theorem dX7_readStep_85 : decode cX7_readStep 85 = .ok (.goto 4, 3) := by decide +kernel
theorem dX7_readStep_88 : decode cX7_readStep 88 = .ok (.iconst 3, 1) := by decide +kernel
theorem dX7_readStep_89 : decode cX7_readStep 89 = .ok (.invokevirtual 115, 3) := by decide +kernel
theorem dX7_readStep_92 : decode cX7_readStep 92 = .ok (.aload_n 0, 1) := by decide +kernel
theorem dX7_readStep_93 : decode cX7_readStep 93 = .ok (.invokevirtual 122, 3) := by decide +kernel
theorem dX7_readStep_96 : decode cX7_readStep 96 = .ok (.ifCond .ne 5, 3) := by decide +kernel
theorem dX7_readStep_99 : decode cX7_readStep 99 = .ok (.iconst 0, 1) := by decide +kernel
theorem dX7_readStep_100 : decode cX7_readStep 100 = .ok (.ireturn, 1) := by decide +kernel
theorem dX7_readStep_101 : decode cX7_readStep 101 = .ok (.aload_n 1, 1) := by decide +kernel
theorem dX7_readStep_102 : decode cX7_readStep 102 = .ok (.iload_n 2, 1) := by decide +kernel
theorem dX7_readStep_103 : decode cX7_readStep 103 = .ok (.iconst 1, 1) := by decide +kernel
theorem dX7_readStep_104 : decode cX7_readStep 104 = .ok (.aload_n 0, 1) := by decide +kernel
theorem dX7_readStep_105 : decode cX7_readStep 105 = .ok (.getfield 15, 3) := by decide +kernel
theorem dX7_readStep_108 : decode cX7_readStep 108 = .ok (.invokevirtual 115, 3) := by decide +kernel
theorem dX7_readStep_111 : decode cX7_readStep 111 = .ok (.iload_n 3, 1) := by decide +kernel
theorem dX7_readStep_112 : decode cX7_readStep 112 = .ok (.bipush 104, 2) := by decide +kernel
theorem dX7_readStep_114 : decode cX7_readStep 114 = .ok (.if_icmp .eq 5, 3) := by decide +kernel
theorem dX7_readStep_117 : decode cX7_readStep 117 = .ok (.iconst 1, 1) := by decide +kernel
theorem dX7_readStep_118 : decode cX7_readStep 118 = .ok (.ireturn, 1) := by decide +kernel
theorem dX7_readStep_119 : decode cX7_readStep 119 = .ok (.aload_n 0, 1) := by decide +kernel
theorem dX7_readStep_120 : decode cX7_readStep 120 = .ok (.bipush 58, 2) := by decide +kernel
theorem dX7_readStep_122 : decode cX7_readStep 122 = .ok (.invokevirtual 125, 3) := by decide +kernel
theorem dX7_readStep_125 : decode cX7_readStep 125 = .ok (.ifCond .eq 14, 3) := by decide +kernel
theorem dX7_readStep_128 : decode cX7_readStep 128 = .ok (.aload_n 0, 1) := by decide +kernel
theorem dX7_readStep_129 : decode cX7_readStep 129 = .ok (.bipush (-9), 2) := by decide +kernel
theorem dX7_readStep_131 : decode cX7_readStep 131 = .ok (.bipush 9, 2) := by decide +kernel
theorem dX7_readStep_133 : decode cX7_readStep 133 = .ok (.invokevirtual 102, 3) := by decide +kernel
theorem dX7_readStep_136 : decode cX7_readStep 136 = .ok (.ifCond .ne 5, 3) := by decide +kernel
theorem dX7_readStep_139 : decode cX7_readStep 139 = .ok (.iconst 0, 1) := by decide +kernel
theorem dX7_readStep_140 : decode cX7_readStep 140 = .ok (.ireturn, 1) := by decide +kernel
theorem dX7_readStep_141 : decode cX7_readStep 141 = .ok (.aload_n 1, 1) := by decide +kernel
theorem dX7_readStep_142 : decode cX7_readStep 142 = .ok (.iload_n 2, 1) := by decide +kernel
theorem dX7_readStep_143 : decode cX7_readStep 143 = .ok (.iconst 2, 1) := by decide +kernel
theorem dX7_readStep_144 : decode cX7_readStep 144 = .ok (.aload_n 0, 1) := by decide +kernel
theorem dX7_readStep_145 : decode cX7_readStep 145 = .ok (.getfield 15, 3) := by decide +kernel
theorem dX7_readStep_148 : decode cX7_readStep 148 = .ok (.invokevirtual 115, 3) := by decide +kernel
theorem dX7_readStep_151 : decode cX7_readStep 151 = .ok (.iconst 1, 1) := by decide +kernel
theorem dX7_readStep_152 : decode cX7_readStep 152 = .ok (.ireturn, 1) := by decide +kernel
theorem dX7_readGust_0 : decode cX7_readGust 0 = .ok (.iconst 0, 1) := by decide +kernel
theorem dX7_readGust_1 : decode cX7_readGust 1 = .ok (.istore_n 3, 1) := by decide +kernel
theorem dX7_readGust_2 : decode cX7_readGust 2 = .ok (.iload_n 3, 1) := by decide +kernel
theorem dX7_readGust_3 : decode cX7_readGust 3 = .ok (.iconst 3, 1) := by decide +kernel
theorem dX7_readGust_4 : decode cX7_readGust 4 = .ok (.if_icmp .ge 56, 3) := by decide +kernel
theorem dX7_readGust_7 : decode cX7_readGust 7 = .ok (.iload_n 3, 1) := by decide +kernel
theorem dX7_readGust_8 : decode cX7_readGust 8 = .ok (.ifCond .le 14, 3) := by decide +kernel
theorem dX7_readGust_11 : decode cX7_readGust 11 = .ok (.aload_n 0, 1) := by decide +kernel
theorem dX7_readGust_12 : decode cX7_readGust 12 = .ok (.bipush 44, 2) := by decide +kernel
theorem dX7_readGust_14 : decode cX7_readGust 14 = .ok (.invokevirtual 125, 3) := by decide +kernel
theorem dX7_readGust_17 : decode cX7_readGust 17 = .ok (.ifCond .ne 5, 3) := by decide +kernel
theorem dX7_readGust_20 : decode cX7_readGust 20 = .ok (.iconst 0, 1) := by decide +kernel
theorem dX7_readGust_21 : decode cX7_readGust 21 = .ok (.ireturn, 1) := by decide +kernel
theorem dX7_readGust_22 : decode cX7_readGust 22 = .ok (.aload_n 0, 1) := by decide +kernel
theorem dX7_readGust_23 : decode cX7_readGust 23 = .ok (.getstatic 129, 3) := by decide +kernel
theorem dX7_readGust_26 : decode cX7_readGust 26 = .ok (.iload_n 3, 1) := by decide +kernel
theorem dX7_readGust_27 : decode cX7_readGust 27 = .ok (.iaload, 1) := by decide +kernel
theorem dX7_readGust_28 : decode cX7_readGust 28 = .ok (.ineg, 1) := by decide +kernel
theorem dX7_readGust_29 : decode cX7_readGust 29 = .ok (.getstatic 129, 3) := by decide +kernel
theorem dX7_readGust_32 : decode cX7_readGust 32 = .ok (.iload_n 3, 1) := by decide +kernel
theorem dX7_readGust_33 : decode cX7_readGust 33 = .ok (.iaload, 1) := by decide +kernel
theorem dX7_readGust_34 : decode cX7_readGust 34 = .ok (.invokevirtual 102, 3) := by decide +kernel
theorem dX7_readGust_37 : decode cX7_readGust 37 = .ok (.ifCond .ne 5, 3) := by decide +kernel
theorem dX7_readGust_40 : decode cX7_readGust 40 = .ok (.iconst 0, 1) := by decide +kernel
theorem dX7_readGust_41 : decode cX7_readGust 41 = .ok (.ireturn, 1) := by decide +kernel
theorem dX7_readGust_42 : decode cX7_readGust 42 = .ok (.aload_n 1, 1) := by decide +kernel
theorem dX7_readGust_43 : decode cX7_readGust 43 = .ok (.iload_n 2, 1) := by decide +kernel
theorem dX7_readGust_44 : decode cX7_readGust 44 = .ok (.iload_n 3, 1) := by decide +kernel
theorem dX7_readGust_45 : decode cX7_readGust 45 = .ok (.iconst 1, 1) := by decide +kernel
theorem dX7_readGust_46 : decode cX7_readGust 46 = .ok (.iadd, 1) := by decide +kernel
theorem dX7_readGust_47 : decode cX7_readGust 47 = .ok (.aload_n 0, 1) := by decide +kernel
theorem dX7_readGust_48 : decode cX7_readGust 48 = .ok (.getfield 15, 3) := by decide +kernel
theorem dX7_readGust_51 : decode cX7_readGust 51 = .ok (.invokevirtual 115, 3) := by decide +kernel
theorem dX7_readGust_54 : decode cX7_readGust 54 = .ok (.iinc 3 1, 3) := by decide +kernel
theorem dX7_readGust_57 : decode cX7_readGust 57 = .ok (.goto (-55), 3) := by decide +kernel
theorem dX7_readGust_60 : decode cX7_readGust 60 = .ok (.iconst 1, 1) := by decide +kernel
theorem dX7_readGust_61 : decode cX7_readGust 61 = .ok (.ireturn, 1) := by decide +kernel
theorem dX8_init_0 : decode cX8_init 0 = .ok (.aload_n 0, 1) := by decide +kernel
theorem dX8_init_1 : decode cX8_init 1 = .ok (.invokespecial 3, 3) := by decide +kernel
theorem dX8_init_4 : decode cX8_init 4 = .ok (.aload_n 0, 1) := by decide +kernel
theorem dX8_init_5 : decode cX8_init 5 = .ok (.iconst 5, 1) := by decide +kernel
theorem dX8_init_6 : decode cX8_init 6 = .ok (.newarray .int, 2) := by decide +kernel
theorem dX8_init_8 : decode cX8_init 8 = .ok (.putfield 9, 3) := by decide +kernel
theorem dX8_init_11 : decode cX8_init 11 = .ok (.aload_n 0, 1) := by decide +kernel
theorem dX8_init_12 : decode cX8_init 12 = .ok (.iconst 4, 1) := by decide +kernel
theorem dX8_init_13 : decode cX8_init 13 = .ok (.newarray .int, 2) := by decide +kernel
theorem dX8_init_15 : decode cX8_init 15 = .ok (.putfield 15, 3) := by decide +kernel
theorem dX8_init_18 : decode cX8_init 18 = .ok (.aload_n 0, 1) := by decide +kernel
theorem dX8_init_19 : decode cX8_init 19 = .ok (.iconst 0, 1) := by decide +kernel
theorem dX8_init_20 : decode cX8_init 20 = .ok (.putfield 18, 3) := by decide +kernel
theorem dX8_init_23 : decode cX8_init 23 = .ok (.return_, 1) := by decide +kernel
theorem dX8_begin_0 : decode cX8_begin 0 = .ok (.aload_n 0, 1) := by decide +kernel
theorem dX8_begin_1 : decode cX8_begin 1 = .ok (.iconst 0, 1) := by decide +kernel
theorem dX8_begin_2 : decode cX8_begin 2 = .ok (.putfield 18, 3) := by decide +kernel
theorem dX8_begin_5 : decode cX8_begin 5 = .ok (.return_, 1) := by decide +kernel
theorem dX8_add_0 : decode cX8_add 0 = .ok (.aload_n 0, 1) := by decide +kernel
theorem dX8_add_1 : decode cX8_add 1 = .ok (.getfield 18, 3) := by decide +kernel
theorem dX8_add_4 : decode cX8_add 4 = .ok (.iconst 4, 1) := by decide +kernel
theorem dX8_add_5 : decode cX8_add 5 = .ok (.if_icmp .ge 23, 3) := by decide +kernel
theorem dX8_add_8 : decode cX8_add 8 = .ok (.aload_n 0, 1) := by decide +kernel
theorem dX8_add_9 : decode cX8_add 9 = .ok (.getfield 15, 3) := by decide +kernel
theorem dX8_add_12 : decode cX8_add 12 = .ok (.aload_n 0, 1) := by decide +kernel
theorem dX8_add_13 : decode cX8_add 13 = .ok (.getfield 18, 3) := by decide +kernel
theorem dX8_add_16 : decode cX8_add 16 = .ok (.iload_n 1, 1) := by decide +kernel
theorem dX8_add_17 : decode cX8_add 17 = .ok (.iastore, 1) := by decide +kernel
theorem dX8_add_18 : decode cX8_add 18 = .ok (.aload_n 0, 1) := by decide +kernel
theorem dX8_add_19 : decode cX8_add 19 = .ok (.dup, 1) := by decide +kernel
theorem dX8_add_20 : decode cX8_add 20 = .ok (.getfield 18, 3) := by decide +kernel
theorem dX8_add_23 : decode cX8_add 23 = .ok (.iconst 1, 1) := by decide +kernel
theorem dX8_add_24 : decode cX8_add 24 = .ok (.iadd, 1) := by decide +kernel
theorem dX8_add_25 : decode cX8_add 25 = .ok (.putfield 18, 3) := by decide +kernel
theorem dX8_add_28 : decode cX8_add 28 = .ok (.return_, 1) := by decide +kernel
theorem dX8_close_0 : decode cX8_close 0 = .ok (.aload_n 0, 1) := by decide +kernel
theorem dX8_close_1 : decode cX8_close 1 = .ok (.iload_n 1, 1) := by decide +kernel
theorem dX8_close_2 : decode cX8_close 2 = .ok (.invokevirtual 22, 3) := by decide +kernel
theorem dX8_close_5 : decode cX8_close 5 = .ok (.iload_n 1, 1) := by decide +kernel
theorem dX8_close_6 : decode cX8_close 6 = .ok (.ifCond .lt 22, 3) := by decide +kernel
theorem dX8_close_9 : decode cX8_close 9 = .ok (.iload_n 1, 1) := by decide +kernel
theorem dX8_close_10 : decode cX8_close 10 = .ok (.aload_n 0, 1) := by decide +kernel
theorem dX8_close_11 : decode cX8_close 11 = .ok (.getfield 9, 3) := by decide +kernel
theorem dX8_close_14 : decode cX8_close 14 = .ok (.arraylength, 1) := by decide +kernel
theorem dX8_close_15 : decode cX8_close 15 = .ok (.if_icmp .ge 13, 3) := by decide +kernel
theorem dX8_close_18 : decode cX8_close 18 = .ok (.aload_n 0, 1) := by decide +kernel
theorem dX8_close_19 : decode cX8_close 19 = .ok (.getfield 9, 3) := by decide +kernel
theorem dX8_close_22 : decode cX8_close 22 = .ok (.iload_n 1, 1) := by decide +kernel
theorem dX8_close_23 : decode cX8_close 23 = .ok (.dup2, 1) := by decide +kernel
theorem dX8_close_24 : decode cX8_close 24 = .ok (.iaload, 1) := by decide +kernel
theorem dX8_close_25 : decode cX8_close 25 = .ok (.iconst 1, 1) := by decide +kernel
theorem dX8_close_26 : decode cX8_close 26 = .ok (.iadd, 1) := by decide +kernel
theorem dX8_close_27 : decode cX8_close 27 = .ok (.iastore, 1) := by decide +kernel
theorem dX8_close_28 : decode cX8_close 28 = .ok (.return_, 1) := by decide +kernel
theorem dX8_causeAt_0 : decode cX8_causeAt 0 = .ok (.iload_n 1, 1) := by decide +kernel
theorem dX8_causeAt_1 : decode cX8_causeAt 1 = .ok (.ifCond .lt 25, 3) := by decide +kernel
theorem dX8_causeAt_4 : decode cX8_causeAt 4 = .ok (.iload_n 1, 1) := by decide +kernel
theorem dX8_causeAt_5 : decode cX8_causeAt 5 = .ok (.aload_n 0, 1) := by decide +kernel
theorem dX8_causeAt_6 : decode cX8_causeAt 6 = .ok (.getfield 18, 3) := by decide +kernel
theorem dX8_causeAt_9 : decode cX8_causeAt 9 = .ok (.if_icmp .ge 17, 3) := by decide +kernel
theorem dX8_causeAt_12 : decode cX8_causeAt 12 = .ok (.iload_n 1, 1) := by decide +kernel
theorem dX8_causeAt_13 : decode cX8_causeAt 13 = .ok (.iconst 4, 1) := by decide +kernel
theorem dX8_causeAt_14 : decode cX8_causeAt 14 = .ok (.if_icmp .ge 12, 3) := by decide +kernel
theorem dX8_causeAt_17 : decode cX8_causeAt 17 = .ok (.aload_n 0, 1) := by decide +kernel
theorem dX8_causeAt_18 : decode cX8_causeAt 18 = .ok (.getfield 15, 3) := by decide +kernel
theorem dX8_causeAt_21 : decode cX8_causeAt 21 = .ok (.iload_n 1, 1) := by decide +kernel
theorem dX8_causeAt_22 : decode cX8_causeAt 22 = .ok (.iaload, 1) := by decide +kernel
theorem dX8_causeAt_23 : decode cX8_causeAt 23 = .ok (.goto 4, 3) := by decide +kernel
theorem dX8_causeAt_26 : decode cX8_causeAt 26 = .ok (.iconst (-1), 1) := by decide +kernel
theorem dX8_causeAt_27 : decode cX8_causeAt 27 = .ok (.ireturn, 1) := by decide +kernel
theorem dX9_init_0 : decode cX9_init 0 = .ok (.aload_n 0, 1) := by decide +kernel
theorem dX9_init_1 : decode cX9_init 1 = .ok (.invokespecial 3, 3) := by decide +kernel
theorem dX9_init_4 : decode cX9_init 4 = .ok (.aload_n 0, 1) := by decide +kernel
theorem dX9_init_5 : decode cX9_init 5 = .ok (.bipush 64, 2) := by decide +kernel
theorem dX9_init_7 : decode cX9_init 7 = .ok (.newarray .int, 2) := by decide +kernel
theorem dX9_init_9 : decode cX9_init 9 = .ok (.putfield 11, 3) := by decide +kernel
theorem dX9_init_12 : decode cX9_init 12 = .ok (.aload_n 0, 1) := by decide +kernel
theorem dX9_init_13 : decode cX9_init 13 = .ok (.iconst 0, 1) := by decide +kernel
theorem dX9_init_14 : decode cX9_init 14 = .ok (.putfield 15, 3) := by decide +kernel
theorem dX9_init_17 : decode cX9_init 17 = .ok (.return_, 1) := by decide +kernel
theorem dX9_put_0 : decode cX9_put 0 = .ok (.aload_n 0, 1) := by decide +kernel
theorem dX9_put_1 : decode cX9_put 1 = .ok (.getfield 11, 3) := by decide +kernel
theorem dX9_put_4 : decode cX9_put 4 = .ok (.iconst 4, 1) := by decide +kernel
theorem dX9_put_5 : decode cX9_put 5 = .ok (.iload_n 1, 1) := by decide +kernel
theorem dX9_put_6 : decode cX9_put 6 = .ok (.imul, 1) := by decide +kernel
theorem dX9_put_7 : decode cX9_put 7 = .ok (.iload_n 2, 1) := by decide +kernel
theorem dX9_put_8 : decode cX9_put 8 = .ok (.iadd, 1) := by decide +kernel
theorem dX9_put_9 : decode cX9_put 9 = .ok (.iload_n 3, 1) := by decide +kernel
theorem dX9_put_10 : decode cX9_put 10 = .ok (.iastore, 1) := by decide +kernel
theorem dX9_put_11 : decode cX9_put 11 = .ok (.return_, 1) := by decide +kernel
theorem dX9_cell_0 : decode cX9_cell 0 = .ok (.aload_n 0, 1) := by decide +kernel
theorem dX9_cell_1 : decode cX9_cell 1 = .ok (.getfield 11, 3) := by decide +kernel
theorem dX9_cell_4 : decode cX9_cell 4 = .ok (.iconst 4, 1) := by decide +kernel
theorem dX9_cell_5 : decode cX9_cell 5 = .ok (.iload_n 1, 1) := by decide +kernel
theorem dX9_cell_6 : decode cX9_cell 6 = .ok (.imul, 1) := by decide +kernel
theorem dX9_cell_7 : decode cX9_cell 7 = .ok (.iload_n 2, 1) := by decide +kernel
theorem dX9_cell_8 : decode cX9_cell 8 = .ok (.iadd, 1) := by decide +kernel
theorem dX9_cell_9 : decode cX9_cell 9 = .ok (.iaload, 1) := by decide +kernel
theorem dX9_cell_10 : decode cX9_cell 10 = .ok (.ireturn, 1) := by decide +kernel
theorem dX9_told_0 : decode cX9_told 0 = .ok (.aload_n 0, 1) := by decide +kernel
theorem dX9_told_1 : decode cX9_told 1 = .ok (.iload_n 1, 1) := by decide +kernel
theorem dX9_told_2 : decode cX9_told 2 = .ok (.iconst 0, 1) := by decide +kernel
theorem dX9_told_3 : decode cX9_told 3 = .ok (.invokevirtual 19, 3) := by decide +kernel
theorem dX9_told_6 : decode cX9_told 6 = .ok (.istore_n 3, 1) := by decide +kernel
theorem dX9_told_7 : decode cX9_told 7 = .ok (.iload_n 3, 1) := by decide +kernel
theorem dX9_told_8 : decode cX9_told 8 = .ok (.ifCond .ne 7, 3) := by decide +kernel
theorem dX9_told_11 : decode cX9_told 11 = .ok (.iconst 3, 1) := by decide +kernel
theorem dX9_told_12 : decode cX9_told 12 = .ok (.goto 13, 3) := by decide +kernel
theorem dX9_told_15 : decode cX9_told 15 = .ok (.iload_n 3, 1) := by decide +kernel
theorem dX9_told_16 : decode cX9_told 16 = .ok (.iconst 1, 1) := by decide +kernel
theorem dX9_told_17 : decode cX9_told 17 = .ok (.if_icmp .ne 7, 3) := by decide +kernel
theorem dX9_told_20 : decode cX9_told 20 = .ok (.iconst 2, 1) := by decide +kernel
theorem dX9_told_21 : decode cX9_told 21 = .ok (.goto 4, 3) := by decide +kernel
theorem dX9_told_24 : decode cX9_told 24 = .ok (.iconst 1, 1) := by decide +kernel
theorem dX9_told_25 : decode cX9_told 25 = .ok (.istore 4, 2) := by decide +kernel
theorem dX9_told_27 : decode cX9_told 27 = .ok (.iload_n 2, 1) := by decide +kernel
theorem dX9_told_28 : decode cX9_told 28 = .ok (.iload 4, 2) := by decide +kernel
theorem dX9_told_30 : decode cX9_told 30 = .ok (.if_icmp .gt 12, 3) := by decide +kernel
theorem dX9_told_33 : decode cX9_told 33 = .ok (.aload_n 0, 1) := by decide +kernel
theorem dX9_told_34 : decode cX9_told 34 = .ok (.iload_n 1, 1) := by decide +kernel
theorem dX9_told_35 : decode cX9_told 35 = .ok (.iload_n 2, 1) := by decide +kernel
theorem dX9_told_36 : decode cX9_told 36 = .ok (.invokevirtual 19, 3) := by decide +kernel
theorem dX9_told_39 : decode cX9_told 39 = .ok (.goto 5, 3) := by decide +kernel
theorem dX9_told_42 : decode cX9_told 42 = .ok (.ldc 23, 2) := by decide +kernel
theorem dX9_told_44 : decode cX9_told 44 = .ok (.ireturn, 1) := by decide +kernel
theorem dX10_init_0 : decode cX10_init 0 = .ok (.aload_n 0, 1) := by decide +kernel
theorem dX10_init_1 : decode cX10_init 1 = .ok (.invokespecial 3, 3) := by decide +kernel
theorem dX10_init_4 : decode cX10_init 4 = .ok (.aload_n 0, 1) := by decide +kernel
theorem dX10_init_5 : decode cX10_init 5 = .ok (.sipush 240, 3) := by decide +kernel
theorem dX10_init_8 : decode cX10_init 8 = .ok (.newarray .byte, 2) := by decide +kernel
theorem dX10_init_10 : decode cX10_init 10 = .ok (.putfield 9, 3) := by decide +kernel
theorem dX10_init_13 : decode cX10_init 13 = .ok (.aload_n 0, 1) := by decide +kernel
theorem dX10_init_14 : decode cX10_init 14 = .ok (.iconst 0, 1) := by decide +kernel
theorem dX10_init_15 : decode cX10_init 15 = .ok (.putfield 15, 3) := by decide +kernel
theorem dX10_init_18 : decode cX10_init 18 = .ok (.return_, 1) := by decide +kernel
theorem dX10_bytesIn_0 : decode cX10_bytesIn 0 = .ok (.iconst 0, 1) := by decide +kernel
theorem dX10_bytesIn_1 : decode cX10_bytesIn 1 = .ok (.istore_n 1, 1) := by decide +kernel
theorem dX10_bytesIn_2 : decode cX10_bytesIn 2 = .ok (.bipush 24, 2) := by decide +kernel
theorem dX10_bytesIn_4 : decode cX10_bytesIn 4 = .ok (.istore_n 2, 1) := by decide +kernel
theorem dX10_bytesIn_5 : decode cX10_bytesIn 5 = .ok (.iload_n 2, 1) := by decide +kernel
theorem dX10_bytesIn_6 : decode cX10_bytesIn 6 = .ok (.ifCond .lt 22, 3) := by decide +kernel
theorem dX10_bytesIn_9 : decode cX10_bytesIn 9 = .ok (.iload_n 0, 1) := by decide +kernel
theorem dX10_bytesIn_10 : decode cX10_bytesIn 10 = .ok (.iload_n 2, 1) := by decide +kernel
theorem dX10_bytesIn_11 : decode cX10_bytesIn 11 = .ok (.iushr, 1) := by decide +kernel
theorem dX10_bytesIn_12 : decode cX10_bytesIn 12 = .ok (.sipush 255, 3) := by decide +kernel
theorem dX10_bytesIn_15 : decode cX10_bytesIn 15 = .ok (.iand, 1) := by decide +kernel
theorem dX10_bytesIn_16 : decode cX10_bytesIn 16 = .ok (.ifCond .eq 6, 3) := by decide +kernel
theorem dX10_bytesIn_19 : decode cX10_bytesIn 19 = .ok (.iinc 1 1, 3) := by decide +kernel
theorem dX10_bytesIn_22 : decode cX10_bytesIn 22 = .ok (.iinc 2 (-8), 3) := by decide +kernel
theorem dX10_bytesIn_25 : decode cX10_bytesIn 25 = .ok (.goto (-20), 3) := by decide +kernel
theorem dX10_bytesIn_28 : decode cX10_bytesIn 28 = .ok (.iload_n 1, 1) := by decide +kernel
theorem dX10_bytesIn_29 : decode cX10_bytesIn 29 = .ok (.ireturn, 1) := by decide +kernel
theorem dX10_append_0 : decode cX10_append 0 = .ok (.bipush 24, 2) := by decide +kernel
theorem dX10_append_2 : decode cX10_append 2 = .ok (.istore_n 2, 1) := by decide +kernel
theorem dX10_append_3 : decode cX10_append 3 = .ok (.iload_n 2, 1) := by decide +kernel
theorem dX10_append_4 : decode cX10_append 4 = .ok (.ifCond .lt 52, 3) := by decide +kernel
theorem dX10_append_7 : decode cX10_append 7 = .ok (.iload_n 1, 1) := by decide +kernel
theorem dX10_append_8 : decode cX10_append 8 = .ok (.iload_n 2, 1) := by decide +kernel
theorem dX10_append_9 : decode cX10_append 9 = .ok (.iushr, 1) := by decide +kernel
theorem dX10_append_10 : decode cX10_append 10 = .ok (.sipush 255, 3) := by decide +kernel
theorem dX10_append_13 : decode cX10_append 13 = .ok (.iand, 1) := by decide +kernel
theorem dX10_append_14 : decode cX10_append 14 = .ok (.istore_n 3, 1) := by decide +kernel
theorem dX10_append_15 : decode cX10_append 15 = .ok (.iload_n 3, 1) := by decide +kernel
theorem dX10_append_16 : decode cX10_append 16 = .ok (.ifCond .eq 34, 3) := by decide +kernel
theorem dX10_append_19 : decode cX10_append 19 = .ok (.aload_n 0, 1) := by decide +kernel
theorem dX10_append_20 : decode cX10_append 20 = .ok (.getfield 15, 3) := by decide +kernel
theorem dX10_append_23 : decode cX10_append 23 = .ok (.sipush 240, 3) := by decide +kernel
theorem dX10_append_26 : decode cX10_append 26 = .ok (.if_icmp .ge 24, 3) := by decide +kernel
theorem dX10_append_29 : decode cX10_append 29 = .ok (.aload_n 0, 1) := by decide +kernel
theorem dX10_append_30 : decode cX10_append 30 = .ok (.getfield 9, 3) := by decide +kernel
theorem dX10_append_33 : decode cX10_append 33 = .ok (.aload_n 0, 1) := by decide +kernel
theorem dX10_append_34 : decode cX10_append 34 = .ok (.getfield 15, 3) := by decide +kernel
theorem dX10_append_37 : decode cX10_append 37 = .ok (.iload_n 3, 1) := by decide +kernel
theorem dX10_append_38 : decode cX10_append 38 = .ok (.i2b, 1) := by decide +kernel
theorem dX10_append_39 : decode cX10_append 39 = .ok (.bastore, 1) := by decide +kernel
theorem dX10_append_40 : decode cX10_append 40 = .ok (.aload_n 0, 1) := by decide +kernel
theorem dX10_append_41 : decode cX10_append 41 = .ok (.dup, 1) := by decide +kernel
theorem dX10_append_42 : decode cX10_append 42 = .ok (.getfield 15, 3) := by decide +kernel
theorem dX10_append_45 : decode cX10_append 45 = .ok (.iconst 1, 1) := by decide +kernel
theorem dX10_append_46 : decode cX10_append 46 = .ok (.iadd, 1) := by decide +kernel
theorem dX10_append_47 : decode cX10_append 47 = .ok (.putfield 15, 3) := by decide +kernel
theorem dX10_append_50 : decode cX10_append 50 = .ok (.iinc 2 (-8), 3) := by decide +kernel
theorem dX10_append_53 : decode cX10_append 53 = .ok (.goto (-50), 3) := by decide +kernel
theorem dX10_append_56 : decode cX10_append 56 = .ok (.return_, 1) := by decide +kernel
theorem dX11_init_0 : decode cX11_init 0 = .ok (.aload_n 0, 1) := by decide +kernel
theorem dX11_init_1 : decode cX11_init 1 = .ok (.invokespecial 1, 3) := by decide +kernel
theorem dX11_init_4 : decode cX11_init 4 = .ok (.aload_n 0, 1) := by decide +kernel
theorem dX11_init_5 : decode cX11_init 5 = .ok (.new 7, 3) := by decide +kernel
theorem dX11_init_8 : decode cX11_init 8 = .ok (.dup, 1) := by decide +kernel
theorem dX11_init_9 : decode cX11_init 9 = .ok (.invokespecial 9, 3) := by decide +kernel
theorem dX11_init_12 : decode cX11_init 12 = .ok (.putfield 10, 3) := by decide +kernel
theorem dX11_init_15 : decode cX11_init 15 = .ok (.aload_n 0, 1) := by decide +kernel
theorem dX11_init_16 : decode cX11_init 16 = .ok (.new 16, 3) := by decide +kernel
theorem dX11_init_19 : decode cX11_init 19 = .ok (.dup, 1) := by decide +kernel
theorem dX11_init_20 : decode cX11_init 20 = .ok (.aload_n 0, 1) := by decide +kernel
theorem dX11_init_21 : decode cX11_init 21 = .ok (.getfield 10, 3) := by decide +kernel
theorem dX11_init_24 : decode cX11_init 24 = .ok (.invokespecial 18, 3) := by decide +kernel
theorem dX11_init_27 : decode cX11_init 27 = .ok (.putfield 21, 3) := by decide +kernel
theorem dX11_init_30 : decode cX11_init 30 = .ok (.aload_n 0, 1) := by decide +kernel
theorem dX11_init_31 : decode cX11_init 31 = .ok (.new 25, 3) := by decide +kernel
theorem dX11_init_34 : decode cX11_init 34 = .ok (.dup, 1) := by decide +kernel
theorem dX11_init_35 : decode cX11_init 35 = .ok (.invokespecial 27, 3) := by decide +kernel
theorem dX11_init_38 : decode cX11_init 38 = .ok (.putfield 28, 3) := by decide +kernel
theorem dX11_init_41 : decode cX11_init 41 = .ok (.aload_n 0, 1) := by decide +kernel
theorem dX11_init_42 : decode cX11_init 42 = .ok (.new 25, 3) := by decide +kernel
theorem dX11_init_45 : decode cX11_init 45 = .ok (.dup, 1) := by decide +kernel
theorem dX11_init_46 : decode cX11_init 46 = .ok (.invokespecial 27, 3) := by decide +kernel
theorem dX11_init_49 : decode cX11_init 49 = .ok (.putfield 32, 3) := by decide +kernel
theorem dX11_init_52 : decode cX11_init 52 = .ok (.aload_n 0, 1) := by decide +kernel
theorem dX11_init_53 : decode cX11_init 53 = .ok (.iconst 5, 1) := by decide +kernel
theorem dX11_init_54 : decode cX11_init 54 = .ok (.anewarray 35, 3) := by decide +kernel
theorem dX11_init_57 : decode cX11_init 57 = .ok (.putfield 37, 3) := by decide +kernel
theorem dX11_init_60 : decode cX11_init 60 = .ok (.aload_n 0, 1) := by decide +kernel
theorem dX11_init_61 : decode cX11_init 61 = .ok (.iconst 0, 1) := by decide +kernel
theorem dX11_init_62 : decode cX11_init 62 = .ok (.putfield 41, 3) := by decide +kernel
theorem dX11_init_65 : decode cX11_init 65 = .ok (.aload_n 0, 1) := by decide +kernel
theorem dX11_init_66 : decode cX11_init 66 = .ok (.new 45, 3) := by decide +kernel
theorem dX11_init_69 : decode cX11_init 69 = .ok (.dup, 1) := by decide +kernel
theorem dX11_init_70 : decode cX11_init 70 = .ok (.invokespecial 47, 3) := by decide +kernel
theorem dX11_init_73 : decode cX11_init 73 = .ok (.putfield 48, 3) := by decide +kernel
theorem dX11_init_76 : decode cX11_init 76 = .ok (.aload_n 0, 1) := by decide +kernel
theorem dX11_init_77 : decode cX11_init 77 = .ok (.new 45, 3) := by decide +kernel
theorem dX11_init_80 : decode cX11_init 80 = .ok (.dup, 1) := by decide +kernel
theorem dX11_init_81 : decode cX11_init 81 = .ok (.invokespecial 47, 3) := by decide +kernel
theorem dX11_init_84 : decode cX11_init 84 = .ok (.putfield 52, 3) := by decide +kernel
theorem dX11_init_87 : decode cX11_init 87 = .ok (.aload_n 0, 1) := by decide +kernel
theorem dX11_init_88 : decode cX11_init 88 = .ok (.new 55, 3) := by decide +kernel
theorem dX11_init_91 : decode cX11_init 91 = .ok (.dup, 1) := by decide +kernel
theorem dX11_init_92 : decode cX11_init 92 = .ok (.invokespecial 57, 3) := by decide +kernel
theorem dX11_init_95 : decode cX11_init 95 = .ok (.putfield 58, 3) := by decide +kernel
theorem dX11_init_98 : decode cX11_init 98 = .ok (.aload_n 0, 1) := by decide +kernel
theorem dX11_init_99 : decode cX11_init 99 = .ok (.new 62, 3) := by decide +kernel
theorem dX11_init_102 : decode cX11_init 102 = .ok (.dup, 1) := by decide +kernel
theorem dX11_init_103 : decode cX11_init 103 = .ok (.invokespecial 64, 3) := by decide +kernel
theorem dX11_init_106 : decode cX11_init 106 = .ok (.putfield 65, 3) := by decide +kernel
theorem dX11_init_109 : decode cX11_init 109 = .ok (.aload_n 0, 1) := by decide +kernel
theorem dX11_init_110 : decode cX11_init 110 = .ok (.new 62, 3) := by decide +kernel
theorem dX11_init_113 : decode cX11_init 113 = .ok (.dup, 1) := by decide +kernel
theorem dX11_init_114 : decode cX11_init 114 = .ok (.invokespecial 64, 3) := by decide +kernel
theorem dX11_init_117 : decode cX11_init 117 = .ok (.putfield 69, 3) := by decide +kernel
theorem dX11_init_120 : decode cX11_init 120 = .ok (.aload_n 0, 1) := by decide +kernel
theorem dX11_init_121 : decode cX11_init 121 = .ok (.new 72, 3) := by decide +kernel
theorem dX11_init_124 : decode cX11_init 124 = .ok (.dup, 1) := by decide +kernel
theorem dX11_init_125 : decode cX11_init 125 = .ok (.invokespecial 74, 3) := by decide +kernel
theorem dX11_init_128 : decode cX11_init 128 = .ok (.putfield 75, 3) := by decide +kernel
theorem dX11_init_131 : decode cX11_init 131 = .ok (.aload_n 0, 1) := by decide +kernel
theorem dX11_init_132 : decode cX11_init 132 = .ok (.new 79, 3) := by decide +kernel
theorem dX11_init_135 : decode cX11_init 135 = .ok (.dup, 1) := by decide +kernel
theorem dX11_init_136 : decode cX11_init 136 = .ok (.invokespecial 81, 3) := by decide +kernel
theorem dX11_init_139 : decode cX11_init 139 = .ok (.putfield 82, 3) := by decide +kernel
theorem dX11_init_142 : decode cX11_init 142 = .ok (.aload_n 0, 1) := by decide +kernel
theorem dX11_init_143 : decode cX11_init 143 = .ok (.new 86, 3) := by decide +kernel
theorem dX11_init_146 : decode cX11_init 146 = .ok (.dup, 1) := by decide +kernel
theorem dX11_init_147 : decode cX11_init 147 = .ok (.invokespecial 88, 3) := by decide +kernel
theorem dX11_init_150 : decode cX11_init 150 = .ok (.putfield 89, 3) := by decide +kernel
theorem dX11_init_153 : decode cX11_init 153 = .ok (.aload_n 0, 1) := by decide +kernel
theorem dX11_init_154 : decode cX11_init 154 = .ok (.new 45, 3) := by decide +kernel
theorem dX11_init_157 : decode cX11_init 157 = .ok (.dup, 1) := by decide +kernel
theorem dX11_init_158 : decode cX11_init 158 = .ok (.invokespecial 47, 3) := by decide +kernel
theorem dX11_init_161 : decode cX11_init 161 = .ok (.putfield 93, 3) := by decide +kernel
theorem dX11_init_164 : decode cX11_init 164 = .ok (.aload_n 0, 1) := by decide +kernel
theorem dX11_init_165 : decode cX11_init 165 = .ok (.bipush 60, 2) := by decide +kernel
theorem dX11_init_167 : decode cX11_init 167 = .ok (.newarray .int, 2) := by decide +kernel
theorem dX11_init_169 : decode cX11_init 169 = .ok (.putfield 96, 3) := by decide +kernel
theorem dX11_init_172 : decode cX11_init 172 = .ok (.aload_n 0, 1) := by decide +kernel
theorem dX11_init_173 : decode cX11_init 173 = .ok (.iconst 0, 1) := by decide +kernel
theorem dX11_init_174 : decode cX11_init 174 = .ok (.putfield 100, 3) := by decide +kernel
theorem dX11_init_177 : decode cX11_init 177 = .ok (.aload_n 0, 1) := by decide +kernel
theorem dX11_init_178 : decode cX11_init 178 = .ok (.lconst 0, 1) := by decide +kernel
theorem dX11_init_179 : decode cX11_init 179 = .ok (.putfield 104, 3) := by decide +kernel
theorem dX11_init_182 : decode cX11_init 182 = .ok (.iconst 0, 1) := by decide +kernel
theorem dX11_init_183 : decode cX11_init 183 = .ok (.istore_n 1, 1) := by decide +kernel
theorem dX11_init_184 : decode cX11_init 184 = .ok (.iload_n 1, 1) := by decide +kernel
theorem dX11_init_185 : decode cX11_init 185 = .ok (.aload_n 0, 1) := by decide +kernel
theorem dX11_init_186 : decode cX11_init 186 = .ok (.getfield 37, 3) := by decide +kernel
theorem dX11_init_189 : decode cX11_init 189 = .ok (.arraylength, 1) := by decide +kernel
theorem dX11_init_190 : decode cX11_init 190 = .ok (.if_icmp .ge 22, 3) := by decide +kernel
theorem dX11_init_193 : decode cX11_init 193 = .ok (.aload_n 0, 1) := by decide +kernel
theorem dX11_init_194 : decode cX11_init 194 = .ok (.getfield 37, 3) := by decide +kernel
theorem dX11_init_197 : decode cX11_init 197 = .ok (.iload_n 1, 1) := by decide +kernel
theorem dX11_init_198 : decode cX11_init 198 = .ok (.new 35, 3) := by decide +kernel
theorem dX11_init_201 : decode cX11_init 201 = .ok (.dup, 1) := by decide +kernel
theorem dX11_init_202 : decode cX11_init 202 = .ok (.invokespecial 108, 3) := by decide +kernel
theorem dX11_init_205 : decode cX11_init 205 = .ok (.aastore, 1) := by decide +kernel
theorem dX11_init_206 : decode cX11_init 206 = .ok (.iinc 1 1, 3) := by decide +kernel
theorem dX11_init_209 : decode cX11_init 209 = .ok (.goto (-25), 3) := by decide +kernel
theorem dX11_init_212 : decode cX11_init 212 = .ok (.return_, 1) := by decide +kernel
theorem dX11_feed_0 : decode cX11_feed 0 = .ok (.iload_n 1, 1) := by decide +kernel
theorem dX11_feed_1 : decode cX11_feed 1 = .ok (.invokestatic 109, 3) := by decide +kernel
theorem dX11_feed_4 : decode cX11_feed 4 = .ok (.iload_n 2, 1) := by decide +kernel
theorem dX11_feed_5 : decode cX11_feed 5 = .ok (.invokestatic 109, 3) := by decide +kernel
theorem dX11_feed_8 : decode cX11_feed 8 = .ok (.iadd, 1) := by decide +kernel
theorem dX11_feed_9 : decode cX11_feed 9 = .ok (.iload_n 3, 1) := by decide +kernel
theorem dX11_feed_10 : decode cX11_feed 10 = .ok (.invokestatic 109, 3) := by decide +kernel
theorem dX11_feed_13 : decode cX11_feed 13 = .ok (.iadd, 1) := by decide +kernel
theorem dX11_feed_14 : decode cX11_feed 14 = .ok (.iload 4, 2) := by decide +kernel
theorem dX11_feed_16 : decode cX11_feed 16 = .ok (.invokestatic 109, 3) := by decide +kernel
theorem dX11_feed_19 : decode cX11_feed 19 = .ok (.iadd, 1) := by decide +kernel
theorem dX11_feed_20 : decode cX11_feed 20 = .ok (.iload 5, 2) := by decide +kernel
theorem dX11_feed_22 : decode cX11_feed 22 = .ok (.invokestatic 109, 3) := by decide +kernel
theorem dX11_feed_25 : decode cX11_feed 25 = .ok (.iadd, 1) := by decide +kernel
theorem dX11_feed_26 : decode cX11_feed 26 = .ok (.istore 6, 2) := by decide +kernel
theorem dX11_feed_28 : decode cX11_feed 28 = .ok (.aload_n 0, 1) := by decide +kernel
theorem dX11_feed_29 : decode cX11_feed 29 = .ok (.getfield 10, 3) := by decide +kernel
theorem dX11_feed_32 : decode cX11_feed 32 = .ok (.getfield 113, 3) := by decide +kernel
theorem dX11_feed_35 : decode cX11_feed 35 = .ok (.iload 6, 2) := by decide +kernel
theorem dX11_feed_37 : decode cX11_feed 37 = .ok (.iadd, 1) := by decide +kernel
theorem dX11_feed_38 : decode cX11_feed 38 = .ok (.sipush 240, 3) := by decide +kernel
theorem dX11_feed_41 : decode cX11_feed 41 = .ok (.if_icmp .le 5, 3) := by decide +kernel
theorem dX11_feed_44 : decode cX11_feed 44 = .ok (.iconst (-1), 1) := by decide +kernel
theorem dX11_feed_45 : decode cX11_feed 45 = .ok (.ireturn, 1) := by decide +kernel
theorem dX11_feed_46 : decode cX11_feed 46 = .ok (.aload_n 0, 1) := by decide +kernel
theorem dX11_feed_47 : decode cX11_feed 47 = .ok (.getfield 10, 3) := by decide +kernel
theorem dX11_feed_50 : decode cX11_feed 50 = .ok (.iload_n 1, 1) := by decide +kernel
theorem dX11_feed_51 : decode cX11_feed 51 = .ok (.invokevirtual 116, 3) := by decide +kernel
theorem dX11_feed_54 : decode cX11_feed 54 = .ok (.aload_n 0, 1) := by decide +kernel
theorem dX11_feed_55 : decode cX11_feed 55 = .ok (.getfield 10, 3) := by decide +kernel
theorem dX11_feed_58 : decode cX11_feed 58 = .ok (.iload_n 2, 1) := by decide +kernel
theorem dX11_feed_59 : decode cX11_feed 59 = .ok (.invokevirtual 116, 3) := by decide +kernel
theorem dX11_feed_62 : decode cX11_feed 62 = .ok (.aload_n 0, 1) := by decide +kernel
theorem dX11_feed_63 : decode cX11_feed 63 = .ok (.getfield 10, 3) := by decide +kernel
theorem dX11_feed_66 : decode cX11_feed 66 = .ok (.iload_n 3, 1) := by decide +kernel
theorem dX11_feed_67 : decode cX11_feed 67 = .ok (.invokevirtual 116, 3) := by decide +kernel
theorem dX11_feed_70 : decode cX11_feed 70 = .ok (.aload_n 0, 1) := by decide +kernel
theorem dX11_feed_71 : decode cX11_feed 71 = .ok (.getfield 10, 3) := by decide +kernel
theorem dX11_feed_74 : decode cX11_feed 74 = .ok (.iload 4, 2) := by decide +kernel
theorem dX11_feed_76 : decode cX11_feed 76 = .ok (.invokevirtual 116, 3) := by decide +kernel
theorem dX11_feed_79 : decode cX11_feed 79 = .ok (.aload_n 0, 1) := by decide +kernel
theorem dX11_feed_80 : decode cX11_feed 80 = .ok (.getfield 10, 3) := by decide +kernel
theorem dX11_feed_83 : decode cX11_feed 83 = .ok (.iload 5, 2) := by decide +kernel
theorem dX11_feed_85 : decode cX11_feed 85 = .ok (.invokevirtual 116, 3) := by decide +kernel
theorem dX11_feed_88 : decode cX11_feed 88 = .ok (.aload_n 0, 1) := by decide +kernel
theorem dX11_feed_89 : decode cX11_feed 89 = .ok (.getfield 10, 3) := by decide +kernel
theorem dX11_feed_92 : decode cX11_feed 92 = .ok (.getfield 113, 3) := by decide +kernel
theorem dX11_feed_95 : decode cX11_feed 95 = .ok (.ireturn, 1) := by decide +kernel
theorem dX11_end_0 : decode cX11_end 0 = .ok (.iload_n 1, 1) := by decide +kernel
theorem dX11_end_1 : decode cX11_end 1 = .ok (.ifCond .lt 14, 3) := by decide +kernel
theorem dX11_end_4 : decode cX11_end 4 = .ok (.iload_n 1, 1) := by decide +kernel
theorem dX11_end_5 : decode cX11_end 5 = .ok (.aload_n 0, 1) := by decide +kernel
theorem dX11_end_6 : decode cX11_end 6 = .ok (.getfield 10, 3) := by decide +kernel
theorem dX11_end_9 : decode cX11_end 9 = .ok (.getfield 113, 3) := by decide +kernel
theorem dX11_end_12 : decode cX11_end 12 = .ok (.if_icmp .le 5, 3) := by decide +kernel
theorem dX11_end_15 : decode cX11_end 15 = .ok (.iconst 0, 1) := by decide +kernel
theorem dX11_end_16 : decode cX11_end 16 = .ok (.ireturn, 1) := by decide +kernel
theorem dX11_end_17 : decode cX11_end 17 = .ok (.aload_n 0, 1) := by decide +kernel
theorem dX11_end_18 : decode cX11_end 18 = .ok (.getfield 10, 3) := by decide +kernel
theorem dX11_end_21 : decode cX11_end 21 = .ok (.iload_n 1, 1) := by decide +kernel
theorem dX11_end_22 : decode cX11_end 22 = .ok (.putfield 113, 3) := by decide +kernel
theorem dX11_end_25 : decode cX11_end 25 = .ok (.iconst 1, 1) := by decide +kernel
theorem dX11_end_26 : decode cX11_end 26 = .ok (.ireturn, 1) := by decide +kernel
theorem dX11_fault_0 : decode cX11_fault 0 = .ok (.iload_n 1, 1) := by decide +kernel
theorem dX11_fault_1 : decode cX11_fault 1 = .ok (.ifCond .ne 15, 3) := by decide +kernel
theorem dX11_fault_4 : decode cX11_fault 4 = .ok (.aload_n 0, 1) := by decide +kernel
theorem dX11_fault_5 : decode cX11_fault 5 = .ok (.getfield 21, 3) := by decide +kernel
theorem dX11_fault_8 : decode cX11_fault 8 = .ok (.aload_n 0, 1) := by decide +kernel
theorem dX11_fault_9 : decode cX11_fault 9 = .ok (.getfield 32, 3) := by decide +kernel
theorem dX11_fault_12 : decode cX11_fault 12 = .ok (.invokevirtual 120, 3) := by decide +kernel
theorem dX11_fault_15 : decode cX11_fault 15 = .ok (.ireturn, 1) := by decide +kernel
theorem dX11_fault_16 : decode cX11_fault 16 = .ok (.iload_n 1, 1) := by decide +kernel
theorem dX11_fault_17 : decode cX11_fault 17 = .ok (.iconst 1, 1) := by decide +kernel
theorem dX11_fault_18 : decode cX11_fault 18 = .ok (.if_icmp .ne 20, 3) := by decide +kernel
theorem dX11_fault_21 : decode cX11_fault 21 = .ok (.aload_n 0, 1) := by decide +kernel
theorem dX11_fault_22 : decode cX11_fault 22 = .ok (.getfield 21, 3) := by decide +kernel
theorem dX11_fault_25 : decode cX11_fault 25 = .ok (.aload_n 0, 1) := by decide +kernel
theorem dX11_fault_26 : decode cX11_fault 26 = .ok (.getfield 37, 3) := by decide +kernel
theorem dX11_fault_29 : decode cX11_fault 29 = .ok (.aload_n 0, 1) := by decide +kernel
theorem dX11_fault_30 : decode cX11_fault 30 = .ok (.getfield 41, 3) := by decide +kernel
theorem dX11_fault_33 : decode cX11_fault 33 = .ok (.aaload, 1) := by decide +kernel
theorem dX11_fault_34 : decode cX11_fault 34 = .ok (.invokevirtual 124, 3) := by decide +kernel
theorem dX11_fault_37 : decode cX11_fault 37 = .ok (.ireturn, 1) := by decide +kernel
theorem dX11_fault_38 : decode cX11_fault 38 = .ok (.bipush (-2), 2) := by decide +kernel
theorem dX11_fault_40 : decode cX11_fault 40 = .ok (.ireturn, 1) := by decide +kernel
theorem dX11_text_0 : decode cX11_text 0 = .ok (.iload_n 1, 1) := by decide +kernel
theorem dX11_text_1 : decode cX11_text 1 = .ok (.ifCond .ne 8, 3) := by decide +kernel
theorem dX11_text_4 : decode cX11_text 4 = .ok (.aload_n 0, 1) := by decide +kernel
theorem dX11_text_5 : decode cX11_text 5 = .ok (.invokevirtual 128, 3) := by decide +kernel
theorem dX11_text_8 : decode cX11_text 8 = .ok (.ireturn, 1) := by decide +kernel
theorem dX11_text_9 : decode cX11_text 9 = .ok (.iload_n 1, 1) := by decide +kernel
theorem dX11_text_10 : decode cX11_text 10 = .ok (.iconst 1, 1) := by decide +kernel
theorem dX11_text_11 : decode cX11_text 11 = .ok (.if_icmp .ne 8, 3) := by decide +kernel
theorem dX11_text_14 : decode cX11_text 14 = .ok (.aload_n 0, 1) := by decide +kernel
theorem dX11_text_15 : decode cX11_text 15 = .ok (.invokevirtual 132, 3) := by decide +kernel
theorem dX11_text_18 : decode cX11_text 18 = .ok (.ireturn, 1) := by decide +kernel
theorem dX11_text_19 : decode cX11_text 19 = .ok (.iconst (-1), 1) := by decide +kernel
theorem dX11_text_20 : decode cX11_text 20 = .ok (.ireturn, 1) := by decide +kernel
theorem dX11_tellMooring_0 : decode cX11_tellMooring 0 = .ok (.aload_n 0, 1) := by decide +kernel
theorem dX11_tellMooring_1 : decode cX11_tellMooring 1 = .ok (.getfield 21, 3) := by decide +kernel
theorem dX11_tellMooring_4 : decode cX11_tellMooring 4 = .ok (.aload_n 0, 1) := by decide +kernel
theorem dX11_tellMooring_5 : decode cX11_tellMooring 5 = .ok (.getfield 32, 3) := by decide +kernel
theorem dX11_tellMooring_8 : decode cX11_tellMooring 8 = .ok (.invokevirtual 120, 3) := by decide +kernel
theorem dX11_tellMooring_11 : decode cX11_tellMooring 11 = .ok (.iconst (-1), 1) := by decide +kernel
theorem dX11_tellMooring_12 : decode cX11_tellMooring 12 = .ok (.if_icmp .eq 5, 3) := by decide +kernel
theorem dX11_tellMooring_15 : decode cX11_tellMooring 15 = .ok (.iconst (-1), 1) := by decide +kernel
theorem dX11_tellMooring_16 : decode cX11_tellMooring 16 = .ok (.ireturn, 1) := by decide +kernel
theorem dX11_tellMooring_17 : decode cX11_tellMooring 17 = .ok (.aload_n 0, 1) := by decide +kernel
theorem dX11_tellMooring_18 : decode cX11_tellMooring 18 = .ok (.getfield 10, 3) := by decide +kernel
theorem dX11_tellMooring_21 : decode cX11_tellMooring 21 = .ok (.iconst 0, 1) := by decide +kernel
theorem dX11_tellMooring_22 : decode cX11_tellMooring 22 = .ok (.putfield 113, 3) := by decide +kernel
theorem dX11_tellMooring_25 : decode cX11_tellMooring 25 = .ok (.aload_n 0, 1) := by decide +kernel
theorem dX11_tellMooring_26 : decode cX11_tellMooring 26 = .ok (.getfield 52, 3) := by decide +kernel
theorem dX11_tellMooring_29 : decode cX11_tellMooring 29 = .ok (.aload_n 0, 1) := by decide +kernel
theorem dX11_tellMooring_30 : decode cX11_tellMooring 30 = .ok (.getfield 32, 3) := by decide +kernel
theorem dX11_tellMooring_33 : decode cX11_tellMooring 33 = .ok (.invokevirtual 135, 3) := by decide +kernel
theorem dX11_tellMooring_36 : decode cX11_tellMooring 36 = .ok (.aload_n 0, 1) := by decide +kernel
theorem dX11_tellMooring_37 : decode cX11_tellMooring 37 = .ok (.getfield 58, 3) := by decide +kernel
theorem dX11_tellMooring_40 : decode cX11_tellMooring 40 = .ok (.aload_n 0, 1) := by decide +kernel
theorem dX11_tellMooring_41 : decode cX11_tellMooring 41 = .ok (.getfield 32, 3) := by decide +kernel
theorem dX11_tellMooring_44 : decode cX11_tellMooring 44 = .ok (.aload_n 0, 1) := by decide +kernel
theorem dX11_tellMooring_45 : decode cX11_tellMooring 45 = .ok (.getfield 52, 3) := by decide +kernel
theorem dX11_tellMooring_48 : decode cX11_tellMooring 48 = .ok (.invokevirtual 139, 3) := by decide +kernel
theorem dX11_tellMooring_51 : decode cX11_tellMooring 51 = .ok (.iconst (-1), 1) := by decide +kernel
theorem dX11_tellMooring_52 : decode cX11_tellMooring 52 = .ok (.if_icmp .eq 6, 3) := by decide +kernel
theorem dX11_tellMooring_55 : decode cX11_tellMooring 55 = .ok (.bipush (-2), 2) := by decide +kernel
theorem dX11_tellMooring_57 : decode cX11_tellMooring 57 = .ok (.ireturn, 1) := by decide +kernel
theorem dX11_tellMooring_58 : decode cX11_tellMooring 58 = .ok (.aload_n 0, 1) := by decide +kernel
theorem dX11_tellMooring_59 : decode cX11_tellMooring 59 = .ok (.getfield 28, 3) := by decide +kernel
theorem dX11_tellMooring_62 : decode cX11_tellMooring 62 = .ok (.astore_n 1, 1) := by decide +kernel
theorem dX11_tellMooring_63 : decode cX11_tellMooring 63 = .ok (.aload_n 0, 1) := by decide +kernel
theorem dX11_tellMooring_64 : decode cX11_tellMooring 64 = .ok (.aload_n 0, 1) := by decide +kernel
theorem dX11_tellMooring_65 : decode cX11_tellMooring 65 = .ok (.getfield 32, 3) := by decide +kernel
theorem dX11_tellMooring_68 : decode cX11_tellMooring 68 = .ok (.putfield 28, 3) := by decide +kernel
theorem dX11_tellMooring_71 : decode cX11_tellMooring 71 = .ok (.aload_n 0, 1) := by decide +kernel
theorem dX11_tellMooring_72 : decode cX11_tellMooring 72 = .ok (.aload_n 1, 1) := by decide +kernel
theorem dX11_tellMooring_73 : decode cX11_tellMooring 73 = .ok (.putfield 32, 3) := by decide +kernel
theorem dX11_tellMooring_76 : decode cX11_tellMooring 76 = .ok (.aload_n 0, 1) := by decide +kernel
theorem dX11_tellMooring_77 : decode cX11_tellMooring 77 = .ok (.getfield 48, 3) := by decide +kernel
theorem dX11_tellMooring_80 : decode cX11_tellMooring 80 = .ok (.aload_n 0, 1) := by decide +kernel
theorem dX11_tellMooring_81 : decode cX11_tellMooring 81 = .ok (.getfield 52, 3) := by decide +kernel
theorem dX11_tellMooring_84 : decode cX11_tellMooring 84 = .ok (.invokevirtual 143, 3) := by decide +kernel
theorem dX11_tellMooring_87 : decode cX11_tellMooring 87 = .ok (.aload_n 0, 1) := by decide +kernel
theorem dX11_tellMooring_88 : decode cX11_tellMooring 88 = .ok (.getfield 82, 3) := by decide +kernel
theorem dX11_tellMooring_91 : decode cX11_tellMooring 91 = .ok (.invokevirtual 147, 3) := by decide +kernel
theorem dX11_tellMooring_94 : decode cX11_tellMooring 94 = .ok (.aload_n 0, 1) := by decide +kernel
theorem dX11_tellMooring_95 : decode cX11_tellMooring 95 = .ok (.iconst 0, 1) := by decide +kernel
theorem dX11_tellMooring_96 : decode cX11_tellMooring 96 = .ok (.putfield 100, 3) := by decide +kernel
theorem dX11_tellMooring_99 : decode cX11_tellMooring 99 = .ok (.aload_n 0, 1) := by decide +kernel
theorem dX11_tellMooring_100 : decode cX11_tellMooring 100 = .ok (.getfield 28, 3) := by decide +kernel
theorem dX11_tellMooring_103 : decode cX11_tellMooring 103 = .ok (.getfield 150, 3) := by decide +kernel
theorem dX11_tellMooring_106 : decode cX11_tellMooring 106 = .ok (.ireturn, 1) := by decide +kernel
theorem dX11_tellScript_0 : decode cX11_tellScript 0 = .ok (.aload_n 0, 1) := by decide +kernel
theorem dX11_tellScript_1 : decode cX11_tellScript 1 = .ok (.getfield 41, 3) := by decide +kernel
theorem dX11_tellScript_4 : decode cX11_tellScript 4 = .ok (.iconst 4, 1) := by decide +kernel
theorem dX11_tellScript_5 : decode cX11_tellScript 5 = .ok (.if_icmp .ge 23, 3) := by decide +kernel
theorem dX11_tellScript_8 : decode cX11_tellScript 8 = .ok (.aload_n 0, 1) := by decide +kernel
theorem dX11_tellScript_9 : decode cX11_tellScript 9 = .ok (.getfield 21, 3) := by decide +kernel
theorem dX11_tellScript_12 : decode cX11_tellScript 12 = .ok (.aload_n 0, 1) := by decide +kernel
theorem dX11_tellScript_13 : decode cX11_tellScript 13 = .ok (.getfield 37, 3) := by decide +kernel
theorem dX11_tellScript_16 : decode cX11_tellScript 16 = .ok (.aload_n 0, 1) := by decide +kernel
theorem dX11_tellScript_17 : decode cX11_tellScript 17 = .ok (.getfield 41, 3) := by decide +kernel
theorem dX11_tellScript_20 : decode cX11_tellScript 20 = .ok (.aaload, 1) := by decide +kernel
theorem dX11_tellScript_21 : decode cX11_tellScript 21 = .ok (.invokevirtual 124, 3) := by decide +kernel
theorem dX11_tellScript_24 : decode cX11_tellScript 24 = .ok (.iconst (-1), 1) := by decide +kernel
theorem dX11_tellScript_25 : decode cX11_tellScript 25 = .ok (.if_icmp .eq 5, 3) := by decide +kernel
theorem dX11_tellScript_28 : decode cX11_tellScript 28 = .ok (.iconst (-1), 1) := by decide +kernel
theorem dX11_tellScript_29 : decode cX11_tellScript 29 = .ok (.ireturn, 1) := by decide +kernel
theorem dX11_tellScript_30 : decode cX11_tellScript 30 = .ok (.aload_n 0, 1) := by decide +kernel
theorem dX11_tellScript_31 : decode cX11_tellScript 31 = .ok (.getfield 10, 3) := by decide +kernel
theorem dX11_tellScript_34 : decode cX11_tellScript 34 = .ok (.iconst 0, 1) := by decide +kernel
theorem dX11_tellScript_35 : decode cX11_tellScript 35 = .ok (.putfield 113, 3) := by decide +kernel
theorem dX11_tellScript_38 : decode cX11_tellScript 38 = .ok (.aload_n 0, 1) := by decide +kernel
theorem dX11_tellScript_39 : decode cX11_tellScript 39 = .ok (.dup, 1) := by decide +kernel
theorem dX11_tellScript_40 : decode cX11_tellScript 40 = .ok (.getfield 41, 3) := by decide +kernel
theorem dX11_tellScript_43 : decode cX11_tellScript 43 = .ok (.iconst 1, 1) := by decide +kernel
theorem dX11_tellScript_44 : decode cX11_tellScript 44 = .ok (.iadd, 1) := by decide +kernel
theorem dX11_tellScript_45 : decode cX11_tellScript 45 = .ok (.putfield 41, 3) := by decide +kernel
theorem dX11_tellScript_48 : decode cX11_tellScript 48 = .ok (.aload_n 0, 1) := by decide +kernel
theorem dX11_tellScript_49 : decode cX11_tellScript 49 = .ok (.getfield 41, 3) := by decide +kernel
theorem dX11_tellScript_52 : decode cX11_tellScript 52 = .ok (.iconst 1, 1) := by decide +kernel
theorem dX11_tellScript_53 : decode cX11_tellScript 53 = .ok (.isub, 1) := by decide +kernel
theorem dX11_tellScript_54 : decode cX11_tellScript 54 = .ok (.ireturn, 1) := by decide +kernel
theorem dX11_hasMooring_0 : decode cX11_hasMooring 0 = .ok (.aload_n 0, 1) := by decide +kernel
theorem dX11_hasMooring_1 : decode cX11_hasMooring 1 = .ok (.getfield 28, 3) := by decide +kernel
theorem dX11_hasMooring_4 : decode cX11_hasMooring 4 = .ok (.getfield 150, 3) := by decide +kernel
theorem dX11_hasMooring_7 : decode cX11_hasMooring 7 = .ok (.ifCond .le 7, 3) := by decide +kernel
theorem dX11_hasMooring_10 : decode cX11_hasMooring 10 = .ok (.iconst 1, 1) := by decide +kernel
theorem dX11_hasMooring_11 : decode cX11_hasMooring 11 = .ok (.goto 4, 3) := by decide +kernel
theorem dX11_hasMooring_14 : decode cX11_hasMooring 14 = .ok (.iconst 0, 1) := by decide +kernel
theorem dX11_hasMooring_15 : decode cX11_hasMooring 15 = .ok (.ireturn, 1) := by decide +kernel
theorem dX11_isRope_0 : decode cX11_isRope 0 = .ok (.iload_n 1, 1) := by decide +kernel
theorem dX11_isRope_1 : decode cX11_isRope 1 = .ok (.ifCond .lt 18, 3) := by decide +kernel
theorem dX11_isRope_4 : decode cX11_isRope 4 = .ok (.iload_n 1, 1) := by decide +kernel
theorem dX11_isRope_5 : decode cX11_isRope 5 = .ok (.aload_n 0, 1) := by decide +kernel
theorem dX11_isRope_6 : decode cX11_isRope 6 = .ok (.getfield 28, 3) := by decide +kernel
theorem dX11_isRope_9 : decode cX11_isRope 9 = .ok (.getfield 150, 3) := by decide +kernel
theorem dX11_isRope_12 : decode cX11_isRope 12 = .ok (.if_icmp .ge 7, 3) := by decide +kernel
theorem dX11_isRope_15 : decode cX11_isRope 15 = .ok (.iconst 1, 1) := by decide +kernel
theorem dX11_isRope_16 : decode cX11_isRope 16 = .ok (.goto 4, 3) := by decide +kernel
theorem dX11_isRope_19 : decode cX11_isRope 19 = .ok (.iconst 0, 1) := by decide +kernel
theorem dX11_isRope_20 : decode cX11_isRope 20 = .ok (.ireturn, 1) := by decide +kernel
theorem dX11_isFast_0 : decode cX11_isFast 0 = .ok (.aload_n 0, 1) := by decide +kernel
theorem dX11_isFast_1 : decode cX11_isFast 1 = .ok (.iload_n 1, 1) := by decide +kernel
theorem dX11_isFast_2 : decode cX11_isFast 2 = .ok (.invokevirtual 153, 3) := by decide +kernel
theorem dX11_isFast_5 : decode cX11_isFast 5 = .ok (.ifCond .eq 18, 3) := by decide +kernel
theorem dX11_isFast_8 : decode cX11_isFast 8 = .ok (.aload_n 0, 1) := by decide +kernel
theorem dX11_isFast_9 : decode cX11_isFast 9 = .ok (.getfield 48, 3) := by decide +kernel
theorem dX11_isFast_12 : decode cX11_isFast 12 = .ok (.iload_n 1, 1) := by decide +kernel
theorem dX11_isFast_13 : decode cX11_isFast 13 = .ok (.invokevirtual 157, 3) := by decide +kernel
theorem dX11_isFast_16 : decode cX11_isFast 16 = .ok (.ifCond .eq 7, 3) := by decide +kernel
theorem dX11_isFast_19 : decode cX11_isFast 19 = .ok (.iconst 1, 1) := by decide +kernel
theorem dX11_isFast_20 : decode cX11_isFast 20 = .ok (.goto 4, 3) := by decide +kernel
theorem dX11_isFast_23 : decode cX11_isFast 23 = .ok (.iconst 0, 1) := by decide +kernel
theorem dX11_isFast_24 : decode cX11_isFast 24 = .ok (.ireturn, 1) := by decide +kernel
theorem dX11_isTaut_0 : decode cX11_isTaut 0 = .ok (.aload_n 0, 1) := by decide +kernel
theorem dX11_isTaut_1 : decode cX11_isTaut 1 = .ok (.iload_n 1, 1) := by decide +kernel
theorem dX11_isTaut_2 : decode cX11_isTaut 2 = .ok (.invokevirtual 153, 3) := by decide +kernel
theorem dX11_isTaut_5 : decode cX11_isTaut 5 = .ok (.ifCond .eq 18, 3) := by decide +kernel
theorem dX11_isTaut_8 : decode cX11_isTaut 8 = .ok (.aload_n 0, 1) := by decide +kernel
theorem dX11_isTaut_9 : decode cX11_isTaut 9 = .ok (.getfield 48, 3) := by decide +kernel
theorem dX11_isTaut_12 : decode cX11_isTaut 12 = .ok (.iload_n 1, 1) := by decide +kernel
theorem dX11_isTaut_13 : decode cX11_isTaut 13 = .ok (.invokevirtual 160, 3) := by decide +kernel
theorem dX11_isTaut_16 : decode cX11_isTaut 16 = .ok (.ifCond .ne 7, 3) := by decide +kernel
theorem dX11_isTaut_19 : decode cX11_isTaut 19 = .ok (.iconst 1, 1) := by decide +kernel
theorem dX11_isTaut_20 : decode cX11_isTaut 20 = .ok (.goto 4, 3) := by decide +kernel
theorem dX11_isTaut_23 : decode cX11_isTaut 23 = .ok (.iconst 0, 1) := by decide +kernel
theorem dX11_isTaut_24 : decode cX11_isTaut 24 = .ok (.ireturn, 1) := by decide +kernel
theorem dX11_isAxis_0 : decode cX11_isAxis 0 = .ok (.iload_n 0, 1) := by decide +kernel
theorem dX11_isAxis_1 : decode cX11_isAxis 1 = .ok (.ifCond .lt 12, 3) := by decide +kernel
theorem dX11_isAxis_4 : decode cX11_isAxis 4 = .ok (.iload_n 0, 1) := by decide +kernel
theorem dX11_isAxis_5 : decode cX11_isAxis 5 = .ok (.iconst 3, 1) := by decide +kernel
theorem dX11_isAxis_6 : decode cX11_isAxis 6 = .ok (.if_icmp .ge 7, 3) := by decide +kernel
theorem dX11_isAxis_9 : decode cX11_isAxis 9 = .ok (.iconst 1, 1) := by decide +kernel
theorem dX11_isAxis_10 : decode cX11_isAxis 10 = .ok (.goto 4, 3) := by decide +kernel
theorem dX11_isAxis_13 : decode cX11_isAxis 13 = .ok (.iconst 0, 1) := by decide +kernel
theorem dX11_isAxis_14 : decode cX11_isAxis 14 = .ok (.ireturn, 1) := by decide +kernel
theorem dX11_isWithin_0 : decode cX11_isWithin 0 = .ok (.iload_n 0, 1) := by decide +kernel
theorem dX11_isWithin_1 : decode cX11_isWithin 1 = .ok (.iload_n 1, 1) := by decide +kernel
theorem dX11_isWithin_2 : decode cX11_isWithin 2 = .ok (.if_icmp .lt 12, 3) := by decide +kernel
theorem dX11_isWithin_5 : decode cX11_isWithin 5 = .ok (.iload_n 0, 1) := by decide +kernel
theorem dX11_isWithin_6 : decode cX11_isWithin 6 = .ok (.iload_n 2, 1) := by decide +kernel
theorem dX11_isWithin_7 : decode cX11_isWithin 7 = .ok (.if_icmp .gt 7, 3) := by decide +kernel
theorem dX11_isWithin_10 : decode cX11_isWithin 10 = .ok (.iconst 1, 1) := by decide +kernel
theorem dX11_isWithin_11 : decode cX11_isWithin 11 = .ok (.goto 4, 3) := by decide +kernel
theorem dX11_isWithin_14 : decode cX11_isWithin 14 = .ok (.iconst 0, 1) := by decide +kernel
theorem dX11_isWithin_15 : decode cX11_isWithin 15 = .ok (.ireturn, 1) := by decide +kernel
theorem dX11_solved_0 : decode cX11_solved 0 = .ok (.aload_n 0, 1) := by decide +kernel
theorem dX11_solved_1 : decode cX11_solved 1 = .ok (.getfield 58, 3) := by decide +kernel
theorem dX11_solved_4 : decode cX11_solved 4 = .ok (.getfield 163, 3) := by decide +kernel
theorem dX11_solved_7 : decode cX11_solved 7 = .ok (.aload_n 0, 1) := by decide +kernel
theorem dX11_solved_8 : decode cX11_solved 8 = .ok (.getfield 28, 3) := by decide +kernel
theorem dX11_solved_11 : decode cX11_solved 11 = .ok (.aload_n 0, 1) := by decide +kernel
theorem dX11_solved_12 : decode cX11_solved 12 = .ok (.getfield 48, 3) := by decide +kernel
theorem dX11_solved_15 : decode cX11_solved 15 = .ok (.aload_n 0, 1) := by decide +kernel
theorem dX11_solved_16 : decode cX11_solved 16 = .ok (.getfield 48, 3) := by decide +kernel
theorem dX11_solved_19 : decode cX11_solved 19 = .ok (.getfield 167, 3) := by decide +kernel
theorem dX11_solved_22 : decode cX11_solved 22 = .ok (.invokevirtual 170, 3) := by decide +kernel
theorem dX11_solved_25 : decode cX11_solved 25 = .ok (.pop, 1) := by decide +kernel
theorem dX11_solved_26 : decode cX11_solved 26 = .ok (.aload_n 0, 1) := by decide +kernel
theorem dX11_solved_27 : decode cX11_solved 27 = .ok (.getfield 58, 3) := by decide +kernel
theorem dX11_solved_30 : decode cX11_solved 30 = .ok (.getfield 163, 3) := by decide +kernel
theorem dX11_solved_33 : decode cX11_solved 33 = .ok (.areturn, 1) := by decide +kernel
theorem dX11_rule_0 : decode cX11_rule 0 = .ok (.aload_n 0, 1) := by decide +kernel
theorem dX11_rule_1 : decode cX11_rule 1 = .ok (.invokevirtual 176, 3) := by decide +kernel
theorem dX11_rule_4 : decode cX11_rule 4 = .ok (.ifCond .eq 12, 3) := by decide +kernel
theorem dX11_rule_7 : decode cX11_rule 7 = .ok (.iload_n 1, 1) := by decide +kernel
theorem dX11_rule_8 : decode cX11_rule 8 = .ok (.iconst 0, 1) := by decide +kernel
theorem dX11_rule_9 : decode cX11_rule 9 = .ok (.iconst 4, 1) := by decide +kernel
theorem dX11_rule_10 : decode cX11_rule 10 = .ok (.invokestatic 180, 3) := by decide +kernel
theorem dX11_rule_13 : decode cX11_rule 13 = .ok (.ifCond .ne 6, 3) := by decide +kernel
theorem dX11_rule_16 : decode cX11_rule 16 = .ok (.ldc 184, 2) := by decide +kernel
theorem dX11_rule_18 : decode cX11_rule 18 = .ok (.ireturn, 1) := by decide +kernel
theorem dX11_rule_19 : decode cX11_rule 19 = .ok (.iload_n 1, 1) := by decide +kernel
theorem dX11_rule_20 : decode cX11_rule 20 = .ok (.ifCond .ne 13, 3) := by decide +kernel
theorem dX11_rule_23 : decode cX11_rule 23 = .ok (.aload_n 0, 1) := by decide +kernel
theorem dX11_rule_24 : decode cX11_rule 24 = .ok (.getfield 28, 3) := by decide +kernel
theorem dX11_rule_27 : decode cX11_rule 27 = .ok (.getfield 185, 3) := by decide +kernel
theorem dX11_rule_30 : decode cX11_rule 30 = .ok (.iconst 0, 1) := by decide +kernel
theorem dX11_rule_31 : decode cX11_rule 31 = .ok (.iaload, 1) := by decide +kernel
theorem dX11_rule_32 : decode cX11_rule 32 = .ok (.ireturn, 1) := by decide +kernel
theorem dX11_rule_33 : decode cX11_rule 33 = .ok (.iload_n 1, 1) := by decide +kernel
theorem dX11_rule_34 : decode cX11_rule 34 = .ok (.iconst 4, 1) := by decide +kernel
theorem dX11_rule_35 : decode cX11_rule 35 = .ok (.if_icmp .ne 13, 3) := by decide +kernel
theorem dX11_rule_38 : decode cX11_rule 38 = .ok (.aload_n 0, 1) := by decide +kernel
theorem dX11_rule_39 : decode cX11_rule 39 = .ok (.getfield 48, 3) := by decide +kernel
theorem dX11_rule_42 : decode cX11_rule 42 = .ok (.getfield 188, 3) := by decide +kernel
theorem dX11_rule_45 : decode cX11_rule 45 = .ok (.goto 14, 3) := by decide +kernel
theorem dX11_rule_48 : decode cX11_rule 48 = .ok (.aload_n 0, 1) := by decide +kernel
theorem dX11_rule_49 : decode cX11_rule 49 = .ok (.getfield 48, 3) := by decide +kernel
theorem dX11_rule_52 : decode cX11_rule 52 = .ok (.getfield 191, 3) := by decide +kernel
theorem dX11_rule_55 : decode cX11_rule 55 = .ok (.iload_n 1, 1) := by decide +kernel
theorem dX11_rule_56 : decode cX11_rule 56 = .ok (.iconst 1, 1) := by decide +kernel
theorem dX11_rule_57 : decode cX11_rule 57 = .ok (.isub, 1) := by decide +kernel
theorem dX11_rule_58 : decode cX11_rule 58 = .ok (.iaload, 1) := by decide +kernel
theorem dX11_rule_59 : decode cX11_rule 59 = .ok (.ireturn, 1) := by decide +kernel
theorem dX11_rope_0 : decode cX11_rope 0 = .ok (.aload_n 0, 1) := by decide +kernel
theorem dX11_rope_1 : decode cX11_rope 1 = .ok (.iload_n 1, 1) := by decide +kernel
theorem dX11_rope_2 : decode cX11_rope 2 = .ok (.invokevirtual 153, 3) := by decide +kernel
theorem dX11_rope_5 : decode cX11_rope 5 = .ok (.ifCond .eq 13, 3) := by decide +kernel
theorem dX11_rope_8 : decode cX11_rope 8 = .ok (.iload_n 2, 1) := by decide +kernel
theorem dX11_rope_9 : decode cX11_rope 9 = .ok (.iconst 0, 1) := by decide +kernel
theorem dX11_rope_10 : decode cX11_rope 10 = .ok (.bipush 8, 2) := by decide +kernel
theorem dX11_rope_12 : decode cX11_rope 12 = .ok (.invokestatic 180, 3) := by decide +kernel
theorem dX11_rope_15 : decode cX11_rope 15 = .ok (.ifCond .ne 11, 3) := by decide +kernel
theorem dX11_rope_18 : decode cX11_rope 18 = .ok (.new 194, 3) := by decide +kernel
theorem dX11_rope_21 : decode cX11_rope 21 = .ok (.dup, 1) := by decide +kernel
theorem dX11_rope_22 : decode cX11_rope 22 = .ok (.invokespecial 196, 3) := by decide +kernel
theorem dX11_rope_25 : decode cX11_rope 25 = .ok (.athrow, 1) := by decide +kernel
theorem dX11_rope_26 : decode cX11_rope 26 = .ok (.iload_n 2, 1) := by decide +kernel
theorem dX11_rope_27 : decode cX11_rope 27 = .ok (.tableswitch 72 5 8 #[29, 43, 53, 63], 29) := by decide +kernel
theorem dX11_rope_56 : decode cX11_rope 56 = .ok (.aload_n 0, 1) := by decide +kernel
theorem dX11_rope_57 : decode cX11_rope 57 = .ok (.getfield 28, 3) := by decide +kernel
theorem dX11_rope_60 : decode cX11_rope 60 = .ok (.getfield 197, 3) := by decide +kernel
theorem dX11_rope_63 : decode cX11_rope 63 = .ok (.iconst 3, 1) := by decide +kernel
theorem dX11_rope_64 : decode cX11_rope 64 = .ok (.iload_n 1, 1) := by decide +kernel
theorem dX11_rope_65 : decode cX11_rope 65 = .ok (.imul, 1) := by decide +kernel
theorem dX11_rope_66 : decode cX11_rope 66 = .ok (.iconst 2, 1) := by decide +kernel
theorem dX11_rope_67 : decode cX11_rope 67 = .ok (.iadd, 1) := by decide +kernel
theorem dX11_rope_68 : decode cX11_rope 68 = .ok (.iaload, 1) := by decide +kernel
theorem dX11_rope_69 : decode cX11_rope 69 = .ok (.ireturn, 1) := by decide +kernel
theorem dX11_rope_70 : decode cX11_rope 70 = .ok (.aload_n 0, 1) := by decide +kernel
theorem dX11_rope_71 : decode cX11_rope 71 = .ok (.getfield 28, 3) := by decide +kernel
theorem dX11_rope_74 : decode cX11_rope 74 = .ok (.getfield 200, 3) := by decide +kernel
theorem dX11_rope_77 : decode cX11_rope 77 = .ok (.iload_n 1, 1) := by decide +kernel
theorem dX11_rope_78 : decode cX11_rope 78 = .ok (.iaload, 1) := by decide +kernel
theorem dX11_rope_79 : decode cX11_rope 79 = .ok (.ireturn, 1) := by decide +kernel
theorem dX11_rope_80 : decode cX11_rope 80 = .ok (.aload_n 0, 1) := by decide +kernel
theorem dX11_rope_81 : decode cX11_rope 81 = .ok (.getfield 48, 3) := by decide +kernel
theorem dX11_rope_84 : decode cX11_rope 84 = .ok (.getfield 203, 3) := by decide +kernel
theorem dX11_rope_87 : decode cX11_rope 87 = .ok (.iload_n 1, 1) := by decide +kernel
theorem dX11_rope_88 : decode cX11_rope 88 = .ok (.iaload, 1) := by decide +kernel
theorem dX11_rope_89 : decode cX11_rope 89 = .ok (.ireturn, 1) := by decide +kernel
theorem dX11_rope_90 : decode cX11_rope 90 = .ok (.aload_n 0, 1) := by decide +kernel
theorem dX11_rope_91 : decode cX11_rope 91 = .ok (.getfield 48, 3) := by decide +kernel
theorem dX11_rope_94 : decode cX11_rope 94 = .ok (.iload_n 1, 1) := by decide +kernel
theorem dX11_rope_95 : decode cX11_rope 95 = .ok (.invokevirtual 160, 3) := by decide +kernel
theorem dX11_rope_98 : decode cX11_rope 98 = .ok (.ireturn, 1) := by decide +kernel
theorem dX11_rope_99 : decode cX11_rope 99 = .ok (.aload_n 0, 1) := by decide +kernel
theorem dX11_rope_100 : decode cX11_rope 100 = .ok (.getfield 28, 3) := by decide +kernel
theorem dX11_rope_103 : decode cX11_rope 103 = .ok (.iload_n 1, 1) := by decide +kernel
theorem dX11_rope_104 : decode cX11_rope 104 = .ok (.iload_n 2, 1) := by decide +kernel
theorem dX11_rope_105 : decode cX11_rope 105 = .ok (.invokevirtual 206, 3) := by decide +kernel
theorem dX11_rope_108 : decode cX11_rope 108 = .ok (.ireturn, 1) := by decide +kernel
theorem dX11_pull_0 : decode cX11_pull 0 = .ok (.aload_n 0, 1) := by decide +kernel
theorem dX11_pull_1 : decode cX11_pull 1 = .ok (.iload_n 1, 1) := by decide +kernel
theorem dX11_pull_2 : decode cX11_pull 2 = .ok (.invokevirtual 210, 3) := by decide +kernel
theorem dX11_pull_5 : decode cX11_pull 5 = .ok (.ifCond .eq 12, 3) := by decide +kernel
theorem dX11_pull_8 : decode cX11_pull 8 = .ok (.iload_n 2, 1) := by decide +kernel
theorem dX11_pull_9 : decode cX11_pull 9 = .ok (.iconst 0, 1) := by decide +kernel
theorem dX11_pull_10 : decode cX11_pull 10 = .ok (.iconst 1, 1) := by decide +kernel
theorem dX11_pull_11 : decode cX11_pull 11 = .ok (.invokestatic 180, 3) := by decide +kernel
theorem dX11_pull_14 : decode cX11_pull 14 = .ok (.ifCond .ne 7, 3) := by decide +kernel
theorem dX11_pull_17 : decode cX11_pull 17 = .ok (.ldc2_w 211, 3) := by decide +kernel
theorem dX11_pull_20 : decode cX11_pull 20 = .ok (.lreturn, 1) := by decide +kernel
theorem dX11_pull_21 : decode cX11_pull 21 = .ok (.aload_n 0, 1) := by decide +kernel
theorem dX11_pull_22 : decode cX11_pull 22 = .ok (.invokevirtual 213, 3) := by decide +kernel
theorem dX11_pull_25 : decode cX11_pull 25 = .ok (.astore_n 3, 1) := by decide +kernel
theorem dX11_pull_26 : decode cX11_pull 26 = .ok (.aload_n 0, 1) := by decide +kernel
theorem dX11_pull_27 : decode cX11_pull 27 = .ok (.getfield 65, 3) := by decide +kernel
theorem dX11_pull_30 : decode cX11_pull 30 = .ok (.aload_n 3, 1) := by decide +kernel
theorem dX11_pull_31 : decode cX11_pull 31 = .ok (.getfield 217, 3) := by decide +kernel
theorem dX11_pull_34 : decode cX11_pull 34 = .ok (.iload_n 1, 1) := by decide +kernel
theorem dX11_pull_35 : decode cX11_pull 35 = .ok (.laload, 1) := by decide +kernel
theorem dX11_pull_36 : decode cX11_pull 36 = .ok (.aload_n 3, 1) := by decide +kernel
theorem dX11_pull_37 : decode cX11_pull 37 = .ok (.getfield 221, 3) := by decide +kernel
theorem dX11_pull_40 : decode cX11_pull 40 = .ok (.invokevirtual 224, 3) := by decide +kernel
theorem dX11_pull_43 : decode cX11_pull 43 = .ok (.aload_n 0, 1) := by decide +kernel
theorem dX11_pull_44 : decode cX11_pull 44 = .ok (.getfield 65, 3) := by decide +kernel
theorem dX11_pull_47 : decode cX11_pull 47 = .ok (.iload_n 2, 1) := by decide +kernel
theorem dX11_pull_48 : decode cX11_pull 48 = .ok (.invokevirtual 228, 3) := by decide +kernel
theorem dX11_pull_51 : decode cX11_pull 51 = .ok (.lreturn, 1) := by decide +kernel
theorem dX11_shift_0 : decode cX11_shift 0 = .ok (.aload_n 0, 1) := by decide +kernel
theorem dX11_shift_1 : decode cX11_shift 1 = .ok (.invokevirtual 176, 3) := by decide +kernel
theorem dX11_shift_4 : decode cX11_shift 4 = .ok (.ifCond .eq 19, 3) := by decide +kernel
theorem dX11_shift_7 : decode cX11_shift 7 = .ok (.iload_n 1, 1) := by decide +kernel
theorem dX11_shift_8 : decode cX11_shift 8 = .ok (.invokestatic 232, 3) := by decide +kernel
theorem dX11_shift_11 : decode cX11_shift 11 = .ok (.ifCond .eq 12, 3) := by decide +kernel
theorem dX11_shift_14 : decode cX11_shift 14 = .ok (.iload_n 2, 1) := by decide +kernel
theorem dX11_shift_15 : decode cX11_shift 15 = .ok (.iconst 0, 1) := by decide +kernel
theorem dX11_shift_16 : decode cX11_shift 16 = .ok (.iconst 1, 1) := by decide +kernel
theorem dX11_shift_17 : decode cX11_shift 17 = .ok (.invokestatic 180, 3) := by decide +kernel
theorem dX11_shift_20 : decode cX11_shift 20 = .ok (.ifCond .ne 7, 3) := by decide +kernel
theorem dX11_shift_23 : decode cX11_shift 23 = .ok (.ldc2_w 211, 3) := by decide +kernel
theorem dX11_shift_26 : decode cX11_shift 26 = .ok (.lreturn, 1) := by decide +kernel
theorem dX11_shift_27 : decode cX11_shift 27 = .ok (.aload_n 0, 1) := by decide +kernel
theorem dX11_shift_28 : decode cX11_shift 28 = .ok (.invokevirtual 213, 3) := by decide +kernel
theorem dX11_shift_31 : decode cX11_shift 31 = .ok (.astore_n 3, 1) := by decide +kernel
theorem dX11_shift_32 : decode cX11_shift 32 = .ok (.aload_n 0, 1) := by decide +kernel
theorem dX11_shift_33 : decode cX11_shift 33 = .ok (.getfield 65, 3) := by decide +kernel
theorem dX11_shift_36 : decode cX11_shift 36 = .ok (.aload_n 3, 1) := by decide +kernel
theorem dX11_shift_37 : decode cX11_shift 37 = .ok (.getfield 235, 3) := by decide +kernel
theorem dX11_shift_40 : decode cX11_shift 40 = .ok (.iload_n 1, 1) := by decide +kernel
theorem dX11_shift_41 : decode cX11_shift 41 = .ok (.laload, 1) := by decide +kernel
theorem dX11_shift_42 : decode cX11_shift 42 = .ok (.aload_n 3, 1) := by decide +kernel
theorem dX11_shift_43 : decode cX11_shift 43 = .ok (.getfield 221, 3) := by decide +kernel
theorem dX11_shift_46 : decode cX11_shift 46 = .ok (.invokevirtual 224, 3) := by decide +kernel
theorem dX11_shift_49 : decode cX11_shift 49 = .ok (.aload_n 0, 1) := by decide +kernel
theorem dX11_shift_50 : decode cX11_shift 50 = .ok (.getfield 65, 3) := by decide +kernel
theorem dX11_shift_53 : decode cX11_shift 53 = .ok (.iload_n 2, 1) := by decide +kernel
theorem dX11_shift_54 : decode cX11_shift 54 = .ok (.invokevirtual 228, 3) := by decide +kernel
theorem dX11_shift_57 : decode cX11_shift 57 = .ok (.lreturn, 1) := by decide +kernel
theorem dX11_held_0 : decode cX11_held 0 = .ok (.aload_n 0, 1) := by decide +kernel
theorem dX11_held_1 : decode cX11_held 1 = .ok (.invokevirtual 176, 3) := by decide +kernel
theorem dX11_held_4 : decode cX11_held 4 = .ok (.ifCond .eq 19, 3) := by decide +kernel
theorem dX11_held_7 : decode cX11_held 7 = .ok (.iload_n 1, 1) := by decide +kernel
theorem dX11_held_8 : decode cX11_held 8 = .ok (.invokestatic 232, 3) := by decide +kernel
theorem dX11_held_11 : decode cX11_held 11 = .ok (.ifCond .eq 12, 3) := by decide +kernel
theorem dX11_held_14 : decode cX11_held 14 = .ok (.iload_n 2, 1) := by decide +kernel
theorem dX11_held_15 : decode cX11_held 15 = .ok (.iconst 0, 1) := by decide +kernel
theorem dX11_held_16 : decode cX11_held 16 = .ok (.iconst 1, 1) := by decide +kernel
theorem dX11_held_17 : decode cX11_held 17 = .ok (.invokestatic 180, 3) := by decide +kernel
theorem dX11_held_20 : decode cX11_held 20 = .ok (.ifCond .ne 7, 3) := by decide +kernel
theorem dX11_held_23 : decode cX11_held 23 = .ok (.ldc2_w 211, 3) := by decide +kernel
theorem dX11_held_26 : decode cX11_held 26 = .ok (.lreturn, 1) := by decide +kernel
theorem dX11_held_27 : decode cX11_held 27 = .ok (.aload_n 0, 1) := by decide +kernel
theorem dX11_held_28 : decode cX11_held 28 = .ok (.getfield 28, 3) := by decide +kernel
theorem dX11_held_31 : decode cX11_held 31 = .ok (.getfield 238, 3) := by decide +kernel
theorem dX11_held_34 : decode cX11_held 34 = .ok (.iload_n 1, 1) := by decide +kernel
theorem dX11_held_35 : decode cX11_held 35 = .ok (.baload, 1) := by decide +kernel
theorem dX11_held_36 : decode cX11_held 36 = .ok (.ifCond .eq 15, 3) := by decide +kernel
theorem dX11_held_39 : decode cX11_held 39 = .ok (.aload_n 0, 1) := by decide +kernel
theorem dX11_held_40 : decode cX11_held 40 = .ok (.getfield 65, 3) := by decide +kernel
theorem dX11_held_43 : decode cX11_held 43 = .ok (.lconst 0, 1) := by decide +kernel
theorem dX11_held_44 : decode cX11_held 44 = .ok (.lconst 1, 1) := by decide +kernel
theorem dX11_held_45 : decode cX11_held 45 = .ok (.invokevirtual 224, 3) := by decide +kernel
theorem dX11_held_48 : decode cX11_held 48 = .ok (.goto 32, 3) := by decide +kernel
theorem dX11_held_51 : decode cX11_held 51 = .ok (.aload_n 0, 1) := by decide +kernel
theorem dX11_held_52 : decode cX11_held 52 = .ok (.invokevirtual 213, 3) := by decide +kernel
theorem dX11_held_55 : decode cX11_held 55 = .ok (.astore_n 3, 1) := by decide +kernel
theorem dX11_held_56 : decode cX11_held 56 = .ok (.aload_n 0, 1) := by decide +kernel
theorem dX11_held_57 : decode cX11_held 57 = .ok (.getfield 65, 3) := by decide +kernel
theorem dX11_held_60 : decode cX11_held 60 = .ok (.aload_n 3, 1) := by decide +kernel
theorem dX11_held_61 : decode cX11_held 61 = .ok (.aload_n 0, 1) := by decide +kernel
theorem dX11_held_62 : decode cX11_held 62 = .ok (.getfield 28, 3) := by decide +kernel
theorem dX11_held_65 : decode cX11_held 65 = .ok (.aload_n 0, 1) := by decide +kernel
theorem dX11_held_66 : decode cX11_held 66 = .ok (.getfield 48, 3) := by decide +kernel
theorem dX11_held_69 : decode cX11_held 69 = .ok (.iload_n 1, 1) := by decide +kernel
theorem dX11_held_70 : decode cX11_held 70 = .ok (.invokevirtual 242, 3) := by decide +kernel
theorem dX11_held_73 : decode cX11_held 73 = .ok (.aload_n 3, 1) := by decide +kernel
theorem dX11_held_74 : decode cX11_held 74 = .ok (.getfield 221, 3) := by decide +kernel
theorem dX11_held_77 : decode cX11_held 77 = .ok (.invokevirtual 224, 3) := by decide +kernel
theorem dX11_held_80 : decode cX11_held 80 = .ok (.aload_n 0, 1) := by decide +kernel
theorem dX11_held_81 : decode cX11_held 81 = .ok (.getfield 65, 3) := by decide +kernel
theorem dX11_held_84 : decode cX11_held 84 = .ok (.iload_n 2, 1) := by decide +kernel
theorem dX11_held_85 : decode cX11_held 85 = .ok (.invokevirtual 228, 3) := by decide +kernel
theorem dX11_held_88 : decode cX11_held 88 = .ok (.lreturn, 1) := by decide +kernel
theorem dX11_load_0 : decode cX11_load 0 = .ok (.aload_n 0, 1) := by decide +kernel
theorem dX11_load_1 : decode cX11_load 1 = .ok (.iload_n 1, 1) := by decide +kernel
theorem dX11_load_2 : decode cX11_load 2 = .ok (.invokevirtual 246, 3) := by decide +kernel
theorem dX11_load_5 : decode cX11_load 5 = .ok (.ifCond .eq 12, 3) := by decide +kernel
theorem dX11_load_8 : decode cX11_load 8 = .ok (.iload_n 2, 1) := by decide +kernel
theorem dX11_load_9 : decode cX11_load 9 = .ok (.iconst 0, 1) := by decide +kernel
theorem dX11_load_10 : decode cX11_load 10 = .ok (.iconst 1, 1) := by decide +kernel
theorem dX11_load_11 : decode cX11_load 11 = .ok (.invokestatic 180, 3) := by decide +kernel
theorem dX11_load_14 : decode cX11_load 14 = .ok (.ifCond .ne 7, 3) := by decide +kernel
theorem dX11_load_17 : decode cX11_load 17 = .ok (.ldc2_w 211, 3) := by decide +kernel
theorem dX11_load_20 : decode cX11_load 20 = .ok (.lreturn, 1) := by decide +kernel
theorem dX11_load_21 : decode cX11_load 21 = .ok (.aload_n 0, 1) := by decide +kernel
theorem dX11_load_22 : decode cX11_load 22 = .ok (.aload_n 0, 1) := by decide +kernel
theorem dX11_load_23 : decode cX11_load 23 = .ok (.invokevirtual 213, 3) := by decide +kernel
theorem dX11_load_26 : decode cX11_load 26 = .ok (.iload_n 1, 1) := by decide +kernel
theorem dX11_load_27 : decode cX11_load 27 = .ok (.invokevirtual 249, 3) := by decide +kernel
theorem dX11_load_30 : decode cX11_load 30 = .ok (.aload_n 0, 1) := by decide +kernel
theorem dX11_load_31 : decode cX11_load 31 = .ok (.getfield 65, 3) := by decide +kernel
theorem dX11_load_34 : decode cX11_load 34 = .ok (.iload_n 2, 1) := by decide +kernel
theorem dX11_load_35 : decode cX11_load 35 = .ok (.invokevirtual 228, 3) := by decide +kernel
theorem dX11_load_38 : decode cX11_load 38 = .ok (.lreturn, 1) := by decide +kernel
theorem dX11_putLoad_0 : decode cX11_putLoad 0 = .ok (.aload_n 0, 1) := by decide +kernel
theorem dX11_putLoad_1 : decode cX11_putLoad 1 = .ok (.getfield 65, 3) := by decide +kernel
theorem dX11_putLoad_4 : decode cX11_putLoad 4 = .ok (.aload_n 1, 1) := by decide +kernel
theorem dX11_putLoad_5 : decode cX11_putLoad 5 = .ok (.getfield 217, 3) := by decide +kernel
theorem dX11_putLoad_8 : decode cX11_putLoad 8 = .ok (.iload_n 2, 1) := by decide +kernel
theorem dX11_putLoad_9 : decode cX11_putLoad 9 = .ok (.laload, 1) := by decide +kernel
theorem dX11_putLoad_10 : decode cX11_putLoad 10 = .ok (.aload_n 0, 1) := by decide +kernel
theorem dX11_putLoad_11 : decode cX11_putLoad 11 = .ok (.getfield 28, 3) := by decide +kernel
theorem dX11_putLoad_14 : decode cX11_putLoad 14 = .ok (.getfield 200, 3) := by decide +kernel
theorem dX11_putLoad_17 : decode cX11_putLoad 17 = .ok (.iload_n 2, 1) := by decide +kernel
theorem dX11_putLoad_18 : decode cX11_putLoad 18 = .ok (.iaload, 1) := by decide +kernel
theorem dX11_putLoad_19 : decode cX11_putLoad 19 = .ok (.i2l, 1) := by decide +kernel
theorem dX11_putLoad_20 : decode cX11_putLoad 20 = .ok (.aload_n 1, 1) := by decide +kernel
theorem dX11_putLoad_21 : decode cX11_putLoad 21 = .ok (.getfield 221, 3) := by decide +kernel
theorem dX11_putLoad_24 : decode cX11_putLoad 24 = .ok (.lmul, 1) := by decide +kernel
theorem dX11_putLoad_25 : decode cX11_putLoad 25 = .ok (.invokevirtual 224, 3) := by decide +kernel
theorem dX11_putLoad_28 : decode cX11_putLoad 28 = .ok (.return_, 1) := by decide +kernel
theorem dX11_worst_0 : decode cX11_worst 0 = .ok (.aload_n 0, 1) := by decide +kernel
theorem dX11_worst_1 : decode cX11_worst 1 = .ok (.invokevirtual 176, 3) := by decide +kernel
theorem dX11_worst_4 : decode cX11_worst 4 = .ok (.ifCond .ne 5, 3) := by decide +kernel
theorem dX11_worst_7 : decode cX11_worst 7 = .ok (.iconst (-1), 1) := by decide +kernel
theorem dX11_worst_8 : decode cX11_worst 8 = .ok (.ireturn, 1) := by decide +kernel
theorem dX11_worst_9 : decode cX11_worst 9 = .ok (.aload_n 0, 1) := by decide +kernel
theorem dX11_worst_10 : decode cX11_worst 10 = .ok (.invokevirtual 213, 3) := by decide +kernel
theorem dX11_worst_13 : decode cX11_worst 13 = .ok (.aload_n 0, 1) := by decide +kernel
theorem dX11_worst_14 : decode cX11_worst 14 = .ok (.getfield 28, 3) := by decide +kernel
theorem dX11_worst_17 : decode cX11_worst 17 = .ok (.aload_n 0, 1) := by decide +kernel
theorem dX11_worst_18 : decode cX11_worst 18 = .ok (.getfield 48, 3) := by decide +kernel
theorem dX11_worst_21 : decode cX11_worst 21 = .ok (.getfield 167, 3) := by decide +kernel
theorem dX11_worst_24 : decode cX11_worst 24 = .ok (.iconst 1, 1) := by decide +kernel
theorem dX11_worst_25 : decode cX11_worst 25 = .ok (.invokevirtual 253, 3) := by decide +kernel
theorem dX11_worst_28 : decode cX11_worst 28 = .ok (.ireturn, 1) := by decide +kernel
theorem dX11_uneven_0 : decode cX11_uneven 0 = .ok (.aload_n 0, 1) := by decide +kernel
theorem dX11_uneven_1 : decode cX11_uneven 1 = .ok (.invokevirtual 176, 3) := by decide +kernel
theorem dX11_uneven_4 : decode cX11_uneven 4 = .ok (.ifCond .eq 12, 3) := by decide +kernel
theorem dX11_uneven_7 : decode cX11_uneven 7 = .ok (.iload_n 1, 1) := by decide +kernel
theorem dX11_uneven_8 : decode cX11_uneven 8 = .ok (.iconst 0, 1) := by decide +kernel
theorem dX11_uneven_9 : decode cX11_uneven 9 = .ok (.iconst 1, 1) := by decide +kernel
theorem dX11_uneven_10 : decode cX11_uneven 10 = .ok (.invokestatic 180, 3) := by decide +kernel
theorem dX11_uneven_13 : decode cX11_uneven 13 = .ok (.ifCond .ne 7, 3) := by decide +kernel
theorem dX11_uneven_16 : decode cX11_uneven 16 = .ok (.ldc2_w 211, 3) := by decide +kernel
theorem dX11_uneven_19 : decode cX11_uneven 19 = .ok (.lreturn, 1) := by decide +kernel
theorem dX11_uneven_20 : decode cX11_uneven 20 = .ok (.aload_n 0, 1) := by decide +kernel
theorem dX11_uneven_21 : decode cX11_uneven 21 = .ok (.aload_n 0, 1) := by decide +kernel
theorem dX11_uneven_22 : decode cX11_uneven 22 = .ok (.invokevirtual 213, 3) := by decide +kernel
theorem dX11_uneven_25 : decode cX11_uneven 25 = .ok (.invokevirtual 257, 3) := by decide +kernel
theorem dX11_uneven_28 : decode cX11_uneven 28 = .ok (.aload_n 0, 1) := by decide +kernel
theorem dX11_uneven_29 : decode cX11_uneven 29 = .ok (.getfield 65, 3) := by decide +kernel
theorem dX11_uneven_32 : decode cX11_uneven 32 = .ok (.iload_n 1, 1) := by decide +kernel
theorem dX11_uneven_33 : decode cX11_uneven 33 = .ok (.invokevirtual 228, 3) := by decide +kernel
theorem dX11_uneven_36 : decode cX11_uneven 36 = .ok (.lreturn, 1) := by decide +kernel
theorem dX11_putUneven_0 : decode cX11_putUneven 0 = .ok (.aload_n 1, 1) := by decide +kernel
theorem dX11_putUneven_1 : decode cX11_putUneven 1 = .ok (.aload_n 0, 1) := by decide +kernel
theorem dX11_putUneven_2 : decode cX11_putUneven 2 = .ok (.getfield 28, 3) := by decide +kernel
theorem dX11_putUneven_5 : decode cX11_putUneven 5 = .ok (.aload_n 0, 1) := by decide +kernel
theorem dX11_putUneven_6 : decode cX11_putUneven 6 = .ok (.getfield 48, 3) := by decide +kernel
theorem dX11_putUneven_9 : decode cX11_putUneven 9 = .ok (.getfield 167, 3) := by decide +kernel
theorem dX11_putUneven_12 : decode cX11_putUneven 12 = .ok (.iconst 1, 1) := by decide +kernel
theorem dX11_putUneven_13 : decode cX11_putUneven 13 = .ok (.invokevirtual 253, 3) := by decide +kernel
theorem dX11_putUneven_16 : decode cX11_putUneven 16 = .ok (.istore_n 2, 1) := by decide +kernel
theorem dX11_putUneven_17 : decode cX11_putUneven 17 = .ok (.aload_n 1, 1) := by decide +kernel
theorem dX11_putUneven_18 : decode cX11_putUneven 18 = .ok (.aload_n 0, 1) := by decide +kernel
theorem dX11_putUneven_19 : decode cX11_putUneven 19 = .ok (.getfield 28, 3) := by decide +kernel
theorem dX11_putUneven_22 : decode cX11_putUneven 22 = .ok (.aload_n 0, 1) := by decide +kernel
theorem dX11_putUneven_23 : decode cX11_putUneven 23 = .ok (.getfield 48, 3) := by decide +kernel
theorem dX11_putUneven_26 : decode cX11_putUneven 26 = .ok (.getfield 167, 3) := by decide +kernel
theorem dX11_putUneven_29 : decode cX11_putUneven 29 = .ok (.iconst (-1), 1) := by decide +kernel
theorem dX11_putUneven_30 : decode cX11_putUneven 30 = .ok (.invokevirtual 253, 3) := by decide +kernel
theorem dX11_putUneven_33 : decode cX11_putUneven 33 = .ok (.istore_n 3, 1) := by decide +kernel
theorem dX11_putUneven_34 : decode cX11_putUneven 34 = .ok (.iload_n 2, 1) := by decide +kernel
theorem dX11_putUneven_35 : decode cX11_putUneven 35 = .ok (.iconst (-1), 1) := by decide +kernel
theorem dX11_putUneven_36 : decode cX11_putUneven 36 = .ok (.if_icmp .eq 8, 3) := by decide +kernel
theorem dX11_putUneven_39 : decode cX11_putUneven 39 = .ok (.iload_n 3, 1) := by decide +kernel
theorem dX11_putUneven_40 : decode cX11_putUneven 40 = .ok (.iconst (-1), 1) := by decide +kernel
theorem dX11_putUneven_41 : decode cX11_putUneven 41 = .ok (.if_icmp .ne 13, 3) := by decide +kernel
theorem dX11_putUneven_44 : decode cX11_putUneven 44 = .ok (.aload_n 0, 1) := by decide +kernel
theorem dX11_putUneven_45 : decode cX11_putUneven 45 = .ok (.getfield 65, 3) := by decide +kernel
theorem dX11_putUneven_48 : decode cX11_putUneven 48 = .ok (.lconst 0, 1) := by decide +kernel
theorem dX11_putUneven_49 : decode cX11_putUneven 49 = .ok (.lconst 1, 1) := by decide +kernel
theorem dX11_putUneven_50 : decode cX11_putUneven 50 = .ok (.invokevirtual 224, 3) := by decide +kernel
theorem dX11_putUneven_53 : decode cX11_putUneven 53 = .ok (.return_, 1) := by decide +kernel
theorem dX11_putUneven_54 : decode cX11_putUneven 54 = .ok (.aload_n 0, 1) := by decide +kernel
theorem dX11_putUneven_55 : decode cX11_putUneven 55 = .ok (.getfield 28, 3) := by decide +kernel
theorem dX11_putUneven_58 : decode cX11_putUneven 58 = .ok (.getfield 200, 3) := by decide +kernel
theorem dX11_putUneven_61 : decode cX11_putUneven 61 = .ok (.iload_n 2, 1) := by decide +kernel
theorem dX11_putUneven_62 : decode cX11_putUneven 62 = .ok (.iaload, 1) := by decide +kernel
theorem dX11_putUneven_63 : decode cX11_putUneven 63 = .ok (.i2l, 1) := by decide +kernel
theorem dX11_putUneven_64 : decode cX11_putUneven 64 = .ok (.lstore 4, 2) := by decide +kernel
theorem dX11_putUneven_66 : decode cX11_putUneven 66 = .ok (.aload_n 0, 1) := by decide +kernel
theorem dX11_putUneven_67 : decode cX11_putUneven 67 = .ok (.getfield 28, 3) := by decide +kernel
theorem dX11_putUneven_70 : decode cX11_putUneven 70 = .ok (.getfield 200, 3) := by decide +kernel
theorem dX11_putUneven_73 : decode cX11_putUneven 73 = .ok (.iload_n 3, 1) := by decide +kernel
theorem dX11_putUneven_74 : decode cX11_putUneven 74 = .ok (.iaload, 1) := by decide +kernel
theorem dX11_putUneven_75 : decode cX11_putUneven 75 = .ok (.i2l, 1) := by decide +kernel
theorem dX11_putUneven_76 : decode cX11_putUneven 76 = .ok (.lstore 6, 2) := by decide +kernel
theorem dX11_putUneven_78 : decode cX11_putUneven 78 = .ok (.aload_n 0, 1) := by decide +kernel
theorem dX11_putUneven_79 : decode cX11_putUneven 79 = .ok (.getfield 65, 3) := by decide +kernel
theorem dX11_putUneven_82 : decode cX11_putUneven 82 = .ok (.aload_n 1, 1) := by decide +kernel
theorem dX11_putUneven_83 : decode cX11_putUneven 83 = .ok (.getfield 217, 3) := by decide +kernel
theorem dX11_putUneven_86 : decode cX11_putUneven 86 = .ok (.iload_n 2, 1) := by decide +kernel
theorem dX11_putUneven_87 : decode cX11_putUneven 87 = .ok (.laload, 1) := by decide +kernel
theorem dX11_putUneven_88 : decode cX11_putUneven 88 = .ok (.lload 6, 2) := by decide +kernel
theorem dX11_putUneven_90 : decode cX11_putUneven 90 = .ok (.lmul, 1) := by decide +kernel
theorem dX11_putUneven_91 : decode cX11_putUneven 91 = .ok (.aload_n 1, 1) := by decide +kernel
theorem dX11_putUneven_92 : decode cX11_putUneven 92 = .ok (.getfield 217, 3) := by decide +kernel
theorem dX11_putUneven_95 : decode cX11_putUneven 95 = .ok (.iload_n 3, 1) := by decide +kernel
theorem dX11_putUneven_96 : decode cX11_putUneven 96 = .ok (.laload, 1) := by decide +kernel
theorem dX11_putUneven_97 : decode cX11_putUneven 97 = .ok (.lload 4, 2) := by decide +kernel
theorem dX11_putUneven_99 : decode cX11_putUneven 99 = .ok (.lmul, 1) := by decide +kernel
theorem dX11_putUneven_100 : decode cX11_putUneven 100 = .ok (.lsub, 1) := by decide +kernel
theorem dX11_putUneven_101 : decode cX11_putUneven 101 = .ok (.lload 4, 2) := by decide +kernel
theorem dX11_putUneven_103 : decode cX11_putUneven 103 = .ok (.lload 6, 2) := by decide +kernel
theorem dX11_putUneven_105 : decode cX11_putUneven 105 = .ok (.lmul, 1) := by decide +kernel
theorem dX11_putUneven_106 : decode cX11_putUneven 106 = .ok (.aload_n 1, 1) := by decide +kernel
theorem dX11_putUneven_107 : decode cX11_putUneven 107 = .ok (.getfield 221, 3) := by decide +kernel
theorem dX11_putUneven_110 : decode cX11_putUneven 110 = .ok (.lmul, 1) := by decide +kernel
theorem dX11_putUneven_111 : decode cX11_putUneven 111 = .ok (.invokevirtual 224, 3) := by decide +kernel
theorem dX11_putUneven_114 : decode cX11_putUneven 114 = .ok (.return_, 1) := by decide +kernel
theorem dX11_accord_0 : decode cX11_accord 0 = .ok (.aload_n 0, 1) := by decide +kernel
theorem dX11_accord_1 : decode cX11_accord 1 = .ok (.iload_n 1, 1) := by decide +kernel
theorem dX11_accord_2 : decode cX11_accord 2 = .ok (.invokevirtual 153, 3) := by decide +kernel
theorem dX11_accord_5 : decode cX11_accord 5 = .ok (.ifCond .eq 11, 3) := by decide +kernel
theorem dX11_accord_8 : decode cX11_accord 8 = .ok (.aload_n 0, 1) := by decide +kernel
theorem dX11_accord_9 : decode cX11_accord 9 = .ok (.iload_n 2, 1) := by decide +kernel
theorem dX11_accord_10 : decode cX11_accord 10 = .ok (.invokevirtual 153, 3) := by decide +kernel
theorem dX11_accord_13 : decode cX11_accord 13 = .ok (.ifCond .ne 6, 3) := by decide +kernel
theorem dX11_accord_16 : decode cX11_accord 16 = .ok (.ldc 184, 2) := by decide +kernel
theorem dX11_accord_18 : decode cX11_accord 18 = .ok (.ireturn, 1) := by decide +kernel
theorem dX11_accord_19 : decode cX11_accord 19 = .ok (.aload_n 0, 1) := by decide +kernel
theorem dX11_accord_20 : decode cX11_accord 20 = .ok (.getfield 28, 3) := by decide +kernel
theorem dX11_accord_23 : decode cX11_accord 23 = .ok (.iload_n 1, 1) := by decide +kernel
theorem dX11_accord_24 : decode cX11_accord 24 = .ok (.iload_n 2, 1) := by decide +kernel
theorem dX11_accord_25 : decode cX11_accord 25 = .ok (.invokevirtual 261, 3) := by decide +kernel
theorem dX11_accord_28 : decode cX11_accord 28 = .ok (.ireturn, 1) := by decide +kernel
theorem dX11_shares_0 : decode cX11_shares 0 = .ok (.aload_n 0, 1) := by decide +kernel
theorem dX11_shares_1 : decode cX11_shares 1 = .ok (.getfield 28, 3) := by decide +kernel
theorem dX11_shares_4 : decode cX11_shares 4 = .ok (.aload_n 0, 1) := by decide +kernel
theorem dX11_shares_5 : decode cX11_shares 5 = .ok (.getfield 48, 3) := by decide +kernel
theorem dX11_shares_8 : decode cX11_shares 8 = .ok (.getfield 167, 3) := by decide +kernel
theorem dX11_shares_11 : decode cX11_shares 11 = .ok (.invokevirtual 264, 3) := by decide +kernel
theorem dX11_shares_14 : decode cX11_shares 14 = .ok (.istore_n 3, 1) := by decide +kernel
theorem dX11_shares_15 : decode cX11_shares 15 = .ok (.aload_n 0, 1) := by decide +kernel
theorem dX11_shares_16 : decode cX11_shares 16 = .ok (.iload_n 1, 1) := by decide +kernel
theorem dX11_shares_17 : decode cX11_shares 17 = .ok (.invokevirtual 246, 3) := by decide +kernel
theorem dX11_shares_20 : decode cX11_shares 20 = .ok (.ifCond .eq 18, 3) := by decide +kernel
theorem dX11_shares_23 : decode cX11_shares 23 = .ok (.iload_n 2, 1) := by decide +kernel
theorem dX11_shares_24 : decode cX11_shares 24 = .ok (.iconst 0, 1) := by decide +kernel
theorem dX11_shares_25 : decode cX11_shares 25 = .ok (.sipush 999, 3) := by decide +kernel
theorem dX11_shares_28 : decode cX11_shares 28 = .ok (.invokestatic 180, 3) := by decide +kernel
theorem dX11_shares_31 : decode cX11_shares 31 = .ok (.ifCond .eq 7, 3) := by decide +kernel
theorem dX11_shares_34 : decode cX11_shares 34 = .ok (.iload_n 3, 1) := by decide +kernel
theorem dX11_shares_35 : decode cX11_shares 35 = .ok (.ifCond .gt 5, 3) := by decide +kernel
theorem dX11_shares_38 : decode cX11_shares 38 = .ok (.iconst (-1), 1) := by decide +kernel
theorem dX11_shares_39 : decode cX11_shares 39 = .ok (.ireturn, 1) := by decide +kernel
theorem dX11_shares_40 : decode cX11_shares 40 = .ok (.iload_n 2, 1) := by decide +kernel
theorem dX11_shares_41 : decode cX11_shares 41 = .ok (.aload_n 0, 1) := by decide +kernel
theorem dX11_shares_42 : decode cX11_shares 42 = .ok (.getfield 28, 3) := by decide +kernel
theorem dX11_shares_45 : decode cX11_shares 45 = .ok (.getfield 267, 3) := by decide +kernel
theorem dX11_shares_48 : decode cX11_shares 48 = .ok (.iload_n 1, 1) := by decide +kernel
theorem dX11_shares_49 : decode cX11_shares 49 = .ok (.iaload, 1) := by decide +kernel
theorem dX11_shares_50 : decode cX11_shares 50 = .ok (.imul, 1) := by decide +kernel
theorem dX11_shares_51 : decode cX11_shares 51 = .ok (.iload_n 3, 1) := by decide +kernel
theorem dX11_shares_52 : decode cX11_shares 52 = .ok (.idiv, 1) := by decide +kernel
theorem dX11_shares_53 : decode cX11_shares 53 = .ok (.ireturn, 1) := by decide +kernel
theorem dX11_most_0 : decode cX11_most 0 = .ok (.aload_n 0, 1) := by decide +kernel
theorem dX11_most_1 : decode cX11_most 1 = .ok (.invokevirtual 176, 3) := by decide +kernel
theorem dX11_most_4 : decode cX11_most 4 = .ok (.ifCond .ne 6, 3) := by decide +kernel
theorem dX11_most_7 : decode cX11_most 7 = .ok (.ldc 184, 2) := by decide +kernel
theorem dX11_most_9 : decode cX11_most 9 = .ok (.ireturn, 1) := by decide +kernel
theorem dX11_most_10 : decode cX11_most 10 = .ok (.iload_n 1, 1) := by decide +kernel
theorem dX11_most_11 : decode cX11_most 11 = .ok (.tableswitch 145 0 8 #[49, 57, 69, 77, 85, 101, 117, 132, 140], 49) := by decide +kernel
theorem dX11_most_60 : decode cX11_most 60 = .ok (.aload_n 0, 1) := by decide +kernel
theorem dX11_most_61 : decode cX11_most 61 = .ok (.getfield 48, 3) := by decide +kernel
theorem dX11_most_64 : decode cX11_most 64 = .ok (.getfield 167, 3) := by decide +kernel
theorem dX11_most_67 : decode cX11_most 67 = .ok (.ireturn, 1) := by decide +kernel
theorem dX11_most_68 : decode cX11_most 68 = .ok (.aload_n 0, 1) := by decide +kernel
theorem dX11_most_69 : decode cX11_most 69 = .ok (.getfield 48, 3) := by decide +kernel
theorem dX11_most_72 : decode cX11_most 72 = .ok (.aload_n 0, 1) := by decide +kernel
theorem dX11_most_73 : decode cX11_most 73 = .ok (.getfield 28, 3) := by decide +kernel
theorem dX11_most_76 : decode cX11_most 76 = .ok (.invokevirtual 270, 3) := by decide +kernel
theorem dX11_most_79 : decode cX11_most 79 = .ok (.ireturn, 1) := by decide +kernel
theorem dX11_most_80 : decode cX11_most 80 = .ok (.aload_n 0, 1) := by decide +kernel
theorem dX11_most_81 : decode cX11_most 81 = .ok (.getfield 48, 3) := by decide +kernel
theorem dX11_most_84 : decode cX11_most 84 = .ok (.getfield 273, 3) := by decide +kernel
theorem dX11_most_87 : decode cX11_most 87 = .ok (.ireturn, 1) := by decide +kernel
theorem dX11_most_88 : decode cX11_most 88 = .ok (.aload_n 0, 1) := by decide +kernel
theorem dX11_most_89 : decode cX11_most 89 = .ok (.getfield 48, 3) := by decide +kernel
