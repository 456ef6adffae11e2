theorem dX12_turnsOne_37 : decode cX12_turnsOne 37 = .ok (.aload_n 0, 1) := by decide +kernel
theorem dX12_turnsOne_38 : decode cX12_turnsOne 38 = .ok (.aload_n 0, 1) := by decide +kernel
theorem dX12_turnsOne_39 : decode cX12_turnsOne 39 = .ok (.getfield 47, 3) := by decide +kernel
theorem dX12_turnsOne_42 : decode cX12_turnsOne 42 = .ok (.invokevirtual 383, 3) := by decide +kernel
theorem dX12_turnsOne_45 : decode cX12_turnsOne 45 = .ok (.aload_n 0, 1) := by decide +kernel
theorem dX12_turnsOne_46 : decode cX12_turnsOne 46 = .ok (.aload_n 0, 1) := by decide +kernel
theorem dX12_turnsOne_47 : decode cX12_turnsOne 47 = .ok (.getfield 47, 3) := by decide +kernel
theorem dX12_turnsOne_50 : decode cX12_turnsOne 50 = .ok (.aload_n 0, 1) := by decide +kernel
theorem dX12_turnsOne_51 : decode cX12_turnsOne 51 = .ok (.getfield 47, 3) := by decide +kernel
theorem dX12_turnsOne_54 : decode cX12_turnsOne 54 = .ok (.aload_n 0, 1) := by decide +kernel
theorem dX12_turnsOne_55 : decode cX12_turnsOne 55 = .ok (.getfield 189, 3) := by decide +kernel
theorem dX12_turnsOne_58 : decode cX12_turnsOne 58 = .ok (.iconst 0, 1) := by decide +kernel
theorem dX12_turnsOne_59 : decode cX12_turnsOne 59 = .ok (.invokestatic 248, 3) := by decide +kernel
theorem dX12_turnsOne_62 : decode cX12_turnsOne 62 = .ok (.iconst 0, 1) := by decide +kernel
theorem dX12_turnsOne_63 : decode cX12_turnsOne 63 = .ok (.invokevirtual 269, 3) := by decide +kernel
theorem dX12_turnsOne_66 : decode cX12_turnsOne 66 = .ok (.istore_n 3, 1) := by decide +kernel
theorem dX12_turnsOne_67 : decode cX12_turnsOne 67 = .ok (.aload_n 0, 1) := by decide +kernel
theorem dX12_turnsOne_68 : decode cX12_turnsOne 68 = .ok (.aload_n 0, 1) := by decide +kernel
theorem dX12_turnsOne_69 : decode cX12_turnsOne 69 = .ok (.getfield 47, 3) := by decide +kernel
theorem dX12_turnsOne_72 : decode cX12_turnsOne 72 = .ok (.iload_n 3, 1) := by decide +kernel
theorem dX12_turnsOne_73 : decode cX12_turnsOne 73 = .ok (.invokevirtual 241, 3) := by decide +kernel
theorem dX12_turnsOne_76 : decode cX12_turnsOne 76 = .ok (.lstore 4, 2) := by decide +kernel
theorem dX12_turnsOne_78 : decode cX12_turnsOne 78 = .ok (.aload_n 0, 1) := by decide +kernel
theorem dX12_turnsOne_79 : decode cX12_turnsOne 79 = .ok (.getfield 233, 3) := by decide +kernel
theorem dX12_turnsOne_82 : decode cX12_turnsOne 82 = .ok (.aload_n 0, 1) := by decide +kernel
theorem dX12_turnsOne_83 : decode cX12_turnsOne 83 = .ok (.iload_n 3, 1) := by decide +kernel
theorem dX12_turnsOne_84 : decode cX12_turnsOne 84 = .ok (.invokevirtual 245, 3) := by decide +kernel
theorem dX12_turnsOne_87 : decode cX12_turnsOne 87 = .ok (.i2l, 1) := by decide +kernel
theorem dX12_turnsOne_88 : decode cX12_turnsOne 88 = .ok (.lmul, 1) := by decide +kernel
theorem dX12_turnsOne_89 : decode cX12_turnsOne 89 = .ok (.lstore 6, 2) := by decide +kernel
theorem dX12_turnsOne_91 : decode cX12_turnsOne 91 = .ok (.aload_n 0, 1) := by decide +kernel
theorem dX12_turnsOne_92 : decode cX12_turnsOne 92 = .ok (.getfield 412, 3) := by decide +kernel
theorem dX12_turnsOne_95 : decode cX12_turnsOne 95 = .ok (.iconst (-1), 1) := by decide +kernel
theorem dX12_turnsOne_96 : decode cX12_turnsOne 96 = .ok (.if_icmp .eq 22, 3) := by decide +kernel
theorem dX12_turnsOne_99 : decode cX12_turnsOne 99 = .ok (.lload 4, 2) := by decide +kernel
theorem dX12_turnsOne_101 : decode cX12_turnsOne 101 = .ok (.lload 6, 2) := by decide +kernel
theorem dX12_turnsOne_103 : decode cX12_turnsOne 103 = .ok (.aload_n 0, 1) := by decide +kernel
theorem dX12_turnsOne_104 : decode cX12_turnsOne 104 = .ok (.getfield 415, 3) := by decide +kernel
theorem dX12_turnsOne_107 : decode cX12_turnsOne 107 = .ok (.aload_n 0, 1) := by decide +kernel
theorem dX12_turnsOne_108 : decode cX12_turnsOne 108 = .ok (.getfield 418, 3) := by decide +kernel
theorem dX12_turnsOne_111 : decode cX12_turnsOne 111 = .ok (.invokestatic 421, 3) := by decide +kernel
theorem dX12_turnsOne_114 : decode cX12_turnsOne 114 = .ok (.ifCond .ne 4, 3) := by decide +kernel
theorem dX12_turnsOne_117 : decode cX12_turnsOne 117 = .ok (.return_, 1) := by decide +kernel
theorem dX12_turnsOne_118 : decode cX12_turnsOne 118 = .ok (.aload_n 0, 1) := by decide +kernel
theorem dX12_turnsOne_119 : decode cX12_turnsOne 119 = .ok (.lload 4, 2) := by decide +kernel
theorem dX12_turnsOne_121 : decode cX12_turnsOne 121 = .ok (.putfield 415, 3) := by decide +kernel
theorem dX12_turnsOne_124 : decode cX12_turnsOne 124 = .ok (.aload_n 0, 1) := by decide +kernel
theorem dX12_turnsOne_125 : decode cX12_turnsOne 125 = .ok (.lload 6, 2) := by decide +kernel
theorem dX12_turnsOne_127 : decode cX12_turnsOne 127 = .ok (.putfield 418, 3) := by decide +kernel
theorem dX12_turnsOne_130 : decode cX12_turnsOne 130 = .ok (.aload_n 0, 1) := by decide +kernel
theorem dX12_turnsOne_131 : decode cX12_turnsOne 131 = .ok (.iload_n 1, 1) := by decide +kernel
theorem dX12_turnsOne_132 : decode cX12_turnsOne 132 = .ok (.putfield 412, 3) := by decide +kernel
theorem dX12_turnsOne_135 : decode cX12_turnsOne 135 = .ok (.aload_n 0, 1) := by decide +kernel
theorem dX12_turnsOne_136 : decode cX12_turnsOne 136 = .ok (.iload_n 2, 1) := by decide +kernel
theorem dX12_turnsOne_137 : decode cX12_turnsOne 137 = .ok (.putfield 425, 3) := by decide +kernel
theorem dX12_turnsOne_140 : decode cX12_turnsOne 140 = .ok (.return_, 1) := by decide +kernel
theorem dX12_trim_0 : decode cX12_trim 0 = .ok (.aload_n 0, 1) := by decide +kernel
theorem dX12_trim_1 : decode cX12_trim 1 = .ok (.iconst 0, 1) := by decide +kernel
theorem dX12_trim_2 : decode cX12_trim 2 = .ok (.putfield 79, 3) := by decide +kernel
theorem dX12_trim_5 : decode cX12_trim 5 = .ok (.aload_n 0, 1) := by decide +kernel
theorem dX12_trim_6 : decode cX12_trim 6 = .ok (.getfield 189, 3) := by decide +kernel
theorem dX12_trim_9 : decode cX12_trim 9 = .ok (.ifCond .eq 27, 3) := by decide +kernel
theorem dX12_trim_12 : decode cX12_trim 12 = .ok (.iload_n 1, 1) := by decide +kernel
theorem dX12_trim_13 : decode cX12_trim 13 = .ok (.i2l, 1) := by decide +kernel
theorem dX12_trim_14 : decode cX12_trim 14 = .ok (.lconst 1, 1) := by decide +kernel
theorem dX12_trim_15 : decode cX12_trim 15 = .ok (.ldc2_w 362, 3) := by decide +kernel
theorem dX12_trim_18 : decode cX12_trim 18 = .ok (.invokestatic 122, 3) := by decide +kernel
theorem dX12_trim_21 : decode cX12_trim 21 = .ok (.ifCond .eq 15, 3) := by decide +kernel
theorem dX12_trim_24 : decode cX12_trim 24 = .ok (.iload_n 2, 1) := by decide +kernel
theorem dX12_trim_25 : decode cX12_trim 25 = .ok (.i2l, 1) := by decide +kernel
theorem dX12_trim_26 : decode cX12_trim 26 = .ok (.lconst 0, 1) := by decide +kernel
theorem dX12_trim_27 : decode cX12_trim 27 = .ok (.ldc2_w 362, 3) := by decide +kernel
theorem dX12_trim_30 : decode cX12_trim 30 = .ok (.invokestatic 122, 3) := by decide +kernel
theorem dX12_trim_33 : decode cX12_trim 33 = .ok (.ifCond .ne 7, 3) := by decide +kernel
theorem dX12_trim_36 : decode cX12_trim 36 = .ok (.ldc2_w 381, 3) := by decide +kernel
theorem dX12_trim_39 : decode cX12_trim 39 = .ok (.lreturn, 1) := by decide +kernel
theorem dX12_trim_40 : decode cX12_trim 40 = .ok (.aload_n 0, 1) := by decide +kernel
theorem dX12_trim_41 : decode cX12_trim 41 = .ok (.iconst (-1), 1) := by decide +kernel
theorem dX12_trim_42 : decode cX12_trim 42 = .ok (.putfield 412, 3) := by decide +kernel
theorem dX12_trim_45 : decode cX12_trim 45 = .ok (.aload_n 0, 1) := by decide +kernel
theorem dX12_trim_46 : decode cX12_trim 46 = .ok (.iconst 0, 1) := by decide +kernel
theorem dX12_trim_47 : decode cX12_trim 47 = .ok (.putfield 425, 3) := by decide +kernel
theorem dX12_trim_50 : decode cX12_trim 50 = .ok (.aload_n 0, 1) := by decide +kernel
theorem dX12_trim_51 : decode cX12_trim 51 = .ok (.lconst 0, 1) := by decide +kernel
theorem dX12_trim_52 : decode cX12_trim 52 = .ok (.putfield 415, 3) := by decide +kernel
theorem dX12_trim_55 : decode cX12_trim 55 = .ok (.aload_n 0, 1) := by decide +kernel
theorem dX12_trim_56 : decode cX12_trim 56 = .ok (.lconst 1, 1) := by decide +kernel
theorem dX12_trim_57 : decode cX12_trim 57 = .ok (.putfield 418, 3) := by decide +kernel
theorem dX12_trim_60 : decode cX12_trim 60 = .ok (.iconst 0, 1) := by decide +kernel
theorem dX12_trim_61 : decode cX12_trim 61 = .ok (.istore_n 3, 1) := by decide +kernel
theorem dX12_trim_62 : decode cX12_trim 62 = .ok (.iload_n 3, 1) := by decide +kernel
theorem dX12_trim_63 : decode cX12_trim 63 = .ok (.aload_n 0, 1) := by decide +kernel
theorem dX12_trim_64 : decode cX12_trim 64 = .ok (.getfield 189, 3) := by decide +kernel
theorem dX12_trim_67 : decode cX12_trim 67 = .ok (.if_icmp .ge 37, 3) := by decide +kernel
theorem dX12_trim_70 : decode cX12_trim 70 = .ok (.iload_n 1, 1) := by decide +kernel
theorem dX12_trim_71 : decode cX12_trim 71 = .ok (.ineg, 1) := by decide +kernel
theorem dX12_trim_72 : decode cX12_trim 72 = .ok (.istore 4, 2) := by decide +kernel
theorem dX12_trim_74 : decode cX12_trim 74 = .ok (.iload 4, 2) := by decide +kernel
theorem dX12_trim_76 : decode cX12_trim 76 = .ok (.iload_n 1, 1) := by decide +kernel
theorem dX12_trim_77 : decode cX12_trim 77 = .ok (.if_icmp .gt 21, 3) := by decide +kernel
theorem dX12_trim_80 : decode cX12_trim 80 = .ok (.iload 4, 2) := by decide +kernel
theorem dX12_trim_82 : decode cX12_trim 82 = .ok (.ifCond .eq 10, 3) := by decide +kernel
theorem dX12_trim_85 : decode cX12_trim 85 = .ok (.aload_n 0, 1) := by decide +kernel
theorem dX12_trim_86 : decode cX12_trim 86 = .ok (.iload_n 3, 1) := by decide +kernel
theorem dX12_trim_87 : decode cX12_trim 87 = .ok (.iload 4, 2) := by decide +kernel
theorem dX12_trim_89 : decode cX12_trim 89 = .ok (.invokevirtual 428, 3) := by decide +kernel
theorem dX12_trim_92 : decode cX12_trim 92 = .ok (.iinc 4 1, 3) := by decide +kernel
theorem dX12_trim_95 : decode cX12_trim 95 = .ok (.goto (-21), 3) := by decide +kernel
theorem dX12_trim_98 : decode cX12_trim 98 = .ok (.iinc 3 1, 3) := by decide +kernel
theorem dX12_trim_101 : decode cX12_trim 101 = .ok (.goto (-39), 3) := by decide +kernel
theorem dX12_trim_104 : decode cX12_trim 104 = .ok (.iload_n 2, 1) := by decide +kernel
theorem dX12_trim_105 : decode cX12_trim 105 = .ok (.iconst 2, 1) := by decide +kernel
theorem dX12_trim_106 : decode cX12_trim 106 = .ok (.if_icmp .ge 21, 3) := by decide +kernel
theorem dX12_trim_109 : decode cX12_trim 109 = .ok (.iload_n 2, 1) := by decide +kernel
theorem dX12_trim_110 : decode cX12_trim 110 = .ok (.ifCond .ne 11, 3) := by decide +kernel
theorem dX12_trim_113 : decode cX12_trim 113 = .ok (.aload_n 0, 1) := by decide +kernel
theorem dX12_trim_114 : decode cX12_trim 114 = .ok (.getfield 412, 3) := by decide +kernel
theorem dX12_trim_117 : decode cX12_trim 117 = .ok (.i2l, 1) := by decide +kernel
theorem dX12_trim_118 : decode cX12_trim 118 = .ok (.goto 8, 3) := by decide +kernel
theorem dX12_trim_121 : decode cX12_trim 121 = .ok (.aload_n 0, 1) := by decide +kernel
theorem dX12_trim_122 : decode cX12_trim 122 = .ok (.getfield 425, 3) := by decide +kernel
theorem dX12_trim_125 : decode cX12_trim 125 = .ok (.i2l, 1) := by decide +kernel
theorem dX12_trim_126 : decode cX12_trim 126 = .ok (.lreturn, 1) := by decide +kernel
theorem dX12_trim_127 : decode cX12_trim 127 = .ok (.aload_n 0, 1) := by decide +kernel
theorem dX12_trim_128 : decode cX12_trim 128 = .ok (.getfield 415, 3) := by decide +kernel
theorem dX12_trim_131 : decode cX12_trim 131 = .ok (.aload_n 0, 1) := by decide +kernel
theorem dX12_trim_132 : decode cX12_trim 132 = .ok (.getfield 418, 3) := by decide +kernel
theorem dX12_trim_135 : decode cX12_trim 135 = .ok (.iload_n 2, 1) := by decide +kernel
theorem dX12_trim_136 : decode cX12_trim 136 = .ok (.iconst 2, 1) := by decide +kernel
theorem dX12_trim_137 : decode cX12_trim 137 = .ok (.isub, 1) := by decide +kernel
theorem dX12_trim_138 : decode cX12_trim 138 = .ok (.invokestatic 387, 3) := by decide +kernel
theorem dX12_trim_141 : decode cX12_trim 141 = .ok (.lreturn, 1) := by decide +kernel
theorem dX12_would_0 : decode cX12_would 0 = .ok (.aload_n 0, 1) := by decide +kernel
theorem dX12_would_1 : decode cX12_would 1 = .ok (.getfield 44, 3) := by decide +kernel
theorem dX12_would_4 : decode cX12_would 4 = .ok (.iconst 0, 1) := by decide +kernel
theorem dX12_would_5 : decode cX12_would 5 = .ok (.aload_n 0, 1) := by decide +kernel
theorem dX12_would_6 : decode cX12_would 6 = .ok (.getfield 47, 3) := by decide +kernel
theorem dX12_would_9 : decode cX12_would 9 = .ok (.iconst 0, 1) := by decide +kernel
theorem dX12_would_10 : decode cX12_would 10 = .ok (.invokestatic 208, 3) := by decide +kernel
theorem dX12_would_13 : decode cX12_would 13 = .ok (.iconst 0, 1) := by decide +kernel
theorem dX12_would_14 : decode cX12_would 14 = .ok (.istore_n 2, 1) := by decide +kernel
theorem dX12_would_15 : decode cX12_would 15 = .ok (.iload_n 2, 1) := by decide +kernel
theorem dX12_would_16 : decode cX12_would 16 = .ok (.aload_n 0, 1) := by decide +kernel
theorem dX12_would_17 : decode cX12_would 17 = .ok (.getfield 189, 3) := by decide +kernel
theorem dX12_would_20 : decode cX12_would 20 = .ok (.if_icmp .ge 44, 3) := by decide +kernel
theorem dX12_would_23 : decode cX12_would 23 = .ok (.aload_n 0, 1) := by decide +kernel
theorem dX12_would_24 : decode cX12_would 24 = .ok (.getfield 47, 3) := by decide +kernel
theorem dX12_would_27 : decode cX12_would 27 = .ok (.bipush 8, 2) := by decide +kernel
theorem dX12_would_29 : decode cX12_would 29 = .ok (.iload_n 2, 1) := by decide +kernel
theorem dX12_would_30 : decode cX12_would 30 = .ok (.iadd, 1) := by decide +kernel
theorem dX12_would_31 : decode cX12_would 31 = .ok (.iaload, 1) := by decide +kernel
theorem dX12_would_32 : decode cX12_would 32 = .ok (.iconst 2, 1) := by decide +kernel
theorem dX12_would_33 : decode cX12_would 33 = .ok (.if_icmp .ge 25, 3) := by decide +kernel
theorem dX12_would_36 : decode cX12_would 36 = .ok (.aload_n 0, 1) := by decide +kernel
theorem dX12_would_37 : decode cX12_would 37 = .ok (.getfield 47, 3) := by decide +kernel
theorem dX12_would_40 : decode cX12_would 40 = .ok (.bipush 8, 2) := by decide +kernel
theorem dX12_would_42 : decode cX12_would 42 = .ok (.iload_n 2, 1) := by decide +kernel
theorem dX12_would_43 : decode cX12_would 43 = .ok (.iadd, 1) := by decide +kernel
theorem dX12_would_44 : decode cX12_would 44 = .ok (.iload_n 1, 1) := by decide +kernel
theorem dX12_would_45 : decode cX12_would 45 = .ok (.iload_n 2, 1) := by decide +kernel
theorem dX12_would_46 : decode cX12_would 46 = .ok (.invokestatic 137, 3) := by decide +kernel
theorem dX12_would_49 : decode cX12_would 49 = .ok (.ifCond .eq 7, 3) := by decide +kernel
theorem dX12_would_52 : decode cX12_would 52 = .ok (.iconst 0, 1) := by decide +kernel
theorem dX12_would_53 : decode cX12_would 53 = .ok (.goto 4, 3) := by decide +kernel
theorem dX12_would_56 : decode cX12_would 56 = .ok (.iconst 3, 1) := by decide +kernel
theorem dX12_would_57 : decode cX12_would 57 = .ok (.iastore, 1) := by decide +kernel
theorem dX12_would_58 : decode cX12_would 58 = .ok (.iinc 2 1, 3) := by decide +kernel
theorem dX12_would_61 : decode cX12_would 61 = .ok (.goto (-46), 3) := by decide +kernel
theorem dX12_would_64 : decode cX12_would 64 = .ok (.aload_n 0, 1) := by decide +kernel
theorem dX12_would_65 : decode cX12_would 65 = .ok (.aload_n 0, 1) := by decide +kernel
theorem dX12_would_66 : decode cX12_would 66 = .ok (.getfield 47, 3) := by decide +kernel
theorem dX12_would_69 : decode cX12_would 69 = .ok (.invokevirtual 204, 3) := by decide +kernel
theorem dX12_would_72 : decode cX12_would 72 = .ok (.iconst (-1), 1) := by decide +kernel
theorem dX12_would_73 : decode cX12_would 73 = .ok (.if_icmp .ne 14, 3) := by decide +kernel
theorem dX12_would_76 : decode cX12_would 76 = .ok (.aload_n 0, 1) := by decide +kernel
theorem dX12_would_77 : decode cX12_would 77 = .ok (.getfield 252, 3) := by decide +kernel
theorem dX12_would_80 : decode cX12_would 80 = .ok (.ifCond .ne 7, 3) := by decide +kernel
theorem dX12_would_83 : decode cX12_would 83 = .ok (.iconst 1, 1) := by decide +kernel
theorem dX12_would_84 : decode cX12_would 84 = .ok (.goto 4, 3) := by decide +kernel
theorem dX12_would_87 : decode cX12_would 87 = .ok (.iconst 0, 1) := by decide +kernel
theorem dX12_would_88 : decode cX12_would 88 = .ok (.ireturn, 1) := by decide +kernel
theorem dX12_fewest_0 : decode cX12_fewest 0 = .ok (.aload_n 0, 1) := by decide +kernel
theorem dX12_fewest_1 : decode cX12_fewest 1 = .ok (.iconst 0, 1) := by decide +kernel
theorem dX12_fewest_2 : decode cX12_fewest 2 = .ok (.putfield 79, 3) := by decide +kernel
theorem dX12_fewest_5 : decode cX12_fewest 5 = .ok (.aload_n 0, 1) := by decide +kernel
theorem dX12_fewest_6 : decode cX12_fewest 6 = .ok (.getfield 189, 3) := by decide +kernel
theorem dX12_fewest_9 : decode cX12_fewest 9 = .ok (.ifCond .eq 13, 3) := by decide +kernel
theorem dX12_fewest_12 : decode cX12_fewest 12 = .ok (.iload_n 1, 1) := by decide +kernel
theorem dX12_fewest_13 : decode cX12_fewest 13 = .ok (.i2l, 1) := by decide +kernel
theorem dX12_fewest_14 : decode cX12_fewest 14 = .ok (.lconst 0, 1) := by decide +kernel
theorem dX12_fewest_15 : decode cX12_fewest 15 = .ok (.lconst 1, 1) := by decide +kernel
theorem dX12_fewest_16 : decode cX12_fewest 16 = .ok (.invokestatic 122, 3) := by decide +kernel
theorem dX12_fewest_19 : decode cX12_fewest 19 = .ok (.ifCond .ne 5, 3) := by decide +kernel
theorem dX12_fewest_22 : decode cX12_fewest 22 = .ok (.iconst (-1), 1) := by decide +kernel
theorem dX12_fewest_23 : decode cX12_fewest 23 = .ok (.ireturn, 1) := by decide +kernel
theorem dX12_fewest_24 : decode cX12_fewest 24 = .ok (.aload_n 0, 1) := by decide +kernel
theorem dX12_fewest_25 : decode cX12_fewest 25 = .ok (.getfield 44, 3) := by decide +kernel
theorem dX12_fewest_28 : decode cX12_fewest 28 = .ok (.aload_n 0, 1) := by decide +kernel
theorem dX12_fewest_29 : decode cX12_fewest 29 = .ok (.getfield 189, 3) := by decide +kernel
theorem dX12_fewest_32 : decode cX12_fewest 32 = .ok (.iconst 0, 1) := by decide +kernel
theorem dX12_fewest_33 : decode cX12_fewest 33 = .ok (.invokestatic 248, 3) := by decide +kernel
theorem dX12_fewest_36 : decode cX12_fewest 36 = .ok (.aload_n 0, 1) := by decide +kernel
theorem dX12_fewest_37 : decode cX12_fewest 37 = .ok (.getfield 44, 3) := by decide +kernel
theorem dX12_fewest_40 : decode cX12_fewest 40 = .ok (.aload_n 0, 1) := by decide +kernel
theorem dX12_fewest_41 : decode cX12_fewest 41 = .ok (.getfield 189, 3) := by decide +kernel
theorem dX12_fewest_44 : decode cX12_fewest 44 = .ok (.iconst 1, 1) := by decide +kernel
theorem dX12_fewest_45 : decode cX12_fewest 45 = .ok (.invokestatic 248, 3) := by decide +kernel
theorem dX12_fewest_48 : decode cX12_fewest 48 = .ok (.ior, 1) := by decide +kernel
theorem dX12_fewest_49 : decode cX12_fewest 49 = .ok (.istore_n 2, 1) := by decide +kernel
theorem dX12_fewest_50 : decode cX12_fewest 50 = .ok (.iconst 0, 1) := by decide +kernel
theorem dX12_fewest_51 : decode cX12_fewest 51 = .ok (.istore_n 3, 1) := by decide +kernel
theorem dX12_fewest_52 : decode cX12_fewest 52 = .ok (.iconst 1, 1) := by decide +kernel
theorem dX12_fewest_53 : decode cX12_fewest 53 = .ok (.istore 4, 2) := by decide +kernel
theorem dX12_fewest_55 : decode cX12_fewest 55 = .ok (.iload 4, 2) := by decide +kernel
theorem dX12_fewest_57 : decode cX12_fewest 57 = .ok (.iconst 1, 1) := by decide +kernel
theorem dX12_fewest_58 : decode cX12_fewest 58 = .ok (.aload_n 0, 1) := by decide +kernel
theorem dX12_fewest_59 : decode cX12_fewest 59 = .ok (.getfield 189, 3) := by decide +kernel
theorem dX12_fewest_62 : decode cX12_fewest 62 = .ok (.ishl, 1) := by decide +kernel
theorem dX12_fewest_63 : decode cX12_fewest 63 = .ok (.if_icmp .ge 49, 3) := by decide +kernel
theorem dX12_fewest_66 : decode cX12_fewest 66 = .ok (.iload 4, 2) := by decide +kernel
theorem dX12_fewest_68 : decode cX12_fewest 68 = .ok (.iload_n 2, 1) := by decide +kernel
theorem dX12_fewest_69 : decode cX12_fewest 69 = .ok (.iconst (-1), 1) := by decide +kernel
theorem dX12_fewest_70 : decode cX12_fewest 70 = .ok (.ixor, 1) := by decide +kernel
theorem dX12_fewest_71 : decode cX12_fewest 71 = .ok (.iand, 1) := by decide +kernel
theorem dX12_fewest_72 : decode cX12_fewest 72 = .ok (.ifCond .ne 34, 3) := by decide +kernel
theorem dX12_fewest_75 : decode cX12_fewest 75 = .ok (.iload_n 3, 1) := by decide +kernel
theorem dX12_fewest_76 : decode cX12_fewest 76 = .ok (.ifCond .eq 18, 3) := by decide +kernel
theorem dX12_fewest_79 : decode cX12_fewest 79 = .ok (.iload 4, 2) := by decide +kernel
theorem dX12_fewest_81 : decode cX12_fewest 81 = .ok (.invokestatic 373, 3) := by decide +kernel
theorem dX12_fewest_84 : decode cX12_fewest 84 = .ok (.iload_n 3, 1) := by decide +kernel
theorem dX12_fewest_85 : decode cX12_fewest 85 = .ok (.invokestatic 373, 3) := by decide +kernel
theorem dX12_fewest_88 : decode cX12_fewest 88 = .ok (.if_icmp .lt 6, 3) := by decide +kernel
theorem dX12_fewest_91 : decode cX12_fewest 91 = .ok (.goto 15, 3) := by decide +kernel
theorem dX12_fewest_94 : decode cX12_fewest 94 = .ok (.aload_n 0, 1) := by decide +kernel
theorem dX12_fewest_95 : decode cX12_fewest 95 = .ok (.iload 4, 2) := by decide +kernel
theorem dX12_fewest_97 : decode cX12_fewest 97 = .ok (.invokevirtual 431, 3) := by decide +kernel
theorem dX12_fewest_100 : decode cX12_fewest 100 = .ok (.ifCond .eq 6, 3) := by decide +kernel
theorem dX12_fewest_103 : decode cX12_fewest 103 = .ok (.iload 4, 2) := by decide +kernel
theorem dX12_fewest_105 : decode cX12_fewest 105 = .ok (.istore_n 3, 1) := by decide +kernel
theorem dX12_fewest_106 : decode cX12_fewest 106 = .ok (.iinc 4 1, 3) := by decide +kernel
theorem dX12_fewest_109 : decode cX12_fewest 109 = .ok (.goto (-54), 3) := by decide +kernel
theorem dX12_fewest_112 : decode cX12_fewest 112 = .ok (.iload_n 3, 1) := by decide +kernel
theorem dX12_fewest_113 : decode cX12_fewest 113 = .ok (.ifCond .ne 5, 3) := by decide +kernel
theorem dX12_fewest_116 : decode cX12_fewest 116 = .ok (.iconst (-1), 1) := by decide +kernel
theorem dX12_fewest_117 : decode cX12_fewest 117 = .ok (.ireturn, 1) := by decide +kernel
theorem dX12_fewest_118 : decode cX12_fewest 118 = .ok (.iload_n 1, 1) := by decide +kernel
theorem dX12_fewest_119 : decode cX12_fewest 119 = .ok (.ifCond .ne 10, 3) := by decide +kernel
theorem dX12_fewest_122 : decode cX12_fewest 122 = .ok (.iload_n 3, 1) := by decide +kernel
theorem dX12_fewest_123 : decode cX12_fewest 123 = .ok (.invokestatic 373, 3) := by decide +kernel
theorem dX12_fewest_126 : decode cX12_fewest 126 = .ok (.goto 4, 3) := by decide +kernel
theorem dX12_fewest_129 : decode cX12_fewest 129 = .ok (.iload_n 3, 1) := by decide +kernel
theorem dX12_fewest_130 : decode cX12_fewest 130 = .ok (.ireturn, 1) := by decide +kernel
theorem dX12_without_0 : decode cX12_without 0 = .ok (.aload_n 0, 1) := by decide +kernel
theorem dX12_without_1 : decode cX12_without 1 = .ok (.iconst 0, 1) := by decide +kernel
theorem dX12_without_2 : decode cX12_without 2 = .ok (.putfield 79, 3) := by decide +kernel
theorem dX12_without_5 : decode cX12_without 5 = .ok (.aload_n 0, 1) := by decide +kernel
theorem dX12_without_6 : decode cX12_without 6 = .ok (.iload_n 1, 1) := by decide +kernel
theorem dX12_without_7 : decode cX12_without 7 = .ok (.invokevirtual 292, 3) := by decide +kernel
theorem dX12_without_10 : decode cX12_without 10 = .ok (.ifCond .eq 26, 3) := by decide +kernel
theorem dX12_without_13 : decode cX12_without 13 = .ok (.aload_n 0, 1) := by decide +kernel
theorem dX12_without_14 : decode cX12_without 14 = .ok (.getfield 44, 3) := by decide +kernel
theorem dX12_without_17 : decode cX12_without 17 = .ok (.bipush 8, 2) := by decide +kernel
theorem dX12_without_19 : decode cX12_without 19 = .ok (.iload_n 1, 1) := by decide +kernel
theorem dX12_without_20 : decode cX12_without 20 = .ok (.iadd, 1) := by decide +kernel
theorem dX12_without_21 : decode cX12_without 21 = .ok (.iaload, 1) := by decide +kernel
theorem dX12_without_22 : decode cX12_without 22 = .ok (.iconst 2, 1) := by decide +kernel
theorem dX12_without_23 : decode cX12_without 23 = .ok (.if_icmp .ge 13, 3) := by decide +kernel
theorem dX12_without_26 : decode cX12_without 26 = .ok (.iload_n 2, 1) := by decide +kernel
theorem dX12_without_27 : decode cX12_without 27 = .ok (.i2l, 1) := by decide +kernel
theorem dX12_without_28 : decode cX12_without 28 = .ok (.lconst 0, 1) := by decide +kernel
theorem dX12_without_29 : decode cX12_without 29 = .ok (.lconst 1, 1) := by decide +kernel
theorem dX12_without_30 : decode cX12_without 30 = .ok (.invokestatic 122, 3) := by decide +kernel
theorem dX12_without_33 : decode cX12_without 33 = .ok (.ifCond .ne 5, 3) := by decide +kernel
theorem dX12_without_36 : decode cX12_without 36 = .ok (.iconst (-1), 1) := by decide +kernel
theorem dX12_without_37 : decode cX12_without 37 = .ok (.ireturn, 1) := by decide +kernel
theorem dX12_without_38 : decode cX12_without 38 = .ok (.aload_n 0, 1) := by decide +kernel
theorem dX12_without_39 : decode cX12_without 39 = .ok (.getfield 44, 3) := by decide +kernel
theorem dX12_without_42 : decode cX12_without 42 = .ok (.iconst 0, 1) := by decide +kernel
theorem dX12_without_43 : decode cX12_without 43 = .ok (.aload_n 0, 1) := by decide +kernel
theorem dX12_without_44 : decode cX12_without 44 = .ok (.getfield 47, 3) := by decide +kernel
theorem dX12_without_47 : decode cX12_without 47 = .ok (.iconst 0, 1) := by decide +kernel
theorem dX12_without_48 : decode cX12_without 48 = .ok (.invokestatic 208, 3) := by decide +kernel
theorem dX12_without_51 : decode cX12_without 51 = .ok (.aload_n 0, 1) := by decide +kernel
theorem dX12_without_52 : decode cX12_without 52 = .ok (.aload_n 0, 1) := by decide +kernel
theorem dX12_without_53 : decode cX12_without 53 = .ok (.getfield 47, 3) := by decide +kernel
theorem dX12_without_56 : decode cX12_without 56 = .ok (.iconst 2, 1) := by decide +kernel
theorem dX12_without_57 : decode cX12_without 57 = .ok (.iload_n 1, 1) := by decide +kernel
theorem dX12_without_58 : decode cX12_without 58 = .ok (.iconst 0, 1) := by decide +kernel
theorem dX12_without_59 : decode cX12_without 59 = .ok (.iconst 0, 1) := by decide +kernel
theorem dX12_without_60 : decode cX12_without 60 = .ok (.invokevirtual 322, 3) := by decide +kernel
theorem dX12_without_63 : decode cX12_without 63 = .ok (.iconst (-1), 1) := by decide +kernel
theorem dX12_without_64 : decode cX12_without 64 = .ok (.if_icmp .eq 5, 3) := by decide +kernel
theorem dX12_without_67 : decode cX12_without 67 = .ok (.iconst (-1), 1) := by decide +kernel
theorem dX12_without_68 : decode cX12_without 68 = .ok (.ireturn, 1) := by decide +kernel
theorem dX12_without_69 : decode cX12_without 69 = .ok (.iload_n 2, 1) := by decide +kernel
theorem dX12_without_70 : decode cX12_without 70 = .ok (.ifCond .ne 18, 3) := by decide +kernel
theorem dX12_without_73 : decode cX12_without 73 = .ok (.aload_n 0, 1) := by decide +kernel
theorem dX12_without_74 : decode cX12_without 74 = .ok (.getfield 47, 3) := by decide +kernel
theorem dX12_without_77 : decode cX12_without 77 = .ok (.aload_n 0, 1) := by decide +kernel
theorem dX12_without_78 : decode cX12_without 78 = .ok (.getfield 189, 3) := by decide +kernel
theorem dX12_without_81 : decode cX12_without 81 = .ok (.iconst 0, 1) := by decide +kernel
theorem dX12_without_82 : decode cX12_without 82 = .ok (.invokestatic 248, 3) := by decide +kernel
theorem dX12_without_85 : decode cX12_without 85 = .ok (.goto 7, 3) := by decide +kernel
theorem dX12_without_88 : decode cX12_without 88 = .ok (.aload_n 0, 1) := by decide +kernel
theorem dX12_without_89 : decode cX12_without 89 = .ok (.invokevirtual 310, 3) := by decide +kernel
theorem dX12_without_92 : decode cX12_without 92 = .ok (.ireturn, 1) := by decide +kernel
theorem dX12_key_0 : decode cX12_key 0 = .ok (.aload_n 0, 1) := by decide +kernel
theorem dX12_key_1 : decode cX12_key 1 = .ok (.iconst 0, 1) := by decide +kernel
theorem dX12_key_2 : decode cX12_key 2 = .ok (.putfield 79, 3) := by decide +kernel
theorem dX12_key_5 : decode cX12_key 5 = .ok (.aload_n 0, 1) := by decide +kernel
theorem dX12_key_6 : decode cX12_key 6 = .ok (.getfield 189, 3) := by decide +kernel
theorem dX12_key_9 : decode cX12_key 9 = .ok (.ifCond .ne 5, 3) := by decide +kernel
theorem dX12_key_12 : decode cX12_key 12 = .ok (.iconst (-1), 1) := by decide +kernel
theorem dX12_key_13 : decode cX12_key 13 = .ok (.ireturn, 1) := by decide +kernel
theorem dX12_key_14 : decode cX12_key 14 = .ok (.iconst (-1), 1) := by decide +kernel
theorem dX12_key_15 : decode cX12_key 15 = .ok (.istore_n 1, 1) := by decide +kernel
theorem dX12_key_16 : decode cX12_key 16 = .ok (.iconst 0, 1) := by decide +kernel
theorem dX12_key_17 : decode cX12_key 17 = .ok (.istore_n 2, 1) := by decide +kernel
theorem dX12_key_18 : decode cX12_key 18 = .ok (.iconst 0, 1) := by decide +kernel
theorem dX12_key_19 : decode cX12_key 19 = .ok (.istore_n 3, 1) := by decide +kernel
theorem dX12_key_20 : decode cX12_key 20 = .ok (.iload_n 3, 1) := by decide +kernel
theorem dX12_key_21 : decode cX12_key 21 = .ok (.aload_n 0, 1) := by decide +kernel
theorem dX12_key_22 : decode cX12_key 22 = .ok (.getfield 189, 3) := by decide +kernel
theorem dX12_key_25 : decode cX12_key 25 = .ok (.if_icmp .ge 84, 3) := by decide +kernel
theorem dX12_key_28 : decode cX12_key 28 = .ok (.aload_n 0, 1) := by decide +kernel
theorem dX12_key_29 : decode cX12_key 29 = .ok (.getfield 44, 3) := by decide +kernel
theorem dX12_key_32 : decode cX12_key 32 = .ok (.bipush 8, 2) := by decide +kernel
theorem dX12_key_34 : decode cX12_key 34 = .ok (.iload_n 3, 1) := by decide +kernel
theorem dX12_key_35 : decode cX12_key 35 = .ok (.iadd, 1) := by decide +kernel
theorem dX12_key_36 : decode cX12_key 36 = .ok (.iaload, 1) := by decide +kernel
theorem dX12_key_37 : decode cX12_key 37 = .ok (.iconst 2, 1) := by decide +kernel
theorem dX12_key_38 : decode cX12_key 38 = .ok (.if_icmp .lt 6, 3) := by decide +kernel
theorem dX12_key_41 : decode cX12_key 41 = .ok (.goto 62, 3) := by decide +kernel
theorem dX12_key_44 : decode cX12_key 44 = .ok (.aload_n 0, 1) := by decide +kernel
theorem dX12_key_45 : decode cX12_key 45 = .ok (.getfield 44, 3) := by decide +kernel
theorem dX12_key_48 : decode cX12_key 48 = .ok (.iconst 0, 1) := by decide +kernel
theorem dX12_key_49 : decode cX12_key 49 = .ok (.aload_n 0, 1) := by decide +kernel
theorem dX12_key_50 : decode cX12_key 50 = .ok (.getfield 47, 3) := by decide +kernel
theorem dX12_key_53 : decode cX12_key 53 = .ok (.iconst 0, 1) := by decide +kernel
theorem dX12_key_54 : decode cX12_key 54 = .ok (.invokestatic 208, 3) := by decide +kernel
theorem dX12_key_57 : decode cX12_key 57 = .ok (.aload_n 0, 1) := by decide +kernel
theorem dX12_key_58 : decode cX12_key 58 = .ok (.aload_n 0, 1) := by decide +kernel
theorem dX12_key_59 : decode cX12_key 59 = .ok (.getfield 47, 3) := by decide +kernel
theorem dX12_key_62 : decode cX12_key 62 = .ok (.iconst 2, 1) := by decide +kernel
theorem dX12_key_63 : decode cX12_key 63 = .ok (.iload_n 3, 1) := by decide +kernel
theorem dX12_key_64 : decode cX12_key 64 = .ok (.iconst 0, 1) := by decide +kernel
theorem dX12_key_65 : decode cX12_key 65 = .ok (.iconst 0, 1) := by decide +kernel
theorem dX12_key_66 : decode cX12_key 66 = .ok (.invokevirtual 322, 3) := by decide +kernel
theorem dX12_key_69 : decode cX12_key 69 = .ok (.iconst (-1), 1) := by decide +kernel
theorem dX12_key_70 : decode cX12_key 70 = .ok (.if_icmp .eq 8, 3) := by decide +kernel
theorem dX12_key_73 : decode cX12_key 73 = .ok (.bipush 9, 2) := by decide +kernel
theorem dX12_key_75 : decode cX12_key 75 = .ok (.goto 7, 3) := by decide +kernel
theorem dX12_key_78 : decode cX12_key 78 = .ok (.aload_n 0, 1) := by decide +kernel
theorem dX12_key_79 : decode cX12_key 79 = .ok (.getfield 252, 3) := by decide +kernel
theorem dX12_key_82 : decode cX12_key 82 = .ok (.istore 4, 2) := by decide +kernel
theorem dX12_key_84 : decode cX12_key 84 = .ok (.iload_n 1, 1) := by decide +kernel
theorem dX12_key_85 : decode cX12_key 85 = .ok (.iconst (-1), 1) := by decide +kernel
theorem dX12_key_86 : decode cX12_key 86 = .ok (.if_icmp .eq 12, 3) := by decide +kernel
theorem dX12_key_89 : decode cX12_key 89 = .ok (.iload 4, 2) := by decide +kernel
theorem dX12_key_91 : decode cX12_key 91 = .ok (.iload_n 2, 1) := by decide +kernel
theorem dX12_key_92 : decode cX12_key 92 = .ok (.if_icmp .gt 6, 3) := by decide +kernel
theorem dX12_key_95 : decode cX12_key 95 = .ok (.goto 8, 3) := by decide +kernel
theorem dX12_key_98 : decode cX12_key 98 = .ok (.iload_n 3, 1) := by decide +kernel
theorem dX12_key_99 : decode cX12_key 99 = .ok (.istore_n 1, 1) := by decide +kernel
theorem dX12_key_100 : decode cX12_key 100 = .ok (.iload 4, 2) := by decide +kernel
theorem dX12_key_102 : decode cX12_key 102 = .ok (.istore_n 2, 1) := by decide +kernel
theorem dX12_key_103 : decode cX12_key 103 = .ok (.iinc 3 1, 3) := by decide +kernel
theorem dX12_key_106 : decode cX12_key 106 = .ok (.goto (-86), 3) := by decide +kernel
theorem dX12_key_109 : decode cX12_key 109 = .ok (.iload_n 1, 1) := by decide +kernel
theorem dX12_key_110 : decode cX12_key 110 = .ok (.ireturn, 1) := by decide +kernel
theorem dX12_pulled_0 : decode cX12_pulled 0 = .ok (.aload_n 0, 1) := by decide +kernel
theorem dX12_pulled_1 : decode cX12_pulled 1 = .ok (.aload_n 0, 1) := by decide +kernel
theorem dX12_pulled_2 : decode cX12_pulled 2 = .ok (.getfield 44, 3) := by decide +kernel
theorem dX12_pulled_5 : decode cX12_pulled 5 = .ok (.invokevirtual 383, 3) := by decide +kernel
theorem dX12_pulled_8 : decode cX12_pulled 8 = .ok (.iconst (-1), 1) := by decide +kernel
theorem dX12_pulled_9 : decode cX12_pulled 9 = .ok (.istore_n 2, 1) := by decide +kernel
theorem dX12_pulled_10 : decode cX12_pulled 10 = .ok (.iconst 0, 1) := by decide +kernel
theorem dX12_pulled_11 : decode cX12_pulled 11 = .ok (.istore_n 3, 1) := by decide +kernel
theorem dX12_pulled_12 : decode cX12_pulled 12 = .ok (.iload_n 3, 1) := by decide +kernel
theorem dX12_pulled_13 : decode cX12_pulled 13 = .ok (.aload_n 0, 1) := by decide +kernel
theorem dX12_pulled_14 : decode cX12_pulled 14 = .ok (.getfield 189, 3) := by decide +kernel
theorem dX12_pulled_17 : decode cX12_pulled 17 = .ok (.if_icmp .ge 82, 3) := by decide +kernel
theorem dX12_pulled_20 : decode cX12_pulled 20 = .ok (.aload_n 0, 1) := by decide +kernel
theorem dX12_pulled_21 : decode cX12_pulled 21 = .ok (.getfield 44, 3) := by decide +kernel
theorem dX12_pulled_24 : decode cX12_pulled 24 = .ok (.bipush 8, 2) := by decide +kernel
theorem dX12_pulled_26 : decode cX12_pulled 26 = .ok (.iload_n 3, 1) := by decide +kernel
theorem dX12_pulled_27 : decode cX12_pulled 27 = .ok (.iadd, 1) := by decide +kernel
theorem dX12_pulled_28 : decode cX12_pulled 28 = .ok (.iaload, 1) := by decide +kernel
theorem dX12_pulled_29 : decode cX12_pulled 29 = .ok (.ifCond .eq 6, 3) := by decide +kernel
theorem dX12_pulled_32 : decode cX12_pulled 32 = .ok (.goto 61, 3) := by decide +kernel
theorem dX12_pulled_35 : decode cX12_pulled 35 = .ok (.iload_n 2, 1) := by decide +kernel
theorem dX12_pulled_36 : decode cX12_pulled 36 = .ok (.iconst (-1), 1) := by decide +kernel
theorem dX12_pulled_37 : decode cX12_pulled 37 = .ok (.if_icmp .eq 54, 3) := by decide +kernel
theorem dX12_pulled_40 : decode cX12_pulled 40 = .ok (.iload_n 1, 1) := by decide +kernel
theorem dX12_pulled_41 : decode cX12_pulled 41 = .ok (.ifCond .eq 28, 3) := by decide +kernel
theorem dX12_pulled_44 : decode cX12_pulled 44 = .ok (.aload_n 0, 1) := by decide +kernel
theorem dX12_pulled_45 : decode cX12_pulled 45 = .ok (.aload_n 0, 1) := by decide +kernel
theorem dX12_pulled_46 : decode cX12_pulled 46 = .ok (.getfield 44, 3) := by decide +kernel
theorem dX12_pulled_49 : decode cX12_pulled 49 = .ok (.iload_n 3, 1) := by decide +kernel
theorem dX12_pulled_50 : decode cX12_pulled 50 = .ok (.invokevirtual 241, 3) := by decide +kernel
theorem dX12_pulled_53 : decode cX12_pulled 53 = .ok (.aload_n 0, 1) := by decide +kernel
theorem dX12_pulled_54 : decode cX12_pulled 54 = .ok (.aload_n 0, 1) := by decide +kernel
theorem dX12_pulled_55 : decode cX12_pulled 55 = .ok (.getfield 44, 3) := by decide +kernel
theorem dX12_pulled_58 : decode cX12_pulled 58 = .ok (.iload_n 2, 1) := by decide +kernel
theorem dX12_pulled_59 : decode cX12_pulled 59 = .ok (.invokevirtual 241, 3) := by decide +kernel
theorem dX12_pulled_62 : decode cX12_pulled 62 = .ok (.lcmp, 1) := by decide +kernel
theorem dX12_pulled_63 : decode cX12_pulled 63 = .ok (.ifCond .le 30, 3) := by decide +kernel
theorem dX12_pulled_66 : decode cX12_pulled 66 = .ok (.goto 25, 3) := by decide +kernel
theorem dX12_pulled_69 : decode cX12_pulled 69 = .ok (.aload_n 0, 1) := by decide +kernel
theorem dX12_pulled_70 : decode cX12_pulled 70 = .ok (.aload_n 0, 1) := by decide +kernel
theorem dX12_pulled_71 : decode cX12_pulled 71 = .ok (.getfield 44, 3) := by decide +kernel
theorem dX12_pulled_74 : decode cX12_pulled 74 = .ok (.iload_n 3, 1) := by decide +kernel
theorem dX12_pulled_75 : decode cX12_pulled 75 = .ok (.invokevirtual 241, 3) := by decide +kernel
theorem dX12_pulled_78 : decode cX12_pulled 78 = .ok (.aload_n 0, 1) := by decide +kernel
theorem dX12_pulled_79 : decode cX12_pulled 79 = .ok (.aload_n 0, 1) := by decide +kernel
theorem dX12_pulled_80 : decode cX12_pulled 80 = .ok (.getfield 44, 3) := by decide +kernel
theorem dX12_pulled_83 : decode cX12_pulled 83 = .ok (.iload_n 2, 1) := by decide +kernel
theorem dX12_pulled_84 : decode cX12_pulled 84 = .ok (.invokevirtual 241, 3) := by decide +kernel
theorem dX12_pulled_87 : decode cX12_pulled 87 = .ok (.lcmp, 1) := by decide +kernel
theorem dX12_pulled_88 : decode cX12_pulled 88 = .ok (.ifCond .ge 5, 3) := by decide +kernel
theorem dX12_pulled_91 : decode cX12_pulled 91 = .ok (.iload_n 3, 1) := by decide +kernel
theorem dX12_pulled_92 : decode cX12_pulled 92 = .ok (.istore_n 2, 1) := by decide +kernel
theorem dX12_pulled_93 : decode cX12_pulled 93 = .ok (.iinc 3 1, 3) := by decide +kernel
theorem dX12_pulled_96 : decode cX12_pulled 96 = .ok (.goto (-84), 3) := by decide +kernel
theorem dX12_pulled_99 : decode cX12_pulled 99 = .ok (.iload_n 2, 1) := by decide +kernel
theorem dX12_pulled_100 : decode cX12_pulled 100 = .ok (.ireturn, 1) := by decide +kernel
theorem dX12_unlike_0 : decode cX12_unlike 0 = .ok (.iconst (-1), 1) := by decide +kernel
theorem dX12_unlike_1 : decode cX12_unlike 1 = .ok (.istore_n 1, 1) := by decide +kernel
theorem dX12_unlike_2 : decode cX12_unlike 2 = .ok (.iconst 0, 1) := by decide +kernel
theorem dX12_unlike_3 : decode cX12_unlike 3 = .ok (.istore_n 2, 1) := by decide +kernel
theorem dX12_unlike_4 : decode cX12_unlike 4 = .ok (.iload_n 2, 1) := by decide +kernel
theorem dX12_unlike_5 : decode cX12_unlike 5 = .ok (.aload_n 0, 1) := by decide +kernel
theorem dX12_unlike_6 : decode cX12_unlike 6 = .ok (.getfield 189, 3) := by decide +kernel
theorem dX12_unlike_9 : decode cX12_unlike 9 = .ok (.if_icmp .ge 87, 3) := by decide +kernel
theorem dX12_unlike_12 : decode cX12_unlike 12 = .ok (.iload_n 2, 1) := by decide +kernel
theorem dX12_unlike_13 : decode cX12_unlike 13 = .ok (.iconst 1, 1) := by decide +kernel
theorem dX12_unlike_14 : decode cX12_unlike 14 = .ok (.iadd, 1) := by decide +kernel
theorem dX12_unlike_15 : decode cX12_unlike 15 = .ok (.istore_n 3, 1) := by decide +kernel
theorem dX12_unlike_16 : decode cX12_unlike 16 = .ok (.iload_n 3, 1) := by decide +kernel
theorem dX12_unlike_17 : decode cX12_unlike 17 = .ok (.aload_n 0, 1) := by decide +kernel
theorem dX12_unlike_18 : decode cX12_unlike 18 = .ok (.getfield 189, 3) := by decide +kernel
theorem dX12_unlike_21 : decode cX12_unlike 21 = .ok (.if_icmp .ge 69, 3) := by decide +kernel
theorem dX12_unlike_24 : decode cX12_unlike 24 = .ok (.aload_n 0, 1) := by decide +kernel
theorem dX12_unlike_25 : decode cX12_unlike 25 = .ok (.getfield 44, 3) := by decide +kernel
theorem dX12_unlike_28 : decode cX12_unlike 28 = .ok (.bipush 8, 2) := by decide +kernel
theorem dX12_unlike_30 : decode cX12_unlike 30 = .ok (.iload_n 2, 1) := by decide +kernel
theorem dX12_unlike_31 : decode cX12_unlike 31 = .ok (.iadd, 1) := by decide +kernel
theorem dX12_unlike_32 : decode cX12_unlike 32 = .ok (.iaload, 1) := by decide +kernel
theorem dX12_unlike_33 : decode cX12_unlike 33 = .ok (.ifCond .ne 51, 3) := by decide +kernel
theorem dX12_unlike_36 : decode cX12_unlike 36 = .ok (.aload_n 0, 1) := by decide +kernel
theorem dX12_unlike_37 : decode cX12_unlike 37 = .ok (.getfield 44, 3) := by decide +kernel
theorem dX12_unlike_40 : decode cX12_unlike 40 = .ok (.bipush 8, 2) := by decide +kernel
theorem dX12_unlike_42 : decode cX12_unlike 42 = .ok (.iload_n 3, 1) := by decide +kernel
theorem dX12_unlike_43 : decode cX12_unlike 43 = .ok (.iadd, 1) := by decide +kernel
theorem dX12_unlike_44 : decode cX12_unlike 44 = .ok (.iaload, 1) := by decide +kernel
theorem dX12_unlike_45 : decode cX12_unlike 45 = .ok (.ifCond .eq 6, 3) := by decide +kernel
theorem dX12_unlike_48 : decode cX12_unlike 48 = .ok (.goto 36, 3) := by decide +kernel
theorem dX12_unlike_51 : decode cX12_unlike 51 = .ok (.iload_n 1, 1) := by decide +kernel
theorem dX12_unlike_52 : decode cX12_unlike 52 = .ok (.iconst (-1), 1) := by decide +kernel
theorem dX12_unlike_53 : decode cX12_unlike 53 = .ok (.if_icmp .eq 24, 3) := by decide +kernel
theorem dX12_unlike_56 : decode cX12_unlike 56 = .ok (.aload_n 0, 1) := by decide +kernel
theorem dX12_unlike_57 : decode cX12_unlike 57 = .ok (.iload_n 2, 1) := by decide +kernel
theorem dX12_unlike_58 : decode cX12_unlike 58 = .ok (.iload_n 3, 1) := by decide +kernel
theorem dX12_unlike_59 : decode cX12_unlike 59 = .ok (.invokevirtual 394, 3) := by decide +kernel
theorem dX12_unlike_62 : decode cX12_unlike 62 = .ok (.aload_n 0, 1) := by decide +kernel
theorem dX12_unlike_63 : decode cX12_unlike 63 = .ok (.iload_n 1, 1) := by decide +kernel
theorem dX12_unlike_64 : decode cX12_unlike 64 = .ok (.bipush 8, 2) := by decide +kernel
theorem dX12_unlike_66 : decode cX12_unlike 66 = .ok (.idiv, 1) := by decide +kernel
theorem dX12_unlike_67 : decode cX12_unlike 67 = .ok (.iload_n 1, 1) := by decide +kernel
theorem dX12_unlike_68 : decode cX12_unlike 68 = .ok (.bipush 8, 2) := by decide +kernel
theorem dX12_unlike_70 : decode cX12_unlike 70 = .ok (.irem, 1) := by decide +kernel
theorem dX12_unlike_71 : decode cX12_unlike 71 = .ok (.invokevirtual 394, 3) := by decide +kernel
theorem dX12_unlike_74 : decode cX12_unlike 74 = .ok (.if_icmp .ge 10, 3) := by decide +kernel
theorem dX12_unlike_77 : decode cX12_unlike 77 = .ok (.bipush 8, 2) := by decide +kernel
theorem dX12_unlike_79 : decode cX12_unlike 79 = .ok (.iload_n 2, 1) := by decide +kernel
theorem dX12_unlike_80 : decode cX12_unlike 80 = .ok (.imul, 1) := by decide +kernel
theorem dX12_unlike_81 : decode cX12_unlike 81 = .ok (.iload_n 3, 1) := by decide +kernel
theorem dX12_unlike_82 : decode cX12_unlike 82 = .ok (.iadd, 1) := by decide +kernel
theorem dX12_unlike_83 : decode cX12_unlike 83 = .ok (.istore_n 1, 1) := by decide +kernel
theorem dX12_unlike_84 : decode cX12_unlike 84 = .ok (.iinc 3 1, 3) := by decide +kernel
theorem dX12_unlike_87 : decode cX12_unlike 87 = .ok (.goto (-71), 3) := by decide +kernel
theorem dX12_unlike_90 : decode cX12_unlike 90 = .ok (.iinc 2 1, 3) := by decide +kernel
theorem dX12_unlike_93 : decode cX12_unlike 93 = .ok (.goto (-89), 3) := by decide +kernel
theorem dX12_unlike_96 : decode cX12_unlike 96 = .ok (.iload_n 1, 1) := by decide +kernel
theorem dX12_unlike_97 : decode cX12_unlike 97 = .ok (.ireturn, 1) := by decide +kernel
theorem dX12_most_0 : decode cX12_most 0 = .ok (.aload_n 0, 1) := by decide +kernel
theorem dX12_most_1 : decode cX12_most 1 = .ok (.iconst 0, 1) := by decide +kernel
theorem dX12_most_2 : decode cX12_most 2 = .ok (.putfield 79, 3) := by decide +kernel
theorem dX12_most_5 : decode cX12_most 5 = .ok (.aload_n 0, 1) := by decide +kernel
theorem dX12_most_6 : decode cX12_most 6 = .ok (.getfield 189, 3) := by decide +kernel
theorem dX12_most_9 : decode cX12_most 9 = .ok (.ifCond .ne 6, 3) := by decide +kernel
theorem dX12_most_12 : decode cX12_most 12 = .ok (.ldc 173, 2) := by decide +kernel
theorem dX12_most_14 : decode cX12_most 14 = .ok (.ireturn, 1) := by decide +kernel
theorem dX12_most_15 : decode cX12_most 15 = .ok (.iload_n 1, 1) := by decide +kernel
theorem dX12_most_16 : decode cX12_most 16 = .ok (.tableswitch 95 0 8 #[52, 52, 52, 52, 65, 71, 77, 82, 90], 52) := by decide +kernel
theorem dX12_most_68 : decode cX12_most 68 = .ok (.aload_n 0, 1) := by decide +kernel
theorem dX12_most_69 : decode cX12_most 69 = .ok (.getfield 44, 3) := by decide +kernel
theorem dX12_most_72 : decode cX12_most 72 = .ok (.aload_n 0, 1) := by decide +kernel
theorem dX12_most_73 : decode cX12_most 73 = .ok (.getfield 189, 3) := by decide +kernel
theorem dX12_most_76 : decode cX12_most 76 = .ok (.iload_n 1, 1) := by decide +kernel
theorem dX12_most_77 : decode cX12_most 77 = .ok (.invokestatic 248, 3) := by decide +kernel
theorem dX12_most_80 : decode cX12_most 80 = .ok (.ireturn, 1) := by decide +kernel
theorem dX12_most_81 : decode cX12_most 81 = .ok (.aload_n 0, 1) := by decide +kernel
theorem dX12_most_82 : decode cX12_most 82 = .ok (.iconst 1, 1) := by decide +kernel
theorem dX12_most_83 : decode cX12_most 83 = .ok (.invokevirtual 434, 3) := by decide +kernel
theorem dX12_most_86 : decode cX12_most 86 = .ok (.ireturn, 1) := by decide +kernel
theorem dX12_most_87 : decode cX12_most 87 = .ok (.aload_n 0, 1) := by decide +kernel
theorem dX12_most_88 : decode cX12_most 88 = .ok (.iconst 0, 1) := by decide +kernel
theorem dX12_most_89 : decode cX12_most 89 = .ok (.invokevirtual 434, 3) := by decide +kernel
theorem dX12_most_92 : decode cX12_most 92 = .ok (.ireturn, 1) := by decide +kernel
theorem dX12_most_93 : decode cX12_most 93 = .ok (.aload_n 0, 1) := by decide +kernel
theorem dX12_most_94 : decode cX12_most 94 = .ok (.invokevirtual 397, 3) := by decide +kernel
theorem dX12_most_97 : decode cX12_most 97 = .ok (.ireturn, 1) := by decide +kernel
theorem dX12_most_98 : decode cX12_most 98 = .ok (.aload_n 0, 1) := by decide +kernel
theorem dX12_most_99 : decode cX12_most 99 = .ok (.getfield 44, 3) := by decide +kernel
theorem dX12_most_102 : decode cX12_most 102 = .ok (.bipush 20, 2) := by decide +kernel
theorem dX12_most_104 : decode cX12_most 104 = .ok (.iaload, 1) := by decide +kernel
theorem dX12_most_105 : decode cX12_most 105 = .ok (.ireturn, 1) := by decide +kernel
theorem dX12_most_106 : decode cX12_most 106 = .ok (.aload_n 0, 1) := by decide +kernel
theorem dX12_most_107 : decode cX12_most 107 = .ok (.invokevirtual 438, 3) := by decide +kernel
theorem dX12_most_110 : decode cX12_most 110 = .ok (.ireturn, 1) := by decide +kernel
theorem dX12_most_111 : decode cX12_most 111 = .ok (.ldc 173, 2) := by decide +kernel
theorem dX12_most_113 : decode cX12_most 113 = .ok (.ireturn, 1) := by decide +kernel
theorem dX12_count_0 : decode cX12_count 0 = .ok (.aload_n 0, 1) := by decide +kernel
theorem dX12_count_1 : decode cX12_count 1 = .ok (.iconst 0, 1) := by decide +kernel
theorem dX12_count_2 : decode cX12_count 2 = .ok (.putfield 79, 3) := by decide +kernel
theorem dX12_count_5 : decode cX12_count 5 = .ok (.iload_n 1, 1) := by decide +kernel
theorem dX12_count_6 : decode cX12_count 6 = .ok (.tableswitch 62 0 4 #[34, 39, 44, 49, 57], 34) := by decide +kernel
theorem dX12_count_40 : decode cX12_count 40 = .ok (.aload_n 0, 1) := by decide +kernel
theorem dX12_count_41 : decode cX12_count 41 = .ok (.getfield 189, 3) := by decide +kernel
theorem dX12_count_44 : decode cX12_count 44 = .ok (.ireturn, 1) := by decide +kernel
theorem dX12_count_45 : decode cX12_count 45 = .ok (.aload_n 0, 1) := by decide +kernel
theorem dX12_count_46 : decode cX12_count 46 = .ok (.getfield 192, 3) := by decide +kernel
theorem dX12_count_49 : decode cX12_count 49 = .ok (.ireturn, 1) := by decide +kernel
theorem dX12_count_50 : decode cX12_count 50 = .ok (.aload_n 0, 1) := by decide +kernel
theorem dX12_count_51 : decode cX12_count 51 = .ok (.getfield 83, 3) := by decide +kernel
theorem dX12_count_54 : decode cX12_count 54 = .ok (.ireturn, 1) := by decide +kernel
theorem dX12_count_55 : decode cX12_count 55 = .ok (.aload_n 0, 1) := by decide +kernel
theorem dX12_count_56 : decode cX12_count 56 = .ok (.getfield 44, 3) := by decide +kernel
theorem dX12_count_59 : decode cX12_count 59 = .ok (.bipush 21, 2) := by decide +kernel
theorem dX12_count_61 : decode cX12_count 61 = .ok (.iaload, 1) := by decide +kernel
theorem dX12_count_62 : decode cX12_count 62 = .ok (.ireturn, 1) := by decide +kernel
theorem dX12_count_63 : decode cX12_count 63 = .ok (.aload_n 0, 1) := by decide +kernel
theorem dX12_count_64 : decode cX12_count 64 = .ok (.getfield 212, 3) := by decide +kernel
theorem dX12_count_67 : decode cX12_count 67 = .ok (.ireturn, 1) := by decide +kernel
theorem dX12_count_68 : decode cX12_count 68 = .ok (.ldc 173, 2) := by decide +kernel
theorem dX12_count_70 : decode cX12_count 70 = .ok (.ireturn, 1) := by decide +kernel
theorem dJ6_bitCount_0f7a4_0 : decode cJ6_bitCount_0f7a4 0 = .ok (.iload_n 0, 1) := by decide +kernel
theorem dJ6_bitCount_0f7a4_1 : decode cJ6_bitCount_0f7a4 1 = .ok (.iload_n 0, 1) := by decide +kernel
theorem dJ6_bitCount_0f7a4_2 : decode cJ6_bitCount_0f7a4 2 = .ok (.iconst 1, 1) := by decide +kernel
theorem dJ6_bitCount_0f7a4_3 : decode cJ6_bitCount_0f7a4 3 = .ok (.iushr, 1) := by decide +kernel
theorem dJ6_bitCount_0f7a4_4 : decode cJ6_bitCount_0f7a4 4 = .ok (.ldc_w 265, 3) := by decide +kernel
theorem dJ6_bitCount_0f7a4_7 : decode cJ6_bitCount_0f7a4 7 = .ok (.iand, 1) := by decide +kernel
theorem dJ6_bitCount_0f7a4_8 : decode cJ6_bitCount_0f7a4 8 = .ok (.isub, 1) := by decide +kernel
theorem dJ6_bitCount_0f7a4_9 : decode cJ6_bitCount_0f7a4 9 = .ok (.istore_n 0, 1) := by decide +kernel
theorem dJ6_bitCount_0f7a4_10 : decode cJ6_bitCount_0f7a4 10 = .ok (.iload_n 0, 1) := by decide +kernel
theorem dJ6_bitCount_0f7a4_11 : decode cJ6_bitCount_0f7a4 11 = .ok (.ldc_w 266, 3) := by decide +kernel
theorem dJ6_bitCount_0f7a4_14 : decode cJ6_bitCount_0f7a4 14 = .ok (.iand, 1) := by decide +kernel
theorem dJ6_bitCount_0f7a4_15 : decode cJ6_bitCount_0f7a4 15 = .ok (.iload_n 0, 1) := by decide +kernel
theorem dJ6_bitCount_0f7a4_16 : decode cJ6_bitCount_0f7a4 16 = .ok (.iconst 2, 1) := by decide +kernel
theorem dJ6_bitCount_0f7a4_17 : decode cJ6_bitCount_0f7a4 17 = .ok (.iushr, 1) := by decide +kernel
theorem dJ6_bitCount_0f7a4_18 : decode cJ6_bitCount_0f7a4 18 = .ok (.ldc_w 266, 3) := by decide +kernel
theorem dJ6_bitCount_0f7a4_21 : decode cJ6_bitCount_0f7a4 21 = .ok (.iand, 1) := by decide +kernel
theorem dJ6_bitCount_0f7a4_22 : decode cJ6_bitCount_0f7a4 22 = .ok (.iadd, 1) := by decide +kernel
theorem dJ6_bitCount_0f7a4_23 : decode cJ6_bitCount_0f7a4 23 = .ok (.istore_n 0, 1) := by decide +kernel
theorem dJ6_bitCount_0f7a4_24 : decode cJ6_bitCount_0f7a4 24 = .ok (.iload_n 0, 1) := by decide +kernel
theorem dJ6_bitCount_0f7a4_25 : decode cJ6_bitCount_0f7a4 25 = .ok (.iload_n 0, 1) := by decide +kernel
theorem dJ6_bitCount_0f7a4_26 : decode cJ6_bitCount_0f7a4 26 = .ok (.iconst 4, 1) := by decide +kernel
theorem dJ6_bitCount_0f7a4_27 : decode cJ6_bitCount_0f7a4 27 = .ok (.iushr, 1) := by decide +kernel
theorem dJ6_bitCount_0f7a4_28 : decode cJ6_bitCount_0f7a4 28 = .ok (.iadd, 1) := by decide +kernel
theorem dJ6_bitCount_0f7a4_29 : decode cJ6_bitCount_0f7a4 29 = .ok (.ldc_w 267, 3) := by decide +kernel
theorem dJ6_bitCount_0f7a4_32 : decode cJ6_bitCount_0f7a4 32 = .ok (.iand, 1) := by decide +kernel
theorem dJ6_bitCount_0f7a4_33 : decode cJ6_bitCount_0f7a4 33 = .ok (.istore_n 0, 1) := by decide +kernel
theorem dJ6_bitCount_0f7a4_34 : decode cJ6_bitCount_0f7a4 34 = .ok (.iload_n 0, 1) := by decide +kernel
theorem dJ6_bitCount_0f7a4_35 : decode cJ6_bitCount_0f7a4 35 = .ok (.iload_n 0, 1) := by decide +kernel
theorem dJ6_bitCount_0f7a4_36 : decode cJ6_bitCount_0f7a4 36 = .ok (.bipush 8, 2) := by decide +kernel
theorem dJ6_bitCount_0f7a4_38 : decode cJ6_bitCount_0f7a4 38 = .ok (.iushr, 1) := by decide +kernel
theorem dJ6_bitCount_0f7a4_39 : decode cJ6_bitCount_0f7a4 39 = .ok (.iadd, 1) := by decide +kernel
theorem dJ6_bitCount_0f7a4_40 : decode cJ6_bitCount_0f7a4 40 = .ok (.istore_n 0, 1) := by decide +kernel
theorem dJ6_bitCount_0f7a4_41 : decode cJ6_bitCount_0f7a4 41 = .ok (.iload_n 0, 1) := by decide +kernel
theorem dJ6_bitCount_0f7a4_42 : decode cJ6_bitCount_0f7a4 42 = .ok (.iload_n 0, 1) := by decide +kernel
theorem dJ6_bitCount_0f7a4_43 : decode cJ6_bitCount_0f7a4 43 = .ok (.bipush 16, 2) := by decide +kernel
theorem dJ6_bitCount_0f7a4_45 : decode cJ6_bitCount_0f7a4 45 = .ok (.iushr, 1) := by decide +kernel
theorem dJ6_bitCount_0f7a4_46 : decode cJ6_bitCount_0f7a4 46 = .ok (.iadd, 1) := by decide +kernel
theorem dJ6_bitCount_0f7a4_47 : decode cJ6_bitCount_0f7a4 47 = .ok (.istore_n 0, 1) := by decide +kernel
theorem dJ6_bitCount_0f7a4_48 : decode cJ6_bitCount_0f7a4 48 = .ok (.iload_n 0, 1) := by decide +kernel
theorem dJ6_bitCount_0f7a4_49 : decode cJ6_bitCount_0f7a4 49 = .ok (.bipush 63, 2) := by decide +kernel
theorem dJ6_bitCount_0f7a4_51 : decode cJ6_bitCount_0f7a4 51 = .ok (.iand, 1) := by decide +kernel
theorem dJ6_bitCount_0f7a4_52 : decode cJ6_bitCount_0f7a4 52 = .ok (.ireturn, 1) := by decide +kernel
theorem dJ9_abs_067f4_0 : decode cJ9_abs_067f4 0 = .ok (.lload_n 0, 1) := by decide +kernel
theorem dJ9_abs_067f4_1 : decode cJ9_abs_067f4 1 = .ok (.lconst 0, 1) := by decide +kernel
theorem dJ9_abs_067f4_2 : decode cJ9_abs_067f4 2 = .ok (.lcmp, 1) := by decide +kernel
theorem dJ9_abs_067f4_3 : decode cJ9_abs_067f4 3 = .ok (.ifCond .ge 8, 3) := by decide +kernel
theorem dJ9_abs_067f4_6 : decode cJ9_abs_067f4 6 = .ok (.lload_n 0, 1) := by decide +kernel
theorem dJ9_abs_067f4_7 : decode cJ9_abs_067f4 7 = .ok (.lneg, 1) := by decide +kernel
theorem dJ9_abs_067f4_8 : decode cJ9_abs_067f4 8 = .ok (.goto 4, 3) := by decide +kernel
theorem dJ9_abs_067f4_11 : decode cJ9_abs_067f4 11 = .ok (.lload_n 0, 1) := by decide +kernel
theorem dJ9_abs_067f4_12 : decode cJ9_abs_067f4 12 = .ok (.lreturn, 1) := by decide +kernel
theorem dJ9_min_7cf53_0 : decode cJ9_min_7cf53 0 = .ok (.iload_n 0, 1) := by decide +kernel
theorem dJ9_min_7cf53_1 : decode cJ9_min_7cf53 1 = .ok (.iload_n 1, 1) := by decide +kernel
theorem dJ9_min_7cf53_2 : decode cJ9_min_7cf53 2 = .ok (.if_icmp .gt 7, 3) := by decide +kernel
theorem dJ9_min_7cf53_5 : decode cJ9_min_7cf53 5 = .ok (.iload_n 0, 1) := by decide +kernel
theorem dJ9_min_7cf53_6 : decode cJ9_min_7cf53 6 = .ok (.goto 4, 3) := by decide +kernel
theorem dJ9_min_7cf53_9 : decode cJ9_min_7cf53 9 = .ok (.iload_n 1, 1) := by decide +kernel
theorem dJ9_min_7cf53_10 : decode cJ9_min_7cf53 10 = .ok (.ireturn, 1) := by decide +kernel
theorem dJ0_length_8abf5_0 : decode cJ0_length_8abf5 0 = .ok (.aload_n 0, 1) := by decide +kernel
theorem dJ0_length_8abf5_1 : decode cJ0_length_8abf5 1 = .ok (.getfield 9, 3) := by decide +kernel
theorem dJ0_length_8abf5_4 : decode cJ0_length_8abf5 4 = .ok (.arraylength, 1) := by decide +kernel
theorem dJ0_length_8abf5_5 : decode cJ0_length_8abf5 5 = .ok (.aload_n 0, 1) := by decide +kernel
theorem dJ0_length_8abf5_6 : decode cJ0_length_8abf5 6 = .ok (.invokevirtual 335, 3) := by decide +kernel
theorem dJ0_length_8abf5_9 : decode cJ0_length_8abf5 9 = .ok (.ishr, 1) := by decide +kernel
theorem dJ0_length_8abf5_10 : decode cJ0_length_8abf5 10 = .ok (.ireturn, 1) := by decide +kernel
theorem dJ0_charAt_5068e_0 : decode cJ0_charAt_5068e 0 = .ok (.aload_n 0, 1) := by decide +kernel
theorem dJ0_charAt_5068e_1 : decode cJ0_charAt_5068e 1 = .ok (.invokevirtual 492, 3) := by decide +kernel
theorem dJ0_charAt_5068e_4 : decode cJ0_charAt_5068e 4 = .ok (.ifCond .eq 12, 3) := by decide +kernel
theorem dJ0_charAt_5068e_7 : decode cJ0_charAt_5068e 7 = .ok (.aload_n 0, 1) := by decide +kernel
theorem dJ0_charAt_5068e_8 : decode cJ0_charAt_5068e 8 = .ok (.getfield 9, 3) := by decide +kernel
theorem dJ0_charAt_5068e_11 : decode cJ0_charAt_5068e 11 = .ok (.iload_n 1, 1) := by decide +kernel
theorem dJ0_charAt_5068e_12 : decode cJ0_charAt_5068e 12 = .ok (.invokestatic 495, 3) := by decide +kernel
theorem dJ0_charAt_5068e_15 : decode cJ0_charAt_5068e 15 = .ok (.ireturn, 1) := by decide +kernel
theorem dJ0_charAt_5068e_16 : decode cJ0_charAt_5068e 16 = .ok (.aload_n 0, 1) := by decide +kernel
theorem dJ0_charAt_5068e_17 : decode cJ0_charAt_5068e 17 = .ok (.getfield 9, 3) := by decide +kernel
theorem dJ0_charAt_5068e_20 : decode cJ0_charAt_5068e 20 = .ok (.iload_n 1, 1) := by decide +kernel
theorem dJ0_charAt_5068e_21 : decode cJ0_charAt_5068e 21 = .ok (.invokestatic 498, 3) := by decide +kernel
theorem dJ0_charAt_5068e_24 : decode cJ0_charAt_5068e 24 = .ok (.ireturn, 1) := by decide +kernel
theorem dJ0_coder_7d493_0 : decode cJ0_coder_7d493 0 = .ok (.getstatic 38, 3) := by decide +kernel
theorem dJ0_coder_7d493_3 : decode cJ0_coder_7d493 3 = .ok (.ifCond .eq 10, 3) := by decide +kernel
theorem dJ0_coder_7d493_6 : decode cJ0_coder_7d493 6 = .ok (.aload_n 0, 1) := by decide +kernel
theorem dJ0_coder_7d493_7 : decode cJ0_coder_7d493 7 = .ok (.getfield 15, 3) := by decide +kernel
theorem dJ0_coder_7d493_10 : decode cJ0_coder_7d493 10 = .ok (.goto 4, 3) := by decide +kernel
theorem dJ0_coder_7d493_13 : decode cJ0_coder_7d493 13 = .ok (.iconst 1, 1) := by decide +kernel
theorem dJ0_coder_7d493_14 : decode cJ0_coder_7d493 14 = .ok (.ireturn, 1) := by decide +kernel
theorem dJ0_isLatin1_aae02_0 : decode cJ0_isLatin1_aae02 0 = .ok (.getstatic 38, 3) := by decide +kernel
theorem dJ0_isLatin1_aae02_3 : decode cJ0_isLatin1_aae02 3 = .ok (.ifCond .eq 14, 3) := by decide +kernel
theorem dJ0_isLatin1_aae02_6 : decode cJ0_isLatin1_aae02 6 = .ok (.aload_n 0, 1) := by decide +kernel
theorem dJ0_isLatin1_aae02_7 : decode cJ0_isLatin1_aae02 7 = .ok (.getfield 15, 3) := by decide +kernel
theorem dJ0_isLatin1_aae02_10 : decode cJ0_isLatin1_aae02 10 = .ok (.ifCond .ne 7, 3) := by decide +kernel
theorem dJ0_isLatin1_aae02_13 : decode cJ0_isLatin1_aae02 13 = .ok (.iconst 1, 1) := by decide +kernel
theorem dJ0_isLatin1_aae02_14 : decode cJ0_isLatin1_aae02 14 = .ok (.goto 4, 3) := by decide +kernel
theorem dJ0_isLatin1_aae02_17 : decode cJ0_isLatin1_aae02 17 = .ok (.iconst 0, 1) := by decide +kernel
theorem dJ0_isLatin1_aae02_18 : decode cJ0_isLatin1_aae02 18 = .ok (.ireturn, 1) := by decide +kernel
theorem dJ0_checkIndex_df160_0 : decode cJ0_checkIndex_df160 0 = .ok (.iload_n 0, 1) := by decide +kernel
theorem dJ0_checkIndex_df160_1 : decode cJ0_checkIndex_df160 1 = .ok (.iload_n 1, 1) := by decide +kernel
theorem dJ0_checkIndex_df160_2 : decode cJ0_checkIndex_df160 2 = .ok (.getstatic 1053, 3) := by decide +kernel
theorem dJ0_checkIndex_df160_5 : decode cJ0_checkIndex_df160 5 = .ok (.invokestatic 1059, 3) := by decide +kernel
theorem dJ0_checkIndex_df160_8 : decode cJ0_checkIndex_df160 8 = .ok (.pop, 1) := by decide +kernel
theorem dJ0_checkIndex_df160_9 : decode cJ0_checkIndex_df160 9 = .ok (.return_, 1) := by decide +kernel
theorem dJ1_charAt_3b067_0 : decode cJ1_charAt_3b067 0 = .ok (.iload_n 1, 1) := by decide +kernel
theorem dJ1_charAt_3b067_1 : decode cJ1_charAt_3b067 1 = .ok (.aload_n 0, 1) := by decide +kernel
theorem dJ1_charAt_3b067_2 : decode cJ1_charAt_3b067 2 = .ok (.arraylength, 1) := by decide +kernel
theorem dJ1_charAt_3b067_3 : decode cJ1_charAt_3b067 3 = .ok (.invokestatic 9, 3) := by decide +kernel
theorem dJ1_charAt_3b067_6 : decode cJ1_charAt_3b067 6 = .ok (.aload_n 0, 1) := by decide +kernel
theorem dJ1_charAt_3b067_7 : decode cJ1_charAt_3b067 7 = .ok (.iload_n 1, 1) := by decide +kernel
theorem dJ1_charAt_3b067_8 : decode cJ1_charAt_3b067 8 = .ok (.baload, 1) := by decide +kernel
theorem dJ1_charAt_3b067_9 : decode cJ1_charAt_3b067 9 = .ok (.sipush 255, 3) := by decide +kernel
theorem dJ1_charAt_3b067_12 : decode cJ1_charAt_3b067 12 = .ok (.iand, 1) := by decide +kernel
theorem dJ1_charAt_3b067_13 : decode cJ1_charAt_3b067 13 = .ok (.i2c, 1) := by decide +kernel
theorem dJ1_charAt_3b067_14 : decode cJ1_charAt_3b067 14 = .ok (.ireturn, 1) := by decide +kernel
theorem dJ2_getChar_3b067_0 : decode cJ2_getChar_3b067 0 = .ok (.getstatic 44, 3) := by decide +kernel
theorem dJ2_getChar_3b067_3 : decode cJ2_getChar_3b067 3 = .ok (.ifCond .ne 25, 3) := by decide +kernel
theorem dJ2_getChar_3b067_6 : decode cJ2_getChar_3b067 6 = .ok (.iload_n 1, 1) := by decide +kernel
theorem dJ2_getChar_3b067_7 : decode cJ2_getChar_3b067 7 = .ok (.ifCond .lt 11, 3) := by decide +kernel
theorem dJ2_getChar_3b067_10 : decode cJ2_getChar_3b067 10 = .ok (.iload_n 1, 1) := by decide +kernel
theorem dJ2_getChar_3b067_11 : decode cJ2_getChar_3b067 11 = .ok (.aload_n 0, 1) := by decide +kernel
theorem dJ2_getChar_3b067_12 : decode cJ2_getChar_3b067 12 = .ok (.invokestatic 48, 3) := by decide +kernel
theorem dJ2_getChar_3b067_15 : decode cJ2_getChar_3b067 15 = .ok (.if_icmp .lt 13, 3) := by decide +kernel
theorem dJ2_getChar_3b067_18 : decode cJ2_getChar_3b067 18 = .ok (.new 52, 3) := by decide +kernel
theorem dJ2_getChar_3b067_21 : decode cJ2_getChar_3b067 21 = .ok (.dup, 1) := by decide +kernel
theorem dJ2_getChar_3b067_22 : decode cJ2_getChar_3b067 22 = .ok (.ldc 54, 2) := by decide +kernel
theorem dJ2_getChar_3b067_24 : decode cJ2_getChar_3b067 24 = .ok (.invokespecial 56, 3) := by decide +kernel
theorem dJ2_getChar_3b067_27 : decode cJ2_getChar_3b067 27 = .ok (.athrow, 1) := by decide +kernel
theorem dJ2_getChar_3b067_28 : decode cJ2_getChar_3b067 28 = .ok (.iload_n 1, 1) := by decide +kernel
theorem dJ2_getChar_3b067_29 : decode cJ2_getChar_3b067 29 = .ok (.iconst 1, 1) := by decide +kernel
theorem dJ2_getChar_3b067_30 : decode cJ2_getChar_3b067 30 = .ok (.ishl, 1) := by decide +kernel
theorem dJ2_getChar_3b067_31 : decode cJ2_getChar_3b067 31 = .ok (.istore_n 1, 1) := by decide +kernel
theorem dJ2_getChar_3b067_32 : decode cJ2_getChar_3b067 32 = .ok (.aload_n 0, 1) := by decide +kernel
theorem dJ2_getChar_3b067_33 : decode cJ2_getChar_3b067 33 = .ok (.iload_n 1, 1) := by decide +kernel
theorem dJ2_getChar_3b067_34 : decode cJ2_getChar_3b067 34 = .ok (.iinc 1 1, 3) := by decide +kernel
theorem dJ2_getChar_3b067_37 : decode cJ2_getChar_3b067 37 = .ok (.baload, 1) := by decide +kernel
theorem dJ2_getChar_3b067_38 : decode cJ2_getChar_3b067 38 = .ok (.sipush 255, 3) := by decide +kernel
theorem dJ2_getChar_3b067_41 : decode cJ2_getChar_3b067 41 = .ok (.iand, 1) := by decide +kernel
theorem dJ2_getChar_3b067_42 : decode cJ2_getChar_3b067 42 = .ok (.getstatic 59, 3) := by decide +kernel
theorem dJ2_getChar_3b067_45 : decode cJ2_getChar_3b067 45 = .ok (.ishl, 1) := by decide +kernel
theorem dJ2_getChar_3b067_46 : decode cJ2_getChar_3b067 46 = .ok (.aload_n 0, 1) := by decide +kernel
theorem dJ2_getChar_3b067_47 : decode cJ2_getChar_3b067 47 = .ok (.iload_n 1, 1) := by decide +kernel
theorem dJ2_getChar_3b067_48 : decode cJ2_getChar_3b067 48 = .ok (.baload, 1) := by decide +kernel
theorem dJ2_getChar_3b067_49 : decode cJ2_getChar_3b067 49 = .ok (.sipush 255, 3) := by decide +kernel
theorem dJ2_getChar_3b067_52 : decode cJ2_getChar_3b067 52 = .ok (.iand, 1) := by decide +kernel
theorem dJ2_getChar_3b067_53 : decode cJ2_getChar_3b067 53 = .ok (.getstatic 63, 3) := by decide +kernel
theorem dJ2_getChar_3b067_56 : decode cJ2_getChar_3b067 56 = .ok (.ishl, 1) := by decide +kernel
theorem dJ2_getChar_3b067_57 : decode cJ2_getChar_3b067 57 = .ok (.ior, 1) := by decide +kernel
theorem dJ2_getChar_3b067_58 : decode cJ2_getChar_3b067 58 = .ok (.i2c, 1) := by decide +kernel
theorem dJ2_getChar_3b067_59 : decode cJ2_getChar_3b067 59 = .ok (.ireturn, 1) := by decide +kernel
theorem dJ2_length_9d52b_0 : decode cJ2_length_9d52b 0 = .ok (.aload_n 0, 1) := by decide +kernel
theorem dJ2_length_9d52b_1 : decode cJ2_length_9d52b 1 = .ok (.arraylength, 1) := by decide +kernel
theorem dJ2_length_9d52b_2 : decode cJ2_length_9d52b 2 = .ok (.iconst 1, 1) := by decide +kernel
theorem dJ2_length_9d52b_3 : decode cJ2_length_9d52b 3 = .ok (.ishr, 1) := by decide +kernel
theorem dJ2_length_9d52b_4 : decode cJ2_length_9d52b 4 = .ok (.ireturn, 1) := by decide +kernel
theorem dJ2_charAt_3b067_0 : decode cJ2_charAt_3b067 0 = .ok (.iload_n 1, 1) := by decide +kernel
theorem dJ2_charAt_3b067_1 : decode cJ2_charAt_3b067 1 = .ok (.aload_n 0, 1) := by decide +kernel
theorem dJ2_charAt_3b067_2 : decode cJ2_charAt_3b067 2 = .ok (.invokestatic 67, 3) := by decide +kernel
theorem dJ2_charAt_3b067_5 : decode cJ2_charAt_3b067 5 = .ok (.aload_n 0, 1) := by decide +kernel
theorem dJ2_charAt_3b067_6 : decode cJ2_charAt_3b067 6 = .ok (.iload_n 1, 1) := by decide +kernel
theorem dJ2_charAt_3b067_7 : decode cJ2_charAt_3b067 7 = .ok (.invokestatic 71, 3) := by decide +kernel
theorem dJ2_charAt_3b067_10 : decode cJ2_charAt_3b067 10 = .ok (.ireturn, 1) := by decide +kernel
theorem dJ2_checkIndex_2214a_0 : decode cJ2_checkIndex_2214a 0 = .ok (.iload_n 0, 1) := by decide +kernel
theorem dJ2_checkIndex_2214a_1 : decode cJ2_checkIndex_2214a 1 = .ok (.aload_n 1, 1) := by decide +kernel
theorem dJ2_checkIndex_2214a_2 : decode cJ2_checkIndex_2214a 2 = .ok (.invokestatic 48, 3) := by decide +kernel
theorem dJ2_checkIndex_2214a_5 : decode cJ2_checkIndex_2214a 5 = .ok (.invokestatic 414, 3) := by decide +kernel
theorem dJ2_checkIndex_2214a_8 : decode cJ2_checkIndex_2214a 8 = .ok (.return_, 1) := by decide +kernel
theorem dJ7_fill_d0a16_0 : decode cJ7_fill_d0a16 0 = .ok (.iconst 0, 1) := by decide +kernel
theorem dJ7_fill_d0a16_1 : decode cJ7_fill_d0a16 1 = .ok (.istore_n 3, 1) := by decide +kernel
theorem dJ7_fill_d0a16_2 : decode cJ7_fill_d0a16 2 = .ok (.aload_n 0, 1) := by decide +kernel
theorem dJ7_fill_d0a16_3 : decode cJ7_fill_d0a16 3 = .ok (.arraylength, 1) := by decide +kernel
theorem dJ7_fill_d0a16_4 : decode cJ7_fill_d0a16 4 = .ok (.istore 4, 2) := by decide +kernel
theorem dJ7_fill_d0a16_6 : decode cJ7_fill_d0a16 6 = .ok (.iload_n 3, 1) := by decide +kernel
theorem dJ7_fill_d0a16_7 : decode cJ7_fill_d0a16 7 = .ok (.iload 4, 2) := by decide +kernel
theorem dJ7_fill_d0a16_9 : decode cJ7_fill_d0a16 9 = .ok (.if_icmp .ge 13, 3) := by decide +kernel
theorem dJ7_fill_d0a16_12 : decode cJ7_fill_d0a16 12 = .ok (.aload_n 0, 1) := by decide +kernel
theorem dJ7_fill_d0a16_13 : decode cJ7_fill_d0a16 13 = .ok (.iload_n 3, 1) := by decide +kernel
theorem dJ7_fill_d0a16_14 : decode cJ7_fill_d0a16 14 = .ok (.lload_n 1, 1) := by decide +kernel
theorem dJ7_fill_d0a16_15 : decode cJ7_fill_d0a16 15 = .ok (.lastore, 1) := by decide +kernel
theorem dJ7_fill_d0a16_16 : decode cJ7_fill_d0a16 16 = .ok (.iinc 3 1, 3) := by decide +kernel
theorem dJ7_fill_d0a16_19 : decode cJ7_fill_d0a16 19 = .ok (.goto (-13), 3) := by decide +kernel
theorem dJ7_fill_d0a16_22 : decode cJ7_fill_d0a16 22 = .ok (.return_, 1) := by decide +kernel
theorem dJ3_checkIndex_8e157_0 : decode cJ3_checkIndex_8e157 0 = .ok (.iload_n 0, 1) := by decide +kernel
theorem dJ3_checkIndex_8e157_1 : decode cJ3_checkIndex_8e157 1 = .ok (.ifCond .lt 8, 3) := by decide +kernel
theorem dJ3_checkIndex_8e157_4 : decode cJ3_checkIndex_8e157 4 = .ok (.iload_n 0, 1) := by decide +kernel
theorem dJ3_checkIndex_8e157_5 : decode cJ3_checkIndex_8e157 5 = .ok (.iload_n 1, 1) := by decide +kernel
theorem dJ3_checkIndex_8e157_6 : decode cJ3_checkIndex_8e157 6 = .ok (.if_icmp .lt 10, 3) := by decide +kernel
theorem dJ3_checkIndex_8e157_9 : decode cJ3_checkIndex_8e157 9 = .ok (.aload_n 2, 1) := by decide +kernel
theorem dJ3_checkIndex_8e157_10 : decode cJ3_checkIndex_8e157 10 = .ok (.iload_n 0, 1) := by decide +kernel
theorem dJ3_checkIndex_8e157_11 : decode cJ3_checkIndex_8e157 11 = .ok (.iload_n 1, 1) := by decide +kernel
theorem dJ3_checkIndex_8e157_12 : decode cJ3_checkIndex_8e157 12 = .ok (.invokestatic 95, 3) := by decide +kernel
theorem dJ3_checkIndex_8e157_15 : decode cJ3_checkIndex_8e157 15 = .ok (.athrow, 1) := by decide +kernel
theorem dJ3_checkIndex_8e157_16 : decode cJ3_checkIndex_8e157 16 = .ok (.iload_n 0, 1) := by decide +kernel
theorem dJ3_checkIndex_8e157_17 : decode cJ3_checkIndex_8e157 17 = .ok (.ireturn, 1) := by decide +kernel
theorem dL_rope_0 : decode cL_rope 0 = .ok (.aload_n 3, 1) := by decide +kernel
theorem dL_rope_1 : decode cL_rope 1 = .ok (.iconst 0, 1) := by decide +kernel
theorem dL_rope_2 : decode cL_rope 2 = .ok (.aload_n 0, 1) := by decide +kernel
theorem dL_rope_3 : decode cL_rope 3 = .ok (.iload_n 1, 1) := by decide +kernel
theorem dL_rope_4 : decode cL_rope 4 = .ok (.iload_n 2, 1) := by decide +kernel
theorem dL_rope_5 : decode cL_rope 5 = .ok (.invokevirtual 7, 3) := by decide +kernel
theorem dL_rope_8 : decode cL_rope 8 = .ok (.i2l, 1) := by decide +kernel
theorem dL_rope_9 : decode cL_rope 9 = .ok (.lastore, 1) := by decide +kernel
theorem dL_rope_10 : decode cL_rope 10 = .ok (.goto 7, 3) := by decide +kernel
theorem dL_rope_13 : decode cL_rope 13 = .ok (.astore 4, 2) := by decide +kernel
theorem dL_rope_15 : decode cL_rope 15 = .ok (.iconst 1, 1) := by decide +kernel
theorem dL_rope_16 : decode cL_rope 16 = .ok (.ireturn, 1) := by decide +kernel
theorem dL_rope_17 : decode cL_rope 17 = .ok (.iconst 0, 1) := by decide +kernel
theorem dL_rope_18 : decode cL_rope 18 = .ok (.ireturn, 1) := by decide +kernel
theorem dL_law_0 : decode cL_law 0 = .ok (.new 8, 3) := by decide +kernel
theorem dL_law_3 : decode cL_law 3 = .ok (.dup, 1) := by decide +kernel
theorem dL_law_4 : decode cL_law 4 = .ok (.invokespecial 15, 3) := by decide +kernel
theorem dL_law_7 : decode cL_law 7 = .ok (.astore_n 1, 1) := by decide +kernel
theorem dL_law_8 : decode cL_law 8 = .ok (.new 16, 3) := by decide +kernel
theorem dL_law_11 : decode cL_law 11 = .ok (.dup, 1) := by decide +kernel
theorem dL_law_12 : decode cL_law 12 = .ok (.invokespecial 18, 3) := by decide +kernel
theorem dL_law_15 : decode cL_law 15 = .ok (.astore_n 2, 1) := by decide +kernel
theorem dL_law_16 : decode cL_law 16 = .ok (.iconst 1, 1) := by decide +kernel
theorem dL_law_17 : decode cL_law 17 = .ok (.newarray .long, 2) := by decide +kernel
theorem dL_law_19 : decode cL_law 19 = .ok (.astore_n 3, 1) := by decide +kernel
theorem dL_law_20 : decode cL_law 20 = .ok (.iconst 0, 1) := by decide +kernel
theorem dL_law_21 : decode cL_law 21 = .ok (.istore 4, 2) := by decide +kernel
theorem dL_law_23 : decode cL_law 23 = .ok (.iload 4, 2) := by decide +kernel
theorem dL_law_25 : decode cL_law 25 = .ok (.aload_n 0, 1) := by decide +kernel
theorem dL_law_26 : decode cL_law 26 = .ok (.arraylength, 1) := by decide +kernel
theorem dL_law_27 : decode cL_law 27 = .ok (.bipush 6, 2) := by decide +kernel
theorem dL_law_29 : decode cL_law 29 = .ok (.isub, 1) := by decide +kernel
theorem dL_law_30 : decode cL_law 30 = .ok (.if_icmp .gt 1584, 3) := by decide +kernel
theorem dL_law_33 : decode cL_law 33 = .ok (.aload_n 0, 1) := by decide +kernel
theorem dL_law_34 : decode cL_law 34 = .ok (.iload 4, 2) := by decide +kernel
theorem dL_law_36 : decode cL_law 36 = .ok (.iaload, 1) := by decide +kernel
theorem dL_law_37 : decode cL_law 37 = .ok (.bipush 63, 2) := by decide +kernel
theorem dL_law_39 : decode cL_law 39 = .ok (.iand, 1) := by decide +kernel
theorem dL_law_40 : decode cL_law 40 = .ok (.tableswitch 1568 0 38 #[172, 245, 270, 295, 320, 345, 413, 451, 489, 527, 565, 578, 627, 664, 689, 714, 739, 764, 777, 814, 863, 900, 925, 986, 1059, 1084, 1137, 1163, 1200, 1238, 1263, 1300, 1313, 1386, 1423, 1492, 1517, 1530, 1543], 172) := by decide +kernel
theorem dL_law_212 : decode cL_law 212 = .ok (.aload_n 1, 1) := by decide +kernel
theorem dL_law_213 : decode cL_law 213 = .ok (.aload_n 0, 1) := by decide +kernel
theorem dL_law_214 : decode cL_law 214 = .ok (.iload 4, 2) := by decide +kernel
theorem dL_law_216 : decode cL_law 216 = .ok (.iconst 1, 1) := by decide +kernel
theorem dL_law_217 : decode cL_law 217 = .ok (.iadd, 1) := by decide +kernel
theorem dL_law_218 : decode cL_law 218 = .ok (.iaload, 1) := by decide +kernel
theorem dL_law_219 : decode cL_law 219 = .ok (.aload_n 0, 1) := by decide +kernel
theorem dL_law_220 : decode cL_law 220 = .ok (.iload 4, 2) := by decide +kernel
theorem dL_law_222 : decode cL_law 222 = .ok (.iconst 2, 1) := by decide +kernel
theorem dL_law_223 : decode cL_law 223 = .ok (.iadd, 1) := by decide +kernel
theorem dL_law_224 : decode cL_law 224 = .ok (.iaload, 1) := by decide +kernel
theorem dL_law_225 : decode cL_law 225 = .ok (.aload_n 0, 1) := by decide +kernel
theorem dL_law_226 : decode cL_law 226 = .ok (.iload 4, 2) := by decide +kernel
theorem dL_law_228 : decode cL_law 228 = .ok (.iconst 3, 1) := by decide +kernel
theorem dL_law_229 : decode cL_law 229 = .ok (.iadd, 1) := by decide +kernel
theorem dL_law_230 : decode cL_law 230 = .ok (.iaload, 1) := by decide +kernel
theorem dL_law_231 : decode cL_law 231 = .ok (.aload_n 0, 1) := by decide +kernel
theorem dL_law_232 : decode cL_law 232 = .ok (.iload 4, 2) := by decide +kernel
theorem dL_law_234 : decode cL_law 234 = .ok (.iconst 4, 1) := by decide +kernel
theorem dL_law_235 : decode cL_law 235 = .ok (.iadd, 1) := by decide +kernel
theorem dL_law_236 : decode cL_law 236 = .ok (.iaload, 1) := by decide +kernel
theorem dL_law_237 : decode cL_law 237 = .ok (.aload_n 0, 1) := by decide +kernel
theorem dL_law_238 : decode cL_law 238 = .ok (.iload 4, 2) := by decide +kernel
theorem dL_law_240 : decode cL_law 240 = .ok (.iconst 5, 1) := by decide +kernel
theorem dL_law_241 : decode cL_law 241 = .ok (.iadd, 1) := by decide +kernel
theorem dL_law_242 : decode cL_law 242 = .ok (.iaload, 1) := by decide +kernel
theorem dL_law_243 : decode cL_law 243 = .ok (.invokevirtual 19, 3) := by decide +kernel
theorem dL_law_246 : decode cL_law 246 = .ok (.aload_n 2, 1) := by decide +kernel
theorem dL_law_247 : decode cL_law 247 = .ok (.aload_n 0, 1) := by decide +kernel
theorem dL_law_248 : decode cL_law 248 = .ok (.iload 4, 2) := by decide +kernel
theorem dL_law_250 : decode cL_law 250 = .ok (.iconst 1, 1) := by decide +kernel
theorem dL_law_251 : decode cL_law 251 = .ok (.iadd, 1) := by decide +kernel
theorem dL_law_252 : decode cL_law 252 = .ok (.iaload, 1) := by decide +kernel
theorem dL_law_253 : decode cL_law 253 = .ok (.aload_n 0, 1) := by decide +kernel
theorem dL_law_254 : decode cL_law 254 = .ok (.iload 4, 2) := by decide +kernel
theorem dL_law_256 : decode cL_law 256 = .ok (.iconst 2, 1) := by decide +kernel
theorem dL_law_257 : decode cL_law 257 = .ok (.iadd, 1) := by decide +kernel
theorem dL_law_258 : decode cL_law 258 = .ok (.iaload, 1) := by decide +kernel
theorem dL_law_259 : decode cL_law 259 = .ok (.aload_n 0, 1) := by decide +kernel
theorem dL_law_260 : decode cL_law 260 = .ok (.iload 4, 2) := by decide +kernel
theorem dL_law_262 : decode cL_law 262 = .ok (.iconst 3, 1) := by decide +kernel
theorem dL_law_263 : decode cL_law 263 = .ok (.iadd, 1) := by decide +kernel
theorem dL_law_264 : decode cL_law 264 = .ok (.iaload, 1) := by decide +kernel
theorem dL_law_265 : decode cL_law 265 = .ok (.aload_n 0, 1) := by decide +kernel
theorem dL_law_266 : decode cL_law 266 = .ok (.iload 4, 2) := by decide +kernel
theorem dL_law_268 : decode cL_law 268 = .ok (.iconst 4, 1) := by decide +kernel
theorem dL_law_269 : decode cL_law 269 = .ok (.iadd, 1) := by decide +kernel
theorem dL_law_270 : decode cL_law 270 = .ok (.iaload, 1) := by decide +kernel
theorem dL_law_271 : decode cL_law 271 = .ok (.aload_n 0, 1) := by decide +kernel
theorem dL_law_272 : decode cL_law 272 = .ok (.iload 4, 2) := by decide +kernel
theorem dL_law_274 : decode cL_law 274 = .ok (.iconst 5, 1) := by decide +kernel
theorem dL_law_275 : decode cL_law 275 = .ok (.iadd, 1) := by decide +kernel
theorem dL_law_276 : decode cL_law 276 = .ok (.iaload, 1) := by decide +kernel
theorem dL_law_277 : decode cL_law 277 = .ok (.invokevirtual 23, 3) := by decide +kernel
theorem dL_law_280 : decode cL_law 280 = .ok (.if_icmp .eq 1328, 3) := by decide +kernel
theorem dL_law_283 : decode cL_law 283 = .ok (.iconst 0, 1) := by decide +kernel
theorem dL_law_284 : decode cL_law 284 = .ok (.ireturn, 1) := by decide +kernel
theorem dL_law_285 : decode cL_law 285 = .ok (.aload_n 1, 1) := by decide +kernel
theorem dL_law_286 : decode cL_law 286 = .ok (.aload_n 0, 1) := by decide +kernel
theorem dL_law_287 : decode cL_law 287 = .ok (.iload 4, 2) := by decide +kernel
theorem dL_law_289 : decode cL_law 289 = .ok (.iconst 1, 1) := by decide +kernel
theorem dL_law_290 : decode cL_law 290 = .ok (.iadd, 1) := by decide +kernel
theorem dL_law_291 : decode cL_law 291 = .ok (.iaload, 1) := by decide +kernel
theorem dL_law_292 : decode cL_law 292 = .ok (.invokevirtual 24, 3) := by decide +kernel
theorem dL_law_295 : decode cL_law 295 = .ok (.aload_n 2, 1) := by decide +kernel
theorem dL_law_296 : decode cL_law 296 = .ok (.aload_n 0, 1) := by decide +kernel
theorem dL_law_297 : decode cL_law 297 = .ok (.iload 4, 2) := by decide +kernel
theorem dL_law_299 : decode cL_law 299 = .ok (.iconst 1, 1) := by decide +kernel
theorem dL_law_300 : decode cL_law 300 = .ok (.iadd, 1) := by decide +kernel
theorem dL_law_301 : decode cL_law 301 = .ok (.iaload, 1) := by decide +kernel
theorem dL_law_302 : decode cL_law 302 = .ok (.invokevirtual 28, 3) := by decide +kernel
theorem dL_law_305 : decode cL_law 305 = .ok (.if_icmp .eq 1303, 3) := by decide +kernel
theorem dL_law_308 : decode cL_law 308 = .ok (.iconst 0, 1) := by decide +kernel
theorem dL_law_309 : decode cL_law 309 = .ok (.ireturn, 1) := by decide +kernel
theorem dL_law_310 : decode cL_law 310 = .ok (.aload_n 1, 1) := by decide +kernel
theorem dL_law_311 : decode cL_law 311 = .ok (.aload_n 0, 1) := by decide +kernel
theorem dL_law_312 : decode cL_law 312 = .ok (.iload 4, 2) := by decide +kernel
theorem dL_law_314 : decode cL_law 314 = .ok (.iconst 1, 1) := by decide +kernel
theorem dL_law_315 : decode cL_law 315 = .ok (.iadd, 1) := by decide +kernel
theorem dL_law_316 : decode cL_law 316 = .ok (.iaload, 1) := by decide +kernel
theorem dL_law_317 : decode cL_law 317 = .ok (.invokevirtual 29, 3) := by decide +kernel
theorem dL_law_320 : decode cL_law 320 = .ok (.aload_n 2, 1) := by decide +kernel
theorem dL_law_321 : decode cL_law 321 = .ok (.aload_n 0, 1) := by decide +kernel
theorem dL_law_322 : decode cL_law 322 = .ok (.iload 4, 2) := by decide +kernel
theorem dL_law_324 : decode cL_law 324 = .ok (.iconst 1, 1) := by decide +kernel
theorem dL_law_325 : decode cL_law 325 = .ok (.iadd, 1) := by decide +kernel
theorem dL_law_326 : decode cL_law 326 = .ok (.iaload, 1) := by decide +kernel
theorem dL_law_327 : decode cL_law 327 = .ok (.invokevirtual 33, 3) := by decide +kernel
theorem dL_law_330 : decode cL_law 330 = .ok (.if_icmp .eq 1278, 3) := by decide +kernel
theorem dL_law_333 : decode cL_law 333 = .ok (.iconst 0, 1) := by decide +kernel
theorem dL_law_334 : decode cL_law 334 = .ok (.ireturn, 1) := by decide +kernel
theorem dL_law_335 : decode cL_law 335 = .ok (.aload_n 1, 1) := by decide +kernel
theorem dL_law_336 : decode cL_law 336 = .ok (.aload_n 0, 1) := by decide +kernel
theorem dL_law_337 : decode cL_law 337 = .ok (.iload 4, 2) := by decide +kernel
theorem dL_law_339 : decode cL_law 339 = .ok (.iconst 1, 1) := by decide +kernel
theorem dL_law_340 : decode cL_law 340 = .ok (.iadd, 1) := by decide +kernel
theorem dL_law_341 : decode cL_law 341 = .ok (.iaload, 1) := by decide +kernel
theorem dL_law_342 : decode cL_law 342 = .ok (.invokevirtual 34, 3) := by decide +kernel
theorem dL_law_345 : decode cL_law 345 = .ok (.aload_n 2, 1) := by decide +kernel
theorem dL_law_346 : decode cL_law 346 = .ok (.aload_n 0, 1) := by decide +kernel
theorem dL_law_347 : decode cL_law 347 = .ok (.iload 4, 2) := by decide +kernel
theorem dL_law_349 : decode cL_law 349 = .ok (.iconst 1, 1) := by decide +kernel
theorem dL_law_350 : decode cL_law 350 = .ok (.iadd, 1) := by decide +kernel
theorem dL_law_351 : decode cL_law 351 = .ok (.iaload, 1) := by decide +kernel
theorem dL_law_352 : decode cL_law 352 = .ok (.invokevirtual 37, 3) := by decide +kernel
theorem dL_law_355 : decode cL_law 355 = .ok (.if_icmp .eq 1253, 3) := by decide +kernel
theorem dL_law_358 : decode cL_law 358 = .ok (.iconst 0, 1) := by decide +kernel
theorem dL_law_359 : decode cL_law 359 = .ok (.ireturn, 1) := by decide +kernel
theorem dL_law_360 : decode cL_law 360 = .ok (.aload_n 1, 1) := by decide +kernel
theorem dL_law_361 : decode cL_law 361 = .ok (.aload_n 0, 1) := by decide +kernel
theorem dL_law_362 : decode cL_law 362 = .ok (.iload 4, 2) := by decide +kernel
theorem dL_law_364 : decode cL_law 364 = .ok (.iconst 1, 1) := by decide +kernel
theorem dL_law_365 : decode cL_law 365 = .ok (.iadd, 1) := by decide +kernel
theorem dL_law_366 : decode cL_law 366 = .ok (.iaload, 1) := by decide +kernel
theorem dL_law_367 : decode cL_law 367 = .ok (.invokevirtual 38, 3) := by decide +kernel
theorem dL_law_370 : decode cL_law 370 = .ok (.aload_n 2, 1) := by decide +kernel
theorem dL_law_371 : decode cL_law 371 = .ok (.aload_n 0, 1) := by decide +kernel
theorem dL_law_372 : decode cL_law 372 = .ok (.iload 4, 2) := by decide +kernel
theorem dL_law_374 : decode cL_law 374 = .ok (.iconst 1, 1) := by decide +kernel
theorem dL_law_375 : decode cL_law 375 = .ok (.iadd, 1) := by decide +kernel
theorem dL_law_376 : decode cL_law 376 = .ok (.iaload, 1) := by decide +kernel
theorem dL_law_377 : decode cL_law 377 = .ok (.invokevirtual 41, 3) := by decide +kernel
theorem dL_law_380 : decode cL_law 380 = .ok (.if_icmp .eq 1228, 3) := by decide +kernel
theorem dL_law_383 : decode cL_law 383 = .ok (.iconst 0, 1) := by decide +kernel
theorem dL_law_384 : decode cL_law 384 = .ok (.ireturn, 1) := by decide +kernel
theorem dL_law_385 : decode cL_law 385 = .ok (.aload_n 1, 1) := by decide +kernel
theorem dL_law_386 : decode cL_law 386 = .ok (.aload_n 0, 1) := by decide +kernel
theorem dL_law_387 : decode cL_law 387 = .ok (.iload 4, 2) := by decide +kernel
theorem dL_law_389 : decode cL_law 389 = .ok (.iconst 1, 1) := by decide +kernel
theorem dL_law_390 : decode cL_law 390 = .ok (.iadd, 1) := by decide +kernel
theorem dL_law_391 : decode cL_law 391 = .ok (.iaload, 1) := by decide +kernel
theorem dL_law_392 : decode cL_law 392 = .ok (.aload_n 0, 1) := by decide +kernel
theorem dL_law_393 : decode cL_law 393 = .ok (.iload 4, 2) := by decide +kernel
theorem dL_law_395 : decode cL_law 395 = .ok (.iconst 2, 1) := by decide +kernel
theorem dL_law_396 : decode cL_law 396 = .ok (.iadd, 1) := by decide +kernel
theorem dL_law_397 : decode cL_law 397 = .ok (.iaload, 1) := by decide +kernel
theorem dL_law_398 : decode cL_law 398 = .ok (.aload_n 3, 1) := by decide +kernel
theorem dL_law_399 : decode cL_law 399 = .ok (.invokestatic 42, 3) := by decide +kernel
theorem dL_law_402 : decode cL_law 402 = .ok (.istore 5, 2) := by decide +kernel
theorem dL_law_404 : decode cL_law 404 = .ok (.aload_n 2, 1) := by decide +kernel
theorem dL_law_405 : decode cL_law 405 = .ok (.aload_n 0, 1) := by decide +kernel
theorem dL_law_406 : decode cL_law 406 = .ok (.iload 4, 2) := by decide +kernel
theorem dL_law_408 : decode cL_law 408 = .ok (.iconst 1, 1) := by decide +kernel
theorem dL_law_409 : decode cL_law 409 = .ok (.iadd, 1) := by decide +kernel
theorem dL_law_410 : decode cL_law 410 = .ok (.iaload, 1) := by decide +kernel
theorem dL_law_411 : decode cL_law 411 = .ok (.aload_n 0, 1) := by decide +kernel
theorem dL_law_412 : decode cL_law 412 = .ok (.iload 4, 2) := by decide +kernel
theorem dL_law_414 : decode cL_law 414 = .ok (.iconst 2, 1) := by decide +kernel
theorem dL_law_415 : decode cL_law 415 = .ok (.iadd, 1) := by decide +kernel
theorem dL_law_416 : decode cL_law 416 = .ok (.iaload, 1) := by decide +kernel
theorem dL_law_417 : decode cL_law 417 = .ok (.invokevirtual 47, 3) := by decide +kernel
theorem dL_law_420 : decode cL_law 420 = .ok (.istore 6, 2) := by decide +kernel
theorem dL_law_422 : decode cL_law 422 = .ok (.aload_n 2, 1) := by decide +kernel
theorem dL_law_423 : decode cL_law 423 = .ok (.invokevirtual 48, 3) := by decide +kernel
theorem dL_law_426 : decode cL_law 426 = .ok (.iload 5, 2) := by decide +kernel
theorem dL_law_428 : decode cL_law 428 = .ok (.if_icmp .eq 5, 3) := by decide +kernel
theorem dL_law_431 : decode cL_law 431 = .ok (.iconst 0, 1) := by decide +kernel
theorem dL_law_432 : decode cL_law 432 = .ok (.ireturn, 1) := by decide +kernel
theorem dL_law_433 : decode cL_law 433 = .ok (.iload 5, 2) := by decide +kernel
theorem dL_law_435 : decode cL_law 435 = .ok (.ifCond .ne 15, 3) := by decide +kernel
theorem dL_law_438 : decode cL_law 438 = .ok (.aload_n 3, 1) := by decide +kernel
theorem dL_law_439 : decode cL_law 439 = .ok (.iconst 0, 1) := by decide +kernel
theorem dL_law_440 : decode cL_law 440 = .ok (.laload, 1) := by decide +kernel
theorem dL_law_441 : decode cL_law 441 = .ok (.iload 6, 2) := by decide +kernel
theorem dL_law_443 : decode cL_law 443 = .ok (.i2l, 1) := by decide +kernel
theorem dL_law_444 : decode cL_law 444 = .ok (.lcmp, 1) := by decide +kernel
theorem dL_law_445 : decode cL_law 445 = .ok (.ifCond .eq 5, 3) := by decide +kernel
theorem dL_law_448 : decode cL_law 448 = .ok (.iconst 0, 1) := by decide +kernel
theorem dL_law_449 : decode cL_law 449 = .ok (.ireturn, 1) := by decide +kernel
theorem dL_law_450 : decode cL_law 450 = .ok (.goto 1158, 3) := by decide +kernel
theorem dL_law_453 : decode cL_law 453 = .ok (.aload_n 1, 1) := by decide +kernel
theorem dL_law_454 : decode cL_law 454 = .ok (.aload_n 0, 1) := by decide +kernel
theorem dL_law_455 : decode cL_law 455 = .ok (.iload 4, 2) := by decide +kernel
theorem dL_law_457 : decode cL_law 457 = .ok (.iconst 1, 1) := by decide +kernel
theorem dL_law_458 : decode cL_law 458 = .ok (.iadd, 1) := by decide +kernel
theorem dL_law_459 : decode cL_law 459 = .ok (.iaload, 1) := by decide +kernel
theorem dL_law_460 : decode cL_law 460 = .ok (.aload_n 0, 1) := by decide +kernel
theorem dL_law_461 : decode cL_law 461 = .ok (.iload 4, 2) := by decide +kernel
theorem dL_law_463 : decode cL_law 463 = .ok (.iconst 2, 1) := by decide +kernel
theorem dL_law_464 : decode cL_law 464 = .ok (.iadd, 1) := by decide +kernel
theorem dL_law_465 : decode cL_law 465 = .ok (.iaload, 1) := by decide +kernel
theorem dL_law_466 : decode cL_law 466 = .ok (.invokevirtual 52, 3) := by decide +kernel
theorem dL_law_469 : decode cL_law 469 = .ok (.aload_n 2, 1) := by decide +kernel
theorem dL_law_470 : decode cL_law 470 = .ok (.aload_n 0, 1) := by decide +kernel
theorem dL_law_471 : decode cL_law 471 = .ok (.iload 4, 2) := by decide +kernel
theorem dL_law_473 : decode cL_law 473 = .ok (.iconst 1, 1) := by decide +kernel
theorem dL_law_474 : decode cL_law 474 = .ok (.iadd, 1) := by decide +kernel
theorem dL_law_475 : decode cL_law 475 = .ok (.iaload, 1) := by decide +kernel
theorem dL_law_476 : decode cL_law 476 = .ok (.aload_n 0, 1) := by decide +kernel
theorem dL_law_477 : decode cL_law 477 = .ok (.iload 4, 2) := by decide +kernel
theorem dL_law_479 : decode cL_law 479 = .ok (.iconst 2, 1) := by decide +kernel
theorem dL_law_480 : decode cL_law 480 = .ok (.iadd, 1) := by decide +kernel
theorem dL_law_481 : decode cL_law 481 = .ok (.iaload, 1) := by decide +kernel
theorem dL_law_482 : decode cL_law 482 = .ok (.invokevirtual 56, 3) := by decide +kernel
theorem dL_law_485 : decode cL_law 485 = .ok (.lcmp, 1) := by decide +kernel
theorem dL_law_486 : decode cL_law 486 = .ok (.ifCond .eq 1122, 3) := by decide +kernel
theorem dL_law_489 : decode cL_law 489 = .ok (.iconst 0, 1) := by decide +kernel
theorem dL_law_490 : decode cL_law 490 = .ok (.ireturn, 1) := by decide +kernel
theorem dL_law_491 : decode cL_law 491 = .ok (.aload_n 1, 1) := by decide +kernel
theorem dL_law_492 : decode cL_law 492 = .ok (.aload_n 0, 1) := by decide +kernel
theorem dL_law_493 : decode cL_law 493 = .ok (.iload 4, 2) := by decide +kernel
theorem dL_law_495 : decode cL_law 495 = .ok (.iconst 1, 1) := by decide +kernel
theorem dL_law_496 : decode cL_law 496 = .ok (.iadd, 1) := by decide +kernel
theorem dL_law_497 : decode cL_law 497 = .ok (.iaload, 1) := by decide +kernel
theorem dL_law_498 : decode cL_law 498 = .ok (.aload_n 0, 1) := by decide +kernel
theorem dL_law_499 : decode cL_law 499 = .ok (.iload 4, 2) := by decide +kernel
theorem dL_law_501 : decode cL_law 501 = .ok (.iconst 2, 1) := by decide +kernel
theorem dL_law_502 : decode cL_law 502 = .ok (.iadd, 1) := by decide +kernel
theorem dL_law_503 : decode cL_law 503 = .ok (.iaload, 1) := by decide +kernel
theorem dL_law_504 : decode cL_law 504 = .ok (.invokevirtual 57, 3) := by decide +kernel
theorem dL_law_507 : decode cL_law 507 = .ok (.aload_n 2, 1) := by decide +kernel
theorem dL_law_508 : decode cL_law 508 = .ok (.aload_n 0, 1) := by decide +kernel
theorem dL_law_509 : decode cL_law 509 = .ok (.iload 4, 2) := by decide +kernel
theorem dL_law_511 : decode cL_law 511 = .ok (.iconst 1, 1) := by decide +kernel
theorem dL_law_512 : decode cL_law 512 = .ok (.iadd, 1) := by decide +kernel
theorem dL_law_513 : decode cL_law 513 = .ok (.iaload, 1) := by decide +kernel
theorem dL_law_514 : decode cL_law 514 = .ok (.aload_n 0, 1) := by decide +kernel
theorem dL_law_515 : decode cL_law 515 = .ok (.iload 4, 2) := by decide +kernel
theorem dL_law_517 : decode cL_law 517 = .ok (.iconst 2, 1) := by decide +kernel
theorem dL_law_518 : decode cL_law 518 = .ok (.iadd, 1) := by decide +kernel
theorem dL_law_519 : decode cL_law 519 = .ok (.iaload, 1) := by decide +kernel
theorem dL_law_520 : decode cL_law 520 = .ok (.invokevirtual 60, 3) := by decide +kernel
theorem dL_law_523 : decode cL_law 523 = .ok (.lcmp, 1) := by decide +kernel
theorem dL_law_524 : decode cL_law 524 = .ok (.ifCond .eq 1084, 3) := by decide +kernel
theorem dL_law_527 : decode cL_law 527 = .ok (.iconst 0, 1) := by decide +kernel
theorem dL_law_528 : decode cL_law 528 = .ok (.ireturn, 1) := by decide +kernel
theorem dL_law_529 : decode cL_law 529 = .ok (.aload_n 1, 1) := by decide +kernel
theorem dL_law_530 : decode cL_law 530 = .ok (.aload_n 0, 1) := by decide +kernel
theorem dL_law_531 : decode cL_law 531 = .ok (.iload 4, 2) := by decide +kernel
theorem dL_law_533 : decode cL_law 533 = .ok (.iconst 1, 1) := by decide +kernel
theorem dL_law_534 : decode cL_law 534 = .ok (.iadd, 1) := by decide +kernel
theorem dL_law_535 : decode cL_law 535 = .ok (.iaload, 1) := by decide +kernel
theorem dL_law_536 : decode cL_law 536 = .ok (.aload_n 0, 1) := by decide +kernel
theorem dL_law_537 : decode cL_law 537 = .ok (.iload 4, 2) := by decide +kernel
theorem dL_law_539 : decode cL_law 539 = .ok (.iconst 2, 1) := by decide +kernel
theorem dL_law_540 : decode cL_law 540 = .ok (.iadd, 1) := by decide +kernel
theorem dL_law_541 : decode cL_law 541 = .ok (.iaload, 1) := by decide +kernel
theorem dL_law_542 : decode cL_law 542 = .ok (.invokevirtual 61, 3) := by decide +kernel
theorem dL_law_545 : decode cL_law 545 = .ok (.aload_n 2, 1) := by decide +kernel
theorem dL_law_546 : decode cL_law 546 = .ok (.aload_n 0, 1) := by decide +kernel
theorem dL_law_547 : decode cL_law 547 = .ok (.iload 4, 2) := by decide +kernel
theorem dL_law_549 : decode cL_law 549 = .ok (.iconst 1, 1) := by decide +kernel
theorem dL_law_550 : decode cL_law 550 = .ok (.iadd, 1) := by decide +kernel
theorem dL_law_551 : decode cL_law 551 = .ok (.iaload, 1) := by decide +kernel
theorem dL_law_552 : decode cL_law 552 = .ok (.aload_n 0, 1) := by decide +kernel
theorem dL_law_553 : decode cL_law 553 = .ok (.iload 4, 2) := by decide +kernel
theorem dL_law_555 : decode cL_law 555 = .ok (.iconst 2, 1) := by decide +kernel
theorem dL_law_556 : decode cL_law 556 = .ok (.iadd, 1) := by decide +kernel
theorem dL_law_557 : decode cL_law 557 = .ok (.iaload, 1) := by decide +kernel
theorem dL_law_558 : decode cL_law 558 = .ok (.invokevirtual 64, 3) := by decide +kernel
theorem dL_law_561 : decode cL_law 561 = .ok (.lcmp, 1) := by decide +kernel
theorem dL_law_562 : decode cL_law 562 = .ok (.ifCond .eq 1046, 3) := by decide +kernel
theorem dL_law_565 : decode cL_law 565 = .ok (.iconst 0, 1) := by decide +kernel
theorem dL_law_566 : decode cL_law 566 = .ok (.ireturn, 1) := by decide +kernel
theorem dL_law_567 : decode cL_law 567 = .ok (.aload_n 1, 1) := by decide +kernel
theorem dL_law_568 : decode cL_law 568 = .ok (.aload_n 0, 1) := by decide +kernel
theorem dL_law_569 : decode cL_law 569 = .ok (.iload 4, 2) := by decide +kernel
theorem dL_law_571 : decode cL_law 571 = .ok (.iconst 1, 1) := by decide +kernel
theorem dL_law_572 : decode cL_law 572 = .ok (.iadd, 1) := by decide +kernel
theorem dL_law_573 : decode cL_law 573 = .ok (.iaload, 1) := by decide +kernel
theorem dL_law_574 : decode cL_law 574 = .ok (.aload_n 0, 1) := by decide +kernel
theorem dL_law_575 : decode cL_law 575 = .ok (.iload 4, 2) := by decide +kernel
theorem dL_law_577 : decode cL_law 577 = .ok (.iconst 2, 1) := by decide +kernel
theorem dL_law_578 : decode cL_law 578 = .ok (.iadd, 1) := by decide +kernel
theorem dL_law_579 : decode cL_law 579 = .ok (.iaload, 1) := by decide +kernel
theorem dL_law_580 : decode cL_law 580 = .ok (.invokevirtual 65, 3) := by decide +kernel
theorem dL_law_583 : decode cL_law 583 = .ok (.aload_n 2, 1) := by decide +kernel
theorem dL_law_584 : decode cL_law 584 = .ok (.aload_n 0, 1) := by decide +kernel
theorem dL_law_585 : decode cL_law 585 = .ok (.iload 4, 2) := by decide +kernel
theorem dL_law_587 : decode cL_law 587 = .ok (.iconst 1, 1) := by decide +kernel
theorem dL_law_588 : decode cL_law 588 = .ok (.iadd, 1) := by decide +kernel
theorem dL_law_589 : decode cL_law 589 = .ok (.iaload, 1) := by decide +kernel
theorem dL_law_590 : decode cL_law 590 = .ok (.aload_n 0, 1) := by decide +kernel
theorem dL_law_591 : decode cL_law 591 = .ok (.iload 4, 2) := by decide +kernel
theorem dL_law_593 : decode cL_law 593 = .ok (.iconst 2, 1) := by decide +kernel
theorem dL_law_594 : decode cL_law 594 = .ok (.iadd, 1) := by decide +kernel
theorem dL_law_595 : decode cL_law 595 = .ok (.iaload, 1) := by decide +kernel
theorem dL_law_596 : decode cL_law 596 = .ok (.invokevirtual 68, 3) := by decide +kernel
theorem dL_law_599 : decode cL_law 599 = .ok (.lcmp, 1) := by decide +kernel
theorem dL_law_600 : decode cL_law 600 = .ok (.ifCond .eq 1008, 3) := by decide +kernel
theorem dL_law_603 : decode cL_law 603 = .ok (.iconst 0, 1) := by decide +kernel
theorem dL_law_604 : decode cL_law 604 = .ok (.ireturn, 1) := by decide +kernel
theorem dL_law_605 : decode cL_law 605 = .ok (.aload_n 1, 1) := by decide +kernel
theorem dL_law_606 : decode cL_law 606 = .ok (.invokevirtual 69, 3) := by decide +kernel
theorem dL_law_609 : decode cL_law 609 = .ok (.aload_n 2, 1) := by decide +kernel
theorem dL_law_610 : decode cL_law 610 = .ok (.invokevirtual 72, 3) := by decide +kernel
theorem dL_law_613 : decode cL_law 613 = .ok (.if_icmp .eq 995, 3) := by decide +kernel
theorem dL_law_616 : decode cL_law 616 = .ok (.iconst 0, 1) := by decide +kernel
theorem dL_law_617 : decode cL_law 617 = .ok (.ireturn, 1) := by decide +kernel
theorem dL_law_618 : decode cL_law 618 = .ok (.aload_n 1, 1) := by decide +kernel
theorem dL_law_619 : decode cL_law 619 = .ok (.aload_n 0, 1) := by decide +kernel
theorem dL_law_620 : decode cL_law 620 = .ok (.iload 4, 2) := by decide +kernel
theorem dL_law_622 : decode cL_law 622 = .ok (.iconst 1, 1) := by decide +kernel
theorem dL_law_623 : decode cL_law 623 = .ok (.iadd, 1) := by decide +kernel
theorem dL_law_624 : decode cL_law 624 = .ok (.iaload, 1) := by decide +kernel
theorem dL_law_625 : decode cL_law 625 = .ok (.aload_n 0, 1) := by decide +kernel
theorem dL_law_626 : decode cL_law 626 = .ok (.iload 4, 2) := by decide +kernel
theorem dL_law_628 : decode cL_law 628 = .ok (.iconst 2, 1) := by decide +kernel
theorem dL_law_629 : decode cL_law 629 = .ok (.iadd, 1) := by decide +kernel
theorem dL_law_630 : decode cL_law 630 = .ok (.iaload, 1) := by decide +kernel
theorem dL_law_631 : decode cL_law 631 = .ok (.aload_n 0, 1) := by decide +kernel
theorem dL_law_632 : decode cL_law 632 = .ok (.iload 4, 2) := by decide +kernel
theorem dL_law_634 : decode cL_law 634 = .ok (.iconst 3, 1) := by decide +kernel
theorem dL_law_635 : decode cL_law 635 = .ok (.iadd, 1) := by decide +kernel
theorem dL_law_636 : decode cL_law 636 = .ok (.iaload, 1) := by decide +kernel
theorem dL_law_637 : decode cL_law 637 = .ok (.invokevirtual 73, 3) := by decide +kernel
theorem dL_law_640 : decode cL_law 640 = .ok (.aload_n 2, 1) := by decide +kernel
theorem dL_law_641 : decode cL_law 641 = .ok (.aload_n 0, 1) := by decide +kernel
theorem dL_law_642 : decode cL_law 642 = .ok (.iload 4, 2) := by decide +kernel
theorem dL_law_644 : decode cL_law 644 = .ok (.iconst 1, 1) := by decide +kernel
theorem dL_law_645 : decode cL_law 645 = .ok (.iadd, 1) := by decide +kernel
theorem dL_law_646 : decode cL_law 646 = .ok (.iaload, 1) := by decide +kernel
theorem dL_law_647 : decode cL_law 647 = .ok (.aload_n 0, 1) := by decide +kernel
theorem dL_law_648 : decode cL_law 648 = .ok (.iload 4, 2) := by decide +kernel
theorem dL_law_650 : decode cL_law 650 = .ok (.iconst 2, 1) := by decide +kernel
theorem dL_law_651 : decode cL_law 651 = .ok (.iadd, 1) := by decide +kernel
theorem dL_law_652 : decode cL_law 652 = .ok (.iaload, 1) := by decide +kernel
theorem dL_law_653 : decode cL_law 653 = .ok (.aload_n 0, 1) := by decide +kernel
theorem dL_law_654 : decode cL_law 654 = .ok (.iload 4, 2) := by decide +kernel
theorem dL_law_656 : decode cL_law 656 = .ok (.iconst 3, 1) := by decide +kernel
theorem dL_law_657 : decode cL_law 657 = .ok (.iadd, 1) := by decide +kernel
theorem dL_law_658 : decode cL_law 658 = .ok (.iaload, 1) := by decide +kernel
theorem dL_law_659 : decode cL_law 659 = .ok (.invokevirtual 77, 3) := by decide +kernel
theorem dL_law_662 : decode cL_law 662 = .ok (.if_icmp .eq 946, 3) := by decide +kernel
