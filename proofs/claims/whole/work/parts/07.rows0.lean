theorem dX0_init_0 : decode cX0_init 0 = .ok (.aload_n 0, 1) := by decide +kernel
theorem dX0_init_1 : decode cX0_init 1 = .ok (.invokespecial 3, 3) := by decide +kernel
theorem dX0_init_4 : decode cX0_init 4 = .ok (.aload_n 0, 1) := by decide +kernel
theorem dX0_init_5 : decode cX0_init 5 = .ok (.bipush 9, 2) := by decide +kernel
theorem dX0_init_7 : decode cX0_init 7 = .ok (.newarray .long, 2) := by decide +kernel
theorem dX0_init_9 : decode cX0_init 9 = .ok (.putfield 9, 3) := by decide +kernel
theorem dX0_init_12 : decode cX0_init 12 = .ok (.aload_n 0, 1) := by decide +kernel
theorem dX0_init_13 : decode cX0_init 13 = .ok (.iconst 3, 1) := by decide +kernel
theorem dX0_init_14 : decode cX0_init 14 = .ok (.newarray .long, 2) := by decide +kernel
theorem dX0_init_16 : decode cX0_init 16 = .ok (.putfield 15, 3) := by decide +kernel
theorem dX0_init_19 : decode cX0_init 19 = .ok (.aload_n 0, 1) := by decide +kernel
theorem dX0_init_20 : decode cX0_init 20 = .ok (.iconst 3, 1) := by decide +kernel
theorem dX0_init_21 : decode cX0_init 21 = .ok (.newarray .long, 2) := by decide +kernel
theorem dX0_init_23 : decode cX0_init 23 = .ok (.putfield 18, 3) := by decide +kernel
theorem dX0_init_26 : decode cX0_init 26 = .ok (.aload_n 0, 1) := by decide +kernel
theorem dX0_init_27 : decode cX0_init 27 = .ok (.bipush 8, 2) := by decide +kernel
theorem dX0_init_29 : decode cX0_init 29 = .ok (.newarray .long, 2) := by decide +kernel
theorem dX0_init_31 : decode cX0_init 31 = .ok (.putfield 21, 3) := by decide +kernel
theorem dX0_init_34 : decode cX0_init 34 = .ok (.aload_n 0, 1) := by decide +kernel
theorem dX0_init_35 : decode cX0_init 35 = .ok (.lconst 0, 1) := by decide +kernel
theorem dX0_init_36 : decode cX0_init 36 = .ok (.putfield 24, 3) := by decide +kernel
theorem dX0_init_39 : decode cX0_init 39 = .ok (.return_, 1) := by decide +kernel
theorem dX0_solve_0 : decode cX0_solve 0 = .ok (.aload_n 0, 1) := by decide +kernel
theorem dX0_solve_1 : decode cX0_solve 1 = .ok (.aload_n 1, 1) := by decide +kernel
theorem dX0_solve_2 : decode cX0_solve 2 = .ok (.aload_n 2, 1) := by decide +kernel
theorem dX0_solve_3 : decode cX0_solve 3 = .ok (.invokevirtual 28, 3) := by decide +kernel
theorem dX0_solve_6 : decode cX0_solve 6 = .ok (.iconst 0, 1) := by decide +kernel
theorem dX0_solve_7 : decode cX0_solve 7 = .ok (.istore 4, 2) := by decide +kernel
theorem dX0_solve_9 : decode cX0_solve 9 = .ok (.iload 4, 2) := by decide +kernel
theorem dX0_solve_11 : decode cX0_solve 11 = .ok (.aload_n 1, 1) := by decide +kernel
theorem dX0_solve_12 : decode cX0_solve 12 = .ok (.getfield 32, 3) := by decide +kernel
theorem dX0_solve_15 : decode cX0_solve 15 = .ok (.if_icmp .ge 26, 3) := by decide +kernel
theorem dX0_solve_18 : decode cX0_solve 18 = .ok (.iload_n 3, 1) := by decide +kernel
theorem dX0_solve_19 : decode cX0_solve 19 = .ok (.iload 4, 2) := by decide +kernel
theorem dX0_solve_21 : decode cX0_solve 21 = .ok (.ishr, 1) := by decide +kernel
theorem dX0_solve_22 : decode cX0_solve 22 = .ok (.iconst 1, 1) := by decide +kernel
theorem dX0_solve_23 : decode cX0_solve 23 = .ok (.iand, 1) := by decide +kernel
theorem dX0_solve_24 : decode cX0_solve 24 = .ok (.ifCond .eq 11, 3) := by decide +kernel
theorem dX0_solve_27 : decode cX0_solve 27 = .ok (.aload_n 0, 1) := by decide +kernel
theorem dX0_solve_28 : decode cX0_solve 28 = .ok (.aload_n 1, 1) := by decide +kernel
theorem dX0_solve_29 : decode cX0_solve 29 = .ok (.aload_n 2, 1) := by decide +kernel
theorem dX0_solve_30 : decode cX0_solve 30 = .ok (.iload 4, 2) := by decide +kernel
theorem dX0_solve_32 : decode cX0_solve 32 = .ok (.invokevirtual 38, 3) := by decide +kernel
theorem dX0_solve_35 : decode cX0_solve 35 = .ok (.iinc 4 1, 3) := by decide +kernel
theorem dX0_solve_38 : decode cX0_solve 38 = .ok (.goto (-29), 3) := by decide +kernel
theorem dX0_solve_41 : decode cX0_solve 41 = .ok (.aload_n 0, 1) := by decide +kernel
theorem dX0_solve_42 : decode cX0_solve 42 = .ok (.aload_n 0, 1) := by decide +kernel
theorem dX0_solve_43 : decode cX0_solve 43 = .ok (.getfield 9, 3) := by decide +kernel
theorem dX0_solve_46 : decode cX0_solve 46 = .ok (.iconst 0, 1) := by decide +kernel
theorem dX0_solve_47 : decode cX0_solve 47 = .ok (.laload, 1) := by decide +kernel
theorem dX0_solve_48 : decode cX0_solve 48 = .ok (.aload_n 0, 1) := by decide +kernel
theorem dX0_solve_49 : decode cX0_solve 49 = .ok (.iconst 0, 1) := by decide +kernel
theorem dX0_solve_50 : decode cX0_solve 50 = .ok (.iconst 0, 1) := by decide +kernel
theorem dX0_solve_51 : decode cX0_solve 51 = .ok (.invokevirtual 42, 3) := by decide +kernel
theorem dX0_solve_54 : decode cX0_solve 54 = .ok (.lmul, 1) := by decide +kernel
theorem dX0_solve_55 : decode cX0_solve 55 = .ok (.aload_n 0, 1) := by decide +kernel
theorem dX0_solve_56 : decode cX0_solve 56 = .ok (.getfield 9, 3) := by decide +kernel
theorem dX0_solve_59 : decode cX0_solve 59 = .ok (.iconst 1, 1) := by decide +kernel
theorem dX0_solve_60 : decode cX0_solve 60 = .ok (.laload, 1) := by decide +kernel
theorem dX0_solve_61 : decode cX0_solve 61 = .ok (.aload_n 0, 1) := by decide +kernel
theorem dX0_solve_62 : decode cX0_solve 62 = .ok (.iconst 0, 1) := by decide +kernel
theorem dX0_solve_63 : decode cX0_solve 63 = .ok (.iconst 1, 1) := by decide +kernel
theorem dX0_solve_64 : decode cX0_solve 64 = .ok (.invokevirtual 42, 3) := by decide +kernel
theorem dX0_solve_67 : decode cX0_solve 67 = .ok (.lmul, 1) := by decide +kernel
theorem dX0_solve_68 : decode cX0_solve 68 = .ok (.ladd, 1) := by decide +kernel
theorem dX0_solve_69 : decode cX0_solve 69 = .ok (.aload_n 0, 1) := by decide +kernel
theorem dX0_solve_70 : decode cX0_solve 70 = .ok (.getfield 9, 3) := by decide +kernel
theorem dX0_solve_73 : decode cX0_solve 73 = .ok (.iconst 2, 1) := by decide +kernel
theorem dX0_solve_74 : decode cX0_solve 74 = .ok (.laload, 1) := by decide +kernel
theorem dX0_solve_75 : decode cX0_solve 75 = .ok (.aload_n 0, 1) := by decide +kernel
theorem dX0_solve_76 : decode cX0_solve 76 = .ok (.iconst 0, 1) := by decide +kernel
theorem dX0_solve_77 : decode cX0_solve 77 = .ok (.iconst 2, 1) := by decide +kernel
theorem dX0_solve_78 : decode cX0_solve 78 = .ok (.invokevirtual 42, 3) := by decide +kernel
theorem dX0_solve_81 : decode cX0_solve 81 = .ok (.lmul, 1) := by decide +kernel
theorem dX0_solve_82 : decode cX0_solve 82 = .ok (.ladd, 1) := by decide +kernel
theorem dX0_solve_83 : decode cX0_solve 83 = .ok (.putfield 24, 3) := by decide +kernel
theorem dX0_solve_86 : decode cX0_solve 86 = .ok (.aload_n 0, 1) := by decide +kernel
theorem dX0_solve_87 : decode cX0_solve 87 = .ok (.getfield 24, 3) := by decide +kernel
theorem dX0_solve_90 : decode cX0_solve 90 = .ok (.lconst 0, 1) := by decide +kernel
theorem dX0_solve_91 : decode cX0_solve 91 = .ok (.lcmp, 1) := by decide +kernel
theorem dX0_solve_92 : decode cX0_solve 92 = .ok (.ifCond .gt 5, 3) := by decide +kernel
theorem dX0_solve_95 : decode cX0_solve 95 = .ok (.iconst 0, 1) := by decide +kernel
theorem dX0_solve_96 : decode cX0_solve 96 = .ok (.ireturn, 1) := by decide +kernel
theorem dX0_solve_97 : decode cX0_solve 97 = .ok (.iconst 0, 1) := by decide +kernel
theorem dX0_solve_98 : decode cX0_solve 98 = .ok (.istore 4, 2) := by decide +kernel
theorem dX0_solve_100 : decode cX0_solve 100 = .ok (.iload 4, 2) := by decide +kernel
theorem dX0_solve_102 : decode cX0_solve 102 = .ok (.iconst 3, 1) := by decide +kernel
theorem dX0_solve_103 : decode cX0_solve 103 = .ok (.if_icmp .ge 58, 3) := by decide +kernel
theorem dX0_solve_106 : decode cX0_solve 106 = .ok (.aload_n 0, 1) := by decide +kernel
theorem dX0_solve_107 : decode cX0_solve 107 = .ok (.getfield 18, 3) := by decide +kernel
theorem dX0_solve_110 : decode cX0_solve 110 = .ok (.iload 4, 2) := by decide +kernel
theorem dX0_solve_112 : decode cX0_solve 112 = .ok (.lconst 0, 1) := by decide +kernel
theorem dX0_solve_113 : decode cX0_solve 113 = .ok (.lastore, 1) := by decide +kernel
theorem dX0_solve_114 : decode cX0_solve 114 = .ok (.iconst 0, 1) := by decide +kernel
theorem dX0_solve_115 : decode cX0_solve 115 = .ok (.istore 5, 2) := by decide +kernel
theorem dX0_solve_117 : decode cX0_solve 117 = .ok (.iload 5, 2) := by decide +kernel
theorem dX0_solve_119 : decode cX0_solve 119 = .ok (.iconst 3, 1) := by decide +kernel
theorem dX0_solve_120 : decode cX0_solve 120 = .ok (.if_icmp .ge 35, 3) := by decide +kernel
theorem dX0_solve_123 : decode cX0_solve 123 = .ok (.aload_n 0, 1) := by decide +kernel
theorem dX0_solve_124 : decode cX0_solve 124 = .ok (.getfield 18, 3) := by decide +kernel
theorem dX0_solve_127 : decode cX0_solve 127 = .ok (.iload 4, 2) := by decide +kernel
theorem dX0_solve_129 : decode cX0_solve 129 = .ok (.dup2, 1) := by decide +kernel
theorem dX0_solve_130 : decode cX0_solve 130 = .ok (.laload, 1) := by decide +kernel
theorem dX0_solve_131 : decode cX0_solve 131 = .ok (.aload_n 0, 1) := by decide +kernel
theorem dX0_solve_132 : decode cX0_solve 132 = .ok (.iload 4, 2) := by decide +kernel
theorem dX0_solve_134 : decode cX0_solve 134 = .ok (.iload 5, 2) := by decide +kernel
theorem dX0_solve_136 : decode cX0_solve 136 = .ok (.invokevirtual 42, 3) := by decide +kernel
theorem dX0_solve_139 : decode cX0_solve 139 = .ok (.aload_n 0, 1) := by decide +kernel
theorem dX0_solve_140 : decode cX0_solve 140 = .ok (.getfield 15, 3) := by decide +kernel
theorem dX0_solve_143 : decode cX0_solve 143 = .ok (.iload 5, 2) := by decide +kernel
theorem dX0_solve_145 : decode cX0_solve 145 = .ok (.laload, 1) := by decide +kernel
theorem dX0_solve_146 : decode cX0_solve 146 = .ok (.lmul, 1) := by decide +kernel
theorem dX0_solve_147 : decode cX0_solve 147 = .ok (.ladd, 1) := by decide +kernel
theorem dX0_solve_148 : decode cX0_solve 148 = .ok (.lastore, 1) := by decide +kernel
theorem dX0_solve_149 : decode cX0_solve 149 = .ok (.iinc 5 1, 3) := by decide +kernel
theorem dX0_solve_152 : decode cX0_solve 152 = .ok (.goto (-35), 3) := by decide +kernel
theorem dX0_solve_155 : decode cX0_solve 155 = .ok (.iinc 4 1, 3) := by decide +kernel
theorem dX0_solve_158 : decode cX0_solve 158 = .ok (.goto (-58), 3) := by decide +kernel
theorem dX0_solve_161 : decode cX0_solve 161 = .ok (.aload_n 0, 1) := by decide +kernel
theorem dX0_solve_162 : decode cX0_solve 162 = .ok (.aload_n 1, 1) := by decide +kernel
theorem dX0_solve_163 : decode cX0_solve 163 = .ok (.aload_n 2, 1) := by decide +kernel
theorem dX0_solve_164 : decode cX0_solve 164 = .ok (.invokevirtual 46, 3) := by decide +kernel
theorem dX0_solve_167 : decode cX0_solve 167 = .ok (.iconst 1, 1) := by decide +kernel
theorem dX0_solve_168 : decode cX0_solve 168 = .ok (.ireturn, 1) := by decide +kernel
theorem dX0_begin_0 : decode cX0_begin 0 = .ok (.iconst 0, 1) := by decide +kernel
theorem dX0_begin_1 : decode cX0_begin 1 = .ok (.istore_n 3, 1) := by decide +kernel
theorem dX0_begin_2 : decode cX0_begin 2 = .ok (.iload_n 3, 1) := by decide +kernel
theorem dX0_begin_3 : decode cX0_begin 3 = .ok (.iconst 3, 1) := by decide +kernel
theorem dX0_begin_4 : decode cX0_begin 4 = .ok (.if_icmp .ge 81, 3) := by decide +kernel
theorem dX0_begin_7 : decode cX0_begin 7 = .ok (.iconst 0, 1) := by decide +kernel
theorem dX0_begin_8 : decode cX0_begin 8 = .ok (.istore 4, 2) := by decide +kernel
theorem dX0_begin_10 : decode cX0_begin 10 = .ok (.iload 4, 2) := by decide +kernel
theorem dX0_begin_12 : decode cX0_begin 12 = .ok (.iconst 3, 1) := by decide +kernel
theorem dX0_begin_13 : decode cX0_begin 13 = .ok (.if_icmp .ge 40, 3) := by decide +kernel
theorem dX0_begin_16 : decode cX0_begin 16 = .ok (.aload_n 0, 1) := by decide +kernel
theorem dX0_begin_17 : decode cX0_begin 17 = .ok (.getfield 9, 3) := by decide +kernel
theorem dX0_begin_20 : decode cX0_begin 20 = .ok (.iconst 3, 1) := by decide +kernel
theorem dX0_begin_21 : decode cX0_begin 21 = .ok (.iload_n 3, 1) := by decide +kernel
theorem dX0_begin_22 : decode cX0_begin 22 = .ok (.imul, 1) := by decide +kernel
theorem dX0_begin_23 : decode cX0_begin 23 = .ok (.iload 4, 2) := by decide +kernel
theorem dX0_begin_25 : decode cX0_begin 25 = .ok (.iadd, 1) := by decide +kernel
theorem dX0_begin_26 : decode cX0_begin 26 = .ok (.iload_n 3, 1) := by decide +kernel
theorem dX0_begin_27 : decode cX0_begin 27 = .ok (.iload 4, 2) := by decide +kernel
theorem dX0_begin_29 : decode cX0_begin 29 = .ok (.if_icmp .ne 16, 3) := by decide +kernel
theorem dX0_begin_32 : decode cX0_begin 32 = .ok (.aload_n 1, 1) := by decide +kernel
theorem dX0_begin_33 : decode cX0_begin 33 = .ok (.getfield 49, 3) := by decide +kernel
theorem dX0_begin_36 : decode cX0_begin 36 = .ok (.iload_n 3, 1) := by decide +kernel
theorem dX0_begin_37 : decode cX0_begin 37 = .ok (.baload, 1) := by decide +kernel
theorem dX0_begin_38 : decode cX0_begin 38 = .ok (.ifCond .ne 7, 3) := by decide +kernel
theorem dX0_begin_41 : decode cX0_begin 41 = .ok (.lconst 1, 1) := by decide +kernel
theorem dX0_begin_42 : decode cX0_begin 42 = .ok (.goto 4, 3) := by decide +kernel
theorem dX0_begin_45 : decode cX0_begin 45 = .ok (.lconst 0, 1) := by decide +kernel
theorem dX0_begin_46 : decode cX0_begin 46 = .ok (.lastore, 1) := by decide +kernel
theorem dX0_begin_47 : decode cX0_begin 47 = .ok (.iinc 4 1, 3) := by decide +kernel
theorem dX0_begin_50 : decode cX0_begin 50 = .ok (.goto (-40), 3) := by decide +kernel
theorem dX0_begin_53 : decode cX0_begin 53 = .ok (.aload_n 0, 1) := by decide +kernel
theorem dX0_begin_54 : decode cX0_begin 54 = .ok (.getfield 15, 3) := by decide +kernel
theorem dX0_begin_57 : decode cX0_begin 57 = .ok (.iload_n 3, 1) := by decide +kernel
theorem dX0_begin_58 : decode cX0_begin 58 = .ok (.aload_n 1, 1) := by decide +kernel
theorem dX0_begin_59 : decode cX0_begin 59 = .ok (.getfield 49, 3) := by decide +kernel
theorem dX0_begin_62 : decode cX0_begin 62 = .ok (.iload_n 3, 1) := by decide +kernel
theorem dX0_begin_63 : decode cX0_begin 63 = .ok (.baload, 1) := by decide +kernel
theorem dX0_begin_64 : decode cX0_begin 64 = .ok (.ifCond .eq 13, 3) := by decide +kernel
theorem dX0_begin_67 : decode cX0_begin 67 = .ok (.aload_n 2, 1) := by decide +kernel
theorem dX0_begin_68 : decode cX0_begin 68 = .ok (.getfield 53, 3) := by decide +kernel
theorem dX0_begin_71 : decode cX0_begin 71 = .ok (.iload_n 3, 1) := by decide +kernel
theorem dX0_begin_72 : decode cX0_begin 72 = .ok (.iaload, 1) := by decide +kernel
theorem dX0_begin_73 : decode cX0_begin 73 = .ok (.i2l, 1) := by decide +kernel
theorem dX0_begin_74 : decode cX0_begin 74 = .ok (.goto 4, 3) := by decide +kernel
theorem dX0_begin_77 : decode cX0_begin 77 = .ok (.lconst 0, 1) := by decide +kernel
theorem dX0_begin_78 : decode cX0_begin 78 = .ok (.lastore, 1) := by decide +kernel
theorem dX0_begin_79 : decode cX0_begin 79 = .ok (.iinc 3 1, 3) := by decide +kernel
theorem dX0_begin_82 : decode cX0_begin 82 = .ok (.goto (-80), 3) := by decide +kernel
theorem dX0_begin_85 : decode cX0_begin 85 = .ok (.return_, 1) := by decide +kernel
theorem dX0_addRope_0 : decode cX0_addRope 0 = .ok (.iconst 0, 1) := by decide +kernel
theorem dX0_addRope_1 : decode cX0_addRope 1 = .ok (.istore 4, 2) := by decide +kernel
theorem dX0_addRope_3 : decode cX0_addRope 3 = .ok (.iload 4, 2) := by decide +kernel
theorem dX0_addRope_5 : decode cX0_addRope 5 = .ok (.iconst 3, 1) := by decide +kernel
theorem dX0_addRope_6 : decode cX0_addRope 6 = .ok (.if_icmp .ge 117, 3) := by decide +kernel
theorem dX0_addRope_9 : decode cX0_addRope 9 = .ok (.aload_n 1, 1) := by decide +kernel
theorem dX0_addRope_10 : decode cX0_addRope 10 = .ok (.getfield 49, 3) := by decide +kernel
theorem dX0_addRope_13 : decode cX0_addRope 13 = .ok (.iload 4, 2) := by decide +kernel
theorem dX0_addRope_15 : decode cX0_addRope 15 = .ok (.baload, 1) := by decide +kernel
theorem dX0_addRope_16 : decode cX0_addRope 16 = .ok (.ifCond .ne 6, 3) := by decide +kernel
theorem dX0_addRope_19 : decode cX0_addRope 19 = .ok (.goto 98, 3) := by decide +kernel
theorem dX0_addRope_22 : decode cX0_addRope 22 = .ok (.aload_n 1, 1) := by decide +kernel
theorem dX0_addRope_23 : decode cX0_addRope 23 = .ok (.getfield 59, 3) := by decide +kernel
theorem dX0_addRope_26 : decode cX0_addRope 26 = .ok (.iconst 3, 1) := by decide +kernel
theorem dX0_addRope_27 : decode cX0_addRope 27 = .ok (.iload_n 3, 1) := by decide +kernel
theorem dX0_addRope_28 : decode cX0_addRope 28 = .ok (.imul, 1) := by decide +kernel
theorem dX0_addRope_29 : decode cX0_addRope 29 = .ok (.iload 4, 2) := by decide +kernel
theorem dX0_addRope_31 : decode cX0_addRope 31 = .ok (.iadd, 1) := by decide +kernel
theorem dX0_addRope_32 : decode cX0_addRope 32 = .ok (.iaload, 1) := by decide +kernel
theorem dX0_addRope_33 : decode cX0_addRope 33 = .ok (.istore 5, 2) := by decide +kernel
theorem dX0_addRope_35 : decode cX0_addRope 35 = .ok (.aload_n 0, 1) := by decide +kernel
theorem dX0_addRope_36 : decode cX0_addRope 36 = .ok (.getfield 15, 3) := by decide +kernel
theorem dX0_addRope_39 : decode cX0_addRope 39 = .ok (.iload 4, 2) := by decide +kernel
theorem dX0_addRope_41 : decode cX0_addRope 41 = .ok (.dup2, 1) := by decide +kernel
theorem dX0_addRope_42 : decode cX0_addRope 42 = .ok (.laload, 1) := by decide +kernel
theorem dX0_addRope_43 : decode cX0_addRope 43 = .ok (.aload_n 2, 1) := by decide +kernel
theorem dX0_addRope_44 : decode cX0_addRope 44 = .ok (.getfield 62, 3) := by decide +kernel
theorem dX0_addRope_47 : decode cX0_addRope 47 = .ok (.iload_n 3, 1) := by decide +kernel
theorem dX0_addRope_48 : decode cX0_addRope 48 = .ok (.iaload, 1) := by decide +kernel
theorem dX0_addRope_49 : decode cX0_addRope 49 = .ok (.iload 5, 2) := by decide +kernel
theorem dX0_addRope_51 : decode cX0_addRope 51 = .ok (.imul, 1) := by decide +kernel
theorem dX0_addRope_52 : decode cX0_addRope 52 = .ok (.i2l, 1) := by decide +kernel
theorem dX0_addRope_53 : decode cX0_addRope 53 = .ok (.ladd, 1) := by decide +kernel
theorem dX0_addRope_54 : decode cX0_addRope 54 = .ok (.lastore, 1) := by decide +kernel
theorem dX0_addRope_55 : decode cX0_addRope 55 = .ok (.iconst 0, 1) := by decide +kernel
theorem dX0_addRope_56 : decode cX0_addRope 56 = .ok (.istore 6, 2) := by decide +kernel
theorem dX0_addRope_58 : decode cX0_addRope 58 = .ok (.iload 6, 2) := by decide +kernel
theorem dX0_addRope_60 : decode cX0_addRope 60 = .ok (.iconst 3, 1) := by decide +kernel
theorem dX0_addRope_61 : decode cX0_addRope 61 = .ok (.if_icmp .ge 56, 3) := by decide +kernel
theorem dX0_addRope_64 : decode cX0_addRope 64 = .ok (.aload_n 1, 1) := by decide +kernel
theorem dX0_addRope_65 : decode cX0_addRope 65 = .ok (.getfield 49, 3) := by decide +kernel
theorem dX0_addRope_68 : decode cX0_addRope 68 = .ok (.iload 6, 2) := by decide +kernel
theorem dX0_addRope_70 : decode cX0_addRope 70 = .ok (.baload, 1) := by decide +kernel
theorem dX0_addRope_71 : decode cX0_addRope 71 = .ok (.ifCond .eq 40, 3) := by decide +kernel
theorem dX0_addRope_74 : decode cX0_addRope 74 = .ok (.aload_n 0, 1) := by decide +kernel
theorem dX0_addRope_75 : decode cX0_addRope 75 = .ok (.getfield 9, 3) := by decide +kernel
theorem dX0_addRope_78 : decode cX0_addRope 78 = .ok (.iconst 3, 1) := by decide +kernel
theorem dX0_addRope_79 : decode cX0_addRope 79 = .ok (.iload 4, 2) := by decide +kernel
theorem dX0_addRope_81 : decode cX0_addRope 81 = .ok (.imul, 1) := by decide +kernel
theorem dX0_addRope_82 : decode cX0_addRope 82 = .ok (.iload 6, 2) := by decide +kernel
theorem dX0_addRope_84 : decode cX0_addRope 84 = .ok (.iadd, 1) := by decide +kernel
theorem dX0_addRope_85 : decode cX0_addRope 85 = .ok (.dup2, 1) := by decide +kernel
theorem dX0_addRope_86 : decode cX0_addRope 86 = .ok (.laload, 1) := by decide +kernel
theorem dX0_addRope_87 : decode cX0_addRope 87 = .ok (.aload_n 1, 1) := by decide +kernel
theorem dX0_addRope_88 : decode cX0_addRope 88 = .ok (.getfield 65, 3) := by decide +kernel
theorem dX0_addRope_91 : decode cX0_addRope 91 = .ok (.iload_n 3, 1) := by decide +kernel
theorem dX0_addRope_92 : decode cX0_addRope 92 = .ok (.iaload, 1) := by decide +kernel
theorem dX0_addRope_93 : decode cX0_addRope 93 = .ok (.iload 5, 2) := by decide +kernel
theorem dX0_addRope_95 : decode cX0_addRope 95 = .ok (.imul, 1) := by decide +kernel
theorem dX0_addRope_96 : decode cX0_addRope 96 = .ok (.aload_n 1, 1) := by decide +kernel
theorem dX0_addRope_97 : decode cX0_addRope 97 = .ok (.getfield 59, 3) := by decide +kernel
theorem dX0_addRope_100 : decode cX0_addRope 100 = .ok (.iconst 3, 1) := by decide +kernel
theorem dX0_addRope_101 : decode cX0_addRope 101 = .ok (.iload_n 3, 1) := by decide +kernel
theorem dX0_addRope_102 : decode cX0_addRope 102 = .ok (.imul, 1) := by decide +kernel
theorem dX0_addRope_103 : decode cX0_addRope 103 = .ok (.iload 6, 2) := by decide +kernel
theorem dX0_addRope_105 : decode cX0_addRope 105 = .ok (.iadd, 1) := by decide +kernel
theorem dX0_addRope_106 : decode cX0_addRope 106 = .ok (.iaload, 1) := by decide +kernel
theorem dX0_addRope_107 : decode cX0_addRope 107 = .ok (.imul, 1) := by decide +kernel
theorem dX0_addRope_108 : decode cX0_addRope 108 = .ok (.i2l, 1) := by decide +kernel
theorem dX0_addRope_109 : decode cX0_addRope 109 = .ok (.ladd, 1) := by decide +kernel
theorem dX0_addRope_110 : decode cX0_addRope 110 = .ok (.lastore, 1) := by decide +kernel
theorem dX0_addRope_111 : decode cX0_addRope 111 = .ok (.iinc 6 1, 3) := by decide +kernel
theorem dX0_addRope_114 : decode cX0_addRope 114 = .ok (.goto (-56), 3) := by decide +kernel
theorem dX0_addRope_117 : decode cX0_addRope 117 = .ok (.iinc 4 1, 3) := by decide +kernel
theorem dX0_addRope_120 : decode cX0_addRope 120 = .ok (.goto (-117), 3) := by decide +kernel
theorem dX0_addRope_123 : decode cX0_addRope 123 = .ok (.return_, 1) := by decide +kernel
theorem dX0_cofactor_0 : decode cX0_cofactor 0 = .ok (.iconst 3, 1) := by decide +kernel
theorem dX0_cofactor_1 : decode cX0_cofactor 1 = .ok (.iload_n 1, 1) := by decide +kernel
theorem dX0_cofactor_2 : decode cX0_cofactor 2 = .ok (.iconst 1, 1) := by decide +kernel
theorem dX0_cofactor_3 : decode cX0_cofactor 3 = .ok (.iadd, 1) := by decide +kernel
theorem dX0_cofactor_4 : decode cX0_cofactor 4 = .ok (.iconst 3, 1) := by decide +kernel
theorem dX0_cofactor_5 : decode cX0_cofactor 5 = .ok (.irem, 1) := by decide +kernel
theorem dX0_cofactor_6 : decode cX0_cofactor 6 = .ok (.imul, 1) := by decide +kernel
theorem dX0_cofactor_7 : decode cX0_cofactor 7 = .ok (.istore_n 3, 1) := by decide +kernel
theorem dX0_cofactor_8 : decode cX0_cofactor 8 = .ok (.iconst 3, 1) := by decide +kernel
theorem dX0_cofactor_9 : decode cX0_cofactor 9 = .ok (.iload_n 1, 1) := by decide +kernel
theorem dX0_cofactor_10 : decode cX0_cofactor 10 = .ok (.iconst 2, 1) := by decide +kernel
theorem dX0_cofactor_11 : decode cX0_cofactor 11 = .ok (.iadd, 1) := by decide +kernel
theorem dX0_cofactor_12 : decode cX0_cofactor 12 = .ok (.iconst 3, 1) := by decide +kernel
theorem dX0_cofactor_13 : decode cX0_cofactor 13 = .ok (.irem, 1) := by decide +kernel
theorem dX0_cofactor_14 : decode cX0_cofactor 14 = .ok (.imul, 1) := by decide +kernel
theorem dX0_cofactor_15 : decode cX0_cofactor 15 = .ok (.istore 4, 2) := by decide +kernel
theorem dX0_cofactor_17 : decode cX0_cofactor 17 = .ok (.iload_n 2, 1) := by decide +kernel
theorem dX0_cofactor_18 : decode cX0_cofactor 18 = .ok (.iconst 1, 1) := by decide +kernel
theorem dX0_cofactor_19 : decode cX0_cofactor 19 = .ok (.iadd, 1) := by decide +kernel
theorem dX0_cofactor_20 : decode cX0_cofactor 20 = .ok (.iconst 3, 1) := by decide +kernel
theorem dX0_cofactor_21 : decode cX0_cofactor 21 = .ok (.irem, 1) := by decide +kernel
theorem dX0_cofactor_22 : decode cX0_cofactor 22 = .ok (.istore 5, 2) := by decide +kernel
theorem dX0_cofactor_24 : decode cX0_cofactor 24 = .ok (.iload_n 2, 1) := by decide +kernel
theorem dX0_cofactor_25 : decode cX0_cofactor 25 = .ok (.iconst 2, 1) := by decide +kernel
theorem dX0_cofactor_26 : decode cX0_cofactor 26 = .ok (.iadd, 1) := by decide +kernel
theorem dX0_cofactor_27 : decode cX0_cofactor 27 = .ok (.iconst 3, 1) := by decide +kernel
theorem dX0_cofactor_28 : decode cX0_cofactor 28 = .ok (.irem, 1) := by decide +kernel
theorem dX0_cofactor_29 : decode cX0_cofactor 29 = .ok (.istore 6, 2) := by decide +kernel
theorem dX0_cofactor_31 : decode cX0_cofactor 31 = .ok (.aload_n 0, 1) := by decide +kernel
theorem dX0_cofactor_32 : decode cX0_cofactor 32 = .ok (.getfield 9, 3) := by decide +kernel
theorem dX0_cofactor_35 : decode cX0_cofactor 35 = .ok (.iload_n 3, 1) := by decide +kernel
theorem dX0_cofactor_36 : decode cX0_cofactor 36 = .ok (.iload 5, 2) := by decide +kernel
theorem dX0_cofactor_38 : decode cX0_cofactor 38 = .ok (.iadd, 1) := by decide +kernel
theorem dX0_cofactor_39 : decode cX0_cofactor 39 = .ok (.laload, 1) := by decide +kernel
theorem dX0_cofactor_40 : decode cX0_cofactor 40 = .ok (.aload_n 0, 1) := by decide +kernel
theorem dX0_cofactor_41 : decode cX0_cofactor 41 = .ok (.getfield 9, 3) := by decide +kernel
theorem dX0_cofactor_44 : decode cX0_cofactor 44 = .ok (.iload 4, 2) := by decide +kernel
theorem dX0_cofactor_46 : decode cX0_cofactor 46 = .ok (.iload 6, 2) := by decide +kernel
theorem dX0_cofactor_48 : decode cX0_cofactor 48 = .ok (.iadd, 1) := by decide +kernel
theorem dX0_cofactor_49 : decode cX0_cofactor 49 = .ok (.laload, 1) := by decide +kernel
theorem dX0_cofactor_50 : decode cX0_cofactor 50 = .ok (.lmul, 1) := by decide +kernel
theorem dX0_cofactor_51 : decode cX0_cofactor 51 = .ok (.aload_n 0, 1) := by decide +kernel
theorem dX0_cofactor_52 : decode cX0_cofactor 52 = .ok (.getfield 9, 3) := by decide +kernel
theorem dX0_cofactor_55 : decode cX0_cofactor 55 = .ok (.iload_n 3, 1) := by decide +kernel
theorem dX0_cofactor_56 : decode cX0_cofactor 56 = .ok (.iload 6, 2) := by decide +kernel
theorem dX0_cofactor_58 : decode cX0_cofactor 58 = .ok (.iadd, 1) := by decide +kernel
theorem dX0_cofactor_59 : decode cX0_cofactor 59 = .ok (.laload, 1) := by decide +kernel
theorem dX0_cofactor_60 : decode cX0_cofactor 60 = .ok (.aload_n 0, 1) := by decide +kernel
theorem dX0_cofactor_61 : decode cX0_cofactor 61 = .ok (.getfield 9, 3) := by decide +kernel
theorem dX0_cofactor_64 : decode cX0_cofactor 64 = .ok (.iload 4, 2) := by decide +kernel
theorem dX0_cofactor_66 : decode cX0_cofactor 66 = .ok (.iload 5, 2) := by decide +kernel
theorem dX0_cofactor_68 : decode cX0_cofactor 68 = .ok (.iadd, 1) := by decide +kernel
theorem dX0_cofactor_69 : decode cX0_cofactor 69 = .ok (.laload, 1) := by decide +kernel
theorem dX0_cofactor_70 : decode cX0_cofactor 70 = .ok (.lmul, 1) := by decide +kernel
theorem dX0_cofactor_71 : decode cX0_cofactor 71 = .ok (.lsub, 1) := by decide +kernel
theorem dX0_cofactor_72 : decode cX0_cofactor 72 = .ok (.lreturn, 1) := by decide +kernel
theorem dX0_putPulls_0 : decode cX0_putPulls 0 = .ok (.iconst 0, 1) := by decide +kernel
theorem dX0_putPulls_1 : decode cX0_putPulls 1 = .ok (.istore_n 3, 1) := by decide +kernel
theorem dX0_putPulls_2 : decode cX0_putPulls 2 = .ok (.iload_n 3, 1) := by decide +kernel
theorem dX0_putPulls_3 : decode cX0_putPulls 3 = .ok (.aload_n 1, 1) := by decide +kernel
theorem dX0_putPulls_4 : decode cX0_putPulls 4 = .ok (.getfield 32, 3) := by decide +kernel
theorem dX0_putPulls_7 : decode cX0_putPulls 7 = .ok (.if_icmp .ge 81, 3) := by decide +kernel
theorem dX0_putPulls_10 : decode cX0_putPulls 10 = .ok (.lconst 0, 1) := by decide +kernel
theorem dX0_putPulls_11 : decode cX0_putPulls 11 = .ok (.lstore 4, 2) := by decide +kernel
theorem dX0_putPulls_13 : decode cX0_putPulls 13 = .ok (.iconst 0, 1) := by decide +kernel
theorem dX0_putPulls_14 : decode cX0_putPulls 14 = .ok (.istore 6, 2) := by decide +kernel
theorem dX0_putPulls_16 : decode cX0_putPulls 16 = .ok (.iload 6, 2) := by decide +kernel
theorem dX0_putPulls_18 : decode cX0_putPulls 18 = .ok (.iconst 3, 1) := by decide +kernel
theorem dX0_putPulls_19 : decode cX0_putPulls 19 = .ok (.if_icmp .ge 34, 3) := by decide +kernel
theorem dX0_putPulls_22 : decode cX0_putPulls 22 = .ok (.lload 4, 2) := by decide +kernel
theorem dX0_putPulls_24 : decode cX0_putPulls 24 = .ok (.aload_n 1, 1) := by decide +kernel
theorem dX0_putPulls_25 : decode cX0_putPulls 25 = .ok (.getfield 59, 3) := by decide +kernel
theorem dX0_putPulls_28 : decode cX0_putPulls 28 = .ok (.iconst 3, 1) := by decide +kernel
theorem dX0_putPulls_29 : decode cX0_putPulls 29 = .ok (.iload_n 3, 1) := by decide +kernel
theorem dX0_putPulls_30 : decode cX0_putPulls 30 = .ok (.imul, 1) := by decide +kernel
theorem dX0_putPulls_31 : decode cX0_putPulls 31 = .ok (.iload 6, 2) := by decide +kernel
theorem dX0_putPulls_33 : decode cX0_putPulls 33 = .ok (.iadd, 1) := by decide +kernel
theorem dX0_putPulls_34 : decode cX0_putPulls 34 = .ok (.iaload, 1) := by decide +kernel
theorem dX0_putPulls_35 : decode cX0_putPulls 35 = .ok (.i2l, 1) := by decide +kernel
theorem dX0_putPulls_36 : decode cX0_putPulls 36 = .ok (.aload_n 0, 1) := by decide +kernel
theorem dX0_putPulls_37 : decode cX0_putPulls 37 = .ok (.getfield 18, 3) := by decide +kernel
theorem dX0_putPulls_40 : decode cX0_putPulls 40 = .ok (.iload 6, 2) := by decide +kernel
theorem dX0_putPulls_42 : decode cX0_putPulls 42 = .ok (.laload, 1) := by decide +kernel
theorem dX0_putPulls_43 : decode cX0_putPulls 43 = .ok (.lmul, 1) := by decide +kernel
theorem dX0_putPulls_44 : decode cX0_putPulls 44 = .ok (.ladd, 1) := by decide +kernel
theorem dX0_putPulls_45 : decode cX0_putPulls 45 = .ok (.lstore 4, 2) := by decide +kernel
theorem dX0_putPulls_47 : decode cX0_putPulls 47 = .ok (.iinc 6 1, 3) := by decide +kernel
theorem dX0_putPulls_50 : decode cX0_putPulls 50 = .ok (.goto (-34), 3) := by decide +kernel
theorem dX0_putPulls_53 : decode cX0_putPulls 53 = .ok (.aload_n 0, 1) := by decide +kernel
theorem dX0_putPulls_54 : decode cX0_putPulls 54 = .ok (.getfield 21, 3) := by decide +kernel
theorem dX0_putPulls_57 : decode cX0_putPulls 57 = .ok (.iload_n 3, 1) := by decide +kernel
theorem dX0_putPulls_58 : decode cX0_putPulls 58 = .ok (.aload_n 2, 1) := by decide +kernel
theorem dX0_putPulls_59 : decode cX0_putPulls 59 = .ok (.getfield 62, 3) := by decide +kernel
theorem dX0_putPulls_62 : decode cX0_putPulls 62 = .ok (.iload_n 3, 1) := by decide +kernel
theorem dX0_putPulls_63 : decode cX0_putPulls 63 = .ok (.iaload, 1) := by decide +kernel
theorem dX0_putPulls_64 : decode cX0_putPulls 64 = .ok (.i2l, 1) := by decide +kernel
theorem dX0_putPulls_65 : decode cX0_putPulls 65 = .ok (.aload_n 0, 1) := by decide +kernel
theorem dX0_putPulls_66 : decode cX0_putPulls 66 = .ok (.getfield 24, 3) := by decide +kernel
theorem dX0_putPulls_69 : decode cX0_putPulls 69 = .ok (.lmul, 1) := by decide +kernel
theorem dX0_putPulls_70 : decode cX0_putPulls 70 = .ok (.aload_n 1, 1) := by decide +kernel
theorem dX0_putPulls_71 : decode cX0_putPulls 71 = .ok (.getfield 65, 3) := by decide +kernel
theorem dX0_putPulls_74 : decode cX0_putPulls 74 = .ok (.iload_n 3, 1) := by decide +kernel
theorem dX0_putPulls_75 : decode cX0_putPulls 75 = .ok (.iaload, 1) := by decide +kernel
theorem dX0_putPulls_76 : decode cX0_putPulls 76 = .ok (.i2l, 1) := by decide +kernel
theorem dX0_putPulls_77 : decode cX0_putPulls 77 = .ok (.lload 4, 2) := by decide +kernel
theorem dX0_putPulls_79 : decode cX0_putPulls 79 = .ok (.lmul, 1) := by decide +kernel
theorem dX0_putPulls_80 : decode cX0_putPulls 80 = .ok (.lsub, 1) := by decide +kernel
theorem dX0_putPulls_81 : decode cX0_putPulls 81 = .ok (.lastore, 1) := by decide +kernel
theorem dX0_putPulls_82 : decode cX0_putPulls 82 = .ok (.iinc 3 1, 3) := by decide +kernel
theorem dX0_putPulls_85 : decode cX0_putPulls 85 = .ok (.goto (-83), 3) := by decide +kernel
theorem dX0_putPulls_88 : decode cX0_putPulls 88 = .ok (.return_, 1) := by decide +kernel
theorem dX0_restOn_0 : decode cX0_restOn 0 = .ok (.aload_n 2, 1) := by decide +kernel
theorem dX0_restOn_1 : decode cX0_restOn 1 = .ok (.getfield 53, 3) := by decide +kernel
theorem dX0_restOn_4 : decode cX0_restOn 4 = .ok (.iload_n 3, 1) := by decide +kernel
theorem dX0_restOn_5 : decode cX0_restOn 5 = .ok (.iaload, 1) := by decide +kernel
theorem dX0_restOn_6 : decode cX0_restOn 6 = .ok (.i2l, 1) := by decide +kernel
theorem dX0_restOn_7 : decode cX0_restOn 7 = .ok (.aload_n 0, 1) := by decide +kernel
theorem dX0_restOn_8 : decode cX0_restOn 8 = .ok (.getfield 24, 3) := by decide +kernel
theorem dX0_restOn_11 : decode cX0_restOn 11 = .ok (.lmul, 1) := by decide +kernel
theorem dX0_restOn_12 : decode cX0_restOn 12 = .ok (.lstore 4, 2) := by decide +kernel
theorem dX0_restOn_14 : decode cX0_restOn 14 = .ok (.iconst 0, 1) := by decide +kernel
theorem dX0_restOn_15 : decode cX0_restOn 15 = .ok (.istore 6, 2) := by decide +kernel
theorem dX0_restOn_17 : decode cX0_restOn 17 = .ok (.iload 6, 2) := by decide +kernel
theorem dX0_restOn_19 : decode cX0_restOn 19 = .ok (.aload_n 1, 1) := by decide +kernel
theorem dX0_restOn_20 : decode cX0_restOn 20 = .ok (.getfield 32, 3) := by decide +kernel
theorem dX0_restOn_23 : decode cX0_restOn 23 = .ok (.if_icmp .ge 46, 3) := by decide +kernel
theorem dX0_restOn_26 : decode cX0_restOn 26 = .ok (.aload_n 2, 1) := by decide +kernel
theorem dX0_restOn_27 : decode cX0_restOn 27 = .ok (.getfield 68, 3) := by decide +kernel
theorem dX0_restOn_30 : decode cX0_restOn 30 = .ok (.iload 6, 2) := by decide +kernel
theorem dX0_restOn_32 : decode cX0_restOn 32 = .ok (.ishr, 1) := by decide +kernel
theorem dX0_restOn_33 : decode cX0_restOn 33 = .ok (.iconst 1, 1) := by decide +kernel
theorem dX0_restOn_34 : decode cX0_restOn 34 = .ok (.iand, 1) := by decide +kernel
theorem dX0_restOn_35 : decode cX0_restOn 35 = .ok (.ifCond .eq 28, 3) := by decide +kernel
theorem dX0_restOn_38 : decode cX0_restOn 38 = .ok (.lload 4, 2) := by decide +kernel
theorem dX0_restOn_40 : decode cX0_restOn 40 = .ok (.aload_n 0, 1) := by decide +kernel
theorem dX0_restOn_41 : decode cX0_restOn 41 = .ok (.getfield 21, 3) := by decide +kernel
theorem dX0_restOn_44 : decode cX0_restOn 44 = .ok (.iload 6, 2) := by decide +kernel
theorem dX0_restOn_46 : decode cX0_restOn 46 = .ok (.laload, 1) := by decide +kernel
theorem dX0_restOn_47 : decode cX0_restOn 47 = .ok (.aload_n 1, 1) := by decide +kernel
theorem dX0_restOn_48 : decode cX0_restOn 48 = .ok (.getfield 59, 3) := by decide +kernel
theorem dX0_restOn_51 : decode cX0_restOn 51 = .ok (.iconst 3, 1) := by decide +kernel
theorem dX0_restOn_52 : decode cX0_restOn 52 = .ok (.iload 6, 2) := by decide +kernel
theorem dX0_restOn_54 : decode cX0_restOn 54 = .ok (.imul, 1) := by decide +kernel
theorem dX0_restOn_55 : decode cX0_restOn 55 = .ok (.iload_n 3, 1) := by decide +kernel
theorem dX0_restOn_56 : decode cX0_restOn 56 = .ok (.iadd, 1) := by decide +kernel
theorem dX0_restOn_57 : decode cX0_restOn 57 = .ok (.iaload, 1) := by decide +kernel
theorem dX0_restOn_58 : decode cX0_restOn 58 = .ok (.i2l, 1) := by decide +kernel
theorem dX0_restOn_59 : decode cX0_restOn 59 = .ok (.lmul, 1) := by decide +kernel
theorem dX0_restOn_60 : decode cX0_restOn 60 = .ok (.ladd, 1) := by decide +kernel
theorem dX0_restOn_61 : decode cX0_restOn 61 = .ok (.lstore 4, 2) := by decide +kernel
theorem dX0_restOn_63 : decode cX0_restOn 63 = .ok (.iinc 6 1, 3) := by decide +kernel
theorem dX0_restOn_66 : decode cX0_restOn 66 = .ok (.goto (-49), 3) := by decide +kernel
theorem dX0_restOn_69 : decode cX0_restOn 69 = .ok (.lload 4, 2) := by decide +kernel
theorem dX0_restOn_71 : decode cX0_restOn 71 = .ok (.lreturn, 1) := by decide +kernel
theorem dX0_mostPulled_0 : decode cX0_mostPulled 0 = .ok (.iconst (-1), 1) := by decide +kernel
theorem dX0_mostPulled_1 : decode cX0_mostPulled 1 = .ok (.istore_n 3, 1) := by decide +kernel
theorem dX0_mostPulled_2 : decode cX0_mostPulled 2 = .ok (.iconst 0, 1) := by decide +kernel
theorem dX0_mostPulled_3 : decode cX0_mostPulled 3 = .ok (.istore 4, 2) := by decide +kernel
theorem dX0_mostPulled_5 : decode cX0_mostPulled 5 = .ok (.iload 4, 2) := by decide +kernel
theorem dX0_mostPulled_7 : decode cX0_mostPulled 7 = .ok (.bipush 8, 2) := by decide +kernel
theorem dX0_mostPulled_9 : decode cX0_mostPulled 9 = .ok (.if_icmp .ge 49, 3) := by decide +kernel
theorem dX0_mostPulled_12 : decode cX0_mostPulled 12 = .ok (.iload_n 1, 1) := by decide +kernel
theorem dX0_mostPulled_13 : decode cX0_mostPulled 13 = .ok (.iload 4, 2) := by decide +kernel
theorem dX0_mostPulled_15 : decode cX0_mostPulled 15 = .ok (.ishr, 1) := by decide +kernel
theorem dX0_mostPulled_16 : decode cX0_mostPulled 16 = .ok (.iconst 1, 1) := by decide +kernel
theorem dX0_mostPulled_17 : decode cX0_mostPulled 17 = .ok (.iand, 1) := by decide +kernel
theorem dX0_mostPulled_18 : decode cX0_mostPulled 18 = .ok (.ifCond .eq 34, 3) := by decide +kernel
theorem dX0_mostPulled_21 : decode cX0_mostPulled 21 = .ok (.iload_n 3, 1) := by decide +kernel
theorem dX0_mostPulled_22 : decode cX0_mostPulled 22 = .ok (.iconst (-1), 1) := by decide +kernel
theorem dX0_mostPulled_23 : decode cX0_mostPulled 23 = .ok (.if_icmp .eq 26, 3) := by decide +kernel
theorem dX0_mostPulled_26 : decode cX0_mostPulled 26 = .ok (.iload_n 2, 1) := by decide +kernel
theorem dX0_mostPulled_27 : decode cX0_mostPulled 27 = .ok (.i2l, 1) := by decide +kernel
theorem dX0_mostPulled_28 : decode cX0_mostPulled 28 = .ok (.aload_n 0, 1) := by decide +kernel
theorem dX0_mostPulled_29 : decode cX0_mostPulled 29 = .ok (.getfield 21, 3) := by decide +kernel
theorem dX0_mostPulled_32 : decode cX0_mostPulled 32 = .ok (.iload 4, 2) := by decide +kernel
theorem dX0_mostPulled_34 : decode cX0_mostPulled 34 = .ok (.laload, 1) := by decide +kernel
theorem dX0_mostPulled_35 : decode cX0_mostPulled 35 = .ok (.lmul, 1) := by decide +kernel
theorem dX0_mostPulled_36 : decode cX0_mostPulled 36 = .ok (.iload_n 2, 1) := by decide +kernel
theorem dX0_mostPulled_37 : decode cX0_mostPulled 37 = .ok (.i2l, 1) := by decide +kernel
theorem dX0_mostPulled_38 : decode cX0_mostPulled 38 = .ok (.aload_n 0, 1) := by decide +kernel
theorem dX0_mostPulled_39 : decode cX0_mostPulled 39 = .ok (.getfield 21, 3) := by decide +kernel
theorem dX0_mostPulled_42 : decode cX0_mostPulled 42 = .ok (.iload_n 3, 1) := by decide +kernel
theorem dX0_mostPulled_43 : decode cX0_mostPulled 43 = .ok (.laload, 1) := by decide +kernel
theorem dX0_mostPulled_44 : decode cX0_mostPulled 44 = .ok (.lmul, 1) := by decide +kernel
theorem dX0_mostPulled_45 : decode cX0_mostPulled 45 = .ok (.lcmp, 1) := by decide +kernel
theorem dX0_mostPulled_46 : decode cX0_mostPulled 46 = .ok (.ifCond .le 6, 3) := by decide +kernel
theorem dX0_mostPulled_49 : decode cX0_mostPulled 49 = .ok (.iload 4, 2) := by decide +kernel
theorem dX0_mostPulled_51 : decode cX0_mostPulled 51 = .ok (.istore_n 3, 1) := by decide +kernel
theorem dX0_mostPulled_52 : decode cX0_mostPulled 52 = .ok (.iinc 4 1, 3) := by decide +kernel
theorem dX0_mostPulled_55 : decode cX0_mostPulled 55 = .ok (.goto (-50), 3) := by decide +kernel
theorem dX0_mostPulled_58 : decode cX0_mostPulled 58 = .ok (.iload_n 3, 1) := by decide +kernel
theorem dX0_mostPulled_59 : decode cX0_mostPulled 59 = .ok (.ireturn, 1) := by decide +kernel
theorem dX0_mostLoaded_0 : decode cX0_mostLoaded 0 = .ok (.iconst (-1), 1) := by decide +kernel
theorem dX0_mostLoaded_1 : decode cX0_mostLoaded 1 = .ok (.istore 4, 2) := by decide +kernel
theorem dX0_mostLoaded_3 : decode cX0_mostLoaded 3 = .ok (.iconst 0, 1) := by decide +kernel
theorem dX0_mostLoaded_4 : decode cX0_mostLoaded 4 = .ok (.istore 5, 2) := by decide +kernel
theorem dX0_mostLoaded_6 : decode cX0_mostLoaded 6 = .ok (.iload 5, 2) := by decide +kernel
theorem dX0_mostLoaded_8 : decode cX0_mostLoaded 8 = .ok (.bipush 8, 2) := by decide +kernel
theorem dX0_mostLoaded_10 : decode cX0_mostLoaded 10 = .ok (.if_icmp .ge 70, 3) := by decide +kernel
theorem dX0_mostLoaded_13 : decode cX0_mostLoaded 13 = .ok (.iload_n 2, 1) := by decide +kernel
theorem dX0_mostLoaded_14 : decode cX0_mostLoaded 14 = .ok (.iload 5, 2) := by decide +kernel
theorem dX0_mostLoaded_16 : decode cX0_mostLoaded 16 = .ok (.ishr, 1) := by decide +kernel
theorem dX0_mostLoaded_17 : decode cX0_mostLoaded 17 = .ok (.iconst 1, 1) := by decide +kernel
theorem dX0_mostLoaded_18 : decode cX0_mostLoaded 18 = .ok (.iand, 1) := by decide +kernel
theorem dX0_mostLoaded_19 : decode cX0_mostLoaded 19 = .ok (.ifCond .eq 55, 3) := by decide +kernel
theorem dX0_mostLoaded_22 : decode cX0_mostLoaded 22 = .ok (.iload 4, 2) := by decide +kernel
theorem dX0_mostLoaded_24 : decode cX0_mostLoaded 24 = .ok (.iconst (-1), 1) := by decide +kernel
theorem dX0_mostLoaded_25 : decode cX0_mostLoaded 25 = .ok (.if_icmp .eq 45, 3) := by decide +kernel
theorem dX0_mostLoaded_28 : decode cX0_mostLoaded 28 = .ok (.iload_n 3, 1) := by decide +kernel
theorem dX0_mostLoaded_29 : decode cX0_mostLoaded 29 = .ok (.i2l, 1) := by decide +kernel
theorem dX0_mostLoaded_30 : decode cX0_mostLoaded 30 = .ok (.aload_n 0, 1) := by decide +kernel
theorem dX0_mostLoaded_31 : decode cX0_mostLoaded 31 = .ok (.getfield 21, 3) := by decide +kernel
theorem dX0_mostLoaded_34 : decode cX0_mostLoaded 34 = .ok (.iload 5, 2) := by decide +kernel
theorem dX0_mostLoaded_36 : decode cX0_mostLoaded 36 = .ok (.laload, 1) := by decide +kernel
theorem dX0_mostLoaded_37 : decode cX0_mostLoaded 37 = .ok (.lmul, 1) := by decide +kernel
theorem dX0_mostLoaded_38 : decode cX0_mostLoaded 38 = .ok (.aload_n 1, 1) := by decide +kernel
theorem dX0_mostLoaded_39 : decode cX0_mostLoaded 39 = .ok (.getfield 71, 3) := by decide +kernel
theorem dX0_mostLoaded_42 : decode cX0_mostLoaded 42 = .ok (.iload 4, 2) := by decide +kernel
theorem dX0_mostLoaded_44 : decode cX0_mostLoaded 44 = .ok (.iaload, 1) := by decide +kernel
theorem dX0_mostLoaded_45 : decode cX0_mostLoaded 45 = .ok (.i2l, 1) := by decide +kernel
theorem dX0_mostLoaded_46 : decode cX0_mostLoaded 46 = .ok (.lmul, 1) := by decide +kernel
theorem dX0_mostLoaded_47 : decode cX0_mostLoaded 47 = .ok (.iload_n 3, 1) := by decide +kernel
theorem dX0_mostLoaded_48 : decode cX0_mostLoaded 48 = .ok (.i2l, 1) := by decide +kernel
theorem dX0_mostLoaded_49 : decode cX0_mostLoaded 49 = .ok (.aload_n 0, 1) := by decide +kernel
theorem dX0_mostLoaded_50 : decode cX0_mostLoaded 50 = .ok (.getfield 21, 3) := by decide +kernel
theorem dX0_mostLoaded_53 : decode cX0_mostLoaded 53 = .ok (.iload 4, 2) := by decide +kernel
theorem dX0_mostLoaded_55 : decode cX0_mostLoaded 55 = .ok (.laload, 1) := by decide +kernel
theorem dX0_mostLoaded_56 : decode cX0_mostLoaded 56 = .ok (.lmul, 1) := by decide +kernel
theorem dX0_mostLoaded_57 : decode cX0_mostLoaded 57 = .ok (.aload_n 1, 1) := by decide +kernel
theorem dX0_mostLoaded_58 : decode cX0_mostLoaded 58 = .ok (.getfield 71, 3) := by decide +kernel
theorem dX0_mostLoaded_61 : decode cX0_mostLoaded 61 = .ok (.iload 5, 2) := by decide +kernel
theorem dX0_mostLoaded_63 : decode cX0_mostLoaded 63 = .ok (.iaload, 1) := by decide +kernel
theorem dX0_mostLoaded_64 : decode cX0_mostLoaded 64 = .ok (.i2l, 1) := by decide +kernel
theorem dX0_mostLoaded_65 : decode cX0_mostLoaded 65 = .ok (.lmul, 1) := by decide +kernel
theorem dX0_mostLoaded_66 : decode cX0_mostLoaded 66 = .ok (.lcmp, 1) := by decide +kernel
theorem dX0_mostLoaded_67 : decode cX0_mostLoaded 67 = .ok (.ifCond .le 7, 3) := by decide +kernel
theorem dX0_mostLoaded_70 : decode cX0_mostLoaded 70 = .ok (.iload 5, 2) := by decide +kernel
theorem dX0_mostLoaded_72 : decode cX0_mostLoaded 72 = .ok (.istore 4, 2) := by decide +kernel
theorem dX0_mostLoaded_74 : decode cX0_mostLoaded 74 = .ok (.iinc 5 1, 3) := by decide +kernel
theorem dX0_mostLoaded_77 : decode cX0_mostLoaded 77 = .ok (.goto (-71), 3) := by decide +kernel
theorem dX0_mostLoaded_80 : decode cX0_mostLoaded 80 = .ok (.iload 4, 2) := by decide +kernel
theorem dX0_mostLoaded_82 : decode cX0_mostLoaded 82 = .ok (.ireturn, 1) := by decide +kernel
theorem dX1_init_0 : decode cX1_init 0 = .ok (.aload_n 0, 1) := by decide +kernel
theorem dX1_init_1 : decode cX1_init 1 = .ok (.invokespecial 3, 3) := by decide +kernel
theorem dX1_init_4 : decode cX1_init 4 = .ok (.aload_n 0, 1) := by decide +kernel
theorem dX1_init_5 : decode cX1_init 5 = .ok (.new 9, 3) := by decide +kernel
theorem dX1_init_8 : decode cX1_init 8 = .ok (.dup, 1) := by decide +kernel
theorem dX1_init_9 : decode cX1_init 9 = .ok (.invokespecial 11, 3) := by decide +kernel
theorem dX1_init_12 : decode cX1_init 12 = .ok (.putfield 12, 3) := by decide +kernel
theorem dX1_init_15 : decode cX1_init 15 = .ok (.aload_n 0, 1) := by decide +kernel
theorem dX1_init_16 : decode cX1_init 16 = .ok (.bipush 8, 2) := by decide +kernel
theorem dX1_init_18 : decode cX1_init 18 = .ok (.newarray .int, 2) := by decide +kernel
theorem dX1_init_20 : decode cX1_init 20 = .ok (.putfield 18, 3) := by decide +kernel
theorem dX1_init_23 : decode cX1_init 23 = .ok (.aload_n 0, 1) := by decide +kernel
theorem dX1_init_24 : decode cX1_init 24 = .ok (.iconst 4, 1) := by decide +kernel
theorem dX1_init_25 : decode cX1_init 25 = .ok (.newarray .long, 2) := by decide +kernel
theorem dX1_init_27 : decode cX1_init 27 = .ok (.putfield 22, 3) := by decide +kernel
theorem dX1_init_30 : decode cX1_init 30 = .ok (.aload_n 0, 1) := by decide +kernel
theorem dX1_init_31 : decode cX1_init 31 = .ok (.iconst 0, 1) := by decide +kernel
theorem dX1_init_32 : decode cX1_init 32 = .ok (.putfield 26, 3) := by decide +kernel
theorem dX1_init_35 : decode cX1_init 35 = .ok (.aload_n 0, 1) := by decide +kernel
theorem dX1_init_36 : decode cX1_init 36 = .ok (.iconst 0, 1) := by decide +kernel
theorem dX1_init_37 : decode cX1_init 37 = .ok (.putfield 30, 3) := by decide +kernel
theorem dX1_init_40 : decode cX1_init 40 = .ok (.aload_n 0, 1) := by decide +kernel
theorem dX1_init_41 : decode cX1_init 41 = .ok (.iconst (-1), 1) := by decide +kernel
theorem dX1_init_42 : decode cX1_init 42 = .ok (.putfield 33, 3) := by decide +kernel
theorem dX1_init_45 : decode cX1_init 45 = .ok (.return_, 1) := by decide +kernel
theorem dX1_isGustWithin_0 : decode cX1_isGustWithin 0 = .ok (.iload_n 0, 1) := by decide +kernel
theorem dX1_isGustWithin_1 : decode cX1_isGustWithin 1 = .ok (.getstatic 36, 3) := by decide +kernel
theorem dX1_isGustWithin_4 : decode cX1_isGustWithin 4 = .ok (.iconst 0, 1) := by decide +kernel
theorem dX1_isGustWithin_5 : decode cX1_isGustWithin 5 = .ok (.iaload, 1) := by decide +kernel
theorem dX1_isGustWithin_6 : decode cX1_isGustWithin 6 = .ok (.ineg, 1) := by decide +kernel
theorem dX1_isGustWithin_7 : decode cX1_isGustWithin 7 = .ok (.getstatic 36, 3) := by decide +kernel
theorem dX1_isGustWithin_10 : decode cX1_isGustWithin 10 = .ok (.iconst 0, 1) := by decide +kernel
theorem dX1_isGustWithin_11 : decode cX1_isGustWithin 11 = .ok (.iaload, 1) := by decide +kernel
theorem dX1_isGustWithin_12 : decode cX1_isGustWithin 12 = .ok (.invokestatic 39, 3) := by decide +kernel
theorem dX1_isGustWithin_15 : decode cX1_isGustWithin 15 = .ok (.ifCond .eq 43, 3) := by decide +kernel
theorem dX1_isGustWithin_18 : decode cX1_isGustWithin 18 = .ok (.iload_n 1, 1) := by decide +kernel
theorem dX1_isGustWithin_19 : decode cX1_isGustWithin 19 = .ok (.getstatic 36, 3) := by decide +kernel
theorem dX1_isGustWithin_22 : decode cX1_isGustWithin 22 = .ok (.iconst 1, 1) := by decide +kernel
theorem dX1_isGustWithin_23 : decode cX1_isGustWithin 23 = .ok (.iaload, 1) := by decide +kernel
theorem dX1_isGustWithin_24 : decode cX1_isGustWithin 24 = .ok (.ineg, 1) := by decide +kernel
theorem dX1_isGustWithin_25 : decode cX1_isGustWithin 25 = .ok (.getstatic 36, 3) := by decide +kernel
theorem dX1_isGustWithin_28 : decode cX1_isGustWithin 28 = .ok (.iconst 1, 1) := by decide +kernel
theorem dX1_isGustWithin_29 : decode cX1_isGustWithin 29 = .ok (.iaload, 1) := by decide +kernel
theorem dX1_isGustWithin_30 : decode cX1_isGustWithin 30 = .ok (.invokestatic 39, 3) := by decide +kernel
theorem dX1_isGustWithin_33 : decode cX1_isGustWithin 33 = .ok (.ifCond .eq 25, 3) := by decide +kernel
theorem dX1_isGustWithin_36 : decode cX1_isGustWithin 36 = .ok (.iload_n 2, 1) := by decide +kernel
theorem dX1_isGustWithin_37 : decode cX1_isGustWithin 37 = .ok (.getstatic 36, 3) := by decide +kernel
theorem dX1_isGustWithin_40 : decode cX1_isGustWithin 40 = .ok (.iconst 2, 1) := by decide +kernel
theorem dX1_isGustWithin_41 : decode cX1_isGustWithin 41 = .ok (.iaload, 1) := by decide +kernel
theorem dX1_isGustWithin_42 : decode cX1_isGustWithin 42 = .ok (.ineg, 1) := by decide +kernel
theorem dX1_isGustWithin_43 : decode cX1_isGustWithin 43 = .ok (.getstatic 36, 3) := by decide +kernel
theorem dX1_isGustWithin_46 : decode cX1_isGustWithin 46 = .ok (.iconst 2, 1) := by decide +kernel
theorem dX1_isGustWithin_47 : decode cX1_isGustWithin 47 = .ok (.iaload, 1) := by decide +kernel
theorem dX1_isGustWithin_48 : decode cX1_isGustWithin 48 = .ok (.invokestatic 39, 3) := by decide +kernel
theorem dX1_isGustWithin_51 : decode cX1_isGustWithin 51 = .ok (.ifCond .eq 7, 3) := by decide +kernel
theorem dX1_isGustWithin_54 : decode cX1_isGustWithin 54 = .ok (.iconst 1, 1) := by decide +kernel
theorem dX1_isGustWithin_55 : decode cX1_isGustWithin 55 = .ok (.goto 4, 3) := by decide +kernel
theorem dX1_isGustWithin_58 : decode cX1_isGustWithin 58 = .ok (.iconst 0, 1) := by decide +kernel
theorem dX1_isGustWithin_59 : decode cX1_isGustWithin 59 = .ok (.ireturn, 1) := by decide +kernel
theorem dX1_firstBroken_0 : decode cX1_firstBroken 0 = .ok (.aload_n 0, 1) := by decide +kernel
theorem dX1_firstBroken_1 : decode cX1_firstBroken 1 = .ok (.getfield 33, 3) := by decide +kernel
theorem dX1_firstBroken_4 : decode cX1_firstBroken 4 = .ok (.iconst (-1), 1) := by decide +kernel
theorem dX1_firstBroken_5 : decode cX1_firstBroken 5 = .ok (.if_icmp .ne 19, 3) := by decide +kernel
theorem dX1_firstBroken_8 : decode cX1_firstBroken 8 = .ok (.aload_n 0, 1) := by decide +kernel
theorem dX1_firstBroken_9 : decode cX1_firstBroken 9 = .ok (.getfield 30, 3) := by decide +kernel
theorem dX1_firstBroken_12 : decode cX1_firstBroken 12 = .ok (.ifCond .le 12, 3) := by decide +kernel
theorem dX1_firstBroken_15 : decode cX1_firstBroken 15 = .ok (.aload_n 0, 1) := by decide +kernel
theorem dX1_firstBroken_16 : decode cX1_firstBroken 16 = .ok (.getfield 18, 3) := by decide +kernel
theorem dX1_firstBroken_19 : decode cX1_firstBroken 19 = .ok (.iconst 0, 1) := by decide +kernel
theorem dX1_firstBroken_20 : decode cX1_firstBroken 20 = .ok (.iaload, 1) := by decide +kernel
theorem dX1_firstBroken_21 : decode cX1_firstBroken 21 = .ok (.goto 4, 3) := by decide +kernel
theorem dX1_firstBroken_24 : decode cX1_firstBroken 24 = .ok (.iconst (-1), 1) := by decide +kernel
theorem dX1_firstBroken_25 : decode cX1_firstBroken 25 = .ok (.ireturn, 1) := by decide +kernel
theorem dX1_attempt_0 : decode cX1_attempt 0 = .ok (.aload_n 0, 1) := by decide +kernel
theorem dX1_attempt_1 : decode cX1_attempt 1 = .ok (.iconst 0, 1) := by decide +kernel
theorem dX1_attempt_2 : decode cX1_attempt 2 = .ok (.putfield 26, 3) := by decide +kernel
theorem dX1_attempt_5 : decode cX1_attempt 5 = .ok (.aload_n 0, 1) := by decide +kernel
theorem dX1_attempt_6 : decode cX1_attempt 6 = .ok (.iconst 0, 1) := by decide +kernel
theorem dX1_attempt_7 : decode cX1_attempt 7 = .ok (.putfield 30, 3) := by decide +kernel
theorem dX1_attempt_10 : decode cX1_attempt 10 = .ok (.iload_n 3, 1) := by decide +kernel
theorem dX1_attempt_11 : decode cX1_attempt 11 = .ok (.ifCond .ne 21, 3) := by decide +kernel
theorem dX1_attempt_14 : decode cX1_attempt 14 = .ok (.aload_n 0, 1) := by decide +kernel
theorem dX1_attempt_15 : decode cX1_attempt 15 = .ok (.aload_n 1, 1) := by decide +kernel
theorem dX1_attempt_16 : decode cX1_attempt 16 = .ok (.aload_n 2, 1) := by decide +kernel
theorem dX1_attempt_17 : decode cX1_attempt 17 = .ok (.iload 4, 2) := by decide +kernel
theorem dX1_attempt_19 : decode cX1_attempt 19 = .ok (.iload 5, 2) := by decide +kernel
theorem dX1_attempt_21 : decode cX1_attempt 21 = .ok (.iload 6, 2) := by decide +kernel
theorem dX1_attempt_23 : decode cX1_attempt 23 = .ok (.invokestatic 43, 3) := by decide +kernel
theorem dX1_attempt_26 : decode cX1_attempt 26 = .ok (.putfield 33, 3) := by decide +kernel
theorem dX1_attempt_29 : decode cX1_attempt 29 = .ok (.goto 71, 3) := by decide +kernel
theorem dX1_attempt_32 : decode cX1_attempt 32 = .ok (.iload 4, 2) := by decide +kernel
theorem dX1_attempt_34 : decode cX1_attempt 34 = .ok (.ifCond .lt 12, 3) := by decide +kernel
theorem dX1_attempt_37 : decode cX1_attempt 37 = .ok (.iload 4, 2) := by decide +kernel
theorem dX1_attempt_39 : decode cX1_attempt 39 = .ok (.aload_n 1, 1) := by decide +kernel
theorem dX1_attempt_40 : decode cX1_attempt 40 = .ok (.getfield 47, 3) := by decide +kernel
theorem dX1_attempt_43 : decode cX1_attempt 43 = .ok (.if_icmp .lt 11, 3) := by decide +kernel
theorem dX1_attempt_46 : decode cX1_attempt 46 = .ok (.aload_n 0, 1) := by decide +kernel
theorem dX1_attempt_47 : decode cX1_attempt 47 = .ok (.iconst 0, 1) := by decide +kernel
theorem dX1_attempt_48 : decode cX1_attempt 48 = .ok (.putfield 33, 3) := by decide +kernel
theorem dX1_attempt_51 : decode cX1_attempt 51 = .ok (.goto 49, 3) := by decide +kernel
theorem dX1_attempt_54 : decode cX1_attempt 54 = .ok (.iload_n 3, 1) := by decide +kernel
theorem dX1_attempt_55 : decode cX1_attempt 55 = .ok (.iconst 1, 1) := by decide +kernel
theorem dX1_attempt_56 : decode cX1_attempt 56 = .ok (.if_icmp .ne 19, 3) := by decide +kernel
theorem dX1_attempt_59 : decode cX1_attempt 59 = .ok (.aload_n 0, 1) := by decide +kernel
theorem dX1_attempt_60 : decode cX1_attempt 60 = .ok (.aload_n 1, 1) := by decide +kernel
theorem dX1_attempt_61 : decode cX1_attempt 61 = .ok (.aload_n 2, 1) := by decide +kernel
theorem dX1_attempt_62 : decode cX1_attempt 62 = .ok (.iload 4, 2) := by decide +kernel
theorem dX1_attempt_64 : decode cX1_attempt 64 = .ok (.iload 5, 2) := by decide +kernel
theorem dX1_attempt_66 : decode cX1_attempt 66 = .ok (.invokestatic 52, 3) := by decide +kernel
theorem dX1_attempt_69 : decode cX1_attempt 69 = .ok (.putfield 33, 3) := by decide +kernel
theorem dX1_attempt_72 : decode cX1_attempt 72 = .ok (.goto 28, 3) := by decide +kernel
theorem dX1_attempt_75 : decode cX1_attempt 75 = .ok (.aload_n 0, 1) := by decide +kernel
theorem dX1_attempt_76 : decode cX1_attempt 76 = .ok (.iload_n 3, 1) := by decide +kernel
theorem dX1_attempt_77 : decode cX1_attempt 77 = .ok (.iconst 2, 1) := by decide +kernel
theorem dX1_attempt_78 : decode cX1_attempt 78 = .ok (.if_icmp .ne 12, 3) := by decide +kernel
theorem dX1_attempt_81 : decode cX1_attempt 81 = .ok (.aload_n 2, 1) := by decide +kernel
theorem dX1_attempt_82 : decode cX1_attempt 82 = .ok (.iload 4, 2) := by decide +kernel
theorem dX1_attempt_84 : decode cX1_attempt 84 = .ok (.invokestatic 56, 3) := by decide +kernel
theorem dX1_attempt_87 : decode cX1_attempt 87 = .ok (.goto 10, 3) := by decide +kernel
theorem dX1_attempt_90 : decode cX1_attempt 90 = .ok (.aload_n 1, 1) := by decide +kernel
theorem dX1_attempt_91 : decode cX1_attempt 91 = .ok (.aload_n 2, 1) := by decide +kernel
theorem dX1_attempt_92 : decode cX1_attempt 92 = .ok (.iload 4, 2) := by decide +kernel
theorem dX1_attempt_94 : decode cX1_attempt 94 = .ok (.invokestatic 60, 3) := by decide +kernel
theorem dX1_attempt_97 : decode cX1_attempt 97 = .ok (.putfield 33, 3) := by decide +kernel
theorem dX1_attempt_100 : decode cX1_attempt 100 = .ok (.aload_n 0, 1) := by decide +kernel
theorem dX1_attempt_101 : decode cX1_attempt 101 = .ok (.getfield 33, 3) := by decide +kernel
theorem dX1_attempt_104 : decode cX1_attempt 104 = .ok (.iconst (-1), 1) := by decide +kernel
theorem dX1_attempt_105 : decode cX1_attempt 105 = .ok (.if_icmp .ne 13, 3) := by decide +kernel
theorem dX1_attempt_108 : decode cX1_attempt 108 = .ok (.aload_n 0, 1) := by decide +kernel
theorem dX1_attempt_109 : decode cX1_attempt 109 = .ok (.aload_n 0, 1) := by decide +kernel
theorem dX1_attempt_110 : decode cX1_attempt 110 = .ok (.aload_n 1, 1) := by decide +kernel
theorem dX1_attempt_111 : decode cX1_attempt 111 = .ok (.aload_n 2, 1) := by decide +kernel
theorem dX1_attempt_112 : decode cX1_attempt 112 = .ok (.invokevirtual 64, 3) := by decide +kernel
theorem dX1_attempt_115 : decode cX1_attempt 115 = .ok (.putfield 33, 3) := by decide +kernel
theorem dX1_attempt_118 : decode cX1_attempt 118 = .ok (.aload_n 0, 1) := by decide +kernel
theorem dX1_attempt_119 : decode cX1_attempt 119 = .ok (.getfield 33, 3) := by decide +kernel
theorem dX1_attempt_122 : decode cX1_attempt 122 = .ok (.ireturn, 1) := by decide +kernel
theorem dX1_blow_0 : decode cX1_blow 0 = .ok (.aload_n 0, 1) := by decide +kernel
theorem dX1_blow_1 : decode cX1_blow 1 = .ok (.getfield 47, 3) := by decide +kernel
theorem dX1_blow_4 : decode cX1_blow 4 = .ok (.ifCond .ne 5, 3) := by decide +kernel
theorem dX1_blow_7 : decode cX1_blow 7 = .ok (.iconst 0, 1) := by decide +kernel
theorem dX1_blow_8 : decode cX1_blow 8 = .ok (.ireturn, 1) := by decide +kernel
theorem dX1_blow_9 : decode cX1_blow 9 = .ok (.iload_n 2, 1) := by decide +kernel
theorem dX1_blow_10 : decode cX1_blow 10 = .ok (.iload_n 3, 1) := by decide +kernel
theorem dX1_blow_11 : decode cX1_blow 11 = .ok (.iload 4, 2) := by decide +kernel
theorem dX1_blow_13 : decode cX1_blow 13 = .ok (.invokestatic 68, 3) := by decide +kernel
theorem dX1_blow_16 : decode cX1_blow 16 = .ok (.ifCond .ne 5, 3) := by decide +kernel
theorem dX1_blow_19 : decode cX1_blow 19 = .ok (.iconst 1, 1) := by decide +kernel
theorem dX1_blow_20 : decode cX1_blow 20 = .ok (.ireturn, 1) := by decide +kernel
theorem dX1_blow_21 : decode cX1_blow 21 = .ok (.aload_n 1, 1) := by decide +kernel
theorem dX1_blow_22 : decode cX1_blow 22 = .ok (.getfield 71, 3) := by decide +kernel
theorem dX1_blow_25 : decode cX1_blow 25 = .ok (.iconst 0, 1) := by decide +kernel
theorem dX1_blow_26 : decode cX1_blow 26 = .ok (.dup2, 1) := by decide +kernel
theorem dX1_blow_27 : decode cX1_blow 27 = .ok (.iaload, 1) := by decide +kernel
theorem dX1_blow_28 : decode cX1_blow 28 = .ok (.iload_n 2, 1) := by decide +kernel
theorem dX1_blow_29 : decode cX1_blow 29 = .ok (.iadd, 1) := by decide +kernel
theorem dX1_blow_30 : decode cX1_blow 30 = .ok (.iastore, 1) := by decide +kernel
theorem dX1_blow_31 : decode cX1_blow 31 = .ok (.aload_n 1, 1) := by decide +kernel
theorem dX1_blow_32 : decode cX1_blow 32 = .ok (.getfield 71, 3) := by decide +kernel
theorem dX1_blow_35 : decode cX1_blow 35 = .ok (.iconst 1, 1) := by decide +kernel
theorem dX1_blow_36 : decode cX1_blow 36 = .ok (.dup2, 1) := by decide +kernel
theorem dX1_blow_37 : decode cX1_blow 37 = .ok (.iaload, 1) := by decide +kernel
theorem dX1_blow_38 : decode cX1_blow 38 = .ok (.iload_n 3, 1) := by decide +kernel
theorem dX1_blow_39 : decode cX1_blow 39 = .ok (.iadd, 1) := by decide +kernel
theorem dX1_blow_40 : decode cX1_blow 40 = .ok (.iastore, 1) := by decide +kernel
theorem dX1_blow_41 : decode cX1_blow 41 = .ok (.aload_n 1, 1) := by decide +kernel
theorem dX1_blow_42 : decode cX1_blow 42 = .ok (.getfield 71, 3) := by decide +kernel
theorem dX1_blow_45 : decode cX1_blow 45 = .ok (.iconst 2, 1) := by decide +kernel
theorem dX1_blow_46 : decode cX1_blow 46 = .ok (.dup2, 1) := by decide +kernel
theorem dX1_blow_47 : decode cX1_blow 47 = .ok (.iaload, 1) := by decide +kernel
theorem dX1_blow_48 : decode cX1_blow 48 = .ok (.iload 4, 2) := by decide +kernel
theorem dX1_blow_50 : decode cX1_blow 50 = .ok (.iadd, 1) := by decide +kernel
theorem dX1_blow_51 : decode cX1_blow 51 = .ok (.iastore, 1) := by decide +kernel
theorem dX1_blow_52 : decode cX1_blow 52 = .ok (.iconst 0, 1) := by decide +kernel
theorem dX1_blow_53 : decode cX1_blow 53 = .ok (.istore 5, 2) := by decide +kernel
theorem dX1_blow_55 : decode cX1_blow 55 = .ok (.iload 5, 2) := by decide +kernel
theorem dX1_blow_57 : decode cX1_blow 57 = .ok (.iconst 3, 1) := by decide +kernel
theorem dX1_blow_58 : decode cX1_blow 58 = .ok (.if_icmp .ge 37, 3) := by decide +kernel
theorem dX1_blow_61 : decode cX1_blow 61 = .ok (.aload_n 1, 1) := by decide +kernel
theorem dX1_blow_62 : decode cX1_blow 62 = .ok (.getfield 71, 3) := by decide +kernel
theorem dX1_blow_65 : decode cX1_blow 65 = .ok (.iload 5, 2) := by decide +kernel
theorem dX1_blow_67 : decode cX1_blow 67 = .ok (.iaload, 1) := by decide +kernel
theorem dX1_blow_68 : decode cX1_blow 68 = .ok (.getstatic 76, 3) := by decide +kernel
theorem dX1_blow_71 : decode cX1_blow 71 = .ok (.iload 5, 2) := by decide +kernel
theorem dX1_blow_73 : decode cX1_blow 73 = .ok (.iaload, 1) := by decide +kernel
theorem dX1_blow_74 : decode cX1_blow 74 = .ok (.ineg, 1) := by decide +kernel
theorem dX1_blow_75 : decode cX1_blow 75 = .ok (.getstatic 76, 3) := by decide +kernel
theorem dX1_blow_78 : decode cX1_blow 78 = .ok (.iload 5, 2) := by decide +kernel
theorem dX1_blow_80 : decode cX1_blow 80 = .ok (.iaload, 1) := by decide +kernel
theorem dX1_blow_81 : decode cX1_blow 81 = .ok (.invokestatic 39, 3) := by decide +kernel
theorem dX1_blow_84 : decode cX1_blow 84 = .ok (.ifCond .ne 5, 3) := by decide +kernel
theorem dX1_blow_87 : decode cX1_blow 87 = .ok (.iconst 1, 1) := by decide +kernel
theorem dX1_blow_88 : decode cX1_blow 88 = .ok (.ireturn, 1) := by decide +kernel
theorem dX1_blow_89 : decode cX1_blow 89 = .ok (.iinc 5 1, 3) := by decide +kernel
theorem dX1_blow_92 : decode cX1_blow 92 = .ok (.goto (-37), 3) := by decide +kernel
theorem dX1_blow_95 : decode cX1_blow 95 = .ok (.iload_n 2, 1) := by decide +kernel
theorem dX1_blow_96 : decode cX1_blow 96 = .ok (.ifCond .ne 16, 3) := by decide +kernel
theorem dX1_blow_99 : decode cX1_blow 99 = .ok (.iload_n 3, 1) := by decide +kernel
theorem dX1_blow_100 : decode cX1_blow 100 = .ok (.ifCond .ne 12, 3) := by decide +kernel
theorem dX1_blow_103 : decode cX1_blow 103 = .ok (.iload 4, 2) := by decide +kernel
theorem dX1_blow_105 : decode cX1_blow 105 = .ok (.ifCond .ne 7, 3) := by decide +kernel
theorem dX1_blow_108 : decode cX1_blow 108 = .ok (.iconst 2, 1) := by decide +kernel
theorem dX1_blow_109 : decode cX1_blow 109 = .ok (.goto 4, 3) := by decide +kernel
theorem dX1_blow_112 : decode cX1_blow 112 = .ok (.iconst (-1), 1) := by decide +kernel
theorem dX1_blow_113 : decode cX1_blow 113 = .ok (.ireturn, 1) := by decide +kernel
theorem dX1_turn_0 : decode cX1_turn 0 = .ok (.iload_n 3, 1) := by decide +kernel
theorem dX1_turn_1 : decode cX1_turn 1 = .ok (.bipush (-9), 2) := by decide +kernel
theorem dX1_turn_3 : decode cX1_turn 3 = .ok (.bipush 9, 2) := by decide +kernel
theorem dX1_turn_5 : decode cX1_turn 5 = .ok (.invokestatic 39, 3) := by decide +kernel
theorem dX1_turn_8 : decode cX1_turn 8 = .ok (.ifCond .ne 5, 3) := by decide +kernel
theorem dX1_turn_11 : decode cX1_turn 11 = .ok (.iconst 1, 1) := by decide +kernel
theorem dX1_turn_12 : decode cX1_turn 12 = .ok (.ireturn, 1) := by decide +kernel
theorem dX1_turn_13 : decode cX1_turn 13 = .ok (.aload_n 1, 1) := by decide +kernel
theorem dX1_turn_14 : decode cX1_turn 14 = .ok (.getfield 79, 3) := by decide +kernel
theorem dX1_turn_17 : decode cX1_turn 17 = .ok (.iload_n 2, 1) := by decide +kernel
theorem dX1_turn_18 : decode cX1_turn 18 = .ok (.dup2, 1) := by decide +kernel
theorem dX1_turn_19 : decode cX1_turn 19 = .ok (.iaload, 1) := by decide +kernel
theorem dX1_turn_20 : decode cX1_turn 20 = .ok (.iload_n 3, 1) := by decide +kernel
theorem dX1_turn_21 : decode cX1_turn 21 = .ok (.aload_n 0, 1) := by decide +kernel
theorem dX1_turn_22 : decode cX1_turn 22 = .ok (.getfield 82, 3) := by decide +kernel
theorem dX1_turn_25 : decode cX1_turn 25 = .ok (.iload_n 2, 1) := by decide +kernel
theorem dX1_turn_26 : decode cX1_turn 26 = .ok (.iaload, 1) := by decide +kernel
theorem dX1_turn_27 : decode cX1_turn 27 = .ok (.imul, 1) := by decide +kernel
theorem dX1_turn_28 : decode cX1_turn 28 = .ok (.iadd, 1) := by decide +kernel
theorem dX1_turn_29 : decode cX1_turn 29 = .ok (.iastore, 1) := by decide +kernel
theorem dX1_turn_30 : decode cX1_turn 30 = .ok (.aload_n 1, 1) := by decide +kernel
theorem dX1_turn_31 : decode cX1_turn 31 = .ok (.getfield 79, 3) := by decide +kernel
theorem dX1_turn_34 : decode cX1_turn 34 = .ok (.iload_n 2, 1) := by decide +kernel
theorem dX1_turn_35 : decode cX1_turn 35 = .ok (.iaload, 1) := by decide +kernel
theorem dX1_turn_36 : decode cX1_turn 36 = .ok (.sipush (-999), 3) := by decide +kernel
theorem dX1_turn_39 : decode cX1_turn 39 = .ok (.sipush 999, 3) := by decide +kernel
theorem dX1_turn_42 : decode cX1_turn 42 = .ok (.invokestatic 39, 3) := by decide +kernel
theorem dX1_turn_45 : decode cX1_turn 45 = .ok (.ifCond .ne 5, 3) := by decide +kernel
theorem dX1_turn_48 : decode cX1_turn 48 = .ok (.iconst 1, 1) := by decide +kernel
theorem dX1_turn_49 : decode cX1_turn 49 = .ok (.ireturn, 1) := by decide +kernel
theorem dX1_turn_50 : decode cX1_turn 50 = .ok (.iload_n 3, 1) := by decide +kernel
theorem dX1_turn_51 : decode cX1_turn 51 = .ok (.ifCond .eq 11, 3) := by decide +kernel
theorem dX1_turn_54 : decode cX1_turn 54 = .ok (.aload_n 1, 1) := by decide +kernel
theorem dX1_turn_55 : decode cX1_turn 55 = .ok (.iload_n 2, 1) := by decide +kernel
theorem dX1_turn_56 : decode cX1_turn 56 = .ok (.invokevirtual 85, 3) := by decide +kernel
theorem dX1_turn_59 : decode cX1_turn 59 = .ok (.ifCond .ne 7, 3) := by decide +kernel
theorem dX1_turn_62 : decode cX1_turn 62 = .ok (.iconst 2, 1) := by decide +kernel
theorem dX1_turn_63 : decode cX1_turn 63 = .ok (.goto 4, 3) := by decide +kernel
theorem dX1_turn_66 : decode cX1_turn 66 = .ok (.iconst (-1), 1) := by decide +kernel
theorem dX1_turn_67 : decode cX1_turn 67 = .ok (.ireturn, 1) := by decide +kernel
theorem dX1_castOff_0 : decode cX1_castOff 0 = .ok (.aload_n 0, 1) := by decide +kernel
theorem dX1_castOff_1 : decode cX1_castOff 1 = .ok (.iload_n 1, 1) := by decide +kernel
theorem dX1_castOff_2 : decode cX1_castOff 2 = .ok (.invokevirtual 85, 3) := by decide +kernel
theorem dX1_castOff_5 : decode cX1_castOff 5 = .ok (.ifCond .ne 5, 3) := by decide +kernel
theorem dX1_castOff_8 : decode cX1_castOff 8 = .ok (.iconst 2, 1) := by decide +kernel
theorem dX1_castOff_9 : decode cX1_castOff 9 = .ok (.ireturn, 1) := by decide +kernel
theorem dX1_castOff_10 : decode cX1_castOff 10 = .ok (.aload_n 0, 1) := by decide +kernel
theorem dX1_castOff_11 : decode cX1_castOff 11 = .ok (.dup, 1) := by decide +kernel
theorem dX1_castOff_12 : decode cX1_castOff 12 = .ok (.getfield 89, 3) := by decide +kernel
theorem dX1_castOff_15 : decode cX1_castOff 15 = .ok (.iconst 1, 1) := by decide +kernel
theorem dX1_castOff_16 : decode cX1_castOff 16 = .ok (.iload_n 1, 1) := by decide +kernel
theorem dX1_castOff_17 : decode cX1_castOff 17 = .ok (.ishl, 1) := by decide +kernel
theorem dX1_castOff_18 : decode cX1_castOff 18 = .ok (.iconst (-1), 1) := by decide +kernel
theorem dX1_castOff_19 : decode cX1_castOff 19 = .ok (.ixor, 1) := by decide +kernel
theorem dX1_castOff_20 : decode cX1_castOff 20 = .ok (.iand, 1) := by decide +kernel
theorem dX1_castOff_21 : decode cX1_castOff 21 = .ok (.putfield 89, 3) := by decide +kernel
theorem dX1_castOff_24 : decode cX1_castOff 24 = .ok (.aload_n 0, 1) := by decide +kernel
theorem dX1_castOff_25 : decode cX1_castOff 25 = .ok (.dup, 1) := by decide +kernel
theorem dX1_castOff_26 : decode cX1_castOff 26 = .ok (.getfield 92, 3) := by decide +kernel
theorem dX1_castOff_29 : decode cX1_castOff 29 = .ok (.iconst 1, 1) := by decide +kernel
theorem dX1_castOff_30 : decode cX1_castOff 30 = .ok (.iload_n 1, 1) := by decide +kernel
theorem dX1_castOff_31 : decode cX1_castOff 31 = .ok (.ishl, 1) := by decide +kernel
theorem dX1_castOff_32 : decode cX1_castOff 32 = .ok (.ior, 1) := by decide +kernel
theorem dX1_castOff_33 : decode cX1_castOff 33 = .ok (.putfield 92, 3) := by decide +kernel
theorem dX1_castOff_36 : decode cX1_castOff 36 = .ok (.iconst (-1), 1) := by decide +kernel
theorem dX1_castOff_37 : decode cX1_castOff 37 = .ok (.ireturn, 1) := by decide +kernel
theorem dX1_takeAgain_0 : decode cX1_takeAgain 0 = .ok (.aload_n 1, 1) := by decide +kernel
theorem dX1_takeAgain_1 : decode cX1_takeAgain 1 = .ok (.iload_n 2, 1) := by decide +kernel
theorem dX1_takeAgain_2 : decode cX1_takeAgain 2 = .ok (.invokevirtual 85, 3) := by decide +kernel
theorem dX1_takeAgain_5 : decode cX1_takeAgain 5 = .ok (.ifCond .eq 5, 3) := by decide +kernel
theorem dX1_takeAgain_8 : decode cX1_takeAgain 8 = .ok (.iconst 2, 1) := by decide +kernel
theorem dX1_takeAgain_9 : decode cX1_takeAgain 9 = .ok (.ireturn, 1) := by decide +kernel
theorem dX1_takeAgain_10 : decode cX1_takeAgain 10 = .ok (.aload_n 1, 1) := by decide +kernel
theorem dX1_takeAgain_11 : decode cX1_takeAgain 11 = .ok (.dup, 1) := by decide +kernel
theorem dX1_takeAgain_12 : decode cX1_takeAgain 12 = .ok (.getfield 95, 3) := by decide +kernel
theorem dX1_takeAgain_15 : decode cX1_takeAgain 15 = .ok (.iconst 1, 1) := by decide +kernel
theorem dX1_takeAgain_16 : decode cX1_takeAgain 16 = .ok (.iload_n 2, 1) := by decide +kernel
theorem dX1_takeAgain_17 : decode cX1_takeAgain 17 = .ok (.ishl, 1) := by decide +kernel
theorem dX1_takeAgain_18 : decode cX1_takeAgain 18 = .ok (.iconst (-1), 1) := by decide +kernel
theorem dX1_takeAgain_19 : decode cX1_takeAgain 19 = .ok (.ixor, 1) := by decide +kernel
theorem dX1_takeAgain_20 : decode cX1_takeAgain 20 = .ok (.iand, 1) := by decide +kernel
theorem dX1_takeAgain_21 : decode cX1_takeAgain 21 = .ok (.putfield 95, 3) := by decide +kernel
theorem dX1_takeAgain_24 : decode cX1_takeAgain 24 = .ok (.aload_n 1, 1) := by decide +kernel
theorem dX1_takeAgain_25 : decode cX1_takeAgain 25 = .ok (.dup, 1) := by decide +kernel
theorem dX1_takeAgain_26 : decode cX1_takeAgain 26 = .ok (.getfield 92, 3) := by decide +kernel
theorem dX1_takeAgain_29 : decode cX1_takeAgain 29 = .ok (.iconst 1, 1) := by decide +kernel
theorem dX1_takeAgain_30 : decode cX1_takeAgain 30 = .ok (.iload_n 2, 1) := by decide +kernel
theorem dX1_takeAgain_31 : decode cX1_takeAgain 31 = .ok (.ishl, 1) := by decide +kernel
theorem dX1_takeAgain_32 : decode cX1_takeAgain 32 = .ok (.iconst (-1), 1) := by decide +kernel
theorem dX1_takeAgain_33 : decode cX1_takeAgain 33 = .ok (.ixor, 1) := by decide +kernel
theorem dX1_takeAgain_34 : decode cX1_takeAgain 34 = .ok (.iand, 1) := by decide +kernel
theorem dX1_takeAgain_35 : decode cX1_takeAgain 35 = .ok (.putfield 92, 3) := by decide +kernel
theorem dX1_takeAgain_38 : decode cX1_takeAgain 38 = .ok (.aload_n 1, 1) := by decide +kernel
theorem dX1_takeAgain_39 : decode cX1_takeAgain 39 = .ok (.dup, 1) := by decide +kernel
theorem dX1_takeAgain_40 : decode cX1_takeAgain 40 = .ok (.getfield 89, 3) := by decide +kernel
theorem dX1_takeAgain_43 : decode cX1_takeAgain 43 = .ok (.iconst 1, 1) := by decide +kernel
theorem dX1_takeAgain_44 : decode cX1_takeAgain 44 = .ok (.iload_n 2, 1) := by decide +kernel
theorem dX1_takeAgain_45 : decode cX1_takeAgain 45 = .ok (.ishl, 1) := by decide +kernel
theorem dX1_takeAgain_46 : decode cX1_takeAgain 46 = .ok (.ior, 1) := by decide +kernel
theorem dX1_takeAgain_47 : decode cX1_takeAgain 47 = .ok (.putfield 89, 3) := by decide +kernel
theorem dX1_takeAgain_50 : decode cX1_takeAgain 50 = .ok (.aload_n 1, 1) := by decide +kernel
theorem dX1_takeAgain_51 : decode cX1_takeAgain 51 = .ok (.getfield 79, 3) := by decide +kernel
theorem dX1_takeAgain_54 : decode cX1_takeAgain 54 = .ok (.iload_n 2, 1) := by decide +kernel
theorem dX1_takeAgain_55 : decode cX1_takeAgain 55 = .ok (.aload_n 0, 1) := by decide +kernel
theorem dX1_takeAgain_56 : decode cX1_takeAgain 56 = .ok (.iload_n 2, 1) := by decide +kernel
theorem dX1_takeAgain_57 : decode cX1_takeAgain 57 = .ok (.iconst 5, 1) := by decide +kernel
theorem dX1_takeAgain_58 : decode cX1_takeAgain 58 = .ok (.invokevirtual 98, 3) := by decide +kernel
theorem dX1_takeAgain_61 : decode cX1_takeAgain 61 = .ok (.iastore, 1) := by decide +kernel
theorem dX1_takeAgain_62 : decode cX1_takeAgain 62 = .ok (.iconst (-1), 1) := by decide +kernel
theorem dX1_takeAgain_63 : decode cX1_takeAgain 63 = .ok (.ireturn, 1) := by decide +kernel
theorem dX1_settle_0 : decode cX1_settle 0 = .ok (.aload_n 0, 1) := by decide +kernel
theorem dX1_settle_1 : decode cX1_settle 1 = .ok (.iconst 0, 1) := by decide +kernel
theorem dX1_settle_2 : decode cX1_settle 2 = .ok (.putfield 26, 3) := by decide +kernel
theorem dX1_settle_5 : decode cX1_settle 5 = .ok (.aload_n 0, 1) := by decide +kernel
theorem dX1_settle_6 : decode cX1_settle 6 = .ok (.iconst 0, 1) := by decide +kernel
theorem dX1_settle_7 : decode cX1_settle 7 = .ok (.putfield 30, 3) := by decide +kernel
theorem dX1_settle_10 : decode cX1_settle 10 = .ok (.aload_n 0, 1) := by decide +kernel
theorem dX1_settle_11 : decode cX1_settle 11 = .ok (.getfield 22, 3) := by decide +kernel
theorem dX1_settle_14 : decode cX1_settle 14 = .ok (.lconst 0, 1) := by decide +kernel
theorem dX1_settle_15 : decode cX1_settle 15 = .ok (.invokestatic 102, 3) := by decide +kernel
theorem dX1_settle_18 : decode cX1_settle 18 = .ok (.iconst 1, 1) := by decide +kernel
theorem dX1_settle_19 : decode cX1_settle 19 = .ok (.istore_n 3, 1) := by decide +kernel
theorem dX1_settle_20 : decode cX1_settle 20 = .ok (.iload_n 3, 1) := by decide +kernel
theorem dX1_settle_21 : decode cX1_settle 21 = .ok (.sipush 4096, 3) := by decide +kernel
theorem dX1_settle_24 : decode cX1_settle 24 = .ok (.if_icmp .gt 135, 3) := by decide +kernel
theorem dX1_settle_27 : decode cX1_settle 27 = .ok (.aload_n 0, 1) := by decide +kernel
theorem dX1_settle_28 : decode cX1_settle 28 = .ok (.getfield 12, 3) := by decide +kernel
theorem dX1_settle_31 : decode cX1_settle 31 = .ok (.aload_n 1, 1) := by decide +kernel
theorem dX1_settle_32 : decode cX1_settle 32 = .ok (.aload_n 2, 1) := by decide +kernel
theorem dX1_settle_33 : decode cX1_settle 33 = .ok (.aload_n 2, 1) := by decide +kernel
theorem dX1_settle_34 : decode cX1_settle 34 = .ok (.getfield 89, 3) := by decide +kernel
theorem dX1_settle_37 : decode cX1_settle 37 = .ok (.invokevirtual 108, 3) := by decide +kernel
theorem dX1_settle_40 : decode cX1_settle 40 = .ok (.ifCond .ne 5, 3) := by decide +kernel
theorem dX1_settle_43 : decode cX1_settle 43 = .ok (.iconst 3, 1) := by decide +kernel
theorem dX1_settle_44 : decode cX1_settle 44 = .ok (.ireturn, 1) := by decide +kernel
theorem dX1_settle_45 : decode cX1_settle 45 = .ok (.aload_n 0, 1) := by decide +kernel
theorem dX1_settle_46 : decode cX1_settle 46 = .ok (.getfield 22, 3) := by decide +kernel
theorem dX1_settle_49 : decode cX1_settle 49 = .ok (.aload_n 2, 1) := by decide +kernel
theorem dX1_settle_50 : decode cX1_settle 50 = .ok (.getfield 89, 3) := by decide +kernel
theorem dX1_settle_53 : decode cX1_settle 53 = .ok (.bipush 6, 2) := by decide +kernel
theorem dX1_settle_55 : decode cX1_settle 55 = .ok (.ishr, 1) := by decide +kernel
theorem dX1_settle_56 : decode cX1_settle 56 = .ok (.iconst 3, 1) := by decide +kernel
theorem dX1_settle_57 : decode cX1_settle 57 = .ok (.iand, 1) := by decide +kernel
theorem dX1_settle_58 : decode cX1_settle 58 = .ok (.dup2, 1) := by decide +kernel
theorem dX1_settle_59 : decode cX1_settle 59 = .ok (.laload, 1) := by decide +kernel
theorem dX1_settle_60 : decode cX1_settle 60 = .ok (.lconst 1, 1) := by decide +kernel
theorem dX1_settle_61 : decode cX1_settle 61 = .ok (.aload_n 2, 1) := by decide +kernel
theorem dX1_settle_62 : decode cX1_settle 62 = .ok (.getfield 89, 3) := by decide +kernel
theorem dX1_settle_65 : decode cX1_settle 65 = .ok (.bipush 63, 2) := by decide +kernel
theorem dX1_settle_67 : decode cX1_settle 67 = .ok (.iand, 1) := by decide +kernel
theorem dX1_settle_68 : decode cX1_settle 68 = .ok (.lshl, 1) := by decide +kernel
theorem dX1_settle_69 : decode cX1_settle 69 = .ok (.lor, 1) := by decide +kernel
theorem dX1_settle_70 : decode cX1_settle 70 = .ok (.lastore, 1) := by decide +kernel
theorem dX1_settle_71 : decode cX1_settle 71 = .ok (.aload_n 0, 1) := by decide +kernel
theorem dX1_settle_72 : decode cX1_settle 72 = .ok (.aload_n 1, 1) := by decide +kernel
theorem dX1_settle_73 : decode cX1_settle 73 = .ok (.aload_n 2, 1) := by decide +kernel
theorem dX1_settle_74 : decode cX1_settle 74 = .ok (.invokevirtual 112, 3) := by decide +kernel
theorem dX1_settle_77 : decode cX1_settle 77 = .ok (.istore 4, 2) := by decide +kernel
theorem dX1_settle_79 : decode cX1_settle 79 = .ok (.iload 4, 2) := by decide +kernel
theorem dX1_settle_81 : decode cX1_settle 81 = .ok (.aload_n 2, 1) := by decide +kernel
theorem dX1_settle_82 : decode cX1_settle 82 = .ok (.getfield 89, 3) := by decide +kernel
theorem dX1_settle_85 : decode cX1_settle 85 = .ok (.if_icmp .eq 39, 3) := by decide +kernel
theorem dX1_settle_88 : decode cX1_settle 88 = .ok (.aload_n 0, 1) := by decide +kernel
theorem dX1_settle_89 : decode cX1_settle 89 = .ok (.getfield 22, 3) := by decide +kernel
theorem dX1_settle_92 : decode cX1_settle 92 = .ok (.iload 4, 2) := by decide +kernel
theorem dX1_settle_94 : decode cX1_settle 94 = .ok (.bipush 6, 2) := by decide +kernel
theorem dX1_settle_96 : decode cX1_settle 96 = .ok (.ishr, 1) := by decide +kernel
theorem dX1_settle_97 : decode cX1_settle 97 = .ok (.iconst 3, 1) := by decide +kernel
theorem dX1_settle_98 : decode cX1_settle 98 = .ok (.iand, 1) := by decide +kernel
theorem dX1_settle_99 : decode cX1_settle 99 = .ok (.laload, 1) := by decide +kernel
theorem dX1_settle_100 : decode cX1_settle 100 = .ok (.iload 4, 2) := by decide +kernel
theorem dX1_settle_102 : decode cX1_settle 102 = .ok (.bipush 63, 2) := by decide +kernel
theorem dX1_settle_104 : decode cX1_settle 104 = .ok (.iand, 1) := by decide +kernel
theorem dX1_settle_105 : decode cX1_settle 105 = .ok (.lushr, 1) := by decide +kernel
theorem dX1_settle_106 : decode cX1_settle 106 = .ok (.lconst 1, 1) := by decide +kernel
theorem dX1_settle_107 : decode cX1_settle 107 = .ok (.land, 1) := by decide +kernel
theorem dX1_settle_108 : decode cX1_settle 108 = .ok (.lconst 0, 1) := by decide +kernel
theorem dX1_settle_109 : decode cX1_settle 109 = .ok (.lcmp, 1) := by decide +kernel
theorem dX1_settle_110 : decode cX1_settle 110 = .ok (.ifCond .eq 5, 3) := by decide +kernel
theorem dX1_settle_113 : decode cX1_settle 113 = .ok (.iconst 4, 1) := by decide +kernel
theorem dX1_settle_114 : decode cX1_settle 114 = .ok (.ireturn, 1) := by decide +kernel
theorem dX1_settle_115 : decode cX1_settle 115 = .ok (.aload_n 2, 1) := by decide +kernel
theorem dX1_settle_116 : decode cX1_settle 116 = .ok (.iload 4, 2) := by decide +kernel
theorem dX1_settle_118 : decode cX1_settle 118 = .ok (.putfield 89, 3) := by decide +kernel
theorem dX1_settle_121 : decode cX1_settle 121 = .ok (.goto 32, 3) := by decide +kernel
theorem dX1_settle_124 : decode cX1_settle 124 = .ok (.aload_n 0, 1) := by decide +kernel
theorem dX1_settle_125 : decode cX1_settle 125 = .ok (.aload_n 1, 1) := by decide +kernel
theorem dX1_settle_126 : decode cX1_settle 126 = .ok (.aload_n 2, 1) := by decide +kernel
theorem dX1_settle_127 : decode cX1_settle 127 = .ok (.invokevirtual 115, 3) := by decide +kernel
theorem dX1_settle_130 : decode cX1_settle 130 = .ok (.ifCond .ne 23, 3) := by decide +kernel
theorem dX1_settle_133 : decode cX1_settle 133 = .ok (.aload_n 2, 1) := by decide +kernel
theorem dX1_settle_134 : decode cX1_settle 134 = .ok (.iload_n 3, 1) := by decide +kernel
theorem dX1_settle_135 : decode cX1_settle 135 = .ok (.putfield 119, 3) := by decide +kernel
theorem dX1_settle_138 : decode cX1_settle 138 = .ok (.aload_n 2, 1) := by decide +kernel
theorem dX1_settle_139 : decode cX1_settle 139 = .ok (.dup, 1) := by decide +kernel
theorem dX1_settle_140 : decode cX1_settle 140 = .ok (.getfield 122, 3) := by decide +kernel
theorem dX1_settle_143 : decode cX1_settle 143 = .ok (.aload_n 0, 1) := by decide +kernel
theorem dX1_settle_144 : decode cX1_settle 144 = .ok (.getfield 30, 3) := by decide +kernel
theorem dX1_settle_147 : decode cX1_settle 147 = .ok (.iadd, 1) := by decide +kernel
theorem dX1_settle_148 : decode cX1_settle 148 = .ok (.putfield 122, 3) := by decide +kernel
theorem dX1_settle_151 : decode cX1_settle 151 = .ok (.iconst (-1), 1) := by decide +kernel
theorem dX1_settle_152 : decode cX1_settle 152 = .ok (.ireturn, 1) := by decide +kernel
theorem dX1_settle_153 : decode cX1_settle 153 = .ok (.iinc 3 1, 3) := by decide +kernel
theorem dX1_settle_156 : decode cX1_settle 156 = .ok (.goto (-136), 3) := by decide +kernel
theorem dX1_settle_159 : decode cX1_settle 159 = .ok (.iconst 4, 1) := by decide +kernel
theorem dX1_settle_160 : decode cX1_settle 160 = .ok (.ireturn, 1) := by decide +kernel
theorem dX1_nextSet_0 : decode cX1_nextSet 0 = .ok (.aload_n 0, 1) := by decide +kernel
theorem dX1_nextSet_1 : decode cX1_nextSet 1 = .ok (.getfield 12, 3) := by decide +kernel
theorem dX1_nextSet_4 : decode cX1_nextSet 4 = .ok (.aload_n 2, 1) := by decide +kernel
theorem dX1_nextSet_5 : decode cX1_nextSet 5 = .ok (.getfield 89, 3) := by decide +kernel
theorem dX1_nextSet_8 : decode cX1_nextSet 8 = .ok (.iconst (-1), 1) := by decide +kernel
theorem dX1_nextSet_9 : decode cX1_nextSet 9 = .ok (.invokevirtual 125, 3) := by decide +kernel
theorem dX1_nextSet_12 : decode cX1_nextSet 12 = .ok (.istore_n 3, 1) := by decide +kernel
theorem dX1_nextSet_13 : decode cX1_nextSet 13 = .ok (.iload_n 3, 1) := by decide +kernel
theorem dX1_nextSet_14 : decode cX1_nextSet 14 = .ok (.iconst (-1), 1) := by decide +kernel
theorem dX1_nextSet_15 : decode cX1_nextSet 15 = .ok (.if_icmp .eq 28, 3) := by decide +kernel
theorem dX1_nextSet_18 : decode cX1_nextSet 18 = .ok (.aload_n 0, 1) := by decide +kernel
theorem dX1_nextSet_19 : decode cX1_nextSet 19 = .ok (.getfield 12, 3) := by decide +kernel
theorem dX1_nextSet_22 : decode cX1_nextSet 22 = .ok (.getfield 128, 3) := by decide +kernel
theorem dX1_nextSet_25 : decode cX1_nextSet 25 = .ok (.iload_n 3, 1) := by decide +kernel
theorem dX1_nextSet_26 : decode cX1_nextSet 26 = .ok (.laload, 1) := by decide +kernel
theorem dX1_nextSet_27 : decode cX1_nextSet 27 = .ok (.lconst 0, 1) := by decide +kernel
theorem dX1_nextSet_28 : decode cX1_nextSet 28 = .ok (.lcmp, 1) := by decide +kernel
theorem dX1_nextSet_29 : decode cX1_nextSet 29 = .ok (.ifCond .ge 14, 3) := by decide +kernel
theorem dX1_nextSet_32 : decode cX1_nextSet 32 = .ok (.aload_n 2, 1) := by decide +kernel
theorem dX1_nextSet_33 : decode cX1_nextSet 33 = .ok (.getfield 89, 3) := by decide +kernel
theorem dX1_nextSet_36 : decode cX1_nextSet 36 = .ok (.iconst 1, 1) := by decide +kernel
theorem dX1_nextSet_37 : decode cX1_nextSet 37 = .ok (.iload_n 3, 1) := by decide +kernel
theorem dX1_nextSet_38 : decode cX1_nextSet 38 = .ok (.ishl, 1) := by decide +kernel
theorem dX1_nextSet_39 : decode cX1_nextSet 39 = .ok (.iconst (-1), 1) := by decide +kernel
theorem dX1_nextSet_40 : decode cX1_nextSet 40 = .ok (.ixor, 1) := by decide +kernel
theorem dX1_nextSet_41 : decode cX1_nextSet 41 = .ok (.iand, 1) := by decide +kernel
theorem dX1_nextSet_42 : decode cX1_nextSet 42 = .ok (.ireturn, 1) := by decide +kernel
theorem dX1_nextSet_43 : decode cX1_nextSet 43 = .ok (.aload_n 0, 1) := by decide +kernel
theorem dX1_nextSet_44 : decode cX1_nextSet 44 = .ok (.getfield 12, 3) := by decide +kernel
theorem dX1_nextSet_47 : decode cX1_nextSet 47 = .ok (.aload_n 2, 1) := by decide +kernel
theorem dX1_nextSet_48 : decode cX1_nextSet 48 = .ok (.aload_n 1, 1) := by decide +kernel
theorem dX1_nextSet_49 : decode cX1_nextSet 49 = .ok (.invokevirtual 131, 3) := by decide +kernel
theorem dX1_nextSet_52 : decode cX1_nextSet 52 = .ok (.iconst 1, 1) := by decide +kernel
theorem dX1_nextSet_53 : decode cX1_nextSet 53 = .ok (.invokevirtual 125, 3) := by decide +kernel
theorem dX1_nextSet_56 : decode cX1_nextSet 56 = .ok (.istore 4, 2) := by decide +kernel
theorem dX1_nextSet_58 : decode cX1_nextSet 58 = .ok (.iload 4, 2) := by decide +kernel
theorem dX1_nextSet_60 : decode cX1_nextSet 60 = .ok (.iconst (-1), 1) := by decide +kernel
theorem dX1_nextSet_61 : decode cX1_nextSet 61 = .ok (.if_icmp .eq 28, 3) := by decide +kernel
theorem dX1_nextSet_64 : decode cX1_nextSet 64 = .ok (.aload_n 0, 1) := by decide +kernel
theorem dX1_nextSet_65 : decode cX1_nextSet 65 = .ok (.getfield 12, 3) := by decide +kernel
theorem dX1_nextSet_68 : decode cX1_nextSet 68 = .ok (.getfield 128, 3) := by decide +kernel
theorem dX1_nextSet_71 : decode cX1_nextSet 71 = .ok (.iload 4, 2) := by decide +kernel
theorem dX1_nextSet_73 : decode cX1_nextSet 73 = .ok (.laload, 1) := by decide +kernel
theorem dX1_nextSet_74 : decode cX1_nextSet 74 = .ok (.lconst 0, 1) := by decide +kernel
theorem dX1_nextSet_75 : decode cX1_nextSet 75 = .ok (.lcmp, 1) := by decide +kernel
theorem dX1_nextSet_76 : decode cX1_nextSet 76 = .ok (.ifCond .le 13, 3) := by decide +kernel
theorem dX1_nextSet_79 : decode cX1_nextSet 79 = .ok (.aload_n 2, 1) := by decide +kernel
theorem dX1_nextSet_80 : decode cX1_nextSet 80 = .ok (.getfield 89, 3) := by decide +kernel
theorem dX1_nextSet_83 : decode cX1_nextSet 83 = .ok (.iconst 1, 1) := by decide +kernel
theorem dX1_nextSet_84 : decode cX1_nextSet 84 = .ok (.iload 4, 2) := by decide +kernel
theorem dX1_nextSet_86 : decode cX1_nextSet 86 = .ok (.ishl, 1) := by decide +kernel
theorem dX1_nextSet_87 : decode cX1_nextSet 87 = .ok (.ior, 1) := by decide +kernel
theorem dX1_nextSet_88 : decode cX1_nextSet 88 = .ok (.ireturn, 1) := by decide +kernel
theorem dX1_nextSet_89 : decode cX1_nextSet 89 = .ok (.aload_n 2, 1) := by decide +kernel
theorem dX1_nextSet_90 : decode cX1_nextSet 90 = .ok (.getfield 89, 3) := by decide +kernel
theorem dX1_nextSet_93 : decode cX1_nextSet 93 = .ok (.ireturn, 1) := by decide +kernel
theorem dX1_breakWorst_0 : decode cX1_breakWorst 0 = .ok (.aload_n 0, 1) := by decide +kernel
theorem dX1_breakWorst_1 : decode cX1_breakWorst 1 = .ok (.getfield 12, 3) := by decide +kernel
theorem dX1_breakWorst_4 : decode cX1_breakWorst 4 = .ok (.aload_n 1, 1) := by decide +kernel
theorem dX1_breakWorst_5 : decode cX1_breakWorst 5 = .ok (.aload_n 2, 1) := by decide +kernel
theorem dX1_breakWorst_6 : decode cX1_breakWorst 6 = .ok (.getfield 89, 3) := by decide +kernel
theorem dX1_breakWorst_9 : decode cX1_breakWorst 9 = .ok (.iconst 1, 1) := by decide +kernel
theorem dX1_breakWorst_10 : decode cX1_breakWorst 10 = .ok (.invokevirtual 135, 3) := by decide +kernel
theorem dX1_breakWorst_13 : decode cX1_breakWorst 13 = .ok (.istore_n 3, 1) := by decide +kernel
theorem dX1_breakWorst_14 : decode cX1_breakWorst 14 = .ok (.iload_n 3, 1) := by decide +kernel
theorem dX1_breakWorst_15 : decode cX1_breakWorst 15 = .ok (.iconst (-1), 1) := by decide +kernel
theorem dX1_breakWorst_16 : decode cX1_breakWorst 16 = .ok (.if_icmp .eq 40, 3) := by decide +kernel
theorem dX1_breakWorst_19 : decode cX1_breakWorst 19 = .ok (.aload_n 0, 1) := by decide +kernel
theorem dX1_breakWorst_20 : decode cX1_breakWorst 20 = .ok (.getfield 30, 3) := by decide +kernel
theorem dX1_breakWorst_23 : decode cX1_breakWorst 23 = .ok (.bipush 8, 2) := by decide +kernel
theorem dX1_breakWorst_25 : decode cX1_breakWorst 25 = .ok (.if_icmp .ge 31, 3) := by decide +kernel
theorem dX1_breakWorst_28 : decode cX1_breakWorst 28 = .ok (.aload_n 0, 1) := by decide +kernel
theorem dX1_breakWorst_29 : decode cX1_breakWorst 29 = .ok (.getfield 12, 3) := by decide +kernel
theorem dX1_breakWorst_32 : decode cX1_breakWorst 32 = .ok (.getfield 128, 3) := by decide +kernel
theorem dX1_breakWorst_35 : decode cX1_breakWorst 35 = .ok (.iload_n 3, 1) := by decide +kernel
theorem dX1_breakWorst_36 : decode cX1_breakWorst 36 = .ok (.laload, 1) := by decide +kernel
theorem dX1_breakWorst_37 : decode cX1_breakWorst 37 = .ok (.aload_n 1, 1) := by decide +kernel
theorem dX1_breakWorst_38 : decode cX1_breakWorst 38 = .ok (.getfield 139, 3) := by decide +kernel
theorem dX1_breakWorst_41 : decode cX1_breakWorst 41 = .ok (.iload_n 3, 1) := by decide +kernel
theorem dX1_breakWorst_42 : decode cX1_breakWorst 42 = .ok (.iaload, 1) := by decide +kernel
theorem dX1_breakWorst_43 : decode cX1_breakWorst 43 = .ok (.i2l, 1) := by decide +kernel
theorem dX1_breakWorst_44 : decode cX1_breakWorst 44 = .ok (.aload_n 0, 1) := by decide +kernel
theorem dX1_breakWorst_45 : decode cX1_breakWorst 45 = .ok (.getfield 12, 3) := by decide +kernel
theorem dX1_breakWorst_48 : decode cX1_breakWorst 48 = .ok (.getfield 142, 3) := by decide +kernel
theorem dX1_breakWorst_51 : decode cX1_breakWorst 51 = .ok (.lmul, 1) := by decide +kernel
theorem dX1_breakWorst_52 : decode cX1_breakWorst 52 = .ok (.lcmp, 1) := by decide +kernel
theorem dX1_breakWorst_53 : decode cX1_breakWorst 53 = .ok (.ifCond .gt 5, 3) := by decide +kernel
theorem dX1_breakWorst_56 : decode cX1_breakWorst 56 = .ok (.iconst 0, 1) := by decide +kernel
theorem dX1_breakWorst_57 : decode cX1_breakWorst 57 = .ok (.ireturn, 1) := by decide +kernel
theorem dX1_breakWorst_58 : decode cX1_breakWorst 58 = .ok (.aload_n 2, 1) := by decide +kernel
theorem dX1_breakWorst_59 : decode cX1_breakWorst 59 = .ok (.dup, 1) := by decide +kernel
theorem dX1_breakWorst_60 : decode cX1_breakWorst 60 = .ok (.getfield 89, 3) := by decide +kernel
theorem dX1_breakWorst_63 : decode cX1_breakWorst 63 = .ok (.iconst 1, 1) := by decide +kernel
theorem dX1_breakWorst_64 : decode cX1_breakWorst 64 = .ok (.iload_n 3, 1) := by decide +kernel
theorem dX1_breakWorst_65 : decode cX1_breakWorst 65 = .ok (.ishl, 1) := by decide +kernel
theorem dX1_breakWorst_66 : decode cX1_breakWorst 66 = .ok (.iconst (-1), 1) := by decide +kernel
theorem dX1_breakWorst_67 : decode cX1_breakWorst 67 = .ok (.ixor, 1) := by decide +kernel
theorem dX1_breakWorst_68 : decode cX1_breakWorst 68 = .ok (.iand, 1) := by decide +kernel
theorem dX1_breakWorst_69 : decode cX1_breakWorst 69 = .ok (.putfield 89, 3) := by decide +kernel
theorem dX1_breakWorst_72 : decode cX1_breakWorst 72 = .ok (.aload_n 2, 1) := by decide +kernel
theorem dX1_breakWorst_73 : decode cX1_breakWorst 73 = .ok (.dup, 1) := by decide +kernel
theorem dX1_breakWorst_74 : decode cX1_breakWorst 74 = .ok (.getfield 95, 3) := by decide +kernel
theorem dX1_breakWorst_77 : decode cX1_breakWorst 77 = .ok (.iconst 1, 1) := by decide +kernel
theorem dX1_breakWorst_78 : decode cX1_breakWorst 78 = .ok (.iload_n 3, 1) := by decide +kernel
theorem dX1_breakWorst_79 : decode cX1_breakWorst 79 = .ok (.ishl, 1) := by decide +kernel
theorem dX1_breakWorst_80 : decode cX1_breakWorst 80 = .ok (.ior, 1) := by decide +kernel
theorem dX1_breakWorst_81 : decode cX1_breakWorst 81 = .ok (.putfield 95, 3) := by decide +kernel
theorem dX1_breakWorst_84 : decode cX1_breakWorst 84 = .ok (.aload_n 0, 1) := by decide +kernel
theorem dX1_breakWorst_85 : decode cX1_breakWorst 85 = .ok (.dup, 1) := by decide +kernel
theorem dX1_breakWorst_86 : decode cX1_breakWorst 86 = .ok (.getfield 26, 3) := by decide +kernel
theorem dX1_breakWorst_89 : decode cX1_breakWorst 89 = .ok (.iconst 1, 1) := by decide +kernel
theorem dX1_breakWorst_90 : decode cX1_breakWorst 90 = .ok (.iload_n 3, 1) := by decide +kernel
theorem dX1_breakWorst_91 : decode cX1_breakWorst 91 = .ok (.ishl, 1) := by decide +kernel
theorem dX1_breakWorst_92 : decode cX1_breakWorst 92 = .ok (.ior, 1) := by decide +kernel
theorem dX1_breakWorst_93 : decode cX1_breakWorst 93 = .ok (.putfield 26, 3) := by decide +kernel
theorem dX1_breakWorst_96 : decode cX1_breakWorst 96 = .ok (.aload_n 0, 1) := by decide +kernel
theorem dX1_breakWorst_97 : decode cX1_breakWorst 97 = .ok (.getfield 18, 3) := by decide +kernel
theorem dX1_breakWorst_100 : decode cX1_breakWorst 100 = .ok (.aload_n 0, 1) := by decide +kernel
theorem dX1_breakWorst_101 : decode cX1_breakWorst 101 = .ok (.getfield 30, 3) := by decide +kernel
theorem dX1_breakWorst_104 : decode cX1_breakWorst 104 = .ok (.iload_n 3, 1) := by decide +kernel
theorem dX1_breakWorst_105 : decode cX1_breakWorst 105 = .ok (.iastore, 1) := by decide +kernel
theorem dX1_breakWorst_106 : decode cX1_breakWorst 106 = .ok (.aload_n 0, 1) := by decide +kernel
theorem dX1_breakWorst_107 : decode cX1_breakWorst 107 = .ok (.dup, 1) := by decide +kernel
theorem dX1_breakWorst_108 : decode cX1_breakWorst 108 = .ok (.getfield 30, 3) := by decide +kernel
theorem dX1_breakWorst_111 : decode cX1_breakWorst 111 = .ok (.iconst 1, 1) := by decide +kernel
theorem dX1_breakWorst_112 : decode cX1_breakWorst 112 = .ok (.iadd, 1) := by decide +kernel
theorem dX1_breakWorst_113 : decode cX1_breakWorst 113 = .ok (.putfield 30, 3) := by decide +kernel
theorem dX1_breakWorst_116 : decode cX1_breakWorst 116 = .ok (.aload_n 0, 1) := by decide +kernel
theorem dX1_breakWorst_117 : decode cX1_breakWorst 117 = .ok (.getfield 22, 3) := by decide +kernel
theorem dX1_breakWorst_120 : decode cX1_breakWorst 120 = .ok (.lconst 0, 1) := by decide +kernel
theorem dX1_breakWorst_121 : decode cX1_breakWorst 121 = .ok (.invokestatic 102, 3) := by decide +kernel
theorem dX1_breakWorst_124 : decode cX1_breakWorst 124 = .ok (.iconst 1, 1) := by decide +kernel
theorem dX1_breakWorst_125 : decode cX1_breakWorst 125 = .ok (.ireturn, 1) := by decide +kernel
theorem dX2_init_0 : decode cX2_init 0 = .ok (.aload_n 0, 1) := by decide +kernel
theorem dX2_init_1 : decode cX2_init 1 = .ok (.invokespecial 1, 3) := by decide +kernel
theorem dX2_init_4 : decode cX2_init 4 = .ok (.aload_n 0, 1) := by decide +kernel
theorem dX2_init_5 : decode cX2_init 5 = .ok (.lconst 0, 1) := by decide +kernel
theorem dX2_init_6 : decode cX2_init 6 = .ok (.putfield 7, 3) := by decide +kernel
theorem dX2_init_9 : decode cX2_init 9 = .ok (.aload_n 0, 1) := by decide +kernel
theorem dX2_init_10 : decode cX2_init 10 = .ok (.lconst 1, 1) := by decide +kernel
theorem dX2_init_11 : decode cX2_init 11 = .ok (.putfield 13, 3) := by decide +kernel
theorem dX2_init_14 : decode cX2_init 14 = .ok (.return_, 1) := by decide +kernel
theorem dX2_put_0 : decode cX2_put 0 = .ok (.lload_n 1, 1) := by decide +kernel
theorem dX2_put_1 : decode cX2_put 1 = .ok (.invokestatic 16, 3) := by decide +kernel
theorem dX2_put_4 : decode cX2_put 4 = .ok (.lload_n 3, 1) := by decide +kernel
theorem dX2_put_5 : decode cX2_put 5 = .ok (.invokestatic 22, 3) := by decide +kernel
theorem dX2_put_8 : decode cX2_put 8 = .ok (.lstore 5, 2) := by decide +kernel
theorem dX2_put_10 : decode cX2_put 10 = .ok (.lload_n 3, 1) := by decide +kernel
theorem dX2_put_11 : decode cX2_put 11 = .ok (.lconst 0, 1) := by decide +kernel
theorem dX2_put_12 : decode cX2_put 12 = .ok (.lcmp, 1) := by decide +kernel
theorem dX2_put_13 : decode cX2_put 13 = .ok (.ifCond .le 10, 3) := by decide +kernel
theorem dX2_put_16 : decode cX2_put 16 = .ok (.lload 5, 2) := by decide +kernel
theorem dX2_put_18 : decode cX2_put 18 = .ok (.lconst 0, 1) := by decide +kernel
theorem dX2_put_19 : decode cX2_put 19 = .ok (.lcmp, 1) := by decide +kernel
theorem dX2_put_20 : decode cX2_put 20 = .ok (.ifCond .gt 14, 3) := by decide +kernel
theorem dX2_put_23 : decode cX2_put 23 = .ok (.aload_n 0, 1) := by decide +kernel
theorem dX2_put_24 : decode cX2_put 24 = .ok (.lconst 0, 1) := by decide +kernel
theorem dX2_put_25 : decode cX2_put 25 = .ok (.putfield 7, 3) := by decide +kernel
theorem dX2_put_28 : decode cX2_put 28 = .ok (.aload_n 0, 1) := by decide +kernel
theorem dX2_put_29 : decode cX2_put 29 = .ok (.lconst 1, 1) := by decide +kernel
theorem dX2_put_30 : decode cX2_put 30 = .ok (.putfield 13, 3) := by decide +kernel
theorem dX2_put_33 : decode cX2_put 33 = .ok (.return_, 1) := by decide +kernel
theorem dX2_put_34 : decode cX2_put 34 = .ok (.aload_n 0, 1) := by decide +kernel
theorem dX2_put_35 : decode cX2_put 35 = .ok (.lload_n 1, 1) := by decide +kernel
theorem dX2_put_36 : decode cX2_put 36 = .ok (.lload 5, 2) := by decide +kernel
theorem dX2_put_38 : decode cX2_put 38 = .ok (.ldiv, 1) := by decide +kernel
theorem dX2_put_39 : decode cX2_put 39 = .ok (.putfield 7, 3) := by decide +kernel
theorem dX2_put_42 : decode cX2_put 42 = .ok (.aload_n 0, 1) := by decide +kernel
theorem dX2_put_43 : decode cX2_put 43 = .ok (.lload_n 3, 1) := by decide +kernel
theorem dX2_put_44 : decode cX2_put 44 = .ok (.lload 5, 2) := by decide +kernel
theorem dX2_put_46 : decode cX2_put 46 = .ok (.ldiv, 1) := by decide +kernel
theorem dX2_put_47 : decode cX2_put 47 = .ok (.putfield 13, 3) := by decide +kernel
theorem dX2_put_50 : decode cX2_put 50 = .ok (.return_, 1) := by decide +kernel
theorem dX2_commonDivisor_0 : decode cX2_commonDivisor 0 = .ok (.lload_n 0, 1) := by decide +kernel
theorem dX2_commonDivisor_1 : decode cX2_commonDivisor 1 = .ok (.lstore 4, 2) := by decide +kernel
theorem dX2_commonDivisor_3 : decode cX2_commonDivisor 3 = .ok (.lload_n 2, 1) := by decide +kernel
theorem dX2_commonDivisor_4 : decode cX2_commonDivisor 4 = .ok (.lstore 6, 2) := by decide +kernel
theorem dX2_commonDivisor_6 : decode cX2_commonDivisor 6 = .ok (.iconst 0, 1) := by decide +kernel
theorem dX2_commonDivisor_7 : decode cX2_commonDivisor 7 = .ok (.istore 8, 2) := by decide +kernel
theorem dX2_commonDivisor_9 : decode cX2_commonDivisor 9 = .ok (.iload 8, 2) := by decide +kernel
theorem dX2_commonDivisor_11 : decode cX2_commonDivisor 11 = .ok (.sipush 200, 3) := by decide +kernel
theorem dX2_commonDivisor_14 : decode cX2_commonDivisor 14 = .ok (.if_icmp .ge 31, 3) := by decide +kernel
theorem dX2_commonDivisor_17 : decode cX2_commonDivisor 17 = .ok (.lload 6, 2) := by decide +kernel
theorem dX2_commonDivisor_19 : decode cX2_commonDivisor 19 = .ok (.lconst 0, 1) := by decide +kernel
theorem dX2_commonDivisor_20 : decode cX2_commonDivisor 20 = .ok (.lcmp, 1) := by decide +kernel
theorem dX2_commonDivisor_21 : decode cX2_commonDivisor 21 = .ok (.ifCond .eq 24, 3) := by decide +kernel
theorem dX2_commonDivisor_24 : decode cX2_commonDivisor 24 = .ok (.lload 4, 2) := by decide +kernel
theorem dX2_commonDivisor_26 : decode cX2_commonDivisor 26 = .ok (.lload 6, 2) := by decide +kernel
theorem dX2_commonDivisor_28 : decode cX2_commonDivisor 28 = .ok (.lrem, 1) := by decide +kernel
theorem dX2_commonDivisor_29 : decode cX2_commonDivisor 29 = .ok (.lstore 9, 2) := by decide +kernel
theorem dX2_commonDivisor_31 : decode cX2_commonDivisor 31 = .ok (.lload 6, 2) := by decide +kernel
theorem dX2_commonDivisor_33 : decode cX2_commonDivisor 33 = .ok (.lstore 4, 2) := by decide +kernel
theorem dX2_commonDivisor_35 : decode cX2_commonDivisor 35 = .ok (.lload 9, 2) := by decide +kernel
theorem dX2_commonDivisor_37 : decode cX2_commonDivisor 37 = .ok (.lstore 6, 2) := by decide +kernel
theorem dX2_commonDivisor_39 : decode cX2_commonDivisor 39 = .ok (.iinc 8 1, 3) := by decide +kernel
theorem dX2_commonDivisor_42 : decode cX2_commonDivisor 42 = .ok (.goto (-33), 3) := by decide +kernel
theorem dX2_commonDivisor_45 : decode cX2_commonDivisor 45 = .ok (.lload 4, 2) := by decide +kernel
