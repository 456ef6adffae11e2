theorem dX12_readStep_154 : decode cX12_readStep 154 = .ok (.aload_n 0, 1) := by decide +kernel
theorem dX12_readStep_155 : decode cX12_readStep 155 = .ok (.iload_n 3, 1) := by decide +kernel
theorem dX12_readStep_156 : decode cX12_readStep 156 = .ok (.invokestatic 141, 3) := by decide +kernel
theorem dX12_readStep_159 : decode cX12_readStep 159 = .ok (.iload_n 3, 1) := by decide +kernel
theorem dX12_readStep_160 : decode cX12_readStep 160 = .ok (.invokestatic 144, 3) := by decide +kernel
theorem dX12_readStep_163 : decode cX12_readStep 163 = .ok (.invokevirtual 147, 3) := by decide +kernel
theorem dX12_readStep_166 : decode cX12_readStep 166 = .ok (.iastore, 1) := by decide +kernel
theorem dX12_readStep_167 : decode cX12_readStep 167 = .ok (.iinc 3 1, 3) := by decide +kernel
theorem dX12_readStep_170 : decode cX12_readStep 170 = .ok (.goto (-55), 3) := by decide +kernel
theorem dX12_readStep_173 : decode cX12_readStep 173 = .ok (.return_, 1) := by decide +kernel
theorem dX12_readScript_0 : decode cX12_readScript 0 = .ok (.iconst 0, 1) := by decide +kernel
theorem dX12_readScript_1 : decode cX12_readScript 1 = .ok (.istore_n 1, 1) := by decide +kernel
theorem dX12_readScript_2 : decode cX12_readScript 2 = .ok (.iconst 1, 1) := by decide +kernel
theorem dX12_readScript_3 : decode cX12_readScript 3 = .ok (.istore_n 2, 1) := by decide +kernel
theorem dX12_readScript_4 : decode cX12_readScript 4 = .ok (.iload_n 2, 1) := by decide +kernel
theorem dX12_readScript_5 : decode cX12_readScript 5 = .ok (.ifCond .eq 72, 3) := by decide +kernel
theorem dX12_readScript_8 : decode cX12_readScript 8 = .ok (.aload_n 0, 1) := by decide +kernel
theorem dX12_readScript_9 : decode cX12_readScript 9 = .ok (.iconst 4, 1) := by decide +kernel
theorem dX12_readScript_10 : decode cX12_readScript 10 = .ok (.bipush 64, 2) := by decide +kernel
theorem dX12_readScript_12 : decode cX12_readScript 12 = .ok (.iload_n 1, 1) := by decide +kernel
theorem dX12_readScript_13 : decode cX12_readScript 13 = .ok (.iadd, 1) := by decide +kernel
theorem dX12_readScript_14 : decode cX12_readScript 14 = .ok (.imul, 1) := by decide +kernel
theorem dX12_readScript_15 : decode cX12_readScript 15 = .ok (.invokevirtual 180, 3) := by decide +kernel
theorem dX12_readScript_18 : decode cX12_readScript 18 = .ok (.aload_n 0, 1) := by decide +kernel
theorem dX12_readScript_19 : decode cX12_readScript 19 = .ok (.getfield 101, 3) := by decide +kernel
theorem dX12_readScript_22 : decode cX12_readScript 22 = .ok (.iconst (-1), 1) := by decide +kernel
theorem dX12_readScript_23 : decode cX12_readScript 23 = .ok (.if_icmp .eq 4, 3) := by decide +kernel
theorem dX12_readScript_26 : decode cX12_readScript 26 = .ok (.return_, 1) := by decide +kernel
theorem dX12_readScript_27 : decode cX12_readScript 27 = .ok (.iinc 1 1, 3) := by decide +kernel
theorem dX12_readScript_30 : decode cX12_readScript 30 = .ok (.aload_n 0, 1) := by decide +kernel
theorem dX12_readScript_31 : decode cX12_readScript 31 = .ok (.invokevirtual 112, 3) := by decide +kernel
theorem dX12_readScript_34 : decode cX12_readScript 34 = .ok (.bipush 59, 2) := by decide +kernel
theorem dX12_readScript_36 : decode cX12_readScript 36 = .ok (.if_icmp .ne 7, 3) := by decide +kernel
theorem dX12_readScript_39 : decode cX12_readScript 39 = .ok (.iconst 1, 1) := by decide +kernel
theorem dX12_readScript_40 : decode cX12_readScript 40 = .ok (.goto 4, 3) := by decide +kernel
theorem dX12_readScript_43 : decode cX12_readScript 43 = .ok (.iconst 0, 1) := by decide +kernel
theorem dX12_readScript_44 : decode cX12_readScript 44 = .ok (.istore_n 2, 1) := by decide +kernel
theorem dX12_readScript_45 : decode cX12_readScript 45 = .ok (.iload_n 2, 1) := by decide +kernel
theorem dX12_readScript_46 : decode cX12_readScript 46 = .ok (.ifCond .eq 14, 3) := by decide +kernel
theorem dX12_readScript_49 : decode cX12_readScript 49 = .ok (.iload_n 1, 1) := by decide +kernel
theorem dX12_readScript_50 : decode cX12_readScript 50 = .ok (.bipush 16, 2) := by decide +kernel
theorem dX12_readScript_52 : decode cX12_readScript 52 = .ok (.if_icmp .ne 8, 3) := by decide +kernel
theorem dX12_readScript_55 : decode cX12_readScript 55 = .ok (.aload_n 0, 1) := by decide +kernel
theorem dX12_readScript_56 : decode cX12_readScript 56 = .ok (.invokevirtual 119, 3) := by decide +kernel
theorem dX12_readScript_59 : decode cX12_readScript 59 = .ok (.return_, 1) := by decide +kernel
theorem dX12_readScript_60 : decode cX12_readScript 60 = .ok (.iload_n 2, 1) := by decide +kernel
theorem dX12_readScript_61 : decode cX12_readScript 61 = .ok (.ifCond .eq (-57), 3) := by decide +kernel
theorem dX12_readScript_64 : decode cX12_readScript 64 = .ok (.aload_n 0, 1) := by decide +kernel
theorem dX12_readScript_65 : decode cX12_readScript 65 = .ok (.dup, 1) := by decide +kernel
theorem dX12_readScript_66 : decode cX12_readScript 66 = .ok (.getfield 94, 3) := by decide +kernel
theorem dX12_readScript_69 : decode cX12_readScript 69 = .ok (.iconst 1, 1) := by decide +kernel
theorem dX12_readScript_70 : decode cX12_readScript 70 = .ok (.iadd, 1) := by decide +kernel
theorem dX12_readScript_71 : decode cX12_readScript 71 = .ok (.putfield 94, 3) := by decide +kernel
theorem dX12_readScript_74 : decode cX12_readScript 74 = .ok (.goto (-70), 3) := by decide +kernel
theorem dX12_readScript_77 : decode cX12_readScript 77 = .ok (.aload_n 0, 1) := by decide +kernel
theorem dX12_readScript_78 : decode cX12_readScript 78 = .ok (.getfield 32, 3) := by decide +kernel
theorem dX12_readScript_81 : decode cX12_readScript 81 = .ok (.iconst 4, 1) := by decide +kernel
theorem dX12_readScript_82 : decode cX12_readScript 82 = .ok (.iload_n 1, 1) := by decide +kernel
theorem dX12_readScript_83 : decode cX12_readScript 83 = .ok (.iastore, 1) := by decide +kernel
theorem dX12_readScript_84 : decode cX12_readScript 84 = .ok (.aload_n 0, 1) := by decide +kernel
theorem dX12_readScript_85 : decode cX12_readScript 85 = .ok (.invokevirtual 112, 3) := by decide +kernel
theorem dX12_readScript_88 : decode cX12_readScript 88 = .ok (.iconst (-1), 1) := by decide +kernel
theorem dX12_readScript_89 : decode cX12_readScript 89 = .ok (.if_icmp .eq 7, 3) := by decide +kernel
theorem dX12_readScript_92 : decode cX12_readScript 92 = .ok (.aload_n 0, 1) := by decide +kernel
theorem dX12_readScript_93 : decode cX12_readScript 93 = .ok (.invokevirtual 119, 3) := by decide +kernel
theorem dX12_readScript_96 : decode cX12_readScript 96 = .ok (.return_, 1) := by decide +kernel
theorem dX12_fault_0 : decode cX12_fault 0 = .ok (.aload_n 0, 1) := by decide +kernel
theorem dX12_fault_1 : decode cX12_fault 1 = .ok (.iconst 0, 1) := by decide +kernel
theorem dX12_fault_2 : decode cX12_fault 2 = .ok (.putfield 79, 3) := by decide +kernel
theorem dX12_fault_5 : decode cX12_fault 5 = .ok (.iload_n 1, 1) := by decide +kernel
theorem dX12_fault_6 : decode cX12_fault 6 = .ok (.i2l, 1) := by decide +kernel
theorem dX12_fault_7 : decode cX12_fault 7 = .ok (.lconst 0, 1) := by decide +kernel
theorem dX12_fault_8 : decode cX12_fault 8 = .ok (.lconst 1, 1) := by decide +kernel
theorem dX12_fault_9 : decode cX12_fault 9 = .ok (.invokestatic 122, 3) := by decide +kernel
theorem dX12_fault_12 : decode cX12_fault 12 = .ok (.ifCond .ne 6, 3) := by decide +kernel
theorem dX12_fault_15 : decode cX12_fault 15 = .ok (.bipush (-2), 2) := by decide +kernel
theorem dX12_fault_17 : decode cX12_fault 17 = .ok (.ireturn, 1) := by decide +kernel
theorem dX12_fault_18 : decode cX12_fault 18 = .ok (.aload_n 0, 1) := by decide +kernel
theorem dX12_fault_19 : decode cX12_fault 19 = .ok (.iconst 0, 1) := by decide +kernel
theorem dX12_fault_20 : decode cX12_fault 20 = .ok (.putfield 94, 3) := by decide +kernel
theorem dX12_fault_23 : decode cX12_fault 23 = .ok (.aload_n 0, 1) := by decide +kernel
theorem dX12_fault_24 : decode cX12_fault 24 = .ok (.iconst (-1), 1) := by decide +kernel
theorem dX12_fault_25 : decode cX12_fault 25 = .ok (.putfield 101, 3) := by decide +kernel
theorem dX12_fault_28 : decode cX12_fault 28 = .ok (.iload_n 1, 1) := by decide +kernel
theorem dX12_fault_29 : decode cX12_fault 29 = .ok (.ifCond .ne 10, 3) := by decide +kernel
theorem dX12_fault_32 : decode cX12_fault 32 = .ok (.aload_n 0, 1) := by decide +kernel
theorem dX12_fault_33 : decode cX12_fault 33 = .ok (.invokevirtual 183, 3) := by decide +kernel
theorem dX12_fault_36 : decode cX12_fault 36 = .ok (.goto 7, 3) := by decide +kernel
theorem dX12_fault_39 : decode cX12_fault 39 = .ok (.aload_n 0, 1) := by decide +kernel
theorem dX12_fault_40 : decode cX12_fault 40 = .ok (.invokevirtual 186, 3) := by decide +kernel
theorem dX12_fault_43 : decode cX12_fault 43 = .ok (.aload_n 0, 1) := by decide +kernel
theorem dX12_fault_44 : decode cX12_fault 44 = .ok (.getfield 101, 3) := by decide +kernel
theorem dX12_fault_47 : decode cX12_fault 47 = .ok (.ireturn, 1) := by decide +kernel
theorem dX12_copyAll_0 : decode cX12_copyAll 0 = .ok (.iconst 0, 1) := by decide +kernel
theorem dX12_copyAll_1 : decode cX12_copyAll 1 = .ok (.istore_n 2, 1) := by decide +kernel
theorem dX12_copyAll_2 : decode cX12_copyAll 2 = .ok (.iload_n 2, 1) := by decide +kernel
theorem dX12_copyAll_3 : decode cX12_copyAll 3 = .ok (.aload_n 0, 1) := by decide +kernel
theorem dX12_copyAll_4 : decode cX12_copyAll 4 = .ok (.arraylength, 1) := by decide +kernel
theorem dX12_copyAll_5 : decode cX12_copyAll 5 = .ok (.if_icmp .ge 15, 3) := by decide +kernel
theorem dX12_copyAll_8 : decode cX12_copyAll 8 = .ok (.aload_n 1, 1) := by decide +kernel
theorem dX12_copyAll_9 : decode cX12_copyAll 9 = .ok (.iload_n 2, 1) := by decide +kernel
theorem dX12_copyAll_10 : decode cX12_copyAll 10 = .ok (.aload_n 0, 1) := by decide +kernel
theorem dX12_copyAll_11 : decode cX12_copyAll 11 = .ok (.iload_n 2, 1) := by decide +kernel
theorem dX12_copyAll_12 : decode cX12_copyAll 12 = .ok (.iaload, 1) := by decide +kernel
theorem dX12_copyAll_13 : decode cX12_copyAll 13 = .ok (.iastore, 1) := by decide +kernel
theorem dX12_copyAll_14 : decode cX12_copyAll 14 = .ok (.iinc 2 1, 3) := by decide +kernel
theorem dX12_copyAll_17 : decode cX12_copyAll 17 = .ok (.goto (-15), 3) := by decide +kernel
theorem dX12_copyAll_20 : decode cX12_copyAll 20 = .ok (.return_, 1) := by decide +kernel
theorem dX12_laysWays_0 : decode cX12_laysWays 0 = .ok (.iconst 0, 1) := by decide +kernel
theorem dX12_laysWays_1 : decode cX12_laysWays 1 = .ok (.istore_n 1, 1) := by decide +kernel
theorem dX12_laysWays_2 : decode cX12_laysWays 2 = .ok (.iload_n 1, 1) := by decide +kernel
theorem dX12_laysWays_3 : decode cX12_laysWays 3 = .ok (.aload_n 0, 1) := by decide +kernel
theorem dX12_laysWays_4 : decode cX12_laysWays 4 = .ok (.getfield 189, 3) := by decide +kernel
theorem dX12_laysWays_7 : decode cX12_laysWays 7 = .ok (.if_icmp .ge 93, 3) := by decide +kernel
theorem dX12_laysWays_10 : decode cX12_laysWays 10 = .ok (.bipush 7, 2) := by decide +kernel
theorem dX12_laysWays_12 : decode cX12_laysWays 12 = .ok (.iload_n 1, 1) := by decide +kernel
theorem dX12_laysWays_13 : decode cX12_laysWays 13 = .ok (.imul, 1) := by decide +kernel
theorem dX12_laysWays_14 : decode cX12_laysWays 14 = .ok (.istore_n 2, 1) := by decide +kernel
theorem dX12_laysWays_15 : decode cX12_laysWays 15 = .ok (.aload_n 0, 1) := by decide +kernel
theorem dX12_laysWays_16 : decode cX12_laysWays 16 = .ok (.getfield 26, 3) := by decide +kernel
theorem dX12_laysWays_19 : decode cX12_laysWays 19 = .ok (.iconst 3, 1) := by decide +kernel
theorem dX12_laysWays_20 : decode cX12_laysWays 20 = .ok (.iload_n 1, 1) := by decide +kernel
theorem dX12_laysWays_21 : decode cX12_laysWays 21 = .ok (.imul, 1) := by decide +kernel
theorem dX12_laysWays_22 : decode cX12_laysWays 22 = .ok (.aload_n 0, 1) := by decide +kernel
theorem dX12_laysWays_23 : decode cX12_laysWays 23 = .ok (.getfield 23, 3) := by decide +kernel
theorem dX12_laysWays_26 : decode cX12_laysWays 26 = .ok (.iload_n 2, 1) := by decide +kernel
theorem dX12_laysWays_27 : decode cX12_laysWays 27 = .ok (.iconst 3, 1) := by decide +kernel
theorem dX12_laysWays_28 : decode cX12_laysWays 28 = .ok (.iadd, 1) := by decide +kernel
theorem dX12_laysWays_29 : decode cX12_laysWays 29 = .ok (.iaload, 1) := by decide +kernel
theorem dX12_laysWays_30 : decode cX12_laysWays 30 = .ok (.iastore, 1) := by decide +kernel
theorem dX12_laysWays_31 : decode cX12_laysWays 31 = .ok (.aload_n 0, 1) := by decide +kernel
theorem dX12_laysWays_32 : decode cX12_laysWays 32 = .ok (.getfield 26, 3) := by decide +kernel
theorem dX12_laysWays_35 : decode cX12_laysWays 35 = .ok (.iconst 3, 1) := by decide +kernel
theorem dX12_laysWays_36 : decode cX12_laysWays 36 = .ok (.iload_n 1, 1) := by decide +kernel
theorem dX12_laysWays_37 : decode cX12_laysWays 37 = .ok (.imul, 1) := by decide +kernel
theorem dX12_laysWays_38 : decode cX12_laysWays 38 = .ok (.iconst 1, 1) := by decide +kernel
theorem dX12_laysWays_39 : decode cX12_laysWays 39 = .ok (.iadd, 1) := by decide +kernel
theorem dX12_laysWays_40 : decode cX12_laysWays 40 = .ok (.aload_n 0, 1) := by decide +kernel
theorem dX12_laysWays_41 : decode cX12_laysWays 41 = .ok (.getfield 23, 3) := by decide +kernel
theorem dX12_laysWays_44 : decode cX12_laysWays 44 = .ok (.iload_n 2, 1) := by decide +kernel
theorem dX12_laysWays_45 : decode cX12_laysWays 45 = .ok (.iconst 4, 1) := by decide +kernel
theorem dX12_laysWays_46 : decode cX12_laysWays 46 = .ok (.iadd, 1) := by decide +kernel
theorem dX12_laysWays_47 : decode cX12_laysWays 47 = .ok (.iaload, 1) := by decide +kernel
theorem dX12_laysWays_48 : decode cX12_laysWays 48 = .ok (.iastore, 1) := by decide +kernel
theorem dX12_laysWays_49 : decode cX12_laysWays 49 = .ok (.aload_n 0, 1) := by decide +kernel
theorem dX12_laysWays_50 : decode cX12_laysWays 50 = .ok (.getfield 26, 3) := by decide +kernel
theorem dX12_laysWays_53 : decode cX12_laysWays 53 = .ok (.iconst 3, 1) := by decide +kernel
theorem dX12_laysWays_54 : decode cX12_laysWays 54 = .ok (.iload_n 1, 1) := by decide +kernel
theorem dX12_laysWays_55 : decode cX12_laysWays 55 = .ok (.imul, 1) := by decide +kernel
theorem dX12_laysWays_56 : decode cX12_laysWays 56 = .ok (.iconst 2, 1) := by decide +kernel
theorem dX12_laysWays_57 : decode cX12_laysWays 57 = .ok (.iadd, 1) := by decide +kernel
theorem dX12_laysWays_58 : decode cX12_laysWays 58 = .ok (.aload_n 0, 1) := by decide +kernel
theorem dX12_laysWays_59 : decode cX12_laysWays 59 = .ok (.getfield 23, 3) := by decide +kernel
theorem dX12_laysWays_62 : decode cX12_laysWays 62 = .ok (.iload_n 2, 1) := by decide +kernel
theorem dX12_laysWays_63 : decode cX12_laysWays 63 = .ok (.iconst 1, 1) := by decide +kernel
theorem dX12_laysWays_64 : decode cX12_laysWays 64 = .ok (.iadd, 1) := by decide +kernel
theorem dX12_laysWays_65 : decode cX12_laysWays 65 = .ok (.iaload, 1) := by decide +kernel
theorem dX12_laysWays_66 : decode cX12_laysWays 66 = .ok (.aload_n 0, 1) := by decide +kernel
theorem dX12_laysWays_67 : decode cX12_laysWays 67 = .ok (.getfield 23, 3) := by decide +kernel
theorem dX12_laysWays_70 : decode cX12_laysWays 70 = .ok (.iload_n 2, 1) := by decide +kernel
theorem dX12_laysWays_71 : decode cX12_laysWays 71 = .ok (.iconst 4, 1) := by decide +kernel
theorem dX12_laysWays_72 : decode cX12_laysWays 72 = .ok (.iadd, 1) := by decide +kernel
theorem dX12_laysWays_73 : decode cX12_laysWays 73 = .ok (.iaload, 1) := by decide +kernel
theorem dX12_laysWays_74 : decode cX12_laysWays 74 = .ok (.imul, 1) := by decide +kernel
theorem dX12_laysWays_75 : decode cX12_laysWays 75 = .ok (.aload_n 0, 1) := by decide +kernel
theorem dX12_laysWays_76 : decode cX12_laysWays 76 = .ok (.getfield 23, 3) := by decide +kernel
theorem dX12_laysWays_79 : decode cX12_laysWays 79 = .ok (.iload_n 2, 1) := by decide +kernel
theorem dX12_laysWays_80 : decode cX12_laysWays 80 = .ok (.iconst 2, 1) := by decide +kernel
theorem dX12_laysWays_81 : decode cX12_laysWays 81 = .ok (.iadd, 1) := by decide +kernel
theorem dX12_laysWays_82 : decode cX12_laysWays 82 = .ok (.iaload, 1) := by decide +kernel
theorem dX12_laysWays_83 : decode cX12_laysWays 83 = .ok (.aload_n 0, 1) := by decide +kernel
theorem dX12_laysWays_84 : decode cX12_laysWays 84 = .ok (.getfield 23, 3) := by decide +kernel
theorem dX12_laysWays_87 : decode cX12_laysWays 87 = .ok (.iload_n 2, 1) := by decide +kernel
theorem dX12_laysWays_88 : decode cX12_laysWays 88 = .ok (.iconst 3, 1) := by decide +kernel
theorem dX12_laysWays_89 : decode cX12_laysWays 89 = .ok (.iadd, 1) := by decide +kernel
theorem dX12_laysWays_90 : decode cX12_laysWays 90 = .ok (.iaload, 1) := by decide +kernel
theorem dX12_laysWays_91 : decode cX12_laysWays 91 = .ok (.imul, 1) := by decide +kernel
theorem dX12_laysWays_92 : decode cX12_laysWays 92 = .ok (.isub, 1) := by decide +kernel
theorem dX12_laysWays_93 : decode cX12_laysWays 93 = .ok (.iastore, 1) := by decide +kernel
theorem dX12_laysWays_94 : decode cX12_laysWays 94 = .ok (.iinc 1 1, 3) := by decide +kernel
theorem dX12_laysWays_97 : decode cX12_laysWays 97 = .ok (.goto (-95), 3) := by decide +kernel
theorem dX12_laysWays_100 : decode cX12_laysWays 100 = .ok (.return_, 1) := by decide +kernel
theorem dX12_text_0 : decode cX12_text 0 = .ok (.aload_n 0, 1) := by decide +kernel
theorem dX12_text_1 : decode cX12_text 1 = .ok (.iconst 0, 1) := by decide +kernel
theorem dX12_text_2 : decode cX12_text 2 = .ok (.putfield 79, 3) := by decide +kernel
theorem dX12_text_5 : decode cX12_text 5 = .ok (.iload_n 1, 1) := by decide +kernel
theorem dX12_text_6 : decode cX12_text 6 = .ok (.i2l, 1) := by decide +kernel
theorem dX12_text_7 : decode cX12_text 7 = .ok (.lconst 0, 1) := by decide +kernel
theorem dX12_text_8 : decode cX12_text 8 = .ok (.lconst 1, 1) := by decide +kernel
theorem dX12_text_9 : decode cX12_text 9 = .ok (.invokestatic 122, 3) := by decide +kernel
theorem dX12_text_12 : decode cX12_text 12 = .ok (.ifCond .eq 25, 3) := by decide +kernel
theorem dX12_text_15 : decode cX12_text 15 = .ok (.iload_n 1, 1) := by decide +kernel
theorem dX12_text_16 : decode cX12_text 16 = .ok (.iconst 1, 1) := by decide +kernel
theorem dX12_text_17 : decode cX12_text 17 = .ok (.if_icmp .ne 11, 3) := by decide +kernel
theorem dX12_text_20 : decode cX12_text 20 = .ok (.aload_n 0, 1) := by decide +kernel
theorem dX12_text_21 : decode cX12_text 21 = .ok (.getfield 192, 3) := by decide +kernel
theorem dX12_text_24 : decode cX12_text 24 = .ok (.iconst 4, 1) := by decide +kernel
theorem dX12_text_25 : decode cX12_text 25 = .ok (.if_icmp .eq 12, 3) := by decide +kernel
theorem dX12_text_28 : decode cX12_text 28 = .ok (.aload_n 0, 1) := by decide +kernel
theorem dX12_text_29 : decode cX12_text 29 = .ok (.iload_n 1, 1) := by decide +kernel
theorem dX12_text_30 : decode cX12_text 30 = .ok (.invokevirtual 195, 3) := by decide +kernel
theorem dX12_text_33 : decode cX12_text 33 = .ok (.iconst (-1), 1) := by decide +kernel
theorem dX12_text_34 : decode cX12_text 34 = .ok (.if_icmp .eq 5, 3) := by decide +kernel
theorem dX12_text_37 : decode cX12_text 37 = .ok (.iconst (-1), 1) := by decide +kernel
theorem dX12_text_38 : decode cX12_text 38 = .ok (.ireturn, 1) := by decide +kernel
theorem dX12_text_39 : decode cX12_text 39 = .ok (.aload_n 0, 1) := by decide +kernel
theorem dX12_text_40 : decode cX12_text 40 = .ok (.iconst 0, 1) := by decide +kernel
theorem dX12_text_41 : decode cX12_text 41 = .ok (.putfield 83, 3) := by decide +kernel
theorem dX12_text_44 : decode cX12_text 44 = .ok (.iload_n 1, 1) := by decide +kernel
theorem dX12_text_45 : decode cX12_text 45 = .ok (.iconst 1, 1) := by decide +kernel
theorem dX12_text_46 : decode cX12_text 46 = .ok (.if_icmp .ne 73, 3) := by decide +kernel
theorem dX12_text_49 : decode cX12_text 49 = .ok (.iconst 0, 1) := by decide +kernel
theorem dX12_text_50 : decode cX12_text 50 = .ok (.istore_n 2, 1) := by decide +kernel
theorem dX12_text_51 : decode cX12_text 51 = .ok (.iload_n 2, 1) := by decide +kernel
theorem dX12_text_52 : decode cX12_text 52 = .ok (.bipush 64, 2) := by decide +kernel
theorem dX12_text_54 : decode cX12_text 54 = .ok (.if_icmp .ge 33, 3) := by decide +kernel
theorem dX12_text_57 : decode cX12_text 57 = .ok (.aload_n 0, 1) := by decide +kernel
theorem dX12_text_58 : decode cX12_text 58 = .ok (.getfield 29, 3) := by decide +kernel
theorem dX12_text_61 : decode cX12_text 61 = .ok (.bipush 64, 2) := by decide +kernel
theorem dX12_text_63 : decode cX12_text 63 = .ok (.aload_n 0, 1) := by decide +kernel
theorem dX12_text_64 : decode cX12_text 64 = .ok (.getfield 192, 3) := by decide +kernel
theorem dX12_text_67 : decode cX12_text 67 = .ok (.imul, 1) := by decide +kernel
theorem dX12_text_68 : decode cX12_text 68 = .ok (.iload_n 2, 1) := by decide +kernel
theorem dX12_text_69 : decode cX12_text 69 = .ok (.iadd, 1) := by decide +kernel
theorem dX12_text_70 : decode cX12_text 70 = .ok (.aload_n 0, 1) := by decide +kernel
theorem dX12_text_71 : decode cX12_text 71 = .ok (.getfield 29, 3) := by decide +kernel
theorem dX12_text_74 : decode cX12_text 74 = .ok (.sipush 256, 3) := by decide +kernel
theorem dX12_text_77 : decode cX12_text 77 = .ok (.iload_n 2, 1) := by decide +kernel
theorem dX12_text_78 : decode cX12_text 78 = .ok (.iadd, 1) := by decide +kernel
theorem dX12_text_79 : decode cX12_text 79 = .ok (.iaload, 1) := by decide +kernel
theorem dX12_text_80 : decode cX12_text 80 = .ok (.iastore, 1) := by decide +kernel
theorem dX12_text_81 : decode cX12_text 81 = .ok (.iinc 2 1, 3) := by decide +kernel
theorem dX12_text_84 : decode cX12_text 84 = .ok (.goto (-33), 3) := by decide +kernel
theorem dX12_text_87 : decode cX12_text 87 = .ok (.aload_n 0, 1) := by decide +kernel
theorem dX12_text_88 : decode cX12_text 88 = .ok (.getfield 32, 3) := by decide +kernel
theorem dX12_text_91 : decode cX12_text 91 = .ok (.aload_n 0, 1) := by decide +kernel
theorem dX12_text_92 : decode cX12_text 92 = .ok (.getfield 192, 3) := by decide +kernel
theorem dX12_text_95 : decode cX12_text 95 = .ok (.aload_n 0, 1) := by decide +kernel
theorem dX12_text_96 : decode cX12_text 96 = .ok (.getfield 32, 3) := by decide +kernel
theorem dX12_text_99 : decode cX12_text 99 = .ok (.iconst 4, 1) := by decide +kernel
theorem dX12_text_100 : decode cX12_text 100 = .ok (.iaload, 1) := by decide +kernel
theorem dX12_text_101 : decode cX12_text 101 = .ok (.iastore, 1) := by decide +kernel
theorem dX12_text_102 : decode cX12_text 102 = .ok (.aload_n 0, 1) := by decide +kernel
theorem dX12_text_103 : decode cX12_text 103 = .ok (.dup, 1) := by decide +kernel
theorem dX12_text_104 : decode cX12_text 104 = .ok (.getfield 192, 3) := by decide +kernel
theorem dX12_text_107 : decode cX12_text 107 = .ok (.iconst 1, 1) := by decide +kernel
theorem dX12_text_108 : decode cX12_text 108 = .ok (.iadd, 1) := by decide +kernel
theorem dX12_text_109 : decode cX12_text 109 = .ok (.putfield 192, 3) := by decide +kernel
theorem dX12_text_112 : decode cX12_text 112 = .ok (.aload_n 0, 1) := by decide +kernel
theorem dX12_text_113 : decode cX12_text 113 = .ok (.getfield 192, 3) := by decide +kernel
theorem dX12_text_116 : decode cX12_text 116 = .ok (.iconst 1, 1) := by decide +kernel
theorem dX12_text_117 : decode cX12_text 117 = .ok (.isub, 1) := by decide +kernel
theorem dX12_text_118 : decode cX12_text 118 = .ok (.ireturn, 1) := by decide +kernel
theorem dX12_text_119 : decode cX12_text 119 = .ok (.aload_n 0, 1) := by decide +kernel
theorem dX12_text_120 : decode cX12_text 120 = .ok (.getfield 189, 3) := by decide +kernel
theorem dX12_text_123 : decode cX12_text 123 = .ok (.istore_n 2, 1) := by decide +kernel
theorem dX12_text_124 : decode cX12_text 124 = .ok (.aload_n 0, 1) := by decide +kernel
theorem dX12_text_125 : decode cX12_text 125 = .ok (.getfield 23, 3) := by decide +kernel
theorem dX12_text_128 : decode cX12_text 128 = .ok (.aload_n 0, 1) := by decide +kernel
theorem dX12_text_129 : decode cX12_text 129 = .ok (.getfield 38, 3) := by decide +kernel
theorem dX12_text_132 : decode cX12_text 132 = .ok (.invokestatic 197, 3) := by decide +kernel
theorem dX12_text_135 : decode cX12_text 135 = .ok (.aload_n 0, 1) := by decide +kernel
theorem dX12_text_136 : decode cX12_text 136 = .ok (.getfield 17, 3) := by decide +kernel
theorem dX12_text_139 : decode cX12_text 139 = .ok (.aload_n 0, 1) := by decide +kernel
theorem dX12_text_140 : decode cX12_text 140 = .ok (.getfield 41, 3) := by decide +kernel
theorem dX12_text_143 : decode cX12_text 143 = .ok (.invokestatic 197, 3) := by decide +kernel
theorem dX12_text_146 : decode cX12_text 146 = .ok (.aload_n 0, 1) := by decide +kernel
theorem dX12_text_147 : decode cX12_text 147 = .ok (.getfield 20, 3) := by decide +kernel
theorem dX12_text_150 : decode cX12_text 150 = .ok (.aload_n 0, 1) := by decide +kernel
theorem dX12_text_151 : decode cX12_text 151 = .ok (.getfield 23, 3) := by decide +kernel
theorem dX12_text_154 : decode cX12_text 154 = .ok (.invokestatic 197, 3) := by decide +kernel
theorem dX12_text_157 : decode cX12_text 157 = .ok (.aload_n 0, 1) := by decide +kernel
theorem dX12_text_158 : decode cX12_text 158 = .ok (.getfield 13, 3) := by decide +kernel
theorem dX12_text_161 : decode cX12_text 161 = .ok (.aload_n 0, 1) := by decide +kernel
theorem dX12_text_162 : decode cX12_text 162 = .ok (.getfield 17, 3) := by decide +kernel
theorem dX12_text_165 : decode cX12_text 165 = .ok (.invokestatic 197, 3) := by decide +kernel
theorem dX12_text_168 : decode cX12_text 168 = .ok (.aload_n 0, 1) := by decide +kernel
theorem dX12_text_169 : decode cX12_text 169 = .ok (.aload_n 0, 1) := by decide +kernel
theorem dX12_text_170 : decode cX12_text 170 = .ok (.getfield 126, 3) := by decide +kernel
theorem dX12_text_173 : decode cX12_text 173 = .ok (.putfield 189, 3) := by decide +kernel
theorem dX12_text_176 : decode cX12_text 176 = .ok (.aload_n 0, 1) := by decide +kernel
theorem dX12_text_177 : decode cX12_text 177 = .ok (.invokevirtual 201, 3) := by decide +kernel
theorem dX12_text_180 : decode cX12_text 180 = .ok (.iconst 0, 1) := by decide +kernel
theorem dX12_text_181 : decode cX12_text 181 = .ok (.istore_n 3, 1) := by decide +kernel
theorem dX12_text_182 : decode cX12_text 182 = .ok (.iload_n 3, 1) := by decide +kernel
theorem dX12_text_183 : decode cX12_text 183 = .ok (.sipush 202, 3) := by decide +kernel
theorem dX12_text_186 : decode cX12_text 186 = .ok (.if_icmp .ge 16, 3) := by decide +kernel
theorem dX12_text_189 : decode cX12_text 189 = .ok (.aload_n 0, 1) := by decide +kernel
theorem dX12_text_190 : decode cX12_text 190 = .ok (.getfield 47, 3) := by decide +kernel
theorem dX12_text_193 : decode cX12_text 193 = .ok (.iload_n 3, 1) := by decide +kernel
theorem dX12_text_194 : decode cX12_text 194 = .ok (.iconst 0, 1) := by decide +kernel
theorem dX12_text_195 : decode cX12_text 195 = .ok (.iastore, 1) := by decide +kernel
theorem dX12_text_196 : decode cX12_text 196 = .ok (.iinc 3 1, 3) := by decide +kernel
theorem dX12_text_199 : decode cX12_text 199 = .ok (.goto (-17), 3) := by decide +kernel
theorem dX12_text_202 : decode cX12_text 202 = .ok (.iconst 0, 1) := by decide +kernel
theorem dX12_text_203 : decode cX12_text 203 = .ok (.istore_n 3, 1) := by decide +kernel
theorem dX12_text_204 : decode cX12_text 204 = .ok (.iload_n 3, 1) := by decide +kernel
theorem dX12_text_205 : decode cX12_text 205 = .ok (.aload_n 0, 1) := by decide +kernel
theorem dX12_text_206 : decode cX12_text 206 = .ok (.getfield 189, 3) := by decide +kernel
theorem dX12_text_209 : decode cX12_text 209 = .ok (.if_icmp .ge 28, 3) := by decide +kernel
theorem dX12_text_212 : decode cX12_text 212 = .ok (.aload_n 0, 1) := by decide +kernel
theorem dX12_text_213 : decode cX12_text 213 = .ok (.getfield 47, 3) := by decide +kernel
theorem dX12_text_216 : decode cX12_text 216 = .ok (.iconst 0, 1) := by decide +kernel
theorem dX12_text_217 : decode cX12_text 217 = .ok (.iload_n 3, 1) := by decide +kernel
theorem dX12_text_218 : decode cX12_text 218 = .ok (.iadd, 1) := by decide +kernel
theorem dX12_text_219 : decode cX12_text 219 = .ok (.aload_n 0, 1) := by decide +kernel
theorem dX12_text_220 : decode cX12_text 220 = .ok (.getfield 23, 3) := by decide +kernel
theorem dX12_text_223 : decode cX12_text 223 = .ok (.bipush 7, 2) := by decide +kernel
theorem dX12_text_225 : decode cX12_text 225 = .ok (.iload_n 3, 1) := by decide +kernel
theorem dX12_text_226 : decode cX12_text 226 = .ok (.imul, 1) := by decide +kernel
theorem dX12_text_227 : decode cX12_text 227 = .ok (.iconst 5, 1) := by decide +kernel
theorem dX12_text_228 : decode cX12_text 228 = .ok (.iadd, 1) := by decide +kernel
theorem dX12_text_229 : decode cX12_text 229 = .ok (.iaload, 1) := by decide +kernel
theorem dX12_text_230 : decode cX12_text 230 = .ok (.iastore, 1) := by decide +kernel
theorem dX12_text_231 : decode cX12_text 231 = .ok (.iinc 3 1, 3) := by decide +kernel
theorem dX12_text_234 : decode cX12_text 234 = .ok (.goto (-30), 3) := by decide +kernel
theorem dX12_text_237 : decode cX12_text 237 = .ok (.iconst 0, 1) := by decide +kernel
theorem dX12_text_238 : decode cX12_text 238 = .ok (.istore_n 3, 1) := by decide +kernel
theorem dX12_text_239 : decode cX12_text 239 = .ok (.iload_n 3, 1) := by decide +kernel
theorem dX12_text_240 : decode cX12_text 240 = .ok (.iconst 3, 1) := by decide +kernel
theorem dX12_text_241 : decode cX12_text 241 = .ok (.if_icmp .ge 26, 3) := by decide +kernel
theorem dX12_text_244 : decode cX12_text 244 = .ok (.aload_n 0, 1) := by decide +kernel
theorem dX12_text_245 : decode cX12_text 245 = .ok (.getfield 47, 3) := by decide +kernel
theorem dX12_text_248 : decode cX12_text 248 = .ok (.bipush 16, 2) := by decide +kernel
theorem dX12_text_250 : decode cX12_text 250 = .ok (.iload_n 3, 1) := by decide +kernel
theorem dX12_text_251 : decode cX12_text 251 = .ok (.iadd, 1) := by decide +kernel
theorem dX12_text_252 : decode cX12_text 252 = .ok (.aload_n 0, 1) := by decide +kernel
theorem dX12_text_253 : decode cX12_text 253 = .ok (.getfield 17, 3) := by decide +kernel
theorem dX12_text_256 : decode cX12_text 256 = .ok (.iconst 1, 1) := by decide +kernel
theorem dX12_text_257 : decode cX12_text 257 = .ok (.iload_n 3, 1) := by decide +kernel
theorem dX12_text_258 : decode cX12_text 258 = .ok (.iadd, 1) := by decide +kernel
theorem dX12_text_259 : decode cX12_text 259 = .ok (.iaload, 1) := by decide +kernel
theorem dX12_text_260 : decode cX12_text 260 = .ok (.iastore, 1) := by decide +kernel
theorem dX12_text_261 : decode cX12_text 261 = .ok (.iinc 3 1, 3) := by decide +kernel
theorem dX12_text_264 : decode cX12_text 264 = .ok (.goto (-25), 3) := by decide +kernel
theorem dX12_text_267 : decode cX12_text 267 = .ok (.aload_n 0, 1) := by decide +kernel
theorem dX12_text_268 : decode cX12_text 268 = .ok (.aload_n 0, 1) := by decide +kernel
theorem dX12_text_269 : decode cX12_text 269 = .ok (.getfield 47, 3) := by decide +kernel
theorem dX12_text_272 : decode cX12_text 272 = .ok (.invokevirtual 204, 3) := by decide +kernel
theorem dX12_text_275 : decode cX12_text 275 = .ok (.iconst (-1), 1) := by decide +kernel
theorem dX12_text_276 : decode cX12_text 276 = .ok (.if_icmp .eq 37, 3) := by decide +kernel
theorem dX12_text_279 : decode cX12_text 279 = .ok (.aload_n 0, 1) := by decide +kernel
theorem dX12_text_280 : decode cX12_text 280 = .ok (.getfield 38, 3) := by decide +kernel
theorem dX12_text_283 : decode cX12_text 283 = .ok (.aload_n 0, 1) := by decide +kernel
theorem dX12_text_284 : decode cX12_text 284 = .ok (.getfield 23, 3) := by decide +kernel
theorem dX12_text_287 : decode cX12_text 287 = .ok (.invokestatic 197, 3) := by decide +kernel
theorem dX12_text_290 : decode cX12_text 290 = .ok (.aload_n 0, 1) := by decide +kernel
theorem dX12_text_291 : decode cX12_text 291 = .ok (.getfield 41, 3) := by decide +kernel
theorem dX12_text_294 : decode cX12_text 294 = .ok (.aload_n 0, 1) := by decide +kernel
theorem dX12_text_295 : decode cX12_text 295 = .ok (.getfield 17, 3) := by decide +kernel
theorem dX12_text_298 : decode cX12_text 298 = .ok (.invokestatic 197, 3) := by decide +kernel
theorem dX12_text_301 : decode cX12_text 301 = .ok (.aload_n 0, 1) := by decide +kernel
theorem dX12_text_302 : decode cX12_text 302 = .ok (.iload_n 2, 1) := by decide +kernel
theorem dX12_text_303 : decode cX12_text 303 = .ok (.putfield 189, 3) := by decide +kernel
theorem dX12_text_306 : decode cX12_text 306 = .ok (.aload_n 0, 1) := by decide +kernel
theorem dX12_text_307 : decode cX12_text 307 = .ok (.invokevirtual 201, 3) := by decide +kernel
theorem dX12_text_310 : decode cX12_text 310 = .ok (.bipush (-2), 2) := by decide +kernel
theorem dX12_text_312 : decode cX12_text 312 = .ok (.ireturn, 1) := by decide +kernel
theorem dX12_text_313 : decode cX12_text 313 = .ok (.aload_n 0, 1) := by decide +kernel
theorem dX12_text_314 : decode cX12_text 314 = .ok (.getfield 47, 3) := by decide +kernel
theorem dX12_text_317 : decode cX12_text 317 = .ok (.iconst 0, 1) := by decide +kernel
theorem dX12_text_318 : decode cX12_text 318 = .ok (.aload_n 0, 1) := by decide +kernel
theorem dX12_text_319 : decode cX12_text 319 = .ok (.getfield 44, 3) := by decide +kernel
theorem dX12_text_322 : decode cX12_text 322 = .ok (.iconst 0, 1) := by decide +kernel
theorem dX12_text_323 : decode cX12_text 323 = .ok (.invokestatic 208, 3) := by decide +kernel
theorem dX12_text_326 : decode cX12_text 326 = .ok (.aload_n 0, 1) := by decide +kernel
theorem dX12_text_327 : decode cX12_text 327 = .ok (.iconst 0, 1) := by decide +kernel
theorem dX12_text_328 : decode cX12_text 328 = .ok (.putfield 212, 3) := by decide +kernel
theorem dX12_text_331 : decode cX12_text 331 = .ok (.aload_n 0, 1) := by decide +kernel
theorem dX12_text_332 : decode cX12_text 332 = .ok (.iconst 0, 1) := by decide +kernel
theorem dX12_text_333 : decode cX12_text 333 = .ok (.putfield 215, 3) := by decide +kernel
theorem dX12_text_336 : decode cX12_text 336 = .ok (.aload_n 0, 1) := by decide +kernel
theorem dX12_text_337 : decode cX12_text 337 = .ok (.getfield 189, 3) := by decide +kernel
theorem dX12_text_340 : decode cX12_text 340 = .ok (.ireturn, 1) := by decide +kernel
theorem dX12_copyRow_0 : decode cX12_copyRow 0 = .ok (.iconst 0, 1) := by decide +kernel
theorem dX12_copyRow_1 : decode cX12_copyRow 1 = .ok (.istore 4, 2) := by decide +kernel
theorem dX12_copyRow_3 : decode cX12_copyRow 3 = .ok (.iload 4, 2) := by decide +kernel
theorem dX12_copyRow_5 : decode cX12_copyRow 5 = .ok (.sipush 202, 3) := by decide +kernel
theorem dX12_copyRow_8 : decode cX12_copyRow 8 = .ok (.if_icmp .ge 21, 3) := by decide +kernel
theorem dX12_copyRow_11 : decode cX12_copyRow 11 = .ok (.aload_n 2, 1) := by decide +kernel
theorem dX12_copyRow_12 : decode cX12_copyRow 12 = .ok (.iload_n 3, 1) := by decide +kernel
theorem dX12_copyRow_13 : decode cX12_copyRow 13 = .ok (.iload 4, 2) := by decide +kernel
theorem dX12_copyRow_15 : decode cX12_copyRow 15 = .ok (.iadd, 1) := by decide +kernel
theorem dX12_copyRow_16 : decode cX12_copyRow 16 = .ok (.aload_n 0, 1) := by decide +kernel
theorem dX12_copyRow_17 : decode cX12_copyRow 17 = .ok (.iload_n 1, 1) := by decide +kernel
theorem dX12_copyRow_18 : decode cX12_copyRow 18 = .ok (.iload 4, 2) := by decide +kernel
theorem dX12_copyRow_20 : decode cX12_copyRow 20 = .ok (.iadd, 1) := by decide +kernel
theorem dX12_copyRow_21 : decode cX12_copyRow 21 = .ok (.iaload, 1) := by decide +kernel
theorem dX12_copyRow_22 : decode cX12_copyRow 22 = .ok (.iastore, 1) := by decide +kernel
theorem dX12_copyRow_23 : decode cX12_copyRow 23 = .ok (.iinc 4 1, 3) := by decide +kernel
theorem dX12_copyRow_26 : decode cX12_copyRow 26 = .ok (.goto (-23), 3) := by decide +kernel
theorem dX12_copyRow_29 : decode cX12_copyRow 29 = .ok (.return_, 1) := by decide +kernel
theorem dX12_isFree_0 : decode cX12_isFree 0 = .ok (.aload_n 0, 1) := by decide +kernel
theorem dX12_isFree_1 : decode cX12_isFree 1 = .ok (.getfield 17, 3) := by decide +kernel
theorem dX12_isFree_4 : decode cX12_isFree 4 = .ok (.iconst 0, 1) := by decide +kernel
theorem dX12_isFree_5 : decode cX12_isFree 5 = .ok (.iaload, 1) := by decide +kernel
theorem dX12_isFree_6 : decode cX12_isFree 6 = .ok (.iload_n 1, 1) := by decide +kernel
theorem dX12_isFree_7 : decode cX12_isFree 7 = .ok (.invokestatic 137, 3) := by decide +kernel
theorem dX12_isFree_10 : decode cX12_isFree 10 = .ok (.ireturn, 1) := by decide +kernel
theorem dX12_stiffness_0 : decode cX12_stiffness 0 = .ok (.aload_n 0, 1) := by decide +kernel
theorem dX12_stiffness_1 : decode cX12_stiffness 1 = .ok (.getfield 23, 3) := by decide +kernel
theorem dX12_stiffness_4 : decode cX12_stiffness 4 = .ok (.bipush 7, 2) := by decide +kernel
theorem dX12_stiffness_6 : decode cX12_stiffness 6 = .ok (.iload_n 1, 1) := by decide +kernel
theorem dX12_stiffness_7 : decode cX12_stiffness 7 = .ok (.imul, 1) := by decide +kernel
theorem dX12_stiffness_8 : decode cX12_stiffness 8 = .ok (.iaload, 1) := by decide +kernel
theorem dX12_stiffness_9 : decode cX12_stiffness 9 = .ok (.ireturn, 1) := by decide +kernel
theorem dX12_strength_0 : decode cX12_strength 0 = .ok (.aload_n 0, 1) := by decide +kernel
theorem dX12_strength_1 : decode cX12_strength 1 = .ok (.getfield 23, 3) := by decide +kernel
theorem dX12_strength_4 : decode cX12_strength 4 = .ok (.bipush 7, 2) := by decide +kernel
theorem dX12_strength_6 : decode cX12_strength 6 = .ok (.iload_n 1, 1) := by decide +kernel
theorem dX12_strength_7 : decode cX12_strength 7 = .ok (.imul, 1) := by decide +kernel
theorem dX12_strength_8 : decode cX12_strength 8 = .ok (.bipush 6, 2) := by decide +kernel
theorem dX12_strength_10 : decode cX12_strength 10 = .ok (.iadd, 1) := by decide +kernel
theorem dX12_strength_11 : decode cX12_strength 11 = .ok (.iaload, 1) := by decide +kernel
theorem dX12_strength_12 : decode cX12_strength 12 = .ok (.ireturn, 1) := by decide +kernel
theorem dX12_minor_0 : decode cX12_minor 0 = .ok (.aload_n 0, 1) := by decide +kernel
theorem dX12_minor_1 : decode cX12_minor 1 = .ok (.getfield 56, 3) := by decide +kernel
theorem dX12_minor_4 : decode cX12_minor 4 = .ok (.iload_n 1, 1) := by decide +kernel
theorem dX12_minor_5 : decode cX12_minor 5 = .ok (.laload, 1) := by decide +kernel
theorem dX12_minor_6 : decode cX12_minor 6 = .ok (.aload_n 0, 1) := by decide +kernel
theorem dX12_minor_7 : decode cX12_minor 7 = .ok (.getfield 56, 3) := by decide +kernel
theorem dX12_minor_10 : decode cX12_minor 10 = .ok (.iload 4, 2) := by decide +kernel
theorem dX12_minor_12 : decode cX12_minor 12 = .ok (.laload, 1) := by decide +kernel
theorem dX12_minor_13 : decode cX12_minor 13 = .ok (.lmul, 1) := by decide +kernel
theorem dX12_minor_14 : decode cX12_minor 14 = .ok (.aload_n 0, 1) := by decide +kernel
theorem dX12_minor_15 : decode cX12_minor 15 = .ok (.getfield 56, 3) := by decide +kernel
theorem dX12_minor_18 : decode cX12_minor 18 = .ok (.iload_n 2, 1) := by decide +kernel
theorem dX12_minor_19 : decode cX12_minor 19 = .ok (.laload, 1) := by decide +kernel
theorem dX12_minor_20 : decode cX12_minor 20 = .ok (.aload_n 0, 1) := by decide +kernel
theorem dX12_minor_21 : decode cX12_minor 21 = .ok (.getfield 56, 3) := by decide +kernel
theorem dX12_minor_24 : decode cX12_minor 24 = .ok (.iload_n 3, 1) := by decide +kernel
theorem dX12_minor_25 : decode cX12_minor 25 = .ok (.laload, 1) := by decide +kernel
theorem dX12_minor_26 : decode cX12_minor 26 = .ok (.lmul, 1) := by decide +kernel
theorem dX12_minor_27 : decode cX12_minor 27 = .ok (.lsub, 1) := by decide +kernel
theorem dX12_minor_28 : decode cX12_minor 28 = .ok (.lreturn, 1) := by decide +kernel
theorem dX12_determinant_0 : decode cX12_determinant 0 = .ok (.aload_n 0, 1) := by decide +kernel
theorem dX12_determinant_1 : decode cX12_determinant 1 = .ok (.getfield 56, 3) := by decide +kernel
theorem dX12_determinant_4 : decode cX12_determinant 4 = .ok (.iconst 0, 1) := by decide +kernel
theorem dX12_determinant_5 : decode cX12_determinant 5 = .ok (.laload, 1) := by decide +kernel
theorem dX12_determinant_6 : decode cX12_determinant 6 = .ok (.aload_n 0, 1) := by decide +kernel
theorem dX12_determinant_7 : decode cX12_determinant 7 = .ok (.iconst 4, 1) := by decide +kernel
theorem dX12_determinant_8 : decode cX12_determinant 8 = .ok (.iconst 5, 1) := by decide +kernel
theorem dX12_determinant_9 : decode cX12_determinant 9 = .ok (.bipush 7, 2) := by decide +kernel
theorem dX12_determinant_11 : decode cX12_determinant 11 = .ok (.bipush 8, 2) := by decide +kernel
theorem dX12_determinant_13 : decode cX12_determinant 13 = .ok (.invokevirtual 218, 3) := by decide +kernel
theorem dX12_determinant_16 : decode cX12_determinant 16 = .ok (.lmul, 1) := by decide +kernel
theorem dX12_determinant_17 : decode cX12_determinant 17 = .ok (.aload_n 0, 1) := by decide +kernel
theorem dX12_determinant_18 : decode cX12_determinant 18 = .ok (.getfield 56, 3) := by decide +kernel
theorem dX12_determinant_21 : decode cX12_determinant 21 = .ok (.iconst 1, 1) := by decide +kernel
theorem dX12_determinant_22 : decode cX12_determinant 22 = .ok (.laload, 1) := by decide +kernel
theorem dX12_determinant_23 : decode cX12_determinant 23 = .ok (.aload_n 0, 1) := by decide +kernel
theorem dX12_determinant_24 : decode cX12_determinant 24 = .ok (.iconst 3, 1) := by decide +kernel
theorem dX12_determinant_25 : decode cX12_determinant 25 = .ok (.iconst 5, 1) := by decide +kernel
theorem dX12_determinant_26 : decode cX12_determinant 26 = .ok (.bipush 6, 2) := by decide +kernel
theorem dX12_determinant_28 : decode cX12_determinant 28 = .ok (.bipush 8, 2) := by decide +kernel
theorem dX12_determinant_30 : decode cX12_determinant 30 = .ok (.invokevirtual 218, 3) := by decide +kernel
theorem dX12_determinant_33 : decode cX12_determinant 33 = .ok (.lmul, 1) := by decide +kernel
theorem dX12_determinant_34 : decode cX12_determinant 34 = .ok (.lsub, 1) := by decide +kernel
theorem dX12_determinant_35 : decode cX12_determinant 35 = .ok (.aload_n 0, 1) := by decide +kernel
theorem dX12_determinant_36 : decode cX12_determinant 36 = .ok (.getfield 56, 3) := by decide +kernel
theorem dX12_determinant_39 : decode cX12_determinant 39 = .ok (.iconst 2, 1) := by decide +kernel
theorem dX12_determinant_40 : decode cX12_determinant 40 = .ok (.laload, 1) := by decide +kernel
theorem dX12_determinant_41 : decode cX12_determinant 41 = .ok (.aload_n 0, 1) := by decide +kernel
theorem dX12_determinant_42 : decode cX12_determinant 42 = .ok (.iconst 3, 1) := by decide +kernel
theorem dX12_determinant_43 : decode cX12_determinant 43 = .ok (.iconst 4, 1) := by decide +kernel
theorem dX12_determinant_44 : decode cX12_determinant 44 = .ok (.bipush 6, 2) := by decide +kernel
theorem dX12_determinant_46 : decode cX12_determinant 46 = .ok (.bipush 7, 2) := by decide +kernel
theorem dX12_determinant_48 : decode cX12_determinant 48 = .ok (.invokevirtual 218, 3) := by decide +kernel
theorem dX12_determinant_51 : decode cX12_determinant 51 = .ok (.lmul, 1) := by decide +kernel
theorem dX12_determinant_52 : decode cX12_determinant 52 = .ok (.ladd, 1) := by decide +kernel
theorem dX12_determinant_53 : decode cX12_determinant 53 = .ok (.lreturn, 1) := by decide +kernel
theorem dX12_determinantBy_0 : decode cX12_determinantBy 0 = .ok (.aload_n 0, 1) := by decide +kernel
theorem dX12_determinantBy_1 : decode cX12_determinantBy 1 = .ok (.getfield 56, 3) := by decide +kernel
theorem dX12_determinantBy_4 : decode cX12_determinantBy 4 = .ok (.iload_n 1, 1) := by decide +kernel
theorem dX12_determinantBy_5 : decode cX12_determinantBy 5 = .ok (.laload, 1) := by decide +kernel
theorem dX12_determinantBy_6 : decode cX12_determinantBy 6 = .ok (.lstore_n 2, 1) := by decide +kernel
theorem dX12_determinantBy_7 : decode cX12_determinantBy 7 = .ok (.aload_n 0, 1) := by decide +kernel
theorem dX12_determinantBy_8 : decode cX12_determinantBy 8 = .ok (.getfield 56, 3) := by decide +kernel
theorem dX12_determinantBy_11 : decode cX12_determinantBy 11 = .ok (.iconst 3, 1) := by decide +kernel
theorem dX12_determinantBy_12 : decode cX12_determinantBy 12 = .ok (.iload_n 1, 1) := by decide +kernel
theorem dX12_determinantBy_13 : decode cX12_determinantBy 13 = .ok (.iadd, 1) := by decide +kernel
theorem dX12_determinantBy_14 : decode cX12_determinantBy 14 = .ok (.laload, 1) := by decide +kernel
theorem dX12_determinantBy_15 : decode cX12_determinantBy 15 = .ok (.lstore 4, 2) := by decide +kernel
theorem dX12_determinantBy_17 : decode cX12_determinantBy 17 = .ok (.aload_n 0, 1) := by decide +kernel
theorem dX12_determinantBy_18 : decode cX12_determinantBy 18 = .ok (.getfield 56, 3) := by decide +kernel
theorem dX12_determinantBy_21 : decode cX12_determinantBy 21 = .ok (.bipush 6, 2) := by decide +kernel
theorem dX12_determinantBy_23 : decode cX12_determinantBy 23 = .ok (.iload_n 1, 1) := by decide +kernel
theorem dX12_determinantBy_24 : decode cX12_determinantBy 24 = .ok (.iadd, 1) := by decide +kernel
theorem dX12_determinantBy_25 : decode cX12_determinantBy 25 = .ok (.laload, 1) := by decide +kernel
theorem dX12_determinantBy_26 : decode cX12_determinantBy 26 = .ok (.lstore 6, 2) := by decide +kernel
theorem dX12_determinantBy_28 : decode cX12_determinantBy 28 = .ok (.iconst 0, 1) := by decide +kernel
theorem dX12_determinantBy_29 : decode cX12_determinantBy 29 = .ok (.istore 8, 2) := by decide +kernel
theorem dX12_determinantBy_31 : decode cX12_determinantBy 31 = .ok (.iload 8, 2) := by decide +kernel
theorem dX12_determinantBy_33 : decode cX12_determinantBy 33 = .ok (.iconst 3, 1) := by decide +kernel
theorem dX12_determinantBy_34 : decode cX12_determinantBy 34 = .ok (.if_icmp .ge 27, 3) := by decide +kernel
theorem dX12_determinantBy_37 : decode cX12_determinantBy 37 = .ok (.aload_n 0, 1) := by decide +kernel
theorem dX12_determinantBy_38 : decode cX12_determinantBy 38 = .ok (.getfield 56, 3) := by decide +kernel
theorem dX12_determinantBy_41 : decode cX12_determinantBy 41 = .ok (.iconst 3, 1) := by decide +kernel
theorem dX12_determinantBy_42 : decode cX12_determinantBy 42 = .ok (.iload 8, 2) := by decide +kernel
theorem dX12_determinantBy_44 : decode cX12_determinantBy 44 = .ok (.imul, 1) := by decide +kernel
theorem dX12_determinantBy_45 : decode cX12_determinantBy 45 = .ok (.iload_n 1, 1) := by decide +kernel
theorem dX12_determinantBy_46 : decode cX12_determinantBy 46 = .ok (.iadd, 1) := by decide +kernel
theorem dX12_determinantBy_47 : decode cX12_determinantBy 47 = .ok (.aload_n 0, 1) := by decide +kernel
theorem dX12_determinantBy_48 : decode cX12_determinantBy 48 = .ok (.getfield 60, 3) := by decide +kernel
theorem dX12_determinantBy_51 : decode cX12_determinantBy 51 = .ok (.iload 8, 2) := by decide +kernel
theorem dX12_determinantBy_53 : decode cX12_determinantBy 53 = .ok (.laload, 1) := by decide +kernel
theorem dX12_determinantBy_54 : decode cX12_determinantBy 54 = .ok (.lastore, 1) := by decide +kernel
theorem dX12_determinantBy_55 : decode cX12_determinantBy 55 = .ok (.iinc 8 1, 3) := by decide +kernel
theorem dX12_determinantBy_58 : decode cX12_determinantBy 58 = .ok (.goto (-27), 3) := by decide +kernel
theorem dX12_determinantBy_61 : decode cX12_determinantBy 61 = .ok (.aload_n 0, 1) := by decide +kernel
theorem dX12_determinantBy_62 : decode cX12_determinantBy 62 = .ok (.invokevirtual 222, 3) := by decide +kernel
theorem dX12_determinantBy_65 : decode cX12_determinantBy 65 = .ok (.lstore 8, 2) := by decide +kernel
theorem dX12_determinantBy_67 : decode cX12_determinantBy 67 = .ok (.aload_n 0, 1) := by decide +kernel
theorem dX12_determinantBy_68 : decode cX12_determinantBy 68 = .ok (.getfield 56, 3) := by decide +kernel
theorem dX12_determinantBy_71 : decode cX12_determinantBy 71 = .ok (.iload_n 1, 1) := by decide +kernel
theorem dX12_determinantBy_72 : decode cX12_determinantBy 72 = .ok (.lload_n 2, 1) := by decide +kernel
theorem dX12_determinantBy_73 : decode cX12_determinantBy 73 = .ok (.lastore, 1) := by decide +kernel
theorem dX12_determinantBy_74 : decode cX12_determinantBy 74 = .ok (.aload_n 0, 1) := by decide +kernel
theorem dX12_determinantBy_75 : decode cX12_determinantBy 75 = .ok (.getfield 56, 3) := by decide +kernel
theorem dX12_determinantBy_78 : decode cX12_determinantBy 78 = .ok (.iconst 3, 1) := by decide +kernel
theorem dX12_determinantBy_79 : decode cX12_determinantBy 79 = .ok (.iload_n 1, 1) := by decide +kernel
theorem dX12_determinantBy_80 : decode cX12_determinantBy 80 = .ok (.iadd, 1) := by decide +kernel
theorem dX12_determinantBy_81 : decode cX12_determinantBy 81 = .ok (.lload 4, 2) := by decide +kernel
theorem dX12_determinantBy_83 : decode cX12_determinantBy 83 = .ok (.lastore, 1) := by decide +kernel
theorem dX12_determinantBy_84 : decode cX12_determinantBy 84 = .ok (.aload_n 0, 1) := by decide +kernel
theorem dX12_determinantBy_85 : decode cX12_determinantBy 85 = .ok (.getfield 56, 3) := by decide +kernel
theorem dX12_determinantBy_88 : decode cX12_determinantBy 88 = .ok (.bipush 6, 2) := by decide +kernel
theorem dX12_determinantBy_90 : decode cX12_determinantBy 90 = .ok (.iload_n 1, 1) := by decide +kernel
theorem dX12_determinantBy_91 : decode cX12_determinantBy 91 = .ok (.iadd, 1) := by decide +kernel
theorem dX12_determinantBy_92 : decode cX12_determinantBy 92 = .ok (.lload 6, 2) := by decide +kernel
theorem dX12_determinantBy_94 : decode cX12_determinantBy 94 = .ok (.lastore, 1) := by decide +kernel
theorem dX12_determinantBy_95 : decode cX12_determinantBy 95 = .ok (.lload 8, 2) := by decide +kernel
theorem dX12_determinantBy_97 : decode cX12_determinantBy 97 = .ok (.lreturn, 1) := by decide +kernel
theorem dX12_solves_0 : decode cX12_solves 0 = .ok (.iconst 0, 1) := by decide +kernel
theorem dX12_solves_1 : decode cX12_solves 1 = .ok (.istore_n 3, 1) := by decide +kernel
theorem dX12_solves_2 : decode cX12_solves 2 = .ok (.iload_n 3, 1) := by decide +kernel
theorem dX12_solves_3 : decode cX12_solves 3 = .ok (.iconst 3, 1) := by decide +kernel
theorem dX12_solves_4 : decode cX12_solves 4 = .ok (.if_icmp .ge 79, 3) := by decide +kernel
theorem dX12_solves_7 : decode cX12_solves 7 = .ok (.aload_n 0, 1) := by decide +kernel
theorem dX12_solves_8 : decode cX12_solves 8 = .ok (.getfield 60, 3) := by decide +kernel
theorem dX12_solves_11 : decode cX12_solves 11 = .ok (.iload_n 3, 1) := by decide +kernel
theorem dX12_solves_12 : decode cX12_solves 12 = .ok (.aload_n 0, 1) := by decide +kernel
theorem dX12_solves_13 : decode cX12_solves 13 = .ok (.iload_n 3, 1) := by decide +kernel
theorem dX12_solves_14 : decode cX12_solves 14 = .ok (.invokevirtual 226, 3) := by decide +kernel
theorem dX12_solves_17 : decode cX12_solves 17 = .ok (.ifCond .eq 13, 3) := by decide +kernel
theorem dX12_solves_20 : decode cX12_solves 20 = .ok (.aload_n 1, 1) := by decide +kernel
theorem dX12_solves_21 : decode cX12_solves 21 = .ok (.bipush 16, 2) := by decide +kernel
theorem dX12_solves_23 : decode cX12_solves 23 = .ok (.iload_n 3, 1) := by decide +kernel
theorem dX12_solves_24 : decode cX12_solves 24 = .ok (.iadd, 1) := by decide +kernel
theorem dX12_solves_25 : decode cX12_solves 25 = .ok (.iaload, 1) := by decide +kernel
theorem dX12_solves_26 : decode cX12_solves 26 = .ok (.i2l, 1) := by decide +kernel
theorem dX12_solves_27 : decode cX12_solves 27 = .ok (.goto 4, 3) := by decide +kernel
theorem dX12_solves_30 : decode cX12_solves 30 = .ok (.lconst 0, 1) := by decide +kernel
theorem dX12_solves_31 : decode cX12_solves 31 = .ok (.lastore, 1) := by decide +kernel
theorem dX12_solves_32 : decode cX12_solves 32 = .ok (.iconst 0, 1) := by decide +kernel
theorem dX12_solves_33 : decode cX12_solves 33 = .ok (.istore 4, 2) := by decide +kernel
theorem dX12_solves_35 : decode cX12_solves 35 = .ok (.iload 4, 2) := by decide +kernel
theorem dX12_solves_37 : decode cX12_solves 37 = .ok (.iconst 3, 1) := by decide +kernel
theorem dX12_solves_38 : decode cX12_solves 38 = .ok (.if_icmp .ge 39, 3) := by decide +kernel
theorem dX12_solves_41 : decode cX12_solves 41 = .ok (.aload_n 0, 1) := by decide +kernel
theorem dX12_solves_42 : decode cX12_solves 42 = .ok (.getfield 56, 3) := by decide +kernel
theorem dX12_solves_45 : decode cX12_solves 45 = .ok (.iconst 3, 1) := by decide +kernel
theorem dX12_solves_46 : decode cX12_solves 46 = .ok (.iload_n 3, 1) := by decide +kernel
theorem dX12_solves_47 : decode cX12_solves 47 = .ok (.imul, 1) := by decide +kernel
theorem dX12_solves_48 : decode cX12_solves 48 = .ok (.iload 4, 2) := by decide +kernel
theorem dX12_solves_50 : decode cX12_solves 50 = .ok (.iadd, 1) := by decide +kernel
theorem dX12_solves_51 : decode cX12_solves 51 = .ok (.iload_n 3, 1) := by decide +kernel
theorem dX12_solves_52 : decode cX12_solves 52 = .ok (.iload 4, 2) := by decide +kernel
theorem dX12_solves_54 : decode cX12_solves 54 = .ok (.if_icmp .ne 15, 3) := by decide +kernel
theorem dX12_solves_57 : decode cX12_solves 57 = .ok (.aload_n 0, 1) := by decide +kernel
theorem dX12_solves_58 : decode cX12_solves 58 = .ok (.iload_n 3, 1) := by decide +kernel
theorem dX12_solves_59 : decode cX12_solves 59 = .ok (.invokevirtual 226, 3) := by decide +kernel
theorem dX12_solves_62 : decode cX12_solves 62 = .ok (.ifCond .ne 7, 3) := by decide +kernel
theorem dX12_solves_65 : decode cX12_solves 65 = .ok (.lconst 1, 1) := by decide +kernel
theorem dX12_solves_66 : decode cX12_solves 66 = .ok (.goto 4, 3) := by decide +kernel
theorem dX12_solves_69 : decode cX12_solves 69 = .ok (.lconst 0, 1) := by decide +kernel
theorem dX12_solves_70 : decode cX12_solves 70 = .ok (.lastore, 1) := by decide +kernel
theorem dX12_solves_71 : decode cX12_solves 71 = .ok (.iinc 4 1, 3) := by decide +kernel
theorem dX12_solves_74 : decode cX12_solves 74 = .ok (.goto (-39), 3) := by decide +kernel
theorem dX12_solves_77 : decode cX12_solves 77 = .ok (.iinc 3 1, 3) := by decide +kernel
theorem dX12_solves_80 : decode cX12_solves 80 = .ok (.goto (-78), 3) := by decide +kernel
theorem dX12_solves_83 : decode cX12_solves 83 = .ok (.iconst 0, 1) := by decide +kernel
theorem dX12_solves_84 : decode cX12_solves 84 = .ok (.istore_n 3, 1) := by decide +kernel
theorem dX12_solves_85 : decode cX12_solves 85 = .ok (.iload_n 3, 1) := by decide +kernel
theorem dX12_solves_86 : decode cX12_solves 86 = .ok (.aload_n 0, 1) := by decide +kernel
theorem dX12_solves_87 : decode cX12_solves 87 = .ok (.getfield 189, 3) := by decide +kernel
theorem dX12_solves_90 : decode cX12_solves 90 = .ok (.if_icmp .ge 151, 3) := by decide +kernel
theorem dX12_solves_93 : decode cX12_solves 93 = .ok (.iload_n 2, 1) := by decide +kernel
theorem dX12_solves_94 : decode cX12_solves 94 = .ok (.iload_n 3, 1) := by decide +kernel
theorem dX12_solves_95 : decode cX12_solves 95 = .ok (.invokestatic 137, 3) := by decide +kernel
theorem dX12_solves_98 : decode cX12_solves 98 = .ok (.ifCond .ne 6, 3) := by decide +kernel
theorem dX12_solves_101 : decode cX12_solves 101 = .ok (.goto 134, 3) := by decide +kernel
theorem dX12_solves_104 : decode cX12_solves 104 = .ok (.iconst 0, 1) := by decide +kernel
theorem dX12_solves_105 : decode cX12_solves 105 = .ok (.istore 4, 2) := by decide +kernel
theorem dX12_solves_107 : decode cX12_solves 107 = .ok (.iload 4, 2) := by decide +kernel
theorem dX12_solves_109 : decode cX12_solves 109 = .ok (.iconst 3, 1) := by decide +kernel
theorem dX12_solves_110 : decode cX12_solves 110 = .ok (.if_icmp .ge 125, 3) := by decide +kernel
theorem dX12_solves_113 : decode cX12_solves 113 = .ok (.aload_n 0, 1) := by decide +kernel
theorem dX12_solves_114 : decode cX12_solves 114 = .ok (.iload 4, 2) := by decide +kernel
theorem dX12_solves_116 : decode cX12_solves 116 = .ok (.invokevirtual 226, 3) := by decide +kernel
theorem dX12_solves_119 : decode cX12_solves 119 = .ok (.ifCond .ne 6, 3) := by decide +kernel
theorem dX12_solves_122 : decode cX12_solves 122 = .ok (.goto 107, 3) := by decide +kernel
theorem dX12_solves_125 : decode cX12_solves 125 = .ok (.aload_n 0, 1) := by decide +kernel
theorem dX12_solves_126 : decode cX12_solves 126 = .ok (.getfield 60, 3) := by decide +kernel
theorem dX12_solves_129 : decode cX12_solves 129 = .ok (.iload 4, 2) := by decide +kernel
theorem dX12_solves_131 : decode cX12_solves 131 = .ok (.dup2, 1) := by decide +kernel
theorem dX12_solves_132 : decode cX12_solves 132 = .ok (.laload, 1) := by decide +kernel
theorem dX12_solves_133 : decode cX12_solves 133 = .ok (.aload_n 1, 1) := by decide +kernel
theorem dX12_solves_134 : decode cX12_solves 134 = .ok (.iconst 0, 1) := by decide +kernel
theorem dX12_solves_135 : decode cX12_solves 135 = .ok (.iload_n 3, 1) := by decide +kernel
theorem dX12_solves_136 : decode cX12_solves 136 = .ok (.iadd, 1) := by decide +kernel
theorem dX12_solves_137 : decode cX12_solves 137 = .ok (.iaload, 1) := by decide +kernel
theorem dX12_solves_138 : decode cX12_solves 138 = .ok (.i2l, 1) := by decide +kernel
theorem dX12_solves_139 : decode cX12_solves 139 = .ok (.aload_n 0, 1) := by decide +kernel
theorem dX12_solves_140 : decode cX12_solves 140 = .ok (.getfield 26, 3) := by decide +kernel
theorem dX12_solves_143 : decode cX12_solves 143 = .ok (.iconst 3, 1) := by decide +kernel
theorem dX12_solves_144 : decode cX12_solves 144 = .ok (.iload_n 3, 1) := by decide +kernel
theorem dX12_solves_145 : decode cX12_solves 145 = .ok (.imul, 1) := by decide +kernel
theorem dX12_solves_146 : decode cX12_solves 146 = .ok (.iload 4, 2) := by decide +kernel
theorem dX12_solves_148 : decode cX12_solves 148 = .ok (.iadd, 1) := by decide +kernel
theorem dX12_solves_149 : decode cX12_solves 149 = .ok (.iaload, 1) := by decide +kernel
theorem dX12_solves_150 : decode cX12_solves 150 = .ok (.i2l, 1) := by decide +kernel
theorem dX12_solves_151 : decode cX12_solves 151 = .ok (.lmul, 1) := by decide +kernel
theorem dX12_solves_152 : decode cX12_solves 152 = .ok (.ladd, 1) := by decide +kernel
theorem dX12_solves_153 : decode cX12_solves 153 = .ok (.lastore, 1) := by decide +kernel
theorem dX12_solves_154 : decode cX12_solves 154 = .ok (.iconst 0, 1) := by decide +kernel
theorem dX12_solves_155 : decode cX12_solves 155 = .ok (.istore 5, 2) := by decide +kernel
theorem dX12_solves_157 : decode cX12_solves 157 = .ok (.iload 5, 2) := by decide +kernel
theorem dX12_solves_159 : decode cX12_solves 159 = .ok (.iconst 3, 1) := by decide +kernel
theorem dX12_solves_160 : decode cX12_solves 160 = .ok (.if_icmp .ge 69, 3) := by decide +kernel
theorem dX12_solves_163 : decode cX12_solves 163 = .ok (.aload_n 0, 1) := by decide +kernel
theorem dX12_solves_164 : decode cX12_solves 164 = .ok (.getfield 56, 3) := by decide +kernel
theorem dX12_solves_167 : decode cX12_solves 167 = .ok (.iconst 3, 1) := by decide +kernel
theorem dX12_solves_168 : decode cX12_solves 168 = .ok (.iload 4, 2) := by decide +kernel
theorem dX12_solves_170 : decode cX12_solves 170 = .ok (.imul, 1) := by decide +kernel
theorem dX12_solves_171 : decode cX12_solves 171 = .ok (.iload 5, 2) := by decide +kernel
theorem dX12_solves_173 : decode cX12_solves 173 = .ok (.iadd, 1) := by decide +kernel
theorem dX12_solves_174 : decode cX12_solves 174 = .ok (.dup2, 1) := by decide +kernel
theorem dX12_solves_175 : decode cX12_solves 175 = .ok (.laload, 1) := by decide +kernel
theorem dX12_solves_176 : decode cX12_solves 176 = .ok (.aload_n 0, 1) := by decide +kernel
theorem dX12_solves_177 : decode cX12_solves 177 = .ok (.iload 5, 2) := by decide +kernel
theorem dX12_solves_179 : decode cX12_solves 179 = .ok (.invokevirtual 226, 3) := by decide +kernel
theorem dX12_solves_182 : decode cX12_solves 182 = .ok (.ifCond .eq 38, 3) := by decide +kernel
theorem dX12_solves_185 : decode cX12_solves 185 = .ok (.aload_n 0, 1) := by decide +kernel
theorem dX12_solves_186 : decode cX12_solves 186 = .ok (.iload_n 3, 1) := by decide +kernel
theorem dX12_solves_187 : decode cX12_solves 187 = .ok (.invokevirtual 230, 3) := by decide +kernel
theorem dX12_solves_190 : decode cX12_solves 190 = .ok (.i2l, 1) := by decide +kernel
theorem dX12_solves_191 : decode cX12_solves 191 = .ok (.aload_n 0, 1) := by decide +kernel
theorem dX12_solves_192 : decode cX12_solves 192 = .ok (.getfield 26, 3) := by decide +kernel
theorem dX12_solves_195 : decode cX12_solves 195 = .ok (.iconst 3, 1) := by decide +kernel
theorem dX12_solves_196 : decode cX12_solves 196 = .ok (.iload_n 3, 1) := by decide +kernel
theorem dX12_solves_197 : decode cX12_solves 197 = .ok (.imul, 1) := by decide +kernel
theorem dX12_solves_198 : decode cX12_solves 198 = .ok (.iload 4, 2) := by decide +kernel
theorem dX12_solves_200 : decode cX12_solves 200 = .ok (.iadd, 1) := by decide +kernel
theorem dX12_solves_201 : decode cX12_solves 201 = .ok (.iaload, 1) := by decide +kernel
theorem dX12_solves_202 : decode cX12_solves 202 = .ok (.i2l, 1) := by decide +kernel
theorem dX12_solves_203 : decode cX12_solves 203 = .ok (.lmul, 1) := by decide +kernel
theorem dX12_solves_204 : decode cX12_solves 204 = .ok (.aload_n 0, 1) := by decide +kernel
theorem dX12_solves_205 : decode cX12_solves 205 = .ok (.getfield 26, 3) := by decide +kernel
theorem dX12_solves_208 : decode cX12_solves 208 = .ok (.iconst 3, 1) := by decide +kernel
theorem dX12_solves_209 : decode cX12_solves 209 = .ok (.iload_n 3, 1) := by decide +kernel
theorem dX12_solves_210 : decode cX12_solves 210 = .ok (.imul, 1) := by decide +kernel
theorem dX12_solves_211 : decode cX12_solves 211 = .ok (.iload 5, 2) := by decide +kernel
theorem dX12_solves_213 : decode cX12_solves 213 = .ok (.iadd, 1) := by decide +kernel
theorem dX12_solves_214 : decode cX12_solves 214 = .ok (.iaload, 1) := by decide +kernel
theorem dX12_solves_215 : decode cX12_solves 215 = .ok (.i2l, 1) := by decide +kernel
theorem dX12_solves_216 : decode cX12_solves 216 = .ok (.lmul, 1) := by decide +kernel
theorem dX12_solves_217 : decode cX12_solves 217 = .ok (.goto 4, 3) := by decide +kernel
theorem dX12_solves_220 : decode cX12_solves 220 = .ok (.lconst 0, 1) := by decide +kernel
theorem dX12_solves_221 : decode cX12_solves 221 = .ok (.ladd, 1) := by decide +kernel
theorem dX12_solves_222 : decode cX12_solves 222 = .ok (.lastore, 1) := by decide +kernel
theorem dX12_solves_223 : decode cX12_solves 223 = .ok (.iinc 5 1, 3) := by decide +kernel
theorem dX12_solves_226 : decode cX12_solves 226 = .ok (.goto (-69), 3) := by decide +kernel
theorem dX12_solves_229 : decode cX12_solves 229 = .ok (.iinc 4 1, 3) := by decide +kernel
theorem dX12_solves_232 : decode cX12_solves 232 = .ok (.goto (-125), 3) := by decide +kernel
theorem dX12_solves_235 : decode cX12_solves 235 = .ok (.iinc 3 1, 3) := by decide +kernel
theorem dX12_solves_238 : decode cX12_solves 238 = .ok (.goto (-153), 3) := by decide +kernel
theorem dX12_solves_241 : decode cX12_solves 241 = .ok (.aload_n 0, 1) := by decide +kernel
theorem dX12_solves_242 : decode cX12_solves 242 = .ok (.aload_n 0, 1) := by decide +kernel
theorem dX12_solves_243 : decode cX12_solves 243 = .ok (.invokevirtual 222, 3) := by decide +kernel
theorem dX12_solves_246 : decode cX12_solves 246 = .ok (.putfield 233, 3) := by decide +kernel
theorem dX12_solves_249 : decode cX12_solves 249 = .ok (.iconst 0, 1) := by decide +kernel
theorem dX12_solves_250 : decode cX12_solves 250 = .ok (.istore_n 3, 1) := by decide +kernel
theorem dX12_solves_251 : decode cX12_solves 251 = .ok (.iload_n 3, 1) := by decide +kernel
theorem dX12_solves_252 : decode cX12_solves 252 = .ok (.iconst 3, 1) := by decide +kernel
theorem dX12_solves_253 : decode cX12_solves 253 = .ok (.if_icmp .ge 32, 3) := by decide +kernel
theorem dX12_solves_256 : decode cX12_solves 256 = .ok (.aload_n 0, 1) := by decide +kernel
theorem dX12_solves_257 : decode cX12_solves 257 = .ok (.getfield 63, 3) := by decide +kernel
theorem dX12_solves_260 : decode cX12_solves 260 = .ok (.iload_n 3, 1) := by decide +kernel
theorem dX12_solves_261 : decode cX12_solves 261 = .ok (.aload_n 0, 1) := by decide +kernel
theorem dX12_solves_262 : decode cX12_solves 262 = .ok (.iload_n 3, 1) := by decide +kernel
theorem dX12_solves_263 : decode cX12_solves 263 = .ok (.invokevirtual 226, 3) := by decide +kernel
theorem dX12_solves_266 : decode cX12_solves 266 = .ok (.ifCond .eq 11, 3) := by decide +kernel
theorem dX12_solves_269 : decode cX12_solves 269 = .ok (.aload_n 0, 1) := by decide +kernel
theorem dX12_solves_270 : decode cX12_solves 270 = .ok (.iload_n 3, 1) := by decide +kernel
theorem dX12_solves_271 : decode cX12_solves 271 = .ok (.invokevirtual 237, 3) := by decide +kernel
theorem dX12_solves_274 : decode cX12_solves 274 = .ok (.goto 4, 3) := by decide +kernel
theorem dX12_solves_277 : decode cX12_solves 277 = .ok (.lconst 0, 1) := by decide +kernel
theorem dX12_solves_278 : decode cX12_solves 278 = .ok (.lastore, 1) := by decide +kernel
theorem dX12_solves_279 : decode cX12_solves 279 = .ok (.iinc 3 1, 3) := by decide +kernel
theorem dX12_solves_282 : decode cX12_solves 282 = .ok (.goto (-31), 3) := by decide +kernel
theorem dX12_solves_285 : decode cX12_solves 285 = .ok (.return_, 1) := by decide +kernel
theorem dX12_pullOf_0 : decode cX12_pullOf 0 = .ok (.lconst 0, 1) := by decide +kernel
theorem dX12_pullOf_1 : decode cX12_pullOf 1 = .ok (.lstore_n 3, 1) := by decide +kernel
theorem dX12_pullOf_2 : decode cX12_pullOf 2 = .ok (.iconst 0, 1) := by decide +kernel
theorem dX12_pullOf_3 : decode cX12_pullOf 3 = .ok (.istore 5, 2) := by decide +kernel
theorem dX12_pullOf_5 : decode cX12_pullOf 5 = .ok (.iload 5, 2) := by decide +kernel
theorem dX12_pullOf_7 : decode cX12_pullOf 7 = .ok (.iconst 3, 1) := by decide +kernel
theorem dX12_pullOf_8 : decode cX12_pullOf 8 = .ok (.if_icmp .ge 32, 3) := by decide +kernel
theorem dX12_pullOf_11 : decode cX12_pullOf 11 = .ok (.lload_n 3, 1) := by decide +kernel
theorem dX12_pullOf_12 : decode cX12_pullOf 12 = .ok (.aload_n 0, 1) := by decide +kernel
theorem dX12_pullOf_13 : decode cX12_pullOf 13 = .ok (.getfield 26, 3) := by decide +kernel
theorem dX12_pullOf_16 : decode cX12_pullOf 16 = .ok (.iconst 3, 1) := by decide +kernel
theorem dX12_pullOf_17 : decode cX12_pullOf 17 = .ok (.iload_n 2, 1) := by decide +kernel
theorem dX12_pullOf_18 : decode cX12_pullOf 18 = .ok (.imul, 1) := by decide +kernel
theorem dX12_pullOf_19 : decode cX12_pullOf 19 = .ok (.iload 5, 2) := by decide +kernel
theorem dX12_pullOf_21 : decode cX12_pullOf 21 = .ok (.iadd, 1) := by decide +kernel
theorem dX12_pullOf_22 : decode cX12_pullOf 22 = .ok (.iaload, 1) := by decide +kernel
theorem dX12_pullOf_23 : decode cX12_pullOf 23 = .ok (.i2l, 1) := by decide +kernel
theorem dX12_pullOf_24 : decode cX12_pullOf 24 = .ok (.aload_n 0, 1) := by decide +kernel
theorem dX12_pullOf_25 : decode cX12_pullOf 25 = .ok (.getfield 63, 3) := by decide +kernel
theorem dX12_pullOf_28 : decode cX12_pullOf 28 = .ok (.iload 5, 2) := by decide +kernel
theorem dX12_pullOf_30 : decode cX12_pullOf 30 = .ok (.laload, 1) := by decide +kernel
theorem dX12_pullOf_31 : decode cX12_pullOf 31 = .ok (.lmul, 1) := by decide +kernel
theorem dX12_pullOf_32 : decode cX12_pullOf 32 = .ok (.ladd, 1) := by decide +kernel
theorem dX12_pullOf_33 : decode cX12_pullOf 33 = .ok (.lstore_n 3, 1) := by decide +kernel
theorem dX12_pullOf_34 : decode cX12_pullOf 34 = .ok (.iinc 5 1, 3) := by decide +kernel
theorem dX12_pullOf_37 : decode cX12_pullOf 37 = .ok (.goto (-32), 3) := by decide +kernel
theorem dX12_pullOf_40 : decode cX12_pullOf 40 = .ok (.aload_n 1, 1) := by decide +kernel
theorem dX12_pullOf_41 : decode cX12_pullOf 41 = .ok (.iconst 0, 1) := by decide +kernel
theorem dX12_pullOf_42 : decode cX12_pullOf 42 = .ok (.iload_n 2, 1) := by decide +kernel
theorem dX12_pullOf_43 : decode cX12_pullOf 43 = .ok (.iadd, 1) := by decide +kernel
theorem dX12_pullOf_44 : decode cX12_pullOf 44 = .ok (.iaload, 1) := by decide +kernel
theorem dX12_pullOf_45 : decode cX12_pullOf 45 = .ok (.i2l, 1) := by decide +kernel
theorem dX12_pullOf_46 : decode cX12_pullOf 46 = .ok (.aload_n 0, 1) := by decide +kernel
theorem dX12_pullOf_47 : decode cX12_pullOf 47 = .ok (.getfield 233, 3) := by decide +kernel
theorem dX12_pullOf_50 : decode cX12_pullOf 50 = .ok (.lmul, 1) := by decide +kernel
theorem dX12_pullOf_51 : decode cX12_pullOf 51 = .ok (.aload_n 0, 1) := by decide +kernel
theorem dX12_pullOf_52 : decode cX12_pullOf 52 = .ok (.iload_n 2, 1) := by decide +kernel
theorem dX12_pullOf_53 : decode cX12_pullOf 53 = .ok (.invokevirtual 230, 3) := by decide +kernel
theorem dX12_pullOf_56 : decode cX12_pullOf 56 = .ok (.i2l, 1) := by decide +kernel
theorem dX12_pullOf_57 : decode cX12_pullOf 57 = .ok (.lload_n 3, 1) := by decide +kernel
theorem dX12_pullOf_58 : decode cX12_pullOf 58 = .ok (.lmul, 1) := by decide +kernel
theorem dX12_pullOf_59 : decode cX12_pullOf 59 = .ok (.lsub, 1) := by decide +kernel
theorem dX12_pullOf_60 : decode cX12_pullOf 60 = .ok (.lreturn, 1) := by decide +kernel
theorem dX12_those_0 : decode cX12_those 0 = .ok (.iconst 0, 1) := by decide +kernel
theorem dX12_those_1 : decode cX12_those 1 = .ok (.istore_n 3, 1) := by decide +kernel
theorem dX12_those_2 : decode cX12_those 2 = .ok (.iconst 0, 1) := by decide +kernel
theorem dX12_those_3 : decode cX12_those 3 = .ok (.istore 4, 2) := by decide +kernel
theorem dX12_those_5 : decode cX12_those 5 = .ok (.iload 4, 2) := by decide +kernel
theorem dX12_those_7 : decode cX12_those 7 = .ok (.iload_n 1, 1) := by decide +kernel
theorem dX12_those_8 : decode cX12_those 8 = .ok (.if_icmp .ge 31, 3) := by decide +kernel
theorem dX12_those_11 : decode cX12_those 11 = .ok (.iload_n 3, 1) := by decide +kernel
theorem dX12_those_12 : decode cX12_those 12 = .ok (.aload_n 0, 1) := by decide +kernel
theorem dX12_those_13 : decode cX12_those 13 = .ok (.bipush 8, 2) := by decide +kernel
theorem dX12_those_15 : decode cX12_those 15 = .ok (.iload 4, 2) := by decide +kernel
theorem dX12_those_17 : decode cX12_those 17 = .ok (.iadd, 1) := by decide +kernel
theorem dX12_those_18 : decode cX12_those 18 = .ok (.iaload, 1) := by decide +kernel
theorem dX12_those_19 : decode cX12_those 19 = .ok (.iload_n 2, 1) := by decide +kernel
theorem dX12_those_20 : decode cX12_those 20 = .ok (.if_icmp .ne 10, 3) := by decide +kernel
theorem dX12_those_23 : decode cX12_those 23 = .ok (.iconst 1, 1) := by decide +kernel
theorem dX12_those_24 : decode cX12_those 24 = .ok (.iload 4, 2) := by decide +kernel
theorem dX12_those_26 : decode cX12_those 26 = .ok (.ishl, 1) := by decide +kernel
theorem dX12_those_27 : decode cX12_those 27 = .ok (.goto 4, 3) := by decide +kernel
theorem dX12_those_30 : decode cX12_those 30 = .ok (.iconst 0, 1) := by decide +kernel
theorem dX12_those_31 : decode cX12_those 31 = .ok (.ior, 1) := by decide +kernel
theorem dX12_those_32 : decode cX12_those 32 = .ok (.istore_n 3, 1) := by decide +kernel
theorem dX12_those_33 : decode cX12_those 33 = .ok (.iinc 4 1, 3) := by decide +kernel
theorem dX12_those_36 : decode cX12_those 36 = .ok (.goto (-31), 3) := by decide +kernel
theorem dX12_those_39 : decode cX12_those 39 = .ok (.iload_n 3, 1) := by decide +kernel
theorem dX12_those_40 : decode cX12_those 40 = .ok (.ireturn, 1) := by decide +kernel
theorem dX12_forgets_0 : decode cX12_forgets 0 = .ok (.iconst 0, 1) := by decide +kernel
theorem dX12_forgets_1 : decode cX12_forgets 1 = .ok (.istore_n 1, 1) := by decide +kernel
theorem dX12_forgets_2 : decode cX12_forgets 2 = .ok (.iload_n 1, 1) := by decide +kernel
theorem dX12_forgets_3 : decode cX12_forgets 3 = .ok (.sipush 256, 3) := by decide +kernel
theorem dX12_forgets_6 : decode cX12_forgets 6 = .ok (.if_icmp .ge 16, 3) := by decide +kernel
theorem dX12_forgets_9 : decode cX12_forgets 9 = .ok (.aload_n 0, 1) := by decide +kernel
theorem dX12_forgets_10 : decode cX12_forgets 10 = .ok (.getfield 66, 3) := by decide +kernel
theorem dX12_forgets_13 : decode cX12_forgets 13 = .ok (.iload_n 1, 1) := by decide +kernel
theorem dX12_forgets_14 : decode cX12_forgets 14 = .ok (.iconst 0, 1) := by decide +kernel
theorem dX12_forgets_15 : decode cX12_forgets 15 = .ok (.bastore, 1) := by decide +kernel
theorem dX12_forgets_16 : decode cX12_forgets 16 = .ok (.iinc 1 1, 3) := by decide +kernel
theorem dX12_forgets_19 : decode cX12_forgets 19 = .ok (.goto (-17), 3) := by decide +kernel
theorem dX12_forgets_22 : decode cX12_forgets 22 = .ok (.return_, 1) := by decide +kernel
theorem dX12_pusher_0 : decode cX12_pusher 0 = .ok (.iconst (-1), 1) := by decide +kernel
theorem dX12_pusher_1 : decode cX12_pusher 1 = .ok (.istore_n 3, 1) := by decide +kernel
theorem dX12_pusher_2 : decode cX12_pusher 2 = .ok (.iconst 0, 1) := by decide +kernel
theorem dX12_pusher_3 : decode cX12_pusher 3 = .ok (.istore 4, 2) := by decide +kernel
theorem dX12_pusher_5 : decode cX12_pusher 5 = .ok (.iload 4, 2) := by decide +kernel
theorem dX12_pusher_7 : decode cX12_pusher 7 = .ok (.aload_n 0, 1) := by decide +kernel
theorem dX12_pusher_8 : decode cX12_pusher 8 = .ok (.getfield 189, 3) := by decide +kernel
theorem dX12_pusher_11 : decode cX12_pusher 11 = .ok (.if_icmp .ge 55, 3) := by decide +kernel
theorem dX12_pusher_14 : decode cX12_pusher 14 = .ok (.iload_n 2, 1) := by decide +kernel
theorem dX12_pusher_15 : decode cX12_pusher 15 = .ok (.iload 4, 2) := by decide +kernel
theorem dX12_pusher_17 : decode cX12_pusher 17 = .ok (.invokestatic 137, 3) := by decide +kernel
theorem dX12_pusher_20 : decode cX12_pusher 20 = .ok (.ifCond .eq 40, 3) := by decide +kernel
theorem dX12_pusher_23 : decode cX12_pusher 23 = .ok (.aload_n 0, 1) := by decide +kernel
theorem dX12_pusher_24 : decode cX12_pusher 24 = .ok (.aload_n 1, 1) := by decide +kernel
theorem dX12_pusher_25 : decode cX12_pusher 25 = .ok (.iload 4, 2) := by decide +kernel
theorem dX12_pusher_27 : decode cX12_pusher 27 = .ok (.invokevirtual 241, 3) := by decide +kernel
theorem dX12_pusher_30 : decode cX12_pusher 30 = .ok (.lconst 0, 1) := by decide +kernel
theorem dX12_pusher_31 : decode cX12_pusher 31 = .ok (.lcmp, 1) := by decide +kernel
theorem dX12_pusher_32 : decode cX12_pusher 32 = .ok (.ifCond .ge 28, 3) := by decide +kernel
theorem dX12_pusher_35 : decode cX12_pusher 35 = .ok (.iload_n 3, 1) := by decide +kernel
theorem dX12_pusher_36 : decode cX12_pusher 36 = .ok (.iconst (-1), 1) := by decide +kernel
theorem dX12_pusher_37 : decode cX12_pusher 37 = .ok (.if_icmp .eq 20, 3) := by decide +kernel
theorem dX12_pusher_40 : decode cX12_pusher 40 = .ok (.aload_n 0, 1) := by decide +kernel
theorem dX12_pusher_41 : decode cX12_pusher 41 = .ok (.aload_n 1, 1) := by decide +kernel
theorem dX12_pusher_42 : decode cX12_pusher 42 = .ok (.iload 4, 2) := by decide +kernel
theorem dX12_pusher_44 : decode cX12_pusher 44 = .ok (.invokevirtual 241, 3) := by decide +kernel
theorem dX12_pusher_47 : decode cX12_pusher 47 = .ok (.aload_n 0, 1) := by decide +kernel
theorem dX12_pusher_48 : decode cX12_pusher 48 = .ok (.aload_n 1, 1) := by decide +kernel
theorem dX12_pusher_49 : decode cX12_pusher 49 = .ok (.iload_n 3, 1) := by decide +kernel
theorem dX12_pusher_50 : decode cX12_pusher 50 = .ok (.invokevirtual 241, 3) := by decide +kernel
theorem dX12_pusher_53 : decode cX12_pusher 53 = .ok (.lcmp, 1) := by decide +kernel
theorem dX12_pusher_54 : decode cX12_pusher 54 = .ok (.ifCond .ge 6, 3) := by decide +kernel
theorem dX12_pusher_57 : decode cX12_pusher 57 = .ok (.iload 4, 2) := by decide +kernel
theorem dX12_pusher_59 : decode cX12_pusher 59 = .ok (.istore_n 3, 1) := by decide +kernel
theorem dX12_pusher_60 : decode cX12_pusher 60 = .ok (.iinc 4 1, 3) := by decide +kernel
theorem dX12_pusher_63 : decode cX12_pusher 63 = .ok (.goto (-58), 3) := by decide +kernel
theorem dX12_pusher_66 : decode cX12_pusher 66 = .ok (.iload_n 3, 1) := by decide +kernel
theorem dX12_pusher_67 : decode cX12_pusher 67 = .ok (.ireturn, 1) := by decide +kernel
theorem dX12_wanted_0 : decode cX12_wanted 0 = .ok (.iconst (-1), 1) := by decide +kernel
theorem dX12_wanted_1 : decode cX12_wanted 1 = .ok (.istore_n 3, 1) := by decide +kernel
theorem dX12_wanted_2 : decode cX12_wanted 2 = .ok (.iconst 0, 1) := by decide +kernel
theorem dX12_wanted_3 : decode cX12_wanted 3 = .ok (.istore 4, 2) := by decide +kernel
theorem dX12_wanted_5 : decode cX12_wanted 5 = .ok (.iload 4, 2) := by decide +kernel
theorem dX12_wanted_7 : decode cX12_wanted 7 = .ok (.aload_n 0, 1) := by decide +kernel
theorem dX12_wanted_8 : decode cX12_wanted 8 = .ok (.getfield 189, 3) := by decide +kernel
theorem dX12_wanted_11 : decode cX12_wanted 11 = .ok (.if_icmp .ge 66, 3) := by decide +kernel
theorem dX12_wanted_14 : decode cX12_wanted 14 = .ok (.iload_n 2, 1) := by decide +kernel
theorem dX12_wanted_15 : decode cX12_wanted 15 = .ok (.iload 4, 2) := by decide +kernel
theorem dX12_wanted_17 : decode cX12_wanted 17 = .ok (.invokestatic 137, 3) := by decide +kernel
theorem dX12_wanted_20 : decode cX12_wanted 20 = .ok (.ifCond .ne 51, 3) := by decide +kernel
theorem dX12_wanted_23 : decode cX12_wanted 23 = .ok (.aload_n 1, 1) := by decide +kernel
theorem dX12_wanted_24 : decode cX12_wanted 24 = .ok (.bipush 8, 2) := by decide +kernel
theorem dX12_wanted_26 : decode cX12_wanted 26 = .ok (.iload 4, 2) := by decide +kernel
theorem dX12_wanted_28 : decode cX12_wanted 28 = .ok (.iadd, 1) := by decide +kernel
theorem dX12_wanted_29 : decode cX12_wanted 29 = .ok (.iaload, 1) := by decide +kernel
theorem dX12_wanted_30 : decode cX12_wanted 30 = .ok (.iconst 2, 1) := by decide +kernel
theorem dX12_wanted_31 : decode cX12_wanted 31 = .ok (.if_icmp .ge 40, 3) := by decide +kernel
theorem dX12_wanted_34 : decode cX12_wanted 34 = .ok (.aload_n 0, 1) := by decide +kernel
theorem dX12_wanted_35 : decode cX12_wanted 35 = .ok (.aload_n 1, 1) := by decide +kernel
theorem dX12_wanted_36 : decode cX12_wanted 36 = .ok (.iload 4, 2) := by decide +kernel
theorem dX12_wanted_38 : decode cX12_wanted 38 = .ok (.invokevirtual 241, 3) := by decide +kernel
theorem dX12_wanted_41 : decode cX12_wanted 41 = .ok (.lconst 0, 1) := by decide +kernel
theorem dX12_wanted_42 : decode cX12_wanted 42 = .ok (.lcmp, 1) := by decide +kernel
theorem dX12_wanted_43 : decode cX12_wanted 43 = .ok (.ifCond .le 28, 3) := by decide +kernel
theorem dX12_wanted_46 : decode cX12_wanted 46 = .ok (.iload_n 3, 1) := by decide +kernel
theorem dX12_wanted_47 : decode cX12_wanted 47 = .ok (.iconst (-1), 1) := by decide +kernel
theorem dX12_wanted_48 : decode cX12_wanted 48 = .ok (.if_icmp .eq 20, 3) := by decide +kernel
theorem dX12_wanted_51 : decode cX12_wanted 51 = .ok (.aload_n 0, 1) := by decide +kernel
theorem dX12_wanted_52 : decode cX12_wanted 52 = .ok (.aload_n 1, 1) := by decide +kernel
theorem dX12_wanted_53 : decode cX12_wanted 53 = .ok (.iload 4, 2) := by decide +kernel
theorem dX12_wanted_55 : decode cX12_wanted 55 = .ok (.invokevirtual 241, 3) := by decide +kernel
theorem dX12_wanted_58 : decode cX12_wanted 58 = .ok (.aload_n 0, 1) := by decide +kernel
theorem dX12_wanted_59 : decode cX12_wanted 59 = .ok (.aload_n 1, 1) := by decide +kernel
theorem dX12_wanted_60 : decode cX12_wanted 60 = .ok (.iload_n 3, 1) := by decide +kernel
theorem dX12_wanted_61 : decode cX12_wanted 61 = .ok (.invokevirtual 241, 3) := by decide +kernel
theorem dX12_wanted_64 : decode cX12_wanted 64 = .ok (.lcmp, 1) := by decide +kernel
theorem dX12_wanted_65 : decode cX12_wanted 65 = .ok (.ifCond .le 6, 3) := by decide +kernel
theorem dX12_wanted_68 : decode cX12_wanted 68 = .ok (.iload 4, 2) := by decide +kernel
theorem dX12_wanted_70 : decode cX12_wanted 70 = .ok (.istore_n 3, 1) := by decide +kernel
theorem dX12_wanted_71 : decode cX12_wanted 71 = .ok (.iinc 4 1, 3) := by decide +kernel
theorem dX12_wanted_74 : decode cX12_wanted 74 = .ok (.goto (-69), 3) := by decide +kernel
theorem dX12_wanted_77 : decode cX12_wanted 77 = .ok (.iload_n 3, 1) := by decide +kernel
theorem dX12_wanted_78 : decode cX12_wanted 78 = .ok (.ireturn, 1) := by decide +kernel
theorem dX12_worstOf_0 : decode cX12_worstOf 0 = .ok (.iconst (-1), 1) := by decide +kernel
theorem dX12_worstOf_1 : decode cX12_worstOf 1 = .ok (.istore 4, 2) := by decide +kernel
theorem dX12_worstOf_3 : decode cX12_worstOf 3 = .ok (.iconst 0, 1) := by decide +kernel
theorem dX12_worstOf_4 : decode cX12_worstOf 4 = .ok (.istore 5, 2) := by decide +kernel
theorem dX12_worstOf_6 : decode cX12_worstOf 6 = .ok (.iload 5, 2) := by decide +kernel
theorem dX12_worstOf_8 : decode cX12_worstOf 8 = .ok (.aload_n 0, 1) := by decide +kernel
theorem dX12_worstOf_9 : decode cX12_worstOf 9 = .ok (.getfield 189, 3) := by decide +kernel
theorem dX12_worstOf_12 : decode cX12_worstOf 12 = .ok (.if_icmp .ge 92, 3) := by decide +kernel
theorem dX12_worstOf_15 : decode cX12_worstOf 15 = .ok (.iload_n 2, 1) := by decide +kernel
theorem dX12_worstOf_16 : decode cX12_worstOf 16 = .ok (.iload 5, 2) := by decide +kernel
theorem dX12_worstOf_18 : decode cX12_worstOf 18 = .ok (.invokestatic 137, 3) := by decide +kernel
theorem dX12_worstOf_21 : decode cX12_worstOf 21 = .ok (.ifCond .eq 77, 3) := by decide +kernel
theorem dX12_worstOf_24 : decode cX12_worstOf 24 = .ok (.iload_n 3, 1) := by decide +kernel
theorem dX12_worstOf_25 : decode cX12_worstOf 25 = .ok (.ifCond .eq 29, 3) := by decide +kernel
theorem dX12_worstOf_28 : decode cX12_worstOf 28 = .ok (.aload_n 0, 1) := by decide +kernel
theorem dX12_worstOf_29 : decode cX12_worstOf 29 = .ok (.aload_n 1, 1) := by decide +kernel
theorem dX12_worstOf_30 : decode cX12_worstOf 30 = .ok (.iload 5, 2) := by decide +kernel
theorem dX12_worstOf_32 : decode cX12_worstOf 32 = .ok (.invokevirtual 241, 3) := by decide +kernel
theorem dX12_worstOf_35 : decode cX12_worstOf 35 = .ok (.aload_n 0, 1) := by decide +kernel
theorem dX12_worstOf_36 : decode cX12_worstOf 36 = .ok (.iload 5, 2) := by decide +kernel
theorem dX12_worstOf_38 : decode cX12_worstOf 38 = .ok (.invokevirtual 245, 3) := by decide +kernel
theorem dX12_worstOf_41 : decode cX12_worstOf 41 = .ok (.i2l, 1) := by decide +kernel
theorem dX12_worstOf_42 : decode cX12_worstOf 42 = .ok (.aload_n 0, 1) := by decide +kernel
theorem dX12_worstOf_43 : decode cX12_worstOf 43 = .ok (.getfield 233, 3) := by decide +kernel
theorem dX12_worstOf_46 : decode cX12_worstOf 46 = .ok (.lmul, 1) := by decide +kernel
theorem dX12_worstOf_47 : decode cX12_worstOf 47 = .ok (.lcmp, 1) := by decide +kernel
theorem dX12_worstOf_48 : decode cX12_worstOf 48 = .ok (.ifCond .gt 6, 3) := by decide +kernel
theorem dX12_worstOf_51 : decode cX12_worstOf 51 = .ok (.goto 47, 3) := by decide +kernel
theorem dX12_worstOf_54 : decode cX12_worstOf 54 = .ok (.iload 4, 2) := by decide +kernel
theorem dX12_worstOf_56 : decode cX12_worstOf 56 = .ok (.iconst (-1), 1) := by decide +kernel
theorem dX12_worstOf_57 : decode cX12_worstOf 57 = .ok (.if_icmp .eq 37, 3) := by decide +kernel
theorem dX12_worstOf_60 : decode cX12_worstOf 60 = .ok (.aload_n 0, 1) := by decide +kernel
theorem dX12_worstOf_61 : decode cX12_worstOf 61 = .ok (.aload_n 1, 1) := by decide +kernel
theorem dX12_worstOf_62 : decode cX12_worstOf 62 = .ok (.iload 5, 2) := by decide +kernel
theorem dX12_worstOf_64 : decode cX12_worstOf 64 = .ok (.invokevirtual 241, 3) := by decide +kernel
theorem dX12_worstOf_67 : decode cX12_worstOf 67 = .ok (.aload_n 0, 1) := by decide +kernel
theorem dX12_worstOf_68 : decode cX12_worstOf 68 = .ok (.iload 4, 2) := by decide +kernel
theorem dX12_worstOf_70 : decode cX12_worstOf 70 = .ok (.invokevirtual 245, 3) := by decide +kernel
theorem dX12_worstOf_73 : decode cX12_worstOf 73 = .ok (.i2l, 1) := by decide +kernel
theorem dX12_worstOf_74 : decode cX12_worstOf 74 = .ok (.lmul, 1) := by decide +kernel
theorem dX12_worstOf_75 : decode cX12_worstOf 75 = .ok (.aload_n 0, 1) := by decide +kernel
theorem dX12_worstOf_76 : decode cX12_worstOf 76 = .ok (.aload_n 1, 1) := by decide +kernel
theorem dX12_worstOf_77 : decode cX12_worstOf 77 = .ok (.iload 4, 2) := by decide +kernel
theorem dX12_worstOf_79 : decode cX12_worstOf 79 = .ok (.invokevirtual 241, 3) := by decide +kernel
theorem dX12_worstOf_82 : decode cX12_worstOf 82 = .ok (.aload_n 0, 1) := by decide +kernel
theorem dX12_worstOf_83 : decode cX12_worstOf 83 = .ok (.iload 5, 2) := by decide +kernel
theorem dX12_worstOf_85 : decode cX12_worstOf 85 = .ok (.invokevirtual 245, 3) := by decide +kernel
theorem dX12_worstOf_88 : decode cX12_worstOf 88 = .ok (.i2l, 1) := by decide +kernel
theorem dX12_worstOf_89 : decode cX12_worstOf 89 = .ok (.lmul, 1) := by decide +kernel
theorem dX12_worstOf_90 : decode cX12_worstOf 90 = .ok (.lcmp, 1) := by decide +kernel
theorem dX12_worstOf_91 : decode cX12_worstOf 91 = .ok (.ifCond .le 7, 3) := by decide +kernel
theorem dX12_worstOf_94 : decode cX12_worstOf 94 = .ok (.iload 5, 2) := by decide +kernel
theorem dX12_worstOf_96 : decode cX12_worstOf 96 = .ok (.istore 4, 2) := by decide +kernel
theorem dX12_worstOf_98 : decode cX12_worstOf 98 = .ok (.iinc 5 1, 3) := by decide +kernel
theorem dX12_worstOf_101 : decode cX12_worstOf 101 = .ok (.goto (-95), 3) := by decide +kernel
theorem dX12_worstOf_104 : decode cX12_worstOf 104 = .ok (.iload 4, 2) := by decide +kernel
theorem dX12_worstOf_106 : decode cX12_worstOf 106 = .ok (.ireturn, 1) := by decide +kernel
theorem dX12_settles_0 : decode cX12_settles 0 = .ok (.aload_n 1, 1) := by decide +kernel
theorem dX12_settles_1 : decode cX12_settles 1 = .ok (.aload_n 0, 1) := by decide +kernel
theorem dX12_settles_2 : decode cX12_settles 2 = .ok (.getfield 189, 3) := by decide +kernel
theorem dX12_settles_5 : decode cX12_settles 5 = .ok (.iconst 0, 1) := by decide +kernel
theorem dX12_settles_6 : decode cX12_settles 6 = .ok (.invokestatic 248, 3) := by decide +kernel
theorem dX12_settles_9 : decode cX12_settles 9 = .ok (.istore_n 2, 1) := by decide +kernel
theorem dX12_settles_10 : decode cX12_settles 10 = .ok (.iconst 0, 1) := by decide +kernel
theorem dX12_settles_11 : decode cX12_settles 11 = .ok (.istore_n 3, 1) := by decide +kernel
theorem dX12_settles_12 : decode cX12_settles 12 = .ok (.aload_n 0, 1) := by decide +kernel
theorem dX12_settles_13 : decode cX12_settles 13 = .ok (.iconst 0, 1) := by decide +kernel
theorem dX12_settles_14 : decode cX12_settles 14 = .ok (.putfield 252, 3) := by decide +kernel
theorem dX12_settles_17 : decode cX12_settles 17 = .ok (.aload_n 0, 1) := by decide +kernel
theorem dX12_settles_18 : decode cX12_settles 18 = .ok (.invokevirtual 255, 3) := by decide +kernel
theorem dX12_settles_21 : decode cX12_settles 21 = .ok (.iconst 1, 1) := by decide +kernel
theorem dX12_settles_22 : decode cX12_settles 22 = .ok (.istore 4, 2) := by decide +kernel
theorem dX12_settles_24 : decode cX12_settles 24 = .ok (.iload 4, 2) := by decide +kernel
theorem dX12_settles_26 : decode cX12_settles 26 = .ok (.ifCond .eq 196, 3) := by decide +kernel
theorem dX12_settles_29 : decode cX12_settles 29 = .ok (.aload_n 0, 1) := by decide +kernel
theorem dX12_settles_30 : decode cX12_settles 30 = .ok (.getfield 66, 3) := by decide +kernel
theorem dX12_settles_33 : decode cX12_settles 33 = .ok (.iload_n 2, 1) := by decide +kernel
theorem dX12_settles_34 : decode cX12_settles 34 = .ok (.baload, 1) := by decide +kernel
theorem dX12_settles_35 : decode cX12_settles 35 = .ok (.ifCond .eq 5, 3) := by decide +kernel
theorem dX12_settles_38 : decode cX12_settles 38 = .ok (.iconst 4, 1) := by decide +kernel
theorem dX12_settles_39 : decode cX12_settles 39 = .ok (.ireturn, 1) := by decide +kernel
theorem dX12_settles_40 : decode cX12_settles 40 = .ok (.aload_n 0, 1) := by decide +kernel
theorem dX12_settles_41 : decode cX12_settles 41 = .ok (.getfield 66, 3) := by decide +kernel
theorem dX12_settles_44 : decode cX12_settles 44 = .ok (.iload_n 2, 1) := by decide +kernel
theorem dX12_settles_45 : decode cX12_settles 45 = .ok (.iconst 1, 1) := by decide +kernel
theorem dX12_settles_46 : decode cX12_settles 46 = .ok (.bastore, 1) := by decide +kernel
theorem dX12_settles_47 : decode cX12_settles 47 = .ok (.aload_n 0, 1) := by decide +kernel
theorem dX12_settles_48 : decode cX12_settles 48 = .ok (.aload_n 1, 1) := by decide +kernel
theorem dX12_settles_49 : decode cX12_settles 49 = .ok (.iload_n 2, 1) := by decide +kernel
theorem dX12_settles_50 : decode cX12_settles 50 = .ok (.invokevirtual 258, 3) := by decide +kernel
theorem dX12_settles_53 : decode cX12_settles 53 = .ok (.aload_n 0, 1) := by decide +kernel
theorem dX12_settles_54 : decode cX12_settles 54 = .ok (.getfield 233, 3) := by decide +kernel
theorem dX12_settles_57 : decode cX12_settles 57 = .ok (.lconst 0, 1) := by decide +kernel
theorem dX12_settles_58 : decode cX12_settles 58 = .ok (.lcmp, 1) := by decide +kernel
theorem dX12_settles_59 : decode cX12_settles 59 = .ok (.ifCond .ne 5, 3) := by decide +kernel
theorem dX12_settles_62 : decode cX12_settles 62 = .ok (.iconst 3, 1) := by decide +kernel
theorem dX12_settles_63 : decode cX12_settles 63 = .ok (.ireturn, 1) := by decide +kernel
theorem dX12_settles_64 : decode cX12_settles 64 = .ok (.iinc 3 1, 3) := by decide +kernel
theorem dX12_settles_67 : decode cX12_settles 67 = .ok (.aload_n 0, 1) := by decide +kernel
theorem dX12_settles_68 : decode cX12_settles 68 = .ok (.aload_n 1, 1) := by decide +kernel
theorem dX12_settles_69 : decode cX12_settles 69 = .ok (.iload_n 2, 1) := by decide +kernel
theorem dX12_settles_70 : decode cX12_settles 70 = .ok (.invokevirtual 262, 3) := by decide +kernel
theorem dX12_settles_73 : decode cX12_settles 73 = .ok (.istore 5, 2) := by decide +kernel
theorem dX12_settles_75 : decode cX12_settles 75 = .ok (.iload 5, 2) := by decide +kernel
theorem dX12_settles_77 : decode cX12_settles 77 = .ok (.iconst (-1), 1) := by decide +kernel
theorem dX12_settles_78 : decode cX12_settles 78 = .ok (.if_icmp .ne 12, 3) := by decide +kernel
theorem dX12_settles_81 : decode cX12_settles 81 = .ok (.aload_n 0, 1) := by decide +kernel
theorem dX12_settles_82 : decode cX12_settles 82 = .ok (.aload_n 1, 1) := by decide +kernel
theorem dX12_settles_83 : decode cX12_settles 83 = .ok (.iload_n 2, 1) := by decide +kernel
theorem dX12_settles_84 : decode cX12_settles 84 = .ok (.invokevirtual 266, 3) := by decide +kernel
theorem dX12_settles_87 : decode cX12_settles 87 = .ok (.goto 4, 3) := by decide +kernel
theorem dX12_settles_90 : decode cX12_settles 90 = .ok (.iconst (-1), 1) := by decide +kernel
theorem dX12_settles_91 : decode cX12_settles 91 = .ok (.istore 6, 2) := by decide +kernel
theorem dX12_settles_93 : decode cX12_settles 93 = .ok (.iload 5, 2) := by decide +kernel
theorem dX12_settles_95 : decode cX12_settles 95 = .ok (.iconst (-1), 1) := by decide +kernel
theorem dX12_settles_96 : decode cX12_settles 96 = .ok (.if_icmp .ne 19, 3) := by decide +kernel
theorem dX12_settles_99 : decode cX12_settles 99 = .ok (.iload 6, 2) := by decide +kernel
theorem dX12_settles_101 : decode cX12_settles 101 = .ok (.iconst (-1), 1) := by decide +kernel
theorem dX12_settles_102 : decode cX12_settles 102 = .ok (.if_icmp .ne 13, 3) := by decide +kernel
theorem dX12_settles_105 : decode cX12_settles 105 = .ok (.aload_n 0, 1) := by decide +kernel
theorem dX12_settles_106 : decode cX12_settles 106 = .ok (.aload_n 1, 1) := by decide +kernel
theorem dX12_settles_107 : decode cX12_settles 107 = .ok (.iload_n 2, 1) := by decide +kernel
theorem dX12_settles_108 : decode cX12_settles 108 = .ok (.iconst 1, 1) := by decide +kernel
theorem dX12_settles_109 : decode cX12_settles 109 = .ok (.invokevirtual 269, 3) := by decide +kernel
theorem dX12_settles_112 : decode cX12_settles 112 = .ok (.goto 4, 3) := by decide +kernel
theorem dX12_settles_115 : decode cX12_settles 115 = .ok (.iconst (-1), 1) := by decide +kernel
theorem dX12_settles_116 : decode cX12_settles 116 = .ok (.istore 7, 2) := by decide +kernel
theorem dX12_settles_118 : decode cX12_settles 118 = .ok (.iload 5, 2) := by decide +kernel
theorem dX12_settles_120 : decode cX12_settles 120 = .ok (.iconst (-1), 1) := by decide +kernel
theorem dX12_settles_121 : decode cX12_settles 121 = .ok (.if_icmp .eq 12, 3) := by decide +kernel
theorem dX12_settles_124 : decode cX12_settles 124 = .ok (.iload_n 2, 1) := by decide +kernel
theorem dX12_settles_125 : decode cX12_settles 125 = .ok (.iconst 1, 1) := by decide +kernel
theorem dX12_settles_126 : decode cX12_settles 126 = .ok (.iload 5, 2) := by decide +kernel
theorem dX12_settles_128 : decode cX12_settles 128 = .ok (.ishl, 1) := by decide +kernel
theorem dX12_settles_129 : decode cX12_settles 129 = .ok (.iconst (-1), 1) := by decide +kernel
theorem dX12_settles_130 : decode cX12_settles 130 = .ok (.ixor, 1) := by decide +kernel
theorem dX12_settles_131 : decode cX12_settles 131 = .ok (.iand, 1) := by decide +kernel
theorem dX12_settles_132 : decode cX12_settles 132 = .ok (.istore_n 2, 1) := by decide +kernel
theorem dX12_settles_133 : decode cX12_settles 133 = .ok (.iload 6, 2) := by decide +kernel
theorem dX12_settles_135 : decode cX12_settles 135 = .ok (.iconst (-1), 1) := by decide +kernel
theorem dX12_settles_136 : decode cX12_settles 136 = .ok (.if_icmp .eq 10, 3) := by decide +kernel
theorem dX12_settles_139 : decode cX12_settles 139 = .ok (.iload_n 2, 1) := by decide +kernel
theorem dX12_settles_140 : decode cX12_settles 140 = .ok (.iconst 1, 1) := by decide +kernel
theorem dX12_settles_141 : decode cX12_settles 141 = .ok (.iload 6, 2) := by decide +kernel
theorem dX12_settles_143 : decode cX12_settles 143 = .ok (.ishl, 1) := by decide +kernel
theorem dX12_settles_144 : decode cX12_settles 144 = .ok (.ior, 1) := by decide +kernel
theorem dX12_settles_145 : decode cX12_settles 145 = .ok (.istore_n 2, 1) := by decide +kernel
theorem dX12_settles_146 : decode cX12_settles 146 = .ok (.iload 7, 2) := by decide +kernel
theorem dX12_settles_148 : decode cX12_settles 148 = .ok (.iconst (-1), 1) := by decide +kernel
theorem dX12_settles_149 : decode cX12_settles 149 = .ok (.if_icmp .eq 45, 3) := by decide +kernel
theorem dX12_settles_152 : decode cX12_settles 152 = .ok (.iload_n 2, 1) := by decide +kernel
theorem dX12_settles_153 : decode cX12_settles 153 = .ok (.iconst 1, 1) := by decide +kernel
theorem dX12_settles_154 : decode cX12_settles 154 = .ok (.iload 7, 2) := by decide +kernel
theorem dX12_settles_156 : decode cX12_settles 156 = .ok (.ishl, 1) := by decide +kernel
theorem dX12_settles_157 : decode cX12_settles 157 = .ok (.iconst (-1), 1) := by decide +kernel
theorem dX12_settles_158 : decode cX12_settles 158 = .ok (.ixor, 1) := by decide +kernel
theorem dX12_settles_159 : decode cX12_settles 159 = .ok (.iand, 1) := by decide +kernel
theorem dX12_settles_160 : decode cX12_settles 160 = .ok (.istore_n 2, 1) := by decide +kernel
theorem dX12_settles_161 : decode cX12_settles 161 = .ok (.aload_n 1, 1) := by decide +kernel
theorem dX12_settles_162 : decode cX12_settles 162 = .ok (.bipush 8, 2) := by decide +kernel
theorem dX12_settles_164 : decode cX12_settles 164 = .ok (.iload 7, 2) := by decide +kernel
theorem dX12_settles_166 : decode cX12_settles 166 = .ok (.iadd, 1) := by decide +kernel
theorem dX12_settles_167 : decode cX12_settles 167 = .ok (.iconst 2, 1) := by decide +kernel
theorem dX12_settles_168 : decode cX12_settles 168 = .ok (.iastore, 1) := by decide +kernel
theorem dX12_settles_169 : decode cX12_settles 169 = .ok (.aload_n 0, 1) := by decide +kernel
theorem dX12_settles_170 : decode cX12_settles 170 = .ok (.getfield 70, 3) := by decide +kernel
theorem dX12_settles_173 : decode cX12_settles 173 = .ok (.aload_n 0, 1) := by decide +kernel
theorem dX12_settles_174 : decode cX12_settles 174 = .ok (.getfield 252, 3) := by decide +kernel
theorem dX12_settles_177 : decode cX12_settles 177 = .ok (.iload 7, 2) := by decide +kernel
theorem dX12_settles_179 : decode cX12_settles 179 = .ok (.iastore, 1) := by decide +kernel
theorem dX12_settles_180 : decode cX12_settles 180 = .ok (.aload_n 0, 1) := by decide +kernel
theorem dX12_settles_181 : decode cX12_settles 181 = .ok (.dup, 1) := by decide +kernel
theorem dX12_settles_182 : decode cX12_settles 182 = .ok (.getfield 252, 3) := by decide +kernel
theorem dX12_settles_185 : decode cX12_settles 185 = .ok (.iconst 1, 1) := by decide +kernel
theorem dX12_settles_186 : decode cX12_settles 186 = .ok (.iadd, 1) := by decide +kernel
theorem dX12_settles_187 : decode cX12_settles 187 = .ok (.putfield 252, 3) := by decide +kernel
theorem dX12_settles_190 : decode cX12_settles 190 = .ok (.aload_n 0, 1) := by decide +kernel
theorem dX12_settles_191 : decode cX12_settles 191 = .ok (.invokevirtual 255, 3) := by decide +kernel
theorem dX12_settles_194 : decode cX12_settles 194 = .ok (.iload 5, 2) := by decide +kernel
theorem dX12_settles_196 : decode cX12_settles 196 = .ok (.iconst (-1), 1) := by decide +kernel
theorem dX12_settles_197 : decode cX12_settles 197 = .ok (.if_icmp .ne 15, 3) := by decide +kernel
theorem dX12_settles_200 : decode cX12_settles 200 = .ok (.iload 6, 2) := by decide +kernel
theorem dX12_settles_202 : decode cX12_settles 202 = .ok (.iconst (-1), 1) := by decide +kernel
theorem dX12_settles_203 : decode cX12_settles 203 = .ok (.if_icmp .ne 9, 3) := by decide +kernel
theorem dX12_settles_206 : decode cX12_settles 206 = .ok (.iload 7, 2) := by decide +kernel
theorem dX12_settles_208 : decode cX12_settles 208 = .ok (.iconst (-1), 1) := by decide +kernel
theorem dX12_settles_209 : decode cX12_settles 209 = .ok (.if_icmp .eq 7, 3) := by decide +kernel
theorem dX12_settles_212 : decode cX12_settles 212 = .ok (.iconst 1, 1) := by decide +kernel
theorem dX12_settles_213 : decode cX12_settles 213 = .ok (.goto 4, 3) := by decide +kernel
theorem dX12_settles_216 : decode cX12_settles 216 = .ok (.iconst 0, 1) := by decide +kernel
theorem dX12_settles_217 : decode cX12_settles 217 = .ok (.istore 4, 2) := by decide +kernel
theorem dX12_settles_219 : decode cX12_settles 219 = .ok (.goto (-195), 3) := by decide +kernel
theorem dX12_settles_222 : decode cX12_settles 222 = .ok (.iconst 0, 1) := by decide +kernel
theorem dX12_settles_223 : decode cX12_settles 223 = .ok (.istore 5, 2) := by decide +kernel
theorem dX12_settles_225 : decode cX12_settles 225 = .ok (.iload 5, 2) := by decide +kernel
theorem dX12_settles_227 : decode cX12_settles 227 = .ok (.aload_n 0, 1) := by decide +kernel
theorem dX12_settles_228 : decode cX12_settles 228 = .ok (.getfield 189, 3) := by decide +kernel
theorem dX12_settles_231 : decode cX12_settles 231 = .ok (.if_icmp .ge 41, 3) := by decide +kernel
theorem dX12_settles_234 : decode cX12_settles 234 = .ok (.aload_n 1, 1) := by decide +kernel
theorem dX12_settles_235 : decode cX12_settles 235 = .ok (.bipush 8, 2) := by decide +kernel
theorem dX12_settles_237 : decode cX12_settles 237 = .ok (.iload 5, 2) := by decide +kernel
theorem dX12_settles_239 : decode cX12_settles 239 = .ok (.iadd, 1) := by decide +kernel
theorem dX12_settles_240 : decode cX12_settles 240 = .ok (.iaload, 1) := by decide +kernel
theorem dX12_settles_241 : decode cX12_settles 241 = .ok (.iconst 2, 1) := by decide +kernel
theorem dX12_settles_242 : decode cX12_settles 242 = .ok (.if_icmp .ge 24, 3) := by decide +kernel
theorem dX12_settles_245 : decode cX12_settles 245 = .ok (.aload_n 1, 1) := by decide +kernel
theorem dX12_settles_246 : decode cX12_settles 246 = .ok (.bipush 8, 2) := by decide +kernel
theorem dX12_settles_248 : decode cX12_settles 248 = .ok (.iload 5, 2) := by decide +kernel
theorem dX12_settles_250 : decode cX12_settles 250 = .ok (.iadd, 1) := by decide +kernel
theorem dX12_settles_251 : decode cX12_settles 251 = .ok (.iload_n 2, 1) := by decide +kernel
theorem dX12_settles_252 : decode cX12_settles 252 = .ok (.iload 5, 2) := by decide +kernel
theorem dX12_settles_254 : decode cX12_settles 254 = .ok (.invokestatic 137, 3) := by decide +kernel
theorem dX12_settles_257 : decode cX12_settles 257 = .ok (.ifCond .eq 7, 3) := by decide +kernel
theorem dX12_settles_260 : decode cX12_settles 260 = .ok (.iconst 0, 1) := by decide +kernel
theorem dX12_settles_261 : decode cX12_settles 261 = .ok (.goto 4, 3) := by decide +kernel
theorem dX12_settles_264 : decode cX12_settles 264 = .ok (.iconst 1, 1) := by decide +kernel
theorem dX12_settles_265 : decode cX12_settles 265 = .ok (.iastore, 1) := by decide +kernel
theorem dX12_settles_266 : decode cX12_settles 266 = .ok (.iinc 5 1, 3) := by decide +kernel
theorem dX12_settles_269 : decode cX12_settles 269 = .ok (.goto (-44), 3) := by decide +kernel
theorem dX12_settles_272 : decode cX12_settles 272 = .ok (.aload_n 1, 1) := by decide +kernel
theorem dX12_settles_273 : decode cX12_settles 273 = .ok (.bipush 19, 2) := by decide +kernel
theorem dX12_settles_275 : decode cX12_settles 275 = .ok (.iload_n 3, 1) := by decide +kernel
theorem dX12_settles_276 : decode cX12_settles 276 = .ok (.iastore, 1) := by decide +kernel
theorem dX12_settles_277 : decode cX12_settles 277 = .ok (.aload_n 1, 1) := by decide +kernel
theorem dX12_settles_278 : decode cX12_settles 278 = .ok (.bipush 20, 2) := by decide +kernel
theorem dX12_settles_280 : decode cX12_settles 280 = .ok (.dup2, 1) := by decide +kernel
theorem dX12_settles_281 : decode cX12_settles 281 = .ok (.iaload, 1) := by decide +kernel
theorem dX12_settles_282 : decode cX12_settles 282 = .ok (.aload_n 0, 1) := by decide +kernel
theorem dX12_settles_283 : decode cX12_settles 283 = .ok (.getfield 252, 3) := by decide +kernel
theorem dX12_settles_286 : decode cX12_settles 286 = .ok (.iadd, 1) := by decide +kernel
theorem dX12_settles_287 : decode cX12_settles 287 = .ok (.iastore, 1) := by decide +kernel
theorem dX12_settles_288 : decode cX12_settles 288 = .ok (.iconst (-1), 1) := by decide +kernel
theorem dX12_settles_289 : decode cX12_settles 289 = .ok (.ireturn, 1) := by decide +kernel
