theorem dX11_most_92 : decode cX11_most 92 = .ok (.getfield 276, 3) := by decide +kernel
theorem dX11_most_95 : decode cX11_most 95 = .ok (.ireturn, 1) := by decide +kernel
theorem dX11_most_96 : decode cX11_most 96 = .ok (.aload_n 0, 1) := by decide +kernel
theorem dX11_most_97 : decode cX11_most 97 = .ok (.invokevirtual 213, 3) := by decide +kernel
theorem dX11_most_100 : decode cX11_most 100 = .ok (.aload_n 0, 1) := by decide +kernel
theorem dX11_most_101 : decode cX11_most 101 = .ok (.getfield 48, 3) := by decide +kernel
theorem dX11_most_104 : decode cX11_most 104 = .ok (.getfield 167, 3) := by decide +kernel
theorem dX11_most_107 : decode cX11_most 107 = .ok (.iconst 1, 1) := by decide +kernel
theorem dX11_most_108 : decode cX11_most 108 = .ok (.invokevirtual 279, 3) := by decide +kernel
theorem dX11_most_111 : decode cX11_most 111 = .ok (.ireturn, 1) := by decide +kernel
theorem dX11_most_112 : decode cX11_most 112 = .ok (.aload_n 0, 1) := by decide +kernel
theorem dX11_most_113 : decode cX11_most 113 = .ok (.invokevirtual 213, 3) := by decide +kernel
theorem dX11_most_116 : decode cX11_most 116 = .ok (.aload_n 0, 1) := by decide +kernel
theorem dX11_most_117 : decode cX11_most 117 = .ok (.getfield 48, 3) := by decide +kernel
theorem dX11_most_120 : decode cX11_most 120 = .ok (.getfield 167, 3) := by decide +kernel
theorem dX11_most_123 : decode cX11_most 123 = .ok (.iconst (-1), 1) := by decide +kernel
theorem dX11_most_124 : decode cX11_most 124 = .ok (.invokevirtual 279, 3) := by decide +kernel
theorem dX11_most_127 : decode cX11_most 127 = .ok (.ireturn, 1) := by decide +kernel
theorem dX11_most_128 : decode cX11_most 128 = .ok (.aload_n 0, 1) := by decide +kernel
theorem dX11_most_129 : decode cX11_most 129 = .ok (.getfield 28, 3) := by decide +kernel
theorem dX11_most_132 : decode cX11_most 132 = .ok (.aload_n 0, 1) := by decide +kernel
theorem dX11_most_133 : decode cX11_most 133 = .ok (.getfield 48, 3) := by decide +kernel
theorem dX11_most_136 : decode cX11_most 136 = .ok (.getfield 167, 3) := by decide +kernel
theorem dX11_most_139 : decode cX11_most 139 = .ok (.invokevirtual 264, 3) := by decide +kernel
theorem dX11_most_142 : decode cX11_most 142 = .ok (.ireturn, 1) := by decide +kernel
theorem dX11_most_143 : decode cX11_most 143 = .ok (.aload_n 0, 1) := by decide +kernel
theorem dX11_most_144 : decode cX11_most 144 = .ok (.getfield 48, 3) := by decide +kernel
theorem dX11_most_147 : decode cX11_most 147 = .ok (.getfield 282, 3) := by decide +kernel
theorem dX11_most_150 : decode cX11_most 150 = .ok (.ireturn, 1) := by decide +kernel
theorem dX11_most_151 : decode cX11_most 151 = .ok (.aload_n 0, 1) := by decide +kernel
theorem dX11_most_152 : decode cX11_most 152 = .ok (.invokevirtual 285, 3) := by decide +kernel
theorem dX11_most_155 : decode cX11_most 155 = .ok (.ireturn, 1) := by decide +kernel
theorem dX11_most_156 : decode cX11_most 156 = .ok (.ldc 184, 2) := by decide +kernel
theorem dX11_most_158 : decode cX11_most 158 = .ok (.ireturn, 1) := by decide +kernel
theorem dX11_leastAccord_0 : decode cX11_leastAccord 0 = .ok (.iconst (-1), 1) := by decide +kernel
theorem dX11_leastAccord_1 : decode cX11_leastAccord 1 = .ok (.istore_n 1, 1) := by decide +kernel
theorem dX11_leastAccord_2 : decode cX11_leastAccord 2 = .ok (.iconst 0, 1) := by decide +kernel
theorem dX11_leastAccord_3 : decode cX11_leastAccord 3 = .ok (.istore_n 2, 1) := by decide +kernel
theorem dX11_leastAccord_4 : decode cX11_leastAccord 4 = .ok (.iconst 0, 1) := by decide +kernel
theorem dX11_leastAccord_5 : decode cX11_leastAccord 5 = .ok (.istore_n 3, 1) := by decide +kernel
theorem dX11_leastAccord_6 : decode cX11_leastAccord 6 = .ok (.iload_n 3, 1) := by decide +kernel
theorem dX11_leastAccord_7 : decode cX11_leastAccord 7 = .ok (.aload_n 0, 1) := by decide +kernel
theorem dX11_leastAccord_8 : decode cX11_leastAccord 8 = .ok (.getfield 28, 3) := by decide +kernel
theorem dX11_leastAccord_11 : decode cX11_leastAccord 11 = .ok (.getfield 150, 3) := by decide +kernel
theorem dX11_leastAccord_14 : decode cX11_leastAccord 14 = .ok (.if_icmp .ge 86, 3) := by decide +kernel
theorem dX11_leastAccord_17 : decode cX11_leastAccord 17 = .ok (.iload_n 3, 1) := by decide +kernel
theorem dX11_leastAccord_18 : decode cX11_leastAccord 18 = .ok (.iconst 1, 1) := by decide +kernel
theorem dX11_leastAccord_19 : decode cX11_leastAccord 19 = .ok (.iadd, 1) := by decide +kernel
theorem dX11_leastAccord_20 : decode cX11_leastAccord 20 = .ok (.istore 4, 2) := by decide +kernel
theorem dX11_leastAccord_22 : decode cX11_leastAccord 22 = .ok (.iload 4, 2) := by decide +kernel
theorem dX11_leastAccord_24 : decode cX11_leastAccord 24 = .ok (.aload_n 0, 1) := by decide +kernel
theorem dX11_leastAccord_25 : decode cX11_leastAccord 25 = .ok (.getfield 28, 3) := by decide +kernel
theorem dX11_leastAccord_28 : decode cX11_leastAccord 28 = .ok (.getfield 150, 3) := by decide +kernel
theorem dX11_leastAccord_31 : decode cX11_leastAccord 31 = .ok (.if_icmp .ge 63, 3) := by decide +kernel
theorem dX11_leastAccord_34 : decode cX11_leastAccord 34 = .ok (.aload_n 0, 1) := by decide +kernel
theorem dX11_leastAccord_35 : decode cX11_leastAccord 35 = .ok (.iload_n 3, 1) := by decide +kernel
theorem dX11_leastAccord_36 : decode cX11_leastAccord 36 = .ok (.invokevirtual 246, 3) := by decide +kernel
theorem dX11_leastAccord_39 : decode cX11_leastAccord 39 = .ok (.ifCond .eq 49, 3) := by decide +kernel
theorem dX11_leastAccord_42 : decode cX11_leastAccord 42 = .ok (.aload_n 0, 1) := by decide +kernel
theorem dX11_leastAccord_43 : decode cX11_leastAccord 43 = .ok (.iload 4, 2) := by decide +kernel
theorem dX11_leastAccord_45 : decode cX11_leastAccord 45 = .ok (.invokevirtual 246, 3) := by decide +kernel
theorem dX11_leastAccord_48 : decode cX11_leastAccord 48 = .ok (.ifCond .ne 6, 3) := by decide +kernel
theorem dX11_leastAccord_51 : decode cX11_leastAccord 51 = .ok (.goto 37, 3) := by decide +kernel
theorem dX11_leastAccord_54 : decode cX11_leastAccord 54 = .ok (.aload_n 0, 1) := by decide +kernel
theorem dX11_leastAccord_55 : decode cX11_leastAccord 55 = .ok (.getfield 28, 3) := by decide +kernel
theorem dX11_leastAccord_58 : decode cX11_leastAccord 58 = .ok (.iload_n 3, 1) := by decide +kernel
theorem dX11_leastAccord_59 : decode cX11_leastAccord 59 = .ok (.iload 4, 2) := by decide +kernel
theorem dX11_leastAccord_61 : decode cX11_leastAccord 61 = .ok (.invokevirtual 261, 3) := by decide +kernel
theorem dX11_leastAccord_64 : decode cX11_leastAccord 64 = .ok (.istore 5, 2) := by decide +kernel
theorem dX11_leastAccord_66 : decode cX11_leastAccord 66 = .ok (.iload_n 1, 1) := by decide +kernel
theorem dX11_leastAccord_67 : decode cX11_leastAccord 67 = .ok (.iconst (-1), 1) := by decide +kernel
theorem dX11_leastAccord_68 : decode cX11_leastAccord 68 = .ok (.if_icmp .eq 9, 3) := by decide +kernel
theorem dX11_leastAccord_71 : decode cX11_leastAccord 71 = .ok (.iload 5, 2) := by decide +kernel
theorem dX11_leastAccord_73 : decode cX11_leastAccord 73 = .ok (.iload_n 2, 1) := by decide +kernel
theorem dX11_leastAccord_74 : decode cX11_leastAccord 74 = .ok (.if_icmp .ge 14, 3) := by decide +kernel
theorem dX11_leastAccord_77 : decode cX11_leastAccord 77 = .ok (.bipush 8, 2) := by decide +kernel
theorem dX11_leastAccord_79 : decode cX11_leastAccord 79 = .ok (.iload_n 3, 1) := by decide +kernel
theorem dX11_leastAccord_80 : decode cX11_leastAccord 80 = .ok (.imul, 1) := by decide +kernel
theorem dX11_leastAccord_81 : decode cX11_leastAccord 81 = .ok (.iload 4, 2) := by decide +kernel
theorem dX11_leastAccord_83 : decode cX11_leastAccord 83 = .ok (.iadd, 1) := by decide +kernel
theorem dX11_leastAccord_84 : decode cX11_leastAccord 84 = .ok (.istore_n 1, 1) := by decide +kernel
theorem dX11_leastAccord_85 : decode cX11_leastAccord 85 = .ok (.iload 5, 2) := by decide +kernel
theorem dX11_leastAccord_87 : decode cX11_leastAccord 87 = .ok (.istore_n 2, 1) := by decide +kernel
theorem dX11_leastAccord_88 : decode cX11_leastAccord 88 = .ok (.iinc 4 1, 3) := by decide +kernel
theorem dX11_leastAccord_91 : decode cX11_leastAccord 91 = .ok (.goto (-69), 3) := by decide +kernel
theorem dX11_leastAccord_94 : decode cX11_leastAccord 94 = .ok (.iinc 3 1, 3) := by decide +kernel
theorem dX11_leastAccord_97 : decode cX11_leastAccord 97 = .ok (.goto (-91), 3) := by decide +kernel
theorem dX11_leastAccord_100 : decode cX11_leastAccord 100 = .ok (.iload_n 1, 1) := by decide +kernel
theorem dX11_leastAccord_101 : decode cX11_leastAccord 101 = .ok (.ireturn, 1) := by decide +kernel
theorem dX11_count_0 : decode cX11_count 0 = .ok (.iload_n 1, 1) := by decide +kernel
theorem dX11_count_1 : decode cX11_count 1 = .ok (.tableswitch 77 0 4 #[35, 43, 48, 56, 69], 35) := by decide +kernel
theorem dX11_count_36 : decode cX11_count 36 = .ok (.aload_n 0, 1) := by decide +kernel
theorem dX11_count_37 : decode cX11_count 37 = .ok (.getfield 28, 3) := by decide +kernel
theorem dX11_count_40 : decode cX11_count 40 = .ok (.getfield 150, 3) := by decide +kernel
theorem dX11_count_43 : decode cX11_count 43 = .ok (.ireturn, 1) := by decide +kernel
theorem dX11_count_44 : decode cX11_count 44 = .ok (.aload_n 0, 1) := by decide +kernel
theorem dX11_count_45 : decode cX11_count 45 = .ok (.getfield 41, 3) := by decide +kernel
theorem dX11_count_48 : decode cX11_count 48 = .ok (.ireturn, 1) := by decide +kernel
theorem dX11_count_49 : decode cX11_count 49 = .ok (.aload_n 0, 1) := by decide +kernel
theorem dX11_count_50 : decode cX11_count 50 = .ok (.getfield 10, 3) := by decide +kernel
theorem dX11_count_53 : decode cX11_count 53 = .ok (.getfield 113, 3) := by decide +kernel
theorem dX11_count_56 : decode cX11_count 56 = .ok (.ireturn, 1) := by decide +kernel
theorem dX11_count_57 : decode cX11_count 57 = .ok (.aload_n 0, 1) := by decide +kernel
theorem dX11_count_58 : decode cX11_count 58 = .ok (.getfield 48, 3) := by decide +kernel
theorem dX11_count_61 : decode cX11_count 61 = .ok (.getfield 288, 3) := by decide +kernel
theorem dX11_count_64 : decode cX11_count 64 = .ok (.bipush 60, 2) := by decide +kernel
theorem dX11_count_66 : decode cX11_count 66 = .ok (.invokestatic 291, 3) := by decide +kernel
theorem dX11_count_69 : decode cX11_count 69 = .ok (.ireturn, 1) := by decide +kernel
theorem dX11_count_70 : decode cX11_count 70 = .ok (.aload_n 0, 1) := by decide +kernel
theorem dX11_count_71 : decode cX11_count 71 = .ok (.getfield 82, 3) := by decide +kernel
theorem dX11_count_74 : decode cX11_count 74 = .ok (.getfield 296, 3) := by decide +kernel
theorem dX11_count_77 : decode cX11_count 77 = .ok (.ireturn, 1) := by decide +kernel
theorem dX11_count_78 : decode cX11_count 78 = .ok (.ldc 184, 2) := by decide +kernel
theorem dX11_count_80 : decode cX11_count 80 = .ok (.ireturn, 1) := by decide +kernel
theorem dX11_wind_0 : decode cX11_wind 0 = .ok (.aload_n 0, 1) := by decide +kernel
theorem dX11_wind_1 : decode cX11_wind 1 = .ok (.iconst 0, 1) := by decide +kernel
theorem dX11_wind_2 : decode cX11_wind 2 = .ok (.iload_n 1, 1) := by decide +kernel
theorem dX11_wind_3 : decode cX11_wind 3 = .ok (.iload_n 2, 1) := by decide +kernel
theorem dX11_wind_4 : decode cX11_wind 4 = .ok (.iload_n 3, 1) := by decide +kernel
theorem dX11_wind_5 : decode cX11_wind 5 = .ok (.invokevirtual 299, 3) := by decide +kernel
theorem dX11_wind_8 : decode cX11_wind 8 = .ok (.ireturn, 1) := by decide +kernel
theorem dX11_winch_0 : decode cX11_winch 0 = .ok (.aload_n 0, 1) := by decide +kernel
theorem dX11_winch_1 : decode cX11_winch 1 = .ok (.iconst 1, 1) := by decide +kernel
theorem dX11_winch_2 : decode cX11_winch 2 = .ok (.iload_n 1, 1) := by decide +kernel
theorem dX11_winch_3 : decode cX11_winch 3 = .ok (.iload_n 2, 1) := by decide +kernel
theorem dX11_winch_4 : decode cX11_winch 4 = .ok (.iconst 0, 1) := by decide +kernel
theorem dX11_winch_5 : decode cX11_winch 5 = .ok (.invokevirtual 299, 3) := by decide +kernel
theorem dX11_winch_8 : decode cX11_winch 8 = .ok (.ireturn, 1) := by decide +kernel
theorem dX11_cast_0 : decode cX11_cast 0 = .ok (.aload_n 0, 1) := by decide +kernel
theorem dX11_cast_1 : decode cX11_cast 1 = .ok (.iconst 2, 1) := by decide +kernel
theorem dX11_cast_2 : decode cX11_cast 2 = .ok (.iload_n 1, 1) := by decide +kernel
theorem dX11_cast_3 : decode cX11_cast 3 = .ok (.iconst 0, 1) := by decide +kernel
theorem dX11_cast_4 : decode cX11_cast 4 = .ok (.iconst 0, 1) := by decide +kernel
theorem dX11_cast_5 : decode cX11_cast 5 = .ok (.invokevirtual 299, 3) := by decide +kernel
theorem dX11_cast_8 : decode cX11_cast 8 = .ok (.ireturn, 1) := by decide +kernel
theorem dX11_renew_0 : decode cX11_renew 0 = .ok (.aload_n 0, 1) := by decide +kernel
theorem dX11_renew_1 : decode cX11_renew 1 = .ok (.iconst 3, 1) := by decide +kernel
theorem dX11_renew_2 : decode cX11_renew 2 = .ok (.iload_n 1, 1) := by decide +kernel
theorem dX11_renew_3 : decode cX11_renew 3 = .ok (.iconst 0, 1) := by decide +kernel
theorem dX11_renew_4 : decode cX11_renew 4 = .ok (.iconst 0, 1) := by decide +kernel
theorem dX11_renew_5 : decode cX11_renew 5 = .ok (.invokevirtual 299, 3) := by decide +kernel
theorem dX11_renew_8 : decode cX11_renew 8 = .ok (.ireturn, 1) := by decide +kernel
theorem dX11_actByHand_0 : decode cX11_actByHand 0 = .ok (.aload_n 0, 1) := by decide +kernel
theorem dX11_actByHand_1 : decode cX11_actByHand 1 = .ok (.iload_n 1, 1) := by decide +kernel
theorem dX11_actByHand_2 : decode cX11_actByHand 2 = .ok (.iload_n 2, 1) := by decide +kernel
theorem dX11_actByHand_3 : decode cX11_actByHand 3 = .ok (.iload_n 3, 1) := by decide +kernel
theorem dX11_actByHand_4 : decode cX11_actByHand 4 = .ok (.iload 4, 2) := by decide +kernel
theorem dX11_actByHand_6 : decode cX11_actByHand 6 = .ok (.invokevirtual 303, 3) := by decide +kernel
theorem dX11_actByHand_9 : decode cX11_actByHand 9 = .ok (.istore 5, 2) := by decide +kernel
theorem dX11_actByHand_11 : decode cX11_actByHand 11 = .ok (.iload 5, 2) := by decide +kernel
theorem dX11_actByHand_13 : decode cX11_actByHand 13 = .ok (.iconst (-1), 1) := by decide +kernel
theorem dX11_actByHand_14 : decode cX11_actByHand 14 = .ok (.if_icmp .eq 19, 3) := by decide +kernel
theorem dX11_actByHand_17 : decode cX11_actByHand 17 = .ok (.aload_n 0, 1) := by decide +kernel
theorem dX11_actByHand_18 : decode cX11_actByHand 18 = .ok (.getfield 89, 3) := by decide +kernel
theorem dX11_actByHand_21 : decode cX11_actByHand 21 = .ok (.invokevirtual 306, 3) := by decide +kernel
theorem dX11_actByHand_24 : decode cX11_actByHand 24 = .ok (.aload_n 0, 1) := by decide +kernel
theorem dX11_actByHand_25 : decode cX11_actByHand 25 = .ok (.iload_n 1, 1) := by decide +kernel
theorem dX11_actByHand_26 : decode cX11_actByHand 26 = .ok (.iload 5, 2) := by decide +kernel
theorem dX11_actByHand_28 : decode cX11_actByHand 28 = .ok (.invokevirtual 308, 3) := by decide +kernel
theorem dX11_actByHand_31 : decode cX11_actByHand 31 = .ok (.iconst (-1), 1) := by decide +kernel
theorem dX11_actByHand_32 : decode cX11_actByHand 32 = .ok (.ireturn, 1) := by decide +kernel
theorem dX11_actByHand_33 : decode cX11_actByHand 33 = .ok (.aload_n 0, 1) := by decide +kernel
theorem dX11_actByHand_34 : decode cX11_actByHand 34 = .ok (.getfield 58, 3) := by decide +kernel
theorem dX11_actByHand_37 : decode cX11_actByHand 37 = .ok (.getfield 312, 3) := by decide +kernel
theorem dX11_actByHand_40 : decode cX11_actByHand 40 = .ok (.ireturn, 1) := by decide +kernel
theorem dX11_tryAct_0 : decode cX11_tryAct 0 = .ok (.aload_n 0, 1) := by decide +kernel
theorem dX11_tryAct_1 : decode cX11_tryAct 1 = .ok (.getfield 52, 3) := by decide +kernel
theorem dX11_tryAct_4 : decode cX11_tryAct 4 = .ok (.aload_n 0, 1) := by decide +kernel
theorem dX11_tryAct_5 : decode cX11_tryAct 5 = .ok (.getfield 48, 3) := by decide +kernel
theorem dX11_tryAct_8 : decode cX11_tryAct 8 = .ok (.invokevirtual 143, 3) := by decide +kernel
theorem dX11_tryAct_11 : decode cX11_tryAct 11 = .ok (.aload_n 0, 1) := by decide +kernel
theorem dX11_tryAct_12 : decode cX11_tryAct 12 = .ok (.getfield 58, 3) := by decide +kernel
theorem dX11_tryAct_15 : decode cX11_tryAct 15 = .ok (.aload_n 0, 1) := by decide +kernel
theorem dX11_tryAct_16 : decode cX11_tryAct 16 = .ok (.getfield 28, 3) := by decide +kernel
theorem dX11_tryAct_19 : decode cX11_tryAct 19 = .ok (.aload_n 0, 1) := by decide +kernel
theorem dX11_tryAct_20 : decode cX11_tryAct 20 = .ok (.getfield 52, 3) := by decide +kernel
theorem dX11_tryAct_23 : decode cX11_tryAct 23 = .ok (.iload_n 1, 1) := by decide +kernel
theorem dX11_tryAct_24 : decode cX11_tryAct 24 = .ok (.iload_n 2, 1) := by decide +kernel
theorem dX11_tryAct_25 : decode cX11_tryAct 25 = .ok (.iload_n 3, 1) := by decide +kernel
theorem dX11_tryAct_26 : decode cX11_tryAct 26 = .ok (.iload 4, 2) := by decide +kernel
theorem dX11_tryAct_28 : decode cX11_tryAct 28 = .ok (.invokevirtual 315, 3) := by decide +kernel
theorem dX11_tryAct_31 : decode cX11_tryAct 31 = .ok (.istore 5, 2) := by decide +kernel
theorem dX11_tryAct_33 : decode cX11_tryAct 33 = .ok (.iload 5, 2) := by decide +kernel
theorem dX11_tryAct_35 : decode cX11_tryAct 35 = .ok (.iconst (-1), 1) := by decide +kernel
theorem dX11_tryAct_36 : decode cX11_tryAct 36 = .ok (.if_icmp .ne 31, 3) := by decide +kernel
theorem dX11_tryAct_39 : decode cX11_tryAct 39 = .ok (.aload_n 0, 1) := by decide +kernel
theorem dX11_tryAct_40 : decode cX11_tryAct 40 = .ok (.iload_n 1, 1) := by decide +kernel
theorem dX11_tryAct_41 : decode cX11_tryAct 41 = .ok (.iload_n 2, 1) := by decide +kernel
theorem dX11_tryAct_42 : decode cX11_tryAct 42 = .ok (.invokevirtual 319, 3) := by decide +kernel
theorem dX11_tryAct_45 : decode cX11_tryAct 45 = .ok (.aload_n 0, 1) := by decide +kernel
theorem dX11_tryAct_46 : decode cX11_tryAct 46 = .ok (.getfield 82, 3) := by decide +kernel
theorem dX11_tryAct_49 : decode cX11_tryAct 49 = .ok (.aload_n 0, 1) := by decide +kernel
theorem dX11_tryAct_50 : decode cX11_tryAct 50 = .ok (.getfield 48, 3) := by decide +kernel
theorem dX11_tryAct_53 : decode cX11_tryAct 53 = .ok (.invokevirtual 322, 3) := by decide +kernel
theorem dX11_tryAct_56 : decode cX11_tryAct 56 = .ok (.aload_n 0, 1) := by decide +kernel
theorem dX11_tryAct_57 : decode cX11_tryAct 57 = .ok (.getfield 48, 3) := by decide +kernel
theorem dX11_tryAct_60 : decode cX11_tryAct 60 = .ok (.aload_n 0, 1) := by decide +kernel
theorem dX11_tryAct_61 : decode cX11_tryAct 61 = .ok (.getfield 52, 3) := by decide +kernel
theorem dX11_tryAct_64 : decode cX11_tryAct 64 = .ok (.invokevirtual 143, 3) := by decide +kernel
theorem dX11_tryAct_67 : decode cX11_tryAct 67 = .ok (.iload 5, 2) := by decide +kernel
theorem dX11_tryAct_69 : decode cX11_tryAct 69 = .ok (.ireturn, 1) := by decide +kernel
theorem dX11_writeLine_0 : decode cX11_writeLine 0 = .ok (.aload_n 0, 1) := by decide +kernel
theorem dX11_writeLine_1 : decode cX11_writeLine 1 = .ok (.getfield 75, 3) := by decide +kernel
theorem dX11_writeLine_4 : decode cX11_writeLine 4 = .ok (.aload_n 0, 1) := by decide +kernel
theorem dX11_writeLine_5 : decode cX11_writeLine 5 = .ok (.getfield 52, 3) := by decide +kernel
theorem dX11_writeLine_8 : decode cX11_writeLine 8 = .ok (.getfield 288, 3) := by decide +kernel
theorem dX11_writeLine_11 : decode cX11_writeLine 11 = .ok (.iload_n 1, 1) := by decide +kernel
theorem dX11_writeLine_12 : decode cX11_writeLine 12 = .ok (.iload_n 1, 1) := by decide +kernel
theorem dX11_writeLine_13 : decode cX11_writeLine 13 = .ok (.ifCond .ne 7, 3) := by decide +kernel
theorem dX11_writeLine_16 : decode cX11_writeLine 16 = .ok (.iconst (-1), 1) := by decide +kernel
theorem dX11_writeLine_17 : decode cX11_writeLine 17 = .ok (.goto 4, 3) := by decide +kernel
theorem dX11_writeLine_20 : decode cX11_writeLine 20 = .ok (.iload_n 2, 1) := by decide +kernel
theorem dX11_writeLine_21 : decode cX11_writeLine 21 = .ok (.aload_n 0, 1) := by decide +kernel
theorem dX11_writeLine_22 : decode cX11_writeLine 22 = .ok (.getfield 58, 3) := by decide +kernel
theorem dX11_writeLine_25 : decode cX11_writeLine 25 = .ok (.getfield 312, 3) := by decide +kernel
theorem dX11_writeLine_28 : decode cX11_writeLine 28 = .ok (.invokevirtual 325, 3) := by decide +kernel
theorem dX11_writeLine_31 : decode cX11_writeLine 31 = .ok (.aload_n 0, 1) := by decide +kernel
theorem dX11_writeLine_32 : decode cX11_writeLine 32 = .ok (.getfield 52, 3) := by decide +kernel
theorem dX11_writeLine_35 : decode cX11_writeLine 35 = .ok (.dup, 1) := by decide +kernel
theorem dX11_writeLine_36 : decode cX11_writeLine 36 = .ok (.getfield 288, 3) := by decide +kernel
theorem dX11_writeLine_39 : decode cX11_writeLine 39 = .ok (.iconst 1, 1) := by decide +kernel
theorem dX11_writeLine_40 : decode cX11_writeLine 40 = .ok (.iadd, 1) := by decide +kernel
theorem dX11_writeLine_41 : decode cX11_writeLine 41 = .ok (.putfield 288, 3) := by decide +kernel
theorem dX11_writeLine_44 : decode cX11_writeLine 44 = .ok (.return_, 1) := by decide +kernel
theorem dX11_refuse_0 : decode cX11_refuse 0 = .ok (.aload_n 0, 1) := by decide +kernel
theorem dX11_refuse_1 : decode cX11_refuse 1 = .ok (.getfield 89, 3) := by decide +kernel
theorem dX11_refuse_4 : decode cX11_refuse 4 = .ok (.bipush 100, 2) := by decide +kernel
theorem dX11_refuse_6 : decode cX11_refuse 6 = .ok (.iload_n 1, 1) := by decide +kernel
theorem dX11_refuse_7 : decode cX11_refuse 7 = .ok (.iadd, 1) := by decide +kernel
theorem dX11_refuse_8 : decode cX11_refuse 8 = .ok (.invokevirtual 329, 3) := by decide +kernel
theorem dX11_refuse_11 : decode cX11_refuse 11 = .ok (.iload_n 2, 1) := by decide +kernel
theorem dX11_refuse_12 : decode cX11_refuse 12 = .ok (.iconst 3, 1) := by decide +kernel
theorem dX11_refuse_13 : decode cX11_refuse 13 = .ok (.if_icmp .eq 8, 3) := by decide +kernel
theorem dX11_refuse_16 : decode cX11_refuse 16 = .ok (.iload_n 2, 1) := by decide +kernel
theorem dX11_refuse_17 : decode cX11_refuse 17 = .ok (.iconst 4, 1) := by decide +kernel
theorem dX11_refuse_18 : decode cX11_refuse 18 = .ok (.if_icmp .ne 21, 3) := by decide +kernel
theorem dX11_refuse_21 : decode cX11_refuse 21 = .ok (.aload_n 0, 1) := by decide +kernel
theorem dX11_refuse_22 : decode cX11_refuse 22 = .ok (.getfield 89, 3) := by decide +kernel
theorem dX11_refuse_25 : decode cX11_refuse 25 = .ok (.sipush 200, 3) := by decide +kernel
theorem dX11_refuse_28 : decode cX11_refuse 28 = .ok (.aload_n 0, 1) := by decide +kernel
theorem dX11_refuse_29 : decode cX11_refuse 29 = .ok (.getfield 58, 3) := by decide +kernel
theorem dX11_refuse_32 : decode cX11_refuse 32 = .ok (.getfield 332, 3) := by decide +kernel
theorem dX11_refuse_35 : decode cX11_refuse 35 = .ok (.iadd, 1) := by decide +kernel
theorem dX11_refuse_36 : decode cX11_refuse 36 = .ok (.invokevirtual 329, 3) := by decide +kernel
theorem dX11_refuse_39 : decode cX11_refuse 39 = .ok (.aload_n 0, 1) := by decide +kernel
theorem dX11_refuse_40 : decode cX11_refuse 40 = .ok (.getfield 89, 3) := by decide +kernel
theorem dX11_refuse_43 : decode cX11_refuse 43 = .ok (.iload_n 2, 1) := by decide +kernel
theorem dX11_refuse_44 : decode cX11_refuse 44 = .ok (.invokevirtual 335, 3) := by decide +kernel
theorem dX11_refuse_47 : decode cX11_refuse 47 = .ok (.return_, 1) := by decide +kernel
theorem dX11_status_0 : decode cX11_status 0 = .ok (.iload_n 1, 1) := by decide +kernel
theorem dX11_status_1 : decode cX11_status 1 = .ok (.iconst 0, 1) := by decide +kernel
theorem dX11_status_2 : decode cX11_status 2 = .ok (.iconst 4, 1) := by decide +kernel
theorem dX11_status_3 : decode cX11_status 3 = .ok (.invokestatic 180, 3) := by decide +kernel
theorem dX11_status_6 : decode cX11_status 6 = .ok (.ifCond .eq 15, 3) := by decide +kernel
theorem dX11_status_9 : decode cX11_status 9 = .ok (.aload_n 0, 1) := by decide +kernel
theorem dX11_status_10 : decode cX11_status 10 = .ok (.getfield 89, 3) := by decide +kernel
theorem dX11_status_13 : decode cX11_status 13 = .ok (.getfield 338, 3) := by decide +kernel
theorem dX11_status_16 : decode cX11_status 16 = .ok (.iload_n 1, 1) := by decide +kernel
theorem dX11_status_17 : decode cX11_status 17 = .ok (.iaload, 1) := by decide +kernel
theorem dX11_status_18 : decode cX11_status 18 = .ok (.goto 4, 3) := by decide +kernel
theorem dX11_status_21 : decode cX11_status 21 = .ok (.iconst (-1), 1) := by decide +kernel
theorem dX11_status_22 : decode cX11_status 22 = .ok (.ireturn, 1) := by decide +kernel
theorem dX11_cause_0 : decode cX11_cause 0 = .ok (.aload_n 0, 1) := by decide +kernel
theorem dX11_cause_1 : decode cX11_cause 1 = .ok (.getfield 89, 3) := by decide +kernel
theorem dX11_cause_4 : decode cX11_cause 4 = .ok (.iload_n 1, 1) := by decide +kernel
theorem dX11_cause_5 : decode cX11_cause 5 = .ok (.invokevirtual 341, 3) := by decide +kernel
theorem dX11_cause_8 : decode cX11_cause 8 = .ok (.ireturn, 1) := by decide +kernel
theorem dX11_undo_0 : decode cX11_undo 0 = .ok (.aload_n 0, 1) := by decide +kernel
theorem dX11_undo_1 : decode cX11_undo 1 = .ok (.getfield 82, 3) := by decide +kernel
theorem dX11_undo_4 : decode cX11_undo 4 = .ok (.aload_n 0, 1) := by decide +kernel
theorem dX11_undo_5 : decode cX11_undo 5 = .ok (.getfield 48, 3) := by decide +kernel
theorem dX11_undo_8 : decode cX11_undo 8 = .ok (.invokevirtual 344, 3) := by decide +kernel
theorem dX11_undo_11 : decode cX11_undo 11 = .ok (.ifCond .eq 13, 3) := by decide +kernel
theorem dX11_undo_14 : decode cX11_undo 14 = .ok (.aload_n 0, 1) := by decide +kernel
theorem dX11_undo_15 : decode cX11_undo 15 = .ok (.getfield 82, 3) := by decide +kernel
theorem dX11_undo_18 : decode cX11_undo 18 = .ok (.getfield 296, 3) := by decide +kernel
theorem dX11_undo_21 : decode cX11_undo 21 = .ok (.goto 4, 3) := by decide +kernel
theorem dX11_undo_24 : decode cX11_undo 24 = .ok (.iconst (-1), 1) := by decide +kernel
theorem dX11_undo_25 : decode cX11_undo 25 = .ok (.ireturn, 1) := by decide +kernel
theorem dX11_log_0 : decode cX11_log 0 = .ok (.iload_n 1, 1) := by decide +kernel
theorem dX11_log_1 : decode cX11_log 1 = .ok (.ifCond .lt 28, 3) := by decide +kernel
theorem dX11_log_4 : decode cX11_log 4 = .ok (.iload_n 1, 1) := by decide +kernel
theorem dX11_log_5 : decode cX11_log 5 = .ok (.aload_n 0, 1) := by decide +kernel
theorem dX11_log_6 : decode cX11_log 6 = .ok (.getfield 48, 3) := by decide +kernel
theorem dX11_log_9 : decode cX11_log 9 = .ok (.getfield 288, 3) := by decide +kernel
theorem dX11_log_12 : decode cX11_log 12 = .ok (.bipush 60, 2) := by decide +kernel
theorem dX11_log_14 : decode cX11_log 14 = .ok (.invokestatic 291, 3) := by decide +kernel
theorem dX11_log_17 : decode cX11_log 17 = .ok (.if_icmp .ge 12, 3) := by decide +kernel
theorem dX11_log_20 : decode cX11_log 20 = .ok (.iload_n 2, 1) := by decide +kernel
theorem dX11_log_21 : decode cX11_log 21 = .ok (.iconst 0, 1) := by decide +kernel
theorem dX11_log_22 : decode cX11_log 22 = .ok (.iconst 2, 1) := by decide +kernel
theorem dX11_log_23 : decode cX11_log 23 = .ok (.invokestatic 180, 3) := by decide +kernel
theorem dX11_log_26 : decode cX11_log 26 = .ok (.ifCond .ne 6, 3) := by decide +kernel
theorem dX11_log_29 : decode cX11_log 29 = .ok (.ldc 184, 2) := by decide +kernel
theorem dX11_log_31 : decode cX11_log 31 = .ok (.ireturn, 1) := by decide +kernel
theorem dX11_log_32 : decode cX11_log 32 = .ok (.aload_n 0, 1) := by decide +kernel
theorem dX11_log_33 : decode cX11_log 33 = .ok (.getfield 75, 3) := by decide +kernel
theorem dX11_log_36 : decode cX11_log 36 = .ok (.aload_n 0, 1) := by decide +kernel
theorem dX11_log_37 : decode cX11_log 37 = .ok (.getfield 48, 3) := by decide +kernel
theorem dX11_log_40 : decode cX11_log 40 = .ok (.getfield 288, 3) := by decide +kernel
theorem dX11_log_43 : decode cX11_log 43 = .ok (.iconst 1, 1) := by decide +kernel
theorem dX11_log_44 : decode cX11_log 44 = .ok (.isub, 1) := by decide +kernel
theorem dX11_log_45 : decode cX11_log 45 = .ok (.iload_n 1, 1) := by decide +kernel
theorem dX11_log_46 : decode cX11_log 46 = .ok (.isub, 1) := by decide +kernel
theorem dX11_log_47 : decode cX11_log 47 = .ok (.iload_n 2, 1) := by decide +kernel
theorem dX11_log_48 : decode cX11_log 48 = .ok (.invokevirtual 348, 3) := by decide +kernel
theorem dX11_log_51 : decode cX11_log 51 = .ok (.ireturn, 1) := by decide +kernel
theorem dX11_isScript_0 : decode cX11_isScript 0 = .ok (.iload_n 1, 1) := by decide +kernel
theorem dX11_isScript_1 : decode cX11_isScript 1 = .ok (.ifCond .lt 15, 3) := by decide +kernel
theorem dX11_isScript_4 : decode cX11_isScript 4 = .ok (.iload_n 1, 1) := by decide +kernel
theorem dX11_isScript_5 : decode cX11_isScript 5 = .ok (.aload_n 0, 1) := by decide +kernel
theorem dX11_isScript_6 : decode cX11_isScript 6 = .ok (.getfield 41, 3) := by decide +kernel
theorem dX11_isScript_9 : decode cX11_isScript 9 = .ok (.if_icmp .ge 7, 3) := by decide +kernel
theorem dX11_isScript_12 : decode cX11_isScript 12 = .ok (.iconst 1, 1) := by decide +kernel
theorem dX11_isScript_13 : decode cX11_isScript 13 = .ok (.goto 4, 3) := by decide +kernel
theorem dX11_isScript_16 : decode cX11_isScript 16 = .ok (.iconst 0, 1) := by decide +kernel
theorem dX11_isScript_17 : decode cX11_isScript 17 = .ok (.ireturn, 1) := by decide +kernel
theorem dX11_step_0 : decode cX11_step 0 = .ok (.aload_n 0, 1) := by decide +kernel
theorem dX11_step_1 : decode cX11_step 1 = .ok (.iload_n 1, 1) := by decide +kernel
theorem dX11_step_2 : decode cX11_step 2 = .ok (.invokevirtual 351, 3) := by decide +kernel
theorem dX11_step_5 : decode cX11_step 5 = .ok (.ifCond .eq 29, 3) := by decide +kernel
theorem dX11_step_8 : decode cX11_step 8 = .ok (.iload_n 2, 1) := by decide +kernel
theorem dX11_step_9 : decode cX11_step 9 = .ok (.ifCond .lt 25, 3) := by decide +kernel
theorem dX11_step_12 : decode cX11_step 12 = .ok (.iload_n 2, 1) := by decide +kernel
theorem dX11_step_13 : decode cX11_step 13 = .ok (.aload_n 0, 1) := by decide +kernel
theorem dX11_step_14 : decode cX11_step 14 = .ok (.getfield 37, 3) := by decide +kernel
theorem dX11_step_17 : decode cX11_step 17 = .ok (.iload_n 1, 1) := by decide +kernel
theorem dX11_step_18 : decode cX11_step 18 = .ok (.aaload, 1) := by decide +kernel
theorem dX11_step_19 : decode cX11_step 19 = .ok (.getfield 354, 3) := by decide +kernel
theorem dX11_step_22 : decode cX11_step 22 = .ok (.if_icmp .ge 12, 3) := by decide +kernel
theorem dX11_step_25 : decode cX11_step 25 = .ok (.iload_n 3, 1) := by decide +kernel
theorem dX11_step_26 : decode cX11_step 26 = .ok (.iconst 0, 1) := by decide +kernel
theorem dX11_step_27 : decode cX11_step 27 = .ok (.iconst 3, 1) := by decide +kernel
theorem dX11_step_28 : decode cX11_step 28 = .ok (.invokestatic 180, 3) := by decide +kernel
theorem dX11_step_31 : decode cX11_step 31 = .ok (.ifCond .ne 6, 3) := by decide +kernel
theorem dX11_step_34 : decode cX11_step 34 = .ok (.ldc 184, 2) := by decide +kernel
theorem dX11_step_36 : decode cX11_step 36 = .ok (.ireturn, 1) := by decide +kernel
theorem dX11_step_37 : decode cX11_step 37 = .ok (.aload_n 0, 1) := by decide +kernel
theorem dX11_step_38 : decode cX11_step 38 = .ok (.getfield 37, 3) := by decide +kernel
theorem dX11_step_41 : decode cX11_step 41 = .ok (.iload_n 1, 1) := by decide +kernel
theorem dX11_step_42 : decode cX11_step 42 = .ok (.aaload, 1) := by decide +kernel
theorem dX11_step_43 : decode cX11_step 43 = .ok (.iload_n 2, 1) := by decide +kernel
theorem dX11_step_44 : decode cX11_step 44 = .ok (.iload_n 3, 1) := by decide +kernel
theorem dX11_step_45 : decode cX11_step 45 = .ok (.invokevirtual 357, 3) := by decide +kernel
theorem dX11_step_48 : decode cX11_step 48 = .ok (.ireturn, 1) := by decide +kernel
theorem dX11_attemptStep_0 : decode cX11_attemptStep 0 = .ok (.aload_n 0, 1) := by decide +kernel
theorem dX11_attemptStep_1 : decode cX11_attemptStep 1 = .ok (.getfield 58, 3) := by decide +kernel
theorem dX11_attemptStep_4 : decode cX11_attemptStep 4 = .ok (.aload_n 0, 1) := by decide +kernel
theorem dX11_attemptStep_5 : decode cX11_attemptStep 5 = .ok (.getfield 28, 3) := by decide +kernel
theorem dX11_attemptStep_8 : decode cX11_attemptStep 8 = .ok (.aload_n 0, 1) := by decide +kernel
theorem dX11_attemptStep_9 : decode cX11_attemptStep 9 = .ok (.getfield 52, 3) := by decide +kernel
theorem dX11_attemptStep_12 : decode cX11_attemptStep 12 = .ok (.aload_n 1, 1) := by decide +kernel
theorem dX11_attemptStep_13 : decode cX11_attemptStep 13 = .ok (.iload_n 2, 1) := by decide +kernel
theorem dX11_attemptStep_14 : decode cX11_attemptStep 14 = .ok (.iconst 0, 1) := by decide +kernel
theorem dX11_attemptStep_15 : decode cX11_attemptStep 15 = .ok (.invokevirtual 359, 3) := by decide +kernel
theorem dX11_attemptStep_18 : decode cX11_attemptStep 18 = .ok (.aload_n 1, 1) := by decide +kernel
theorem dX11_attemptStep_19 : decode cX11_attemptStep 19 = .ok (.iload_n 2, 1) := by decide +kernel
theorem dX11_attemptStep_20 : decode cX11_attemptStep 20 = .ok (.iconst 1, 1) := by decide +kernel
theorem dX11_attemptStep_21 : decode cX11_attemptStep 21 = .ok (.invokevirtual 359, 3) := by decide +kernel
theorem dX11_attemptStep_24 : decode cX11_attemptStep 24 = .ok (.aload_n 1, 1) := by decide +kernel
theorem dX11_attemptStep_25 : decode cX11_attemptStep 25 = .ok (.iload_n 2, 1) := by decide +kernel
theorem dX11_attemptStep_26 : decode cX11_attemptStep 26 = .ok (.iconst 2, 1) := by decide +kernel
theorem dX11_attemptStep_27 : decode cX11_attemptStep 27 = .ok (.invokevirtual 359, 3) := by decide +kernel
theorem dX11_attemptStep_30 : decode cX11_attemptStep 30 = .ok (.aload_n 1, 1) := by decide +kernel
theorem dX11_attemptStep_31 : decode cX11_attemptStep 31 = .ok (.iload_n 2, 1) := by decide +kernel
theorem dX11_attemptStep_32 : decode cX11_attemptStep 32 = .ok (.iconst 3, 1) := by decide +kernel
theorem dX11_attemptStep_33 : decode cX11_attemptStep 33 = .ok (.invokevirtual 359, 3) := by decide +kernel
theorem dX11_attemptStep_36 : decode cX11_attemptStep 36 = .ok (.invokevirtual 315, 3) := by decide +kernel
theorem dX11_attemptStep_39 : decode cX11_attemptStep 39 = .ok (.ireturn, 1) := by decide +kernel
theorem dX11_run_0 : decode cX11_run 0 = .ok (.aload_n 0, 1) := by decide +kernel
theorem dX11_run_1 : decode cX11_run 1 = .ok (.iload_n 1, 1) := by decide +kernel
theorem dX11_run_2 : decode cX11_run 2 = .ok (.invokevirtual 351, 3) := by decide +kernel
theorem dX11_run_5 : decode cX11_run 5 = .ok (.ifCond .eq 19, 3) := by decide +kernel
theorem dX11_run_8 : decode cX11_run 8 = .ok (.aload_n 0, 1) := by decide +kernel
theorem dX11_run_9 : decode cX11_run 9 = .ok (.invokevirtual 176, 3) := by decide +kernel
theorem dX11_run_12 : decode cX11_run 12 = .ok (.ifCond .eq 12, 3) := by decide +kernel
theorem dX11_run_15 : decode cX11_run 15 = .ok (.iload_n 2, 1) := by decide +kernel
theorem dX11_run_16 : decode cX11_run 16 = .ok (.iconst 0, 1) := by decide +kernel
theorem dX11_run_17 : decode cX11_run 17 = .ok (.iconst 1, 1) := by decide +kernel
theorem dX11_run_18 : decode cX11_run 18 = .ok (.invokestatic 180, 3) := by decide +kernel
theorem dX11_run_21 : decode cX11_run 21 = .ok (.ifCond .ne 6, 3) := by decide +kernel
theorem dX11_run_24 : decode cX11_run 24 = .ok (.ldc 184, 2) := by decide +kernel
theorem dX11_run_26 : decode cX11_run 26 = .ok (.ireturn, 1) := by decide +kernel
theorem dX11_run_27 : decode cX11_run 27 = .ok (.aload_n 0, 1) := by decide +kernel
theorem dX11_run_28 : decode cX11_run 28 = .ok (.getfield 52, 3) := by decide +kernel
theorem dX11_run_31 : decode cX11_run 31 = .ok (.aload_n 0, 1) := by decide +kernel
theorem dX11_run_32 : decode cX11_run 32 = .ok (.getfield 48, 3) := by decide +kernel
theorem dX11_run_35 : decode cX11_run 35 = .ok (.invokevirtual 143, 3) := by decide +kernel
theorem dX11_run_38 : decode cX11_run 38 = .ok (.aload_n 0, 1) := by decide +kernel
theorem dX11_run_39 : decode cX11_run 39 = .ok (.getfield 48, 3) := by decide +kernel
theorem dX11_run_42 : decode cX11_run 42 = .ok (.getfield 167, 3) := by decide +kernel
theorem dX11_run_45 : decode cX11_run 45 = .ok (.istore_n 3, 1) := by decide +kernel
theorem dX11_run_46 : decode cX11_run 46 = .ok (.iconst (-1), 1) := by decide +kernel
theorem dX11_run_47 : decode cX11_run 47 = .ok (.istore 4, 2) := by decide +kernel
theorem dX11_run_49 : decode cX11_run 49 = .ok (.iconst 0, 1) := by decide +kernel
theorem dX11_run_50 : decode cX11_run 50 = .ok (.istore 5, 2) := by decide +kernel
theorem dX11_run_52 : decode cX11_run 52 = .ok (.iload 5, 2) := by decide +kernel
theorem dX11_run_54 : decode cX11_run 54 = .ok (.aload_n 0, 1) := by decide +kernel
theorem dX11_run_55 : decode cX11_run 55 = .ok (.getfield 37, 3) := by decide +kernel
theorem dX11_run_58 : decode cX11_run 58 = .ok (.iload_n 1, 1) := by decide +kernel
theorem dX11_run_59 : decode cX11_run 59 = .ok (.aaload, 1) := by decide +kernel
theorem dX11_run_60 : decode cX11_run 60 = .ok (.getfield 354, 3) := by decide +kernel
theorem dX11_run_63 : decode cX11_run 63 = .ok (.if_icmp .ge 46, 3) := by decide +kernel
theorem dX11_run_66 : decode cX11_run 66 = .ok (.iload 4, 2) := by decide +kernel
theorem dX11_run_68 : decode cX11_run 68 = .ok (.iconst (-1), 1) := by decide +kernel
theorem dX11_run_69 : decode cX11_run 69 = .ok (.if_icmp .ne 40, 3) := by decide +kernel
theorem dX11_run_72 : decode cX11_run 72 = .ok (.aload_n 0, 1) := by decide +kernel
theorem dX11_run_73 : decode cX11_run 73 = .ok (.aload_n 0, 1) := by decide +kernel
theorem dX11_run_74 : decode cX11_run 74 = .ok (.getfield 37, 3) := by decide +kernel
theorem dX11_run_77 : decode cX11_run 77 = .ok (.iload_n 1, 1) := by decide +kernel
theorem dX11_run_78 : decode cX11_run 78 = .ok (.aaload, 1) := by decide +kernel
theorem dX11_run_79 : decode cX11_run 79 = .ok (.iload 5, 2) := by decide +kernel
theorem dX11_run_81 : decode cX11_run 81 = .ok (.invokevirtual 362, 3) := by decide +kernel
theorem dX11_run_84 : decode cX11_run 84 = .ok (.iconst (-1), 1) := by decide +kernel
theorem dX11_run_85 : decode cX11_run 85 = .ok (.if_icmp .ne 14, 3) := by decide +kernel
theorem dX11_run_88 : decode cX11_run 88 = .ok (.aload_n 0, 1) := by decide +kernel
theorem dX11_run_89 : decode cX11_run 89 = .ok (.getfield 52, 3) := by decide +kernel
theorem dX11_run_92 : decode cX11_run 92 = .ok (.getfield 167, 3) := by decide +kernel
theorem dX11_run_95 : decode cX11_run 95 = .ok (.istore_n 3, 1) := by decide +kernel
theorem dX11_run_96 : decode cX11_run 96 = .ok (.goto 7, 3) := by decide +kernel
theorem dX11_run_99 : decode cX11_run 99 = .ok (.iload 5, 2) := by decide +kernel
theorem dX11_run_101 : decode cX11_run 101 = .ok (.istore 4, 2) := by decide +kernel
theorem dX11_run_103 : decode cX11_run 103 = .ok (.iinc 5 1, 3) := by decide +kernel
theorem dX11_run_106 : decode cX11_run 106 = .ok (.goto (-54), 3) := by decide +kernel
theorem dX11_run_109 : decode cX11_run 109 = .ok (.iload_n 2, 1) := by decide +kernel
theorem dX11_run_110 : decode cX11_run 110 = .ok (.ifCond .ne 8, 3) := by decide +kernel
theorem dX11_run_113 : decode cX11_run 113 = .ok (.iload 4, 2) := by decide +kernel
theorem dX11_run_115 : decode cX11_run 115 = .ok (.goto 7, 3) := by decide +kernel
theorem dX11_run_118 : decode cX11_run 118 = .ok (.iload_n 3, 1) := by decide +kernel
theorem dX11_run_119 : decode cX11_run 119 = .ok (.invokestatic 366, 3) := by decide +kernel
theorem dX11_run_122 : decode cX11_run 122 = .ok (.ireturn, 1) := by decide +kernel
theorem dX11_perform_0 : decode cX11_perform 0 = .ok (.aload_n 0, 1) := by decide +kernel
theorem dX11_perform_1 : decode cX11_perform 1 = .ok (.iload_n 1, 1) := by decide +kernel
theorem dX11_perform_2 : decode cX11_perform 2 = .ok (.invokevirtual 351, 3) := by decide +kernel
theorem dX11_perform_5 : decode cX11_perform 5 = .ok (.ifCond .eq 10, 3) := by decide +kernel
theorem dX11_perform_8 : decode cX11_perform 8 = .ok (.aload_n 0, 1) := by decide +kernel
theorem dX11_perform_9 : decode cX11_perform 9 = .ok (.invokevirtual 176, 3) := by decide +kernel
theorem dX11_perform_12 : decode cX11_perform 12 = .ok (.ifCond .ne 20, 3) := by decide +kernel
theorem dX11_perform_15 : decode cX11_perform 15 = .ok (.aload_n 0, 1) := by decide +kernel
theorem dX11_perform_16 : decode cX11_perform 16 = .ok (.getfield 89, 3) := by decide +kernel
theorem dX11_perform_19 : decode cX11_perform 19 = .ok (.invokevirtual 306, 3) := by decide +kernel
theorem dX11_perform_22 : decode cX11_perform 22 = .ok (.aload_n 0, 1) := by decide +kernel
theorem dX11_perform_23 : decode cX11_perform 23 = .ok (.getfield 89, 3) := by decide +kernel
theorem dX11_perform_26 : decode cX11_perform 26 = .ok (.iconst 0, 1) := by decide +kernel
theorem dX11_perform_27 : decode cX11_perform 27 = .ok (.invokevirtual 335, 3) := by decide +kernel
theorem dX11_perform_30 : decode cX11_perform 30 = .ok (.iconst (-1), 1) := by decide +kernel
theorem dX11_perform_31 : decode cX11_perform 31 = .ok (.ireturn, 1) := by decide +kernel
theorem dX11_perform_32 : decode cX11_perform 32 = .ok (.aload_n 0, 1) := by decide +kernel
theorem dX11_perform_33 : decode cX11_perform 33 = .ok (.getfield 52, 3) := by decide +kernel
theorem dX11_perform_36 : decode cX11_perform 36 = .ok (.aload_n 0, 1) := by decide +kernel
theorem dX11_perform_37 : decode cX11_perform 37 = .ok (.getfield 48, 3) := by decide +kernel
theorem dX11_perform_40 : decode cX11_perform 40 = .ok (.invokevirtual 143, 3) := by decide +kernel
theorem dX11_perform_43 : decode cX11_perform 43 = .ok (.aload_n 0, 1) := by decide +kernel
theorem dX11_perform_44 : decode cX11_perform 44 = .ok (.getfield 37, 3) := by decide +kernel
theorem dX11_perform_47 : decode cX11_perform 47 = .ok (.iload_n 1, 1) := by decide +kernel
theorem dX11_perform_48 : decode cX11_perform 48 = .ok (.aaload, 1) := by decide +kernel
theorem dX11_perform_49 : decode cX11_perform 49 = .ok (.astore_n 2, 1) := by decide +kernel
theorem dX11_perform_50 : decode cX11_perform 50 = .ok (.iconst 0, 1) := by decide +kernel
theorem dX11_perform_51 : decode cX11_perform 51 = .ok (.istore_n 3, 1) := by decide +kernel
theorem dX11_perform_52 : decode cX11_perform 52 = .ok (.iload_n 3, 1) := by decide +kernel
theorem dX11_perform_53 : decode cX11_perform 53 = .ok (.aload_n 2, 1) := by decide +kernel
theorem dX11_perform_54 : decode cX11_perform 54 = .ok (.getfield 354, 3) := by decide +kernel
theorem dX11_perform_57 : decode cX11_perform 57 = .ok (.if_icmp .ge 72, 3) := by decide +kernel
theorem dX11_perform_60 : decode cX11_perform 60 = .ok (.aload_n 0, 1) := by decide +kernel
theorem dX11_perform_61 : decode cX11_perform 61 = .ok (.aload_n 2, 1) := by decide +kernel
theorem dX11_perform_62 : decode cX11_perform 62 = .ok (.iload_n 3, 1) := by decide +kernel
theorem dX11_perform_63 : decode cX11_perform 63 = .ok (.invokevirtual 362, 3) := by decide +kernel
theorem dX11_perform_66 : decode cX11_perform 66 = .ok (.istore 4, 2) := by decide +kernel
theorem dX11_perform_68 : decode cX11_perform 68 = .ok (.iload 4, 2) := by decide +kernel
theorem dX11_perform_70 : decode cX11_perform 70 = .ok (.iconst (-1), 1) := by decide +kernel
theorem dX11_perform_71 : decode cX11_perform 71 = .ok (.if_icmp .eq 36, 3) := by decide +kernel
theorem dX11_perform_74 : decode cX11_perform 74 = .ok (.aload_n 0, 1) := by decide +kernel
theorem dX11_perform_75 : decode cX11_perform 75 = .ok (.getfield 89, 3) := by decide +kernel
theorem dX11_perform_78 : decode cX11_perform 78 = .ok (.invokevirtual 306, 3) := by decide +kernel
theorem dX11_perform_81 : decode cX11_perform 81 = .ok (.aload_n 0, 1) := by decide +kernel
theorem dX11_perform_82 : decode cX11_perform 82 = .ok (.getfield 89, 3) := by decide +kernel
theorem dX11_perform_85 : decode cX11_perform 85 = .ok (.sipush 1000, 3) := by decide +kernel
theorem dX11_perform_88 : decode cX11_perform 88 = .ok (.iload_n 3, 1) := by decide +kernel
theorem dX11_perform_89 : decode cX11_perform 89 = .ok (.iadd, 1) := by decide +kernel
theorem dX11_perform_90 : decode cX11_perform 90 = .ok (.invokevirtual 329, 3) := by decide +kernel
theorem dX11_perform_93 : decode cX11_perform 93 = .ok (.aload_n 0, 1) := by decide +kernel
theorem dX11_perform_94 : decode cX11_perform 94 = .ok (.aload_n 2, 1) := by decide +kernel
theorem dX11_perform_95 : decode cX11_perform 95 = .ok (.iload_n 3, 1) := by decide +kernel
theorem dX11_perform_96 : decode cX11_perform 96 = .ok (.iconst 0, 1) := by decide +kernel
theorem dX11_perform_97 : decode cX11_perform 97 = .ok (.invokevirtual 359, 3) := by decide +kernel
theorem dX11_perform_100 : decode cX11_perform 100 = .ok (.iload 4, 2) := by decide +kernel
theorem dX11_perform_102 : decode cX11_perform 102 = .ok (.invokevirtual 308, 3) := by decide +kernel
theorem dX11_perform_105 : decode cX11_perform 105 = .ok (.iconst (-1), 1) := by decide +kernel
theorem dX11_perform_106 : decode cX11_perform 106 = .ok (.ireturn, 1) := by decide +kernel
theorem dX11_perform_107 : decode cX11_perform 107 = .ok (.aload_n 0, 1) := by decide +kernel
theorem dX11_perform_108 : decode cX11_perform 108 = .ok (.aload_n 2, 1) := by decide +kernel
theorem dX11_perform_109 : decode cX11_perform 109 = .ok (.iload_n 3, 1) := by decide +kernel
theorem dX11_perform_110 : decode cX11_perform 110 = .ok (.iconst 0, 1) := by decide +kernel
theorem dX11_perform_111 : decode cX11_perform 111 = .ok (.invokevirtual 359, 3) := by decide +kernel
theorem dX11_perform_114 : decode cX11_perform 114 = .ok (.aload_n 2, 1) := by decide +kernel
theorem dX11_perform_115 : decode cX11_perform 115 = .ok (.iload_n 3, 1) := by decide +kernel
theorem dX11_perform_116 : decode cX11_perform 116 = .ok (.iconst 1, 1) := by decide +kernel
theorem dX11_perform_117 : decode cX11_perform 117 = .ok (.invokevirtual 359, 3) := by decide +kernel
theorem dX11_perform_120 : decode cX11_perform 120 = .ok (.invokevirtual 319, 3) := by decide +kernel
theorem dX11_perform_123 : decode cX11_perform 123 = .ok (.iinc 3 1, 3) := by decide +kernel
theorem dX11_perform_126 : decode cX11_perform 126 = .ok (.goto (-74), 3) := by decide +kernel
theorem dX11_perform_129 : decode cX11_perform 129 = .ok (.aload_n 0, 1) := by decide +kernel
theorem dX11_perform_130 : decode cX11_perform 130 = .ok (.getfield 82, 3) := by decide +kernel
theorem dX11_perform_133 : decode cX11_perform 133 = .ok (.aload_n 0, 1) := by decide +kernel
theorem dX11_perform_134 : decode cX11_perform 134 = .ok (.getfield 48, 3) := by decide +kernel
theorem dX11_perform_137 : decode cX11_perform 137 = .ok (.invokevirtual 322, 3) := by decide +kernel
theorem dX11_perform_140 : decode cX11_perform 140 = .ok (.aload_n 0, 1) := by decide +kernel
theorem dX11_perform_141 : decode cX11_perform 141 = .ok (.getfield 48, 3) := by decide +kernel
theorem dX11_perform_144 : decode cX11_perform 144 = .ok (.aload_n 0, 1) := by decide +kernel
theorem dX11_perform_145 : decode cX11_perform 145 = .ok (.getfield 52, 3) := by decide +kernel
theorem dX11_perform_148 : decode cX11_perform 148 = .ok (.invokevirtual 143, 3) := by decide +kernel
theorem dX11_perform_151 : decode cX11_perform 151 = .ok (.aload_n 2, 1) := by decide +kernel
theorem dX11_perform_152 : decode cX11_perform 152 = .ok (.getfield 354, 3) := by decide +kernel
theorem dX11_perform_155 : decode cX11_perform 155 = .ok (.ireturn, 1) := by decide +kernel
theorem dX11_isGust_0 : decode cX11_isGust 0 = .ok (.aload_n 0, 1) := by decide +kernel
theorem dX11_isGust_1 : decode cX11_isGust 1 = .ok (.invokevirtual 176, 3) := by decide +kernel
theorem dX11_isGust_4 : decode cX11_isGust 4 = .ok (.ifCond .eq 28, 3) := by decide +kernel
theorem dX11_isGust_7 : decode cX11_isGust 7 = .ok (.iload_n 1, 1) := by decide +kernel
theorem dX11_isGust_8 : decode cX11_isGust 8 = .ok (.iload_n 2, 1) := by decide +kernel
theorem dX11_isGust_9 : decode cX11_isGust 9 = .ok (.iload_n 3, 1) := by decide +kernel
theorem dX11_isGust_10 : decode cX11_isGust 10 = .ok (.invokestatic 371, 3) := by decide +kernel
theorem dX11_isGust_13 : decode cX11_isGust 13 = .ok (.ifCond .eq 19, 3) := by decide +kernel
theorem dX11_isGust_16 : decode cX11_isGust 16 = .ok (.iload_n 1, 1) := by decide +kernel
theorem dX11_isGust_17 : decode cX11_isGust 17 = .ok (.ifCond .ne 11, 3) := by decide +kernel
theorem dX11_isGust_20 : decode cX11_isGust 20 = .ok (.iload_n 2, 1) := by decide +kernel
theorem dX11_isGust_21 : decode cX11_isGust 21 = .ok (.ifCond .ne 7, 3) := by decide +kernel
theorem dX11_isGust_24 : decode cX11_isGust 24 = .ok (.iload_n 3, 1) := by decide +kernel
theorem dX11_isGust_25 : decode cX11_isGust 25 = .ok (.ifCond .eq 7, 3) := by decide +kernel
theorem dX11_isGust_28 : decode cX11_isGust 28 = .ok (.iconst 1, 1) := by decide +kernel
theorem dX11_isGust_29 : decode cX11_isGust 29 = .ok (.goto 4, 3) := by decide +kernel
theorem dX11_isGust_32 : decode cX11_isGust 32 = .ok (.iconst 0, 1) := by decide +kernel
theorem dX11_isGust_33 : decode cX11_isGust 33 = .ok (.ireturn, 1) := by decide +kernel
theorem dX11_timesStood_0 : decode cX11_timesStood 0 = .ok (.aload_n 0, 1) := by decide +kernel
theorem dX11_timesStood_1 : decode cX11_timesStood 1 = .ok (.getfield 52, 3) := by decide +kernel
theorem dX11_timesStood_4 : decode cX11_timesStood 4 = .ok (.aload_n 0, 1) := by decide +kernel
theorem dX11_timesStood_5 : decode cX11_timesStood 5 = .ok (.getfield 48, 3) := by decide +kernel
theorem dX11_timesStood_8 : decode cX11_timesStood 8 = .ok (.invokevirtual 143, 3) := by decide +kernel
theorem dX11_timesStood_11 : decode cX11_timesStood 11 = .ok (.iconst 0, 1) := by decide +kernel
theorem dX11_timesStood_12 : decode cX11_timesStood 12 = .ok (.istore 5, 2) := by decide +kernel
theorem dX11_timesStood_14 : decode cX11_timesStood 14 = .ok (.iload 5, 2) := by decide +kernel
theorem dX11_timesStood_16 : decode cX11_timesStood 16 = .ok (.iload 4, 2) := by decide +kernel
theorem dX11_timesStood_18 : decode cX11_timesStood 18 = .ok (.if_icmp .ge 45, 3) := by decide +kernel
theorem dX11_timesStood_21 : decode cX11_timesStood 21 = .ok (.aload_n 0, 1) := by decide +kernel
theorem dX11_timesStood_22 : decode cX11_timesStood 22 = .ok (.getfield 58, 3) := by decide +kernel
theorem dX11_timesStood_25 : decode cX11_timesStood 25 = .ok (.aload_n 0, 1) := by decide +kernel
theorem dX11_timesStood_26 : decode cX11_timesStood 26 = .ok (.getfield 28, 3) := by decide +kernel
theorem dX11_timesStood_29 : decode cX11_timesStood 29 = .ok (.aload_n 0, 1) := by decide +kernel
theorem dX11_timesStood_30 : decode cX11_timesStood 30 = .ok (.getfield 52, 3) := by decide +kernel
theorem dX11_timesStood_33 : decode cX11_timesStood 33 = .ok (.iconst 0, 1) := by decide +kernel
theorem dX11_timesStood_34 : decode cX11_timesStood 34 = .ok (.iload_n 1, 1) := by decide +kernel
theorem dX11_timesStood_35 : decode cX11_timesStood 35 = .ok (.iload_n 2, 1) := by decide +kernel
theorem dX11_timesStood_36 : decode cX11_timesStood 36 = .ok (.iload_n 3, 1) := by decide +kernel
theorem dX11_timesStood_37 : decode cX11_timesStood 37 = .ok (.invokevirtual 315, 3) := by decide +kernel
theorem dX11_timesStood_40 : decode cX11_timesStood 40 = .ok (.iconst (-1), 1) := by decide +kernel
theorem dX11_timesStood_41 : decode cX11_timesStood 41 = .ok (.if_icmp .ne 13, 3) := by decide +kernel
theorem dX11_timesStood_44 : decode cX11_timesStood 44 = .ok (.aload_n 0, 1) := by decide +kernel
theorem dX11_timesStood_45 : decode cX11_timesStood 45 = .ok (.getfield 58, 3) := by decide +kernel
theorem dX11_timesStood_48 : decode cX11_timesStood 48 = .ok (.getfield 312, 3) := by decide +kernel
theorem dX11_timesStood_51 : decode cX11_timesStood 51 = .ok (.ifCond .eq 6, 3) := by decide +kernel
theorem dX11_timesStood_54 : decode cX11_timesStood 54 = .ok (.iload 5, 2) := by decide +kernel
theorem dX11_timesStood_56 : decode cX11_timesStood 56 = .ok (.ireturn, 1) := by decide +kernel
theorem dX11_timesStood_57 : decode cX11_timesStood 57 = .ok (.iinc 5 1, 3) := by decide +kernel
theorem dX11_timesStood_60 : decode cX11_timesStood 60 = .ok (.goto (-46), 3) := by decide +kernel
theorem dX11_timesStood_63 : decode cX11_timesStood 63 = .ok (.iload 4, 2) := by decide +kernel
theorem dX11_timesStood_65 : decode cX11_timesStood 65 = .ok (.ireturn, 1) := by decide +kernel
theorem dX11_stand_0 : decode cX11_stand 0 = .ok (.aload_n 0, 1) := by decide +kernel
theorem dX11_stand_1 : decode cX11_stand 1 = .ok (.iload_n 1, 1) := by decide +kernel
theorem dX11_stand_2 : decode cX11_stand 2 = .ok (.iload_n 2, 1) := by decide +kernel
theorem dX11_stand_3 : decode cX11_stand 3 = .ok (.iload_n 3, 1) := by decide +kernel
theorem dX11_stand_4 : decode cX11_stand 4 = .ok (.invokevirtual 374, 3) := by decide +kernel
theorem dX11_stand_7 : decode cX11_stand 7 = .ok (.ifCond .eq 13, 3) := by decide +kernel
theorem dX11_stand_10 : decode cX11_stand 10 = .ok (.iload 4, 2) := by decide +kernel
theorem dX11_stand_12 : decode cX11_stand 12 = .ok (.iconst 0, 1) := by decide +kernel
theorem dX11_stand_13 : decode cX11_stand 13 = .ok (.iconst 1, 1) := by decide +kernel
theorem dX11_stand_14 : decode cX11_stand 14 = .ok (.invokestatic 180, 3) := by decide +kernel
theorem dX11_stand_17 : decode cX11_stand 17 = .ok (.ifCond .ne 6, 3) := by decide +kernel
theorem dX11_stand_20 : decode cX11_stand 20 = .ok (.ldc 184, 2) := by decide +kernel
theorem dX11_stand_22 : decode cX11_stand 22 = .ok (.ireturn, 1) := by decide +kernel
theorem dX11_stand_23 : decode cX11_stand 23 = .ok (.aload_n 0, 1) := by decide +kernel
theorem dX11_stand_24 : decode cX11_stand 24 = .ok (.iload_n 1, 1) := by decide +kernel
theorem dX11_stand_25 : decode cX11_stand 25 = .ok (.iload_n 2, 1) := by decide +kernel
theorem dX11_stand_26 : decode cX11_stand 26 = .ok (.iload_n 3, 1) := by decide +kernel
theorem dX11_stand_27 : decode cX11_stand 27 = .ok (.bipush 60, 2) := by decide +kernel
theorem dX11_stand_29 : decode cX11_stand 29 = .ok (.invokevirtual 377, 3) := by decide +kernel
theorem dX11_stand_32 : decode cX11_stand 32 = .ok (.istore 5, 2) := by decide +kernel
theorem dX11_stand_34 : decode cX11_stand 34 = .ok (.iload 4, 2) := by decide +kernel
theorem dX11_stand_36 : decode cX11_stand 36 = .ok (.ifCond .ne 8, 3) := by decide +kernel
theorem dX11_stand_39 : decode cX11_stand 39 = .ok (.iload 5, 2) := by decide +kernel
theorem dX11_stand_41 : decode cX11_stand 41 = .ok (.goto 10, 3) := by decide +kernel
theorem dX11_stand_44 : decode cX11_stand 44 = .ok (.aload_n 0, 1) := by decide +kernel
theorem dX11_stand_45 : decode cX11_stand 45 = .ok (.getfield 58, 3) := by decide +kernel
theorem dX11_stand_48 : decode cX11_stand 48 = .ok (.invokevirtual 380, 3) := by decide +kernel
theorem dX11_stand_51 : decode cX11_stand 51 = .ok (.ireturn, 1) := by decide +kernel
theorem dX11_fall_0 : decode cX11_fall 0 = .ok (.aload_n 0, 1) := by decide +kernel
theorem dX11_fall_1 : decode cX11_fall 1 = .ok (.iload_n 1, 1) := by decide +kernel
theorem dX11_fall_2 : decode cX11_fall 2 = .ok (.iload_n 2, 1) := by decide +kernel
theorem dX11_fall_3 : decode cX11_fall 3 = .ok (.iload_n 3, 1) := by decide +kernel
theorem dX11_fall_4 : decode cX11_fall 4 = .ok (.invokevirtual 374, 3) := by decide +kernel
theorem dX11_fall_7 : decode cX11_fall 7 = .ok (.ifCond .eq 18, 3) := by decide +kernel
theorem dX11_fall_10 : decode cX11_fall 10 = .ok (.iload 4, 2) := by decide +kernel
theorem dX11_fall_12 : decode cX11_fall 12 = .ok (.ifCond .lt 13, 3) := by decide +kernel
theorem dX11_fall_15 : decode cX11_fall 15 = .ok (.iload 5, 2) := by decide +kernel
theorem dX11_fall_17 : decode cX11_fall 17 = .ok (.iconst 0, 1) := by decide +kernel
theorem dX11_fall_18 : decode cX11_fall 18 = .ok (.iconst 1, 1) := by decide +kernel
theorem dX11_fall_19 : decode cX11_fall 19 = .ok (.invokestatic 180, 3) := by decide +kernel
theorem dX11_fall_22 : decode cX11_fall 22 = .ok (.ifCond .ne 6, 3) := by decide +kernel
theorem dX11_fall_25 : decode cX11_fall 25 = .ok (.ldc 184, 2) := by decide +kernel
theorem dX11_fall_27 : decode cX11_fall 27 = .ok (.ireturn, 1) := by decide +kernel
theorem dX11_fall_28 : decode cX11_fall 28 = .ok (.aload_n 0, 1) := by decide +kernel
theorem dX11_fall_29 : decode cX11_fall 29 = .ok (.getfield 52, 3) := by decide +kernel
theorem dX11_fall_32 : decode cX11_fall 32 = .ok (.aload_n 0, 1) := by decide +kernel
theorem dX11_fall_33 : decode cX11_fall 33 = .ok (.getfield 48, 3) := by decide +kernel
theorem dX11_fall_36 : decode cX11_fall 36 = .ok (.invokevirtual 143, 3) := by decide +kernel
theorem dX11_fall_39 : decode cX11_fall 39 = .ok (.iload 4, 2) := by decide +kernel
theorem dX11_fall_41 : decode cX11_fall 41 = .ok (.istore 6, 2) := by decide +kernel
theorem dX11_fall_43 : decode cX11_fall 43 = .ok (.iconst 1, 1) := by decide +kernel
theorem dX11_fall_44 : decode cX11_fall 44 = .ok (.istore 7, 2) := by decide +kernel
theorem dX11_fall_46 : decode cX11_fall 46 = .ok (.iload 7, 2) := by decide +kernel
theorem dX11_fall_48 : decode cX11_fall 48 = .ok (.bipush 60, 2) := by decide +kernel
theorem dX11_fall_50 : decode cX11_fall 50 = .ok (.if_icmp .gt 80, 3) := by decide +kernel
theorem dX11_fall_53 : decode cX11_fall 53 = .ok (.aload_n 0, 1) := by decide +kernel
theorem dX11_fall_54 : decode cX11_fall 54 = .ok (.getfield 58, 3) := by decide +kernel
theorem dX11_fall_57 : decode cX11_fall 57 = .ok (.aload_n 0, 1) := by decide +kernel
theorem dX11_fall_58 : decode cX11_fall 58 = .ok (.getfield 28, 3) := by decide +kernel
theorem dX11_fall_61 : decode cX11_fall 61 = .ok (.aload_n 0, 1) := by decide +kernel
theorem dX11_fall_62 : decode cX11_fall 62 = .ok (.getfield 52, 3) := by decide +kernel
theorem dX11_fall_65 : decode cX11_fall 65 = .ok (.iconst 0, 1) := by decide +kernel
theorem dX11_fall_66 : decode cX11_fall 66 = .ok (.iload_n 1, 1) := by decide +kernel
theorem dX11_fall_67 : decode cX11_fall 67 = .ok (.iload_n 2, 1) := by decide +kernel
theorem dX11_fall_68 : decode cX11_fall 68 = .ok (.iload_n 3, 1) := by decide +kernel
theorem dX11_fall_69 : decode cX11_fall 69 = .ok (.invokevirtual 315, 3) := by decide +kernel
theorem dX11_fall_72 : decode cX11_fall 72 = .ok (.iconst (-1), 1) := by decide +kernel
theorem dX11_fall_73 : decode cX11_fall 73 = .ok (.if_icmp .eq 6, 3) := by decide +kernel
theorem dX11_fall_76 : decode cX11_fall 76 = .ok (.ldc 184, 2) := by decide +kernel
theorem dX11_fall_78 : decode cX11_fall 78 = .ok (.ireturn, 1) := by decide +kernel
theorem dX11_fall_79 : decode cX11_fall 79 = .ok (.iload 6, 2) := by decide +kernel
theorem dX11_fall_81 : decode cX11_fall 81 = .ok (.aload_n 0, 1) := by decide +kernel
theorem dX11_fall_82 : decode cX11_fall 82 = .ok (.getfield 58, 3) := by decide +kernel
theorem dX11_fall_85 : decode cX11_fall 85 = .ok (.getfield 332, 3) := by decide +kernel
theorem dX11_fall_88 : decode cX11_fall 88 = .ok (.if_icmp .ge 24, 3) := by decide +kernel
theorem dX11_fall_91 : decode cX11_fall 91 = .ok (.iload 5, 2) := by decide +kernel
theorem dX11_fall_93 : decode cX11_fall 93 = .ok (.ifCond .ne 16, 3) := by decide +kernel
theorem dX11_fall_96 : decode cX11_fall 96 = .ok (.aload_n 0, 1) := by decide +kernel
theorem dX11_fall_97 : decode cX11_fall 97 = .ok (.getfield 58, 3) := by decide +kernel
theorem dX11_fall_100 : decode cX11_fall 100 = .ok (.getfield 383, 3) := by decide +kernel
theorem dX11_fall_103 : decode cX11_fall 103 = .ok (.iload 6, 2) := by decide +kernel
theorem dX11_fall_105 : decode cX11_fall 105 = .ok (.iaload, 1) := by decide +kernel
theorem dX11_fall_106 : decode cX11_fall 106 = .ok (.goto 5, 3) := by decide +kernel
theorem dX11_fall_109 : decode cX11_fall 109 = .ok (.iload 7, 2) := by decide +kernel
theorem dX11_fall_111 : decode cX11_fall 111 = .ok (.ireturn, 1) := by decide +kernel
theorem dX11_fall_112 : decode cX11_fall 112 = .ok (.iload 6, 2) := by decide +kernel
theorem dX11_fall_114 : decode cX11_fall 114 = .ok (.aload_n 0, 1) := by decide +kernel
theorem dX11_fall_115 : decode cX11_fall 115 = .ok (.getfield 58, 3) := by decide +kernel
theorem dX11_fall_118 : decode cX11_fall 118 = .ok (.getfield 332, 3) := by decide +kernel
theorem dX11_fall_121 : decode cX11_fall 121 = .ok (.isub, 1) := by decide +kernel
theorem dX11_fall_122 : decode cX11_fall 122 = .ok (.istore 6, 2) := by decide +kernel
theorem dX11_fall_124 : decode cX11_fall 124 = .ok (.iinc 7 1, 3) := by decide +kernel
theorem dX11_fall_127 : decode cX11_fall 127 = .ok (.goto (-81), 3) := by decide +kernel
theorem dX11_fall_130 : decode cX11_fall 130 = .ok (.ldc 184, 2) := by decide +kernel
theorem dX11_fall_132 : decode cX11_fall 132 = .ok (.ireturn, 1) := by decide +kernel
theorem dX11_ease_0 : decode cX11_ease 0 = .ok (.aload_n 0, 1) := by decide +kernel
theorem dX11_ease_1 : decode cX11_ease 1 = .ok (.iload_n 1, 1) := by decide +kernel
theorem dX11_ease_2 : decode cX11_ease 2 = .ok (.invokevirtual 210, 3) := by decide +kernel
theorem dX11_ease_5 : decode cX11_ease 5 = .ok (.ifCond .ne 5, 3) := by decide +kernel
theorem dX11_ease_8 : decode cX11_ease 8 = .ok (.iconst (-1), 1) := by decide +kernel
theorem dX11_ease_9 : decode cX11_ease 9 = .ok (.ireturn, 1) := by decide +kernel
theorem dX11_ease_10 : decode cX11_ease 10 = .ok (.aload_n 0, 1) := by decide +kernel
theorem dX11_ease_11 : decode cX11_ease 11 = .ok (.getfield 52, 3) := by decide +kernel
theorem dX11_ease_14 : decode cX11_ease 14 = .ok (.aload_n 0, 1) := by decide +kernel
theorem dX11_ease_15 : decode cX11_ease 15 = .ok (.getfield 48, 3) := by decide +kernel
theorem dX11_ease_18 : decode cX11_ease 18 = .ok (.invokevirtual 143, 3) := by decide +kernel
theorem dX11_ease_21 : decode cX11_ease 21 = .ok (.iconst 0, 1) := by decide +kernel
theorem dX11_ease_22 : decode cX11_ease 22 = .ok (.istore_n 2, 1) := by decide +kernel
theorem dX11_ease_23 : decode cX11_ease 23 = .ok (.iload_n 2, 1) := by decide +kernel
theorem dX11_ease_24 : decode cX11_ease 24 = .ok (.bipush 60, 2) := by decide +kernel
theorem dX11_ease_26 : decode cX11_ease 26 = .ok (.if_icmp .gt 58, 3) := by decide +kernel
theorem dX11_ease_29 : decode cX11_ease 29 = .ok (.aload_n 0, 1) := by decide +kernel
theorem dX11_ease_30 : decode cX11_ease 30 = .ok (.getfield 52, 3) := by decide +kernel
theorem dX11_ease_33 : decode cX11_ease 33 = .ok (.iload_n 1, 1) := by decide +kernel
theorem dX11_ease_34 : decode cX11_ease 34 = .ok (.invokevirtual 160, 3) := by decide +kernel
theorem dX11_ease_37 : decode cX11_ease 37 = .ok (.iconst 1, 1) := by decide +kernel
theorem dX11_ease_38 : decode cX11_ease 38 = .ok (.if_icmp .ne 5, 3) := by decide +kernel
theorem dX11_ease_41 : decode cX11_ease 41 = .ok (.iload_n 2, 1) := by decide +kernel
theorem dX11_ease_42 : decode cX11_ease 42 = .ok (.ireturn, 1) := by decide +kernel
theorem dX11_ease_43 : decode cX11_ease 43 = .ok (.aload_n 0, 1) := by decide +kernel
theorem dX11_ease_44 : decode cX11_ease 44 = .ok (.getfield 58, 3) := by decide +kernel
theorem dX11_ease_47 : decode cX11_ease 47 = .ok (.aload_n 0, 1) := by decide +kernel
theorem dX11_ease_48 : decode cX11_ease 48 = .ok (.getfield 28, 3) := by decide +kernel
theorem dX11_ease_51 : decode cX11_ease 51 = .ok (.aload_n 0, 1) := by decide +kernel
theorem dX11_ease_52 : decode cX11_ease 52 = .ok (.getfield 52, 3) := by decide +kernel
theorem dX11_ease_55 : decode cX11_ease 55 = .ok (.iconst 1, 1) := by decide +kernel
theorem dX11_ease_56 : decode cX11_ease 56 = .ok (.iload_n 1, 1) := by decide +kernel
theorem dX11_ease_57 : decode cX11_ease 57 = .ok (.iconst (-1), 1) := by decide +kernel
theorem dX11_ease_58 : decode cX11_ease 58 = .ok (.iconst 0, 1) := by decide +kernel
theorem dX11_ease_59 : decode cX11_ease 59 = .ok (.invokevirtual 315, 3) := by decide +kernel
theorem dX11_ease_62 : decode cX11_ease 62 = .ok (.iconst (-1), 1) := by decide +kernel
theorem dX11_ease_63 : decode cX11_ease 63 = .ok (.if_icmp .ne 13, 3) := by decide +kernel
theorem dX11_ease_66 : decode cX11_ease 66 = .ok (.aload_n 0, 1) := by decide +kernel
theorem dX11_ease_67 : decode cX11_ease 67 = .ok (.getfield 58, 3) := by decide +kernel
theorem dX11_ease_70 : decode cX11_ease 70 = .ok (.getfield 312, 3) := by decide +kernel
theorem dX11_ease_73 : decode cX11_ease 73 = .ok (.ifCond .eq 5, 3) := by decide +kernel
theorem dX11_ease_76 : decode cX11_ease 76 = .ok (.iconst (-1), 1) := by decide +kernel
theorem dX11_ease_77 : decode cX11_ease 77 = .ok (.ireturn, 1) := by decide +kernel
theorem dX11_ease_78 : decode cX11_ease 78 = .ok (.iinc 2 1, 3) := by decide +kernel
theorem dX11_ease_81 : decode cX11_ease 81 = .ok (.goto (-58), 3) := by decide +kernel
theorem dX11_ease_84 : decode cX11_ease 84 = .ok (.iconst (-1), 1) := by decide +kernel
theorem dX11_ease_85 : decode cX11_ease 85 = .ok (.ireturn, 1) := by decide +kernel
theorem dX11_range_0 : decode cX11_range 0 = .ok (.aload_n 0, 1) := by decide +kernel
theorem dX11_range_1 : decode cX11_range 1 = .ok (.invokevirtual 176, 3) := by decide +kernel
theorem dX11_range_4 : decode cX11_range 4 = .ok (.ifCond .eq 10, 3) := by decide +kernel
theorem dX11_range_7 : decode cX11_range 7 = .ok (.iload_n 1, 1) := by decide +kernel
theorem dX11_range_8 : decode cX11_range 8 = .ok (.invokestatic 232, 3) := by decide +kernel
theorem dX11_range_11 : decode cX11_range 11 = .ok (.ifCond .ne 5, 3) := by decide +kernel
theorem dX11_range_14 : decode cX11_range 14 = .ok (.iconst (-1), 1) := by decide +kernel
theorem dX11_range_15 : decode cX11_range 15 = .ok (.ireturn, 1) := by decide +kernel
theorem dX11_range_16 : decode cX11_range 16 = .ok (.iload_n 2, 1) := by decide +kernel
theorem dX11_range_17 : decode cX11_range 17 = .ok (.ifCond .eq 7, 3) := by decide +kernel
theorem dX11_range_20 : decode cX11_range 20 = .ok (.iconst 1, 1) := by decide +kernel
theorem dX11_range_21 : decode cX11_range 21 = .ok (.goto 4, 3) := by decide +kernel
theorem dX11_range_24 : decode cX11_range 24 = .ok (.iconst (-1), 1) := by decide +kernel
theorem dX11_range_25 : decode cX11_range 25 = .ok (.istore_n 3, 1) := by decide +kernel
theorem dX11_range_26 : decode cX11_range 26 = .ok (.aload_n 0, 1) := by decide +kernel
theorem dX11_range_27 : decode cX11_range 27 = .ok (.getfield 52, 3) := by decide +kernel
theorem dX11_range_30 : decode cX11_range 30 = .ok (.aload_n 0, 1) := by decide +kernel
theorem dX11_range_31 : decode cX11_range 31 = .ok (.getfield 48, 3) := by decide +kernel
theorem dX11_range_34 : decode cX11_range 34 = .ok (.invokevirtual 143, 3) := by decide +kernel
theorem dX11_range_37 : decode cX11_range 37 = .ok (.iconst 0, 1) := by decide +kernel
theorem dX11_range_38 : decode cX11_range 38 = .ok (.istore 4, 2) := by decide +kernel
theorem dX11_range_40 : decode cX11_range 40 = .ok (.iload 4, 2) := by decide +kernel
theorem dX11_range_42 : decode cX11_range 42 = .ok (.bipush 60, 2) := by decide +kernel
theorem dX11_range_44 : decode cX11_range 44 = .ok (.if_icmp .ge 92, 3) := by decide +kernel
theorem dX11_range_47 : decode cX11_range 47 = .ok (.aload_n 0, 1) := by decide +kernel
theorem dX11_range_48 : decode cX11_range 48 = .ok (.getfield 58, 3) := by decide +kernel
theorem dX11_range_51 : decode cX11_range 51 = .ok (.aload_n 0, 1) := by decide +kernel
theorem dX11_range_52 : decode cX11_range 52 = .ok (.getfield 28, 3) := by decide +kernel
theorem dX11_range_55 : decode cX11_range 55 = .ok (.aload_n 0, 1) := by decide +kernel
theorem dX11_range_56 : decode cX11_range 56 = .ok (.getfield 52, 3) := by decide +kernel
theorem dX11_range_59 : decode cX11_range 59 = .ok (.iconst 0, 1) := by decide +kernel
theorem dX11_range_60 : decode cX11_range 60 = .ok (.iload_n 1, 1) := by decide +kernel
theorem dX11_range_61 : decode cX11_range 61 = .ok (.ifCond .ne 7, 3) := by decide +kernel
theorem dX11_range_64 : decode cX11_range 64 = .ok (.iload_n 3, 1) := by decide +kernel
theorem dX11_range_65 : decode cX11_range 65 = .ok (.goto 4, 3) := by decide +kernel
theorem dX11_range_68 : decode cX11_range 68 = .ok (.iconst 0, 1) := by decide +kernel
theorem dX11_range_69 : decode cX11_range 69 = .ok (.iload_n 1, 1) := by decide +kernel
theorem dX11_range_70 : decode cX11_range 70 = .ok (.iconst 1, 1) := by decide +kernel
theorem dX11_range_71 : decode cX11_range 71 = .ok (.if_icmp .ne 7, 3) := by decide +kernel
theorem dX11_range_74 : decode cX11_range 74 = .ok (.iload_n 3, 1) := by decide +kernel
theorem dX11_range_75 : decode cX11_range 75 = .ok (.goto 4, 3) := by decide +kernel
theorem dX11_range_78 : decode cX11_range 78 = .ok (.iconst 0, 1) := by decide +kernel
theorem dX11_range_79 : decode cX11_range 79 = .ok (.iload_n 1, 1) := by decide +kernel
theorem dX11_range_80 : decode cX11_range 80 = .ok (.iconst 2, 1) := by decide +kernel
theorem dX11_range_81 : decode cX11_range 81 = .ok (.if_icmp .ne 7, 3) := by decide +kernel
theorem dX11_range_84 : decode cX11_range 84 = .ok (.iload_n 3, 1) := by decide +kernel
theorem dX11_range_85 : decode cX11_range 85 = .ok (.goto 4, 3) := by decide +kernel
theorem dX11_range_88 : decode cX11_range 88 = .ok (.iconst 0, 1) := by decide +kernel
theorem dX11_range_89 : decode cX11_range 89 = .ok (.invokevirtual 315, 3) := by decide +kernel
theorem dX11_range_92 : decode cX11_range 92 = .ok (.istore 5, 2) := by decide +kernel
theorem dX11_range_94 : decode cX11_range 94 = .ok (.iload 5, 2) := by decide +kernel
theorem dX11_range_96 : decode cX11_range 96 = .ok (.iconst (-1), 1) := by decide +kernel
theorem dX11_range_97 : decode cX11_range 97 = .ok (.if_icmp .ne 30, 3) := by decide +kernel
theorem dX11_range_100 : decode cX11_range 100 = .ok (.aload_n 0, 1) := by decide +kernel
theorem dX11_range_101 : decode cX11_range 101 = .ok (.getfield 58, 3) := by decide +kernel
theorem dX11_range_104 : decode cX11_range 104 = .ok (.getfield 312, 3) := by decide +kernel
theorem dX11_range_107 : decode cX11_range 107 = .ok (.ifCond .ne 20, 3) := by decide +kernel
theorem dX11_range_110 : decode cX11_range 110 = .ok (.aload_n 0, 1) := by decide +kernel
theorem dX11_range_111 : decode cX11_range 111 = .ok (.getfield 52, 3) := by decide +kernel
theorem dX11_range_114 : decode cX11_range 114 = .ok (.getfield 167, 3) := by decide +kernel
theorem dX11_range_117 : decode cX11_range 117 = .ok (.aload_n 0, 1) := by decide +kernel
theorem dX11_range_118 : decode cX11_range 118 = .ok (.getfield 48, 3) := by decide +kernel
theorem dX11_range_121 : decode cX11_range 121 = .ok (.getfield 167, 3) := by decide +kernel
theorem dX11_range_124 : decode cX11_range 124 = .ok (.if_icmp .eq 6, 3) := by decide +kernel
theorem dX11_range_127 : decode cX11_range 127 = .ok (.iload 4, 2) := by decide +kernel
theorem dX11_range_129 : decode cX11_range 129 = .ok (.ireturn, 1) := by decide +kernel
theorem dX11_range_130 : decode cX11_range 130 = .ok (.iinc 4 1, 3) := by decide +kernel
theorem dX11_range_133 : decode cX11_range 133 = .ok (.goto (-93), 3) := by decide +kernel
theorem dX11_range_136 : decode cX11_range 136 = .ok (.bipush 60, 2) := by decide +kernel
theorem dX11_range_138 : decode cX11_range 138 = .ok (.ireturn, 1) := by decide +kernel
theorem dX11_trim_0 : decode cX11_trim 0 = .ok (.aload_n 0, 1) := by decide +kernel
theorem dX11_trim_1 : decode cX11_trim 1 = .ok (.invokevirtual 176, 3) := by decide +kernel
theorem dX11_trim_4 : decode cX11_trim 4 = .ok (.ifCond .eq 21, 3) := by decide +kernel
theorem dX11_trim_7 : decode cX11_trim 7 = .ok (.iload_n 1, 1) := by decide +kernel
theorem dX11_trim_8 : decode cX11_trim 8 = .ok (.iconst 1, 1) := by decide +kernel
theorem dX11_trim_9 : decode cX11_trim 9 = .ok (.iconst 3, 1) := by decide +kernel
theorem dX11_trim_10 : decode cX11_trim 10 = .ok (.invokestatic 180, 3) := by decide +kernel
theorem dX11_trim_13 : decode cX11_trim 13 = .ok (.ifCond .eq 12, 3) := by decide +kernel
theorem dX11_trim_16 : decode cX11_trim 16 = .ok (.iload_n 2, 1) := by decide +kernel
theorem dX11_trim_17 : decode cX11_trim 17 = .ok (.iconst 0, 1) := by decide +kernel
theorem dX11_trim_18 : decode cX11_trim 18 = .ok (.iconst 3, 1) := by decide +kernel
theorem dX11_trim_19 : decode cX11_trim 19 = .ok (.invokestatic 180, 3) := by decide +kernel
theorem dX11_trim_22 : decode cX11_trim 22 = .ok (.ifCond .ne 7, 3) := by decide +kernel
theorem dX11_trim_25 : decode cX11_trim 25 = .ok (.ldc2_w 211, 3) := by decide +kernel
theorem dX11_trim_28 : decode cX11_trim 28 = .ok (.lreturn, 1) := by decide +kernel
theorem dX11_trim_29 : decode cX11_trim 29 = .ok (.iconst (-1), 1) := by decide +kernel
theorem dX11_trim_30 : decode cX11_trim 30 = .ok (.istore_n 3, 1) := by decide +kernel
theorem dX11_trim_31 : decode cX11_trim 31 = .ok (.iconst 0, 1) := by decide +kernel
theorem dX11_trim_32 : decode cX11_trim 32 = .ok (.istore 4, 2) := by decide +kernel
theorem dX11_trim_34 : decode cX11_trim 34 = .ok (.aload_n 0, 1) := by decide +kernel
theorem dX11_trim_35 : decode cX11_trim 35 = .ok (.getfield 69, 3) := by decide +kernel
theorem dX11_trim_38 : decode cX11_trim 38 = .ok (.lconst 0, 1) := by decide +kernel
theorem dX11_trim_39 : decode cX11_trim 39 = .ok (.lconst 1, 1) := by decide +kernel
theorem dX11_trim_40 : decode cX11_trim 40 = .ok (.invokevirtual 224, 3) := by decide +kernel
theorem dX11_trim_43 : decode cX11_trim 43 = .ok (.iconst 0, 1) := by decide +kernel
theorem dX11_trim_44 : decode cX11_trim 44 = .ok (.istore 5, 2) := by decide +kernel
theorem dX11_trim_46 : decode cX11_trim 46 = .ok (.iload 5, 2) := by decide +kernel
theorem dX11_trim_48 : decode cX11_trim 48 = .ok (.aload_n 0, 1) := by decide +kernel
theorem dX11_trim_49 : decode cX11_trim 49 = .ok (.getfield 28, 3) := by decide +kernel
theorem dX11_trim_52 : decode cX11_trim 52 = .ok (.getfield 150, 3) := by decide +kernel
theorem dX11_trim_55 : decode cX11_trim 55 = .ok (.if_icmp .ge 97, 3) := by decide +kernel
theorem dX11_trim_58 : decode cX11_trim 58 = .ok (.iload_n 1, 1) := by decide +kernel
theorem dX11_trim_59 : decode cX11_trim 59 = .ok (.ineg, 1) := by decide +kernel
theorem dX11_trim_60 : decode cX11_trim 60 = .ok (.istore 6, 2) := by decide +kernel
theorem dX11_trim_62 : decode cX11_trim 62 = .ok (.iload 6, 2) := by decide +kernel
theorem dX11_trim_64 : decode cX11_trim 64 = .ok (.iload_n 1, 1) := by decide +kernel
theorem dX11_trim_65 : decode cX11_trim 65 = .ok (.if_icmp .gt 81, 3) := by decide +kernel
theorem dX11_trim_68 : decode cX11_trim 68 = .ok (.iload 6, 2) := by decide +kernel
theorem dX11_trim_70 : decode cX11_trim 70 = .ok (.ifCond .eq 70, 3) := by decide +kernel
theorem dX11_trim_73 : decode cX11_trim 73 = .ok (.aload_n 0, 1) := by decide +kernel
theorem dX11_trim_74 : decode cX11_trim 74 = .ok (.iload 5, 2) := by decide +kernel
theorem dX11_trim_76 : decode cX11_trim 76 = .ok (.invokevirtual 210, 3) := by decide +kernel
theorem dX11_trim_79 : decode cX11_trim 79 = .ok (.ifCond .eq 61, 3) := by decide +kernel
theorem dX11_trim_82 : decode cX11_trim 82 = .ok (.aload_n 0, 1) := by decide +kernel
theorem dX11_trim_83 : decode cX11_trim 83 = .ok (.iload 5, 2) := by decide +kernel
theorem dX11_trim_85 : decode cX11_trim 85 = .ok (.iload 6, 2) := by decide +kernel
theorem dX11_trim_87 : decode cX11_trim 87 = .ok (.invokevirtual 386, 3) := by decide +kernel
theorem dX11_trim_90 : decode cX11_trim 90 = .ok (.ifCond .eq 50, 3) := by decide +kernel
theorem dX11_trim_93 : decode cX11_trim 93 = .ok (.iload_n 3, 1) := by decide +kernel
theorem dX11_trim_94 : decode cX11_trim 94 = .ok (.iconst (-1), 1) := by decide +kernel
theorem dX11_trim_95 : decode cX11_trim 95 = .ok (.if_icmp .eq 17, 3) := by decide +kernel
theorem dX11_trim_98 : decode cX11_trim 98 = .ok (.aload_n 0, 1) := by decide +kernel
theorem dX11_trim_99 : decode cX11_trim 99 = .ok (.getfield 65, 3) := by decide +kernel
theorem dX11_trim_102 : decode cX11_trim 102 = .ok (.aload_n 0, 1) := by decide +kernel
theorem dX11_trim_103 : decode cX11_trim 103 = .ok (.getfield 69, 3) := by decide +kernel
theorem dX11_trim_106 : decode cX11_trim 106 = .ok (.invokevirtual 390, 3) := by decide +kernel
theorem dX11_trim_109 : decode cX11_trim 109 = .ok (.ifCond .eq 31, 3) := by decide +kernel
theorem dX11_trim_112 : decode cX11_trim 112 = .ok (.iload 5, 2) := by decide +kernel
theorem dX11_trim_114 : decode cX11_trim 114 = .ok (.istore_n 3, 1) := by decide +kernel
theorem dX11_trim_115 : decode cX11_trim 115 = .ok (.iload 6, 2) := by decide +kernel
theorem dX11_trim_117 : decode cX11_trim 117 = .ok (.istore 4, 2) := by decide +kernel
theorem dX11_trim_119 : decode cX11_trim 119 = .ok (.aload_n 0, 1) := by decide +kernel
theorem dX11_trim_120 : decode cX11_trim 120 = .ok (.getfield 69, 3) := by decide +kernel
theorem dX11_trim_123 : decode cX11_trim 123 = .ok (.aload_n 0, 1) := by decide +kernel
theorem dX11_trim_124 : decode cX11_trim 124 = .ok (.getfield 65, 3) := by decide +kernel
theorem dX11_trim_127 : decode cX11_trim 127 = .ok (.getfield 394, 3) := by decide +kernel
theorem dX11_trim_130 : decode cX11_trim 130 = .ok (.aload_n 0, 1) := by decide +kernel
theorem dX11_trim_131 : decode cX11_trim 131 = .ok (.getfield 65, 3) := by decide +kernel
theorem dX11_trim_134 : decode cX11_trim 134 = .ok (.getfield 397, 3) := by decide +kernel
theorem dX11_trim_137 : decode cX11_trim 137 = .ok (.invokevirtual 224, 3) := by decide +kernel
theorem dX11_trim_140 : decode cX11_trim 140 = .ok (.iinc 6 1, 3) := by decide +kernel
theorem dX11_trim_143 : decode cX11_trim 143 = .ok (.goto (-81), 3) := by decide +kernel
theorem dX11_trim_146 : decode cX11_trim 146 = .ok (.iinc 5 1, 3) := by decide +kernel
theorem dX11_trim_149 : decode cX11_trim 149 = .ok (.goto (-103), 3) := by decide +kernel
theorem dX11_trim_152 : decode cX11_trim 152 = .ok (.iload_n 2, 1) := by decide +kernel
theorem dX11_trim_153 : decode cX11_trim 153 = .ok (.ifCond .ne 6, 3) := by decide +kernel
theorem dX11_trim_156 : decode cX11_trim 156 = .ok (.iload_n 3, 1) := by decide +kernel
theorem dX11_trim_157 : decode cX11_trim 157 = .ok (.i2l, 1) := by decide +kernel
theorem dX11_trim_158 : decode cX11_trim 158 = .ok (.lreturn, 1) := by decide +kernel
theorem dX11_trim_159 : decode cX11_trim 159 = .ok (.iload_n 2, 1) := by decide +kernel
theorem dX11_trim_160 : decode cX11_trim 160 = .ok (.iconst 1, 1) := by decide +kernel
theorem dX11_trim_161 : decode cX11_trim 161 = .ok (.if_icmp .ne 9, 3) := by decide +kernel
theorem dX11_trim_164 : decode cX11_trim 164 = .ok (.iload 4, 2) := by decide +kernel
theorem dX11_trim_166 : decode cX11_trim 166 = .ok (.i2l, 1) := by decide +kernel
theorem dX11_trim_167 : decode cX11_trim 167 = .ok (.goto 13, 3) := by decide +kernel
theorem dX11_trim_170 : decode cX11_trim 170 = .ok (.aload_n 0, 1) := by decide +kernel
theorem dX11_trim_171 : decode cX11_trim 171 = .ok (.getfield 69, 3) := by decide +kernel
theorem dX11_trim_174 : decode cX11_trim 174 = .ok (.iload_n 2, 1) := by decide +kernel
theorem dX11_trim_175 : decode cX11_trim 175 = .ok (.iconst 2, 1) := by decide +kernel
theorem dX11_trim_176 : decode cX11_trim 176 = .ok (.isub, 1) := by decide +kernel
theorem dX11_trim_177 : decode cX11_trim 177 = .ok (.invokevirtual 228, 3) := by decide +kernel
theorem dX11_trim_180 : decode cX11_trim 180 = .ok (.lreturn, 1) := by decide +kernel
theorem dX11_putTurned_0 : decode cX11_putTurned 0 = .ok (.aload_n 0, 1) := by decide +kernel
theorem dX11_putTurned_1 : decode cX11_putTurned 1 = .ok (.getfield 52, 3) := by decide +kernel
theorem dX11_putTurned_4 : decode cX11_putTurned 4 = .ok (.aload_n 0, 1) := by decide +kernel
theorem dX11_putTurned_5 : decode cX11_putTurned 5 = .ok (.getfield 48, 3) := by decide +kernel
theorem dX11_putTurned_8 : decode cX11_putTurned 8 = .ok (.invokevirtual 143, 3) := by decide +kernel
theorem dX11_putTurned_11 : decode cX11_putTurned 11 = .ok (.aload_n 0, 1) := by decide +kernel
theorem dX11_putTurned_12 : decode cX11_putTurned 12 = .ok (.getfield 58, 3) := by decide +kernel
theorem dX11_putTurned_15 : decode cX11_putTurned 15 = .ok (.aload_n 0, 1) := by decide +kernel
theorem dX11_putTurned_16 : decode cX11_putTurned 16 = .ok (.getfield 28, 3) := by decide +kernel
theorem dX11_putTurned_19 : decode cX11_putTurned 19 = .ok (.aload_n 0, 1) := by decide +kernel
theorem dX11_putTurned_20 : decode cX11_putTurned 20 = .ok (.getfield 52, 3) := by decide +kernel
theorem dX11_putTurned_23 : decode cX11_putTurned 23 = .ok (.iconst 1, 1) := by decide +kernel
theorem dX11_putTurned_24 : decode cX11_putTurned 24 = .ok (.iload_n 1, 1) := by decide +kernel
theorem dX11_putTurned_25 : decode cX11_putTurned 25 = .ok (.iload_n 2, 1) := by decide +kernel
theorem dX11_putTurned_26 : decode cX11_putTurned 26 = .ok (.iconst 0, 1) := by decide +kernel
theorem dX11_putTurned_27 : decode cX11_putTurned 27 = .ok (.invokevirtual 315, 3) := by decide +kernel
theorem dX11_putTurned_30 : decode cX11_putTurned 30 = .ok (.iconst (-1), 1) := by decide +kernel
theorem dX11_putTurned_31 : decode cX11_putTurned 31 = .ok (.if_icmp .ne 13, 3) := by decide +kernel
theorem dX11_putTurned_34 : decode cX11_putTurned 34 = .ok (.aload_n 0, 1) := by decide +kernel
theorem dX11_putTurned_35 : decode cX11_putTurned 35 = .ok (.getfield 58, 3) := by decide +kernel
theorem dX11_putTurned_38 : decode cX11_putTurned 38 = .ok (.getfield 312, 3) := by decide +kernel
theorem dX11_putTurned_41 : decode cX11_putTurned 41 = .ok (.ifCond .eq 5, 3) := by decide +kernel
theorem dX11_putTurned_44 : decode cX11_putTurned 44 = .ok (.iconst 0, 1) := by decide +kernel
theorem dX11_putTurned_45 : decode cX11_putTurned 45 = .ok (.ireturn, 1) := by decide +kernel
theorem dX11_putTurned_46 : decode cX11_putTurned 46 = .ok (.aload_n 0, 1) := by decide +kernel
theorem dX11_putTurned_47 : decode cX11_putTurned 47 = .ok (.getfield 58, 3) := by decide +kernel
theorem dX11_putTurned_50 : decode cX11_putTurned 50 = .ok (.getfield 163, 3) := by decide +kernel
theorem dX11_putTurned_53 : decode cX11_putTurned 53 = .ok (.aload_n 0, 1) := by decide +kernel
theorem dX11_putTurned_54 : decode cX11_putTurned 54 = .ok (.getfield 28, 3) := by decide +kernel
theorem dX11_putTurned_57 : decode cX11_putTurned 57 = .ok (.aload_n 0, 1) := by decide +kernel
theorem dX11_putTurned_58 : decode cX11_putTurned 58 = .ok (.getfield 52, 3) := by decide +kernel
theorem dX11_putTurned_61 : decode cX11_putTurned 61 = .ok (.getfield 167, 3) := by decide +kernel
theorem dX11_putTurned_64 : decode cX11_putTurned 64 = .ok (.iconst 1, 1) := by decide +kernel
theorem dX11_putTurned_65 : decode cX11_putTurned 65 = .ok (.invokevirtual 253, 3) := by decide +kernel
theorem dX11_putTurned_68 : decode cX11_putTurned 68 = .ok (.istore_n 3, 1) := by decide +kernel
theorem dX11_putTurned_69 : decode cX11_putTurned 69 = .ok (.iload_n 3, 1) := by decide +kernel
theorem dX11_putTurned_70 : decode cX11_putTurned 70 = .ok (.iconst (-1), 1) := by decide +kernel
theorem dX11_putTurned_71 : decode cX11_putTurned 71 = .ok (.if_icmp .ne 5, 3) := by decide +kernel
theorem dX11_putTurned_74 : decode cX11_putTurned 74 = .ok (.iconst 0, 1) := by decide +kernel
theorem dX11_putTurned_75 : decode cX11_putTurned 75 = .ok (.ireturn, 1) := by decide +kernel
theorem dX11_putTurned_76 : decode cX11_putTurned 76 = .ok (.aload_n 0, 1) := by decide +kernel
theorem dX11_putTurned_77 : decode cX11_putTurned 77 = .ok (.aload_n 0, 1) := by decide +kernel
theorem dX11_putTurned_78 : decode cX11_putTurned 78 = .ok (.getfield 58, 3) := by decide +kernel
theorem dX11_putTurned_81 : decode cX11_putTurned 81 = .ok (.getfield 163, 3) := by decide +kernel
theorem dX11_putTurned_84 : decode cX11_putTurned 84 = .ok (.iload_n 3, 1) := by decide +kernel
theorem dX11_putTurned_85 : decode cX11_putTurned 85 = .ok (.invokevirtual 249, 3) := by decide +kernel
theorem dX11_putTurned_88 : decode cX11_putTurned 88 = .ok (.iconst 1, 1) := by decide +kernel
theorem dX11_putTurned_89 : decode cX11_putTurned 89 = .ok (.ireturn, 1) := by decide +kernel
theorem dX11_fewest_0 : decode cX11_fewest 0 = .ok (.aload_n 0, 1) := by decide +kernel
theorem dX11_fewest_1 : decode cX11_fewest 1 = .ok (.invokevirtual 176, 3) := by decide +kernel
theorem dX11_fewest_4 : decode cX11_fewest 4 = .ok (.ifCond .eq 12, 3) := by decide +kernel
theorem dX11_fewest_7 : decode cX11_fewest 7 = .ok (.iload_n 1, 1) := by decide +kernel
theorem dX11_fewest_8 : decode cX11_fewest 8 = .ok (.iconst 0, 1) := by decide +kernel
theorem dX11_fewest_9 : decode cX11_fewest 9 = .ok (.iconst 1, 1) := by decide +kernel
theorem dX11_fewest_10 : decode cX11_fewest 10 = .ok (.invokestatic 180, 3) := by decide +kernel
theorem dX11_fewest_13 : decode cX11_fewest 13 = .ok (.ifCond .ne 5, 3) := by decide +kernel
theorem dX11_fewest_16 : decode cX11_fewest 16 = .ok (.iconst (-1), 1) := by decide +kernel
theorem dX11_fewest_17 : decode cX11_fewest 17 = .ok (.ireturn, 1) := by decide +kernel
theorem dX11_fewest_18 : decode cX11_fewest 18 = .ok (.aload_n 0, 1) := by decide +kernel
theorem dX11_fewest_19 : decode cX11_fewest 19 = .ok (.getfield 48, 3) := by decide +kernel
theorem dX11_fewest_22 : decode cX11_fewest 22 = .ok (.getfield 167, 3) := by decide +kernel
theorem dX11_fewest_25 : decode cX11_fewest 25 = .ok (.aload_n 0, 1) := by decide +kernel
theorem dX11_fewest_26 : decode cX11_fewest 26 = .ok (.getfield 48, 3) := by decide +kernel
theorem dX11_fewest_29 : decode cX11_fewest 29 = .ok (.aload_n 0, 1) := by decide +kernel
theorem dX11_fewest_30 : decode cX11_fewest 30 = .ok (.getfield 28, 3) := by decide +kernel
theorem dX11_fewest_33 : decode cX11_fewest 33 = .ok (.invokevirtual 270, 3) := by decide +kernel
theorem dX11_fewest_36 : decode cX11_fewest 36 = .ok (.ior, 1) := by decide +kernel
theorem dX11_fewest_37 : decode cX11_fewest 37 = .ok (.istore_n 2, 1) := by decide +kernel
theorem dX11_fewest_38 : decode cX11_fewest 38 = .ok (.iconst 1, 1) := by decide +kernel
theorem dX11_fewest_39 : decode cX11_fewest 39 = .ok (.istore_n 3, 1) := by decide +kernel
theorem dX11_fewest_40 : decode cX11_fewest 40 = .ok (.iload_n 3, 1) := by decide +kernel
theorem dX11_fewest_41 : decode cX11_fewest 41 = .ok (.aload_n 0, 1) := by decide +kernel
theorem dX11_fewest_42 : decode cX11_fewest 42 = .ok (.getfield 28, 3) := by decide +kernel
theorem dX11_fewest_45 : decode cX11_fewest 45 = .ok (.getfield 150, 3) := by decide +kernel
theorem dX11_fewest_48 : decode cX11_fewest 48 = .ok (.if_icmp .gt 63, 3) := by decide +kernel
theorem dX11_fewest_51 : decode cX11_fewest 51 = .ok (.iconst 1, 1) := by decide +kernel
theorem dX11_fewest_52 : decode cX11_fewest 52 = .ok (.istore 4, 2) := by decide +kernel
theorem dX11_fewest_54 : decode cX11_fewest 54 = .ok (.iload 4, 2) := by decide +kernel
theorem dX11_fewest_56 : decode cX11_fewest 56 = .ok (.iload_n 2, 1) := by decide +kernel
theorem dX11_fewest_57 : decode cX11_fewest 57 = .ok (.if_icmp .gt 48, 3) := by decide +kernel
theorem dX11_fewest_60 : decode cX11_fewest 60 = .ok (.iload 4, 2) := by decide +kernel
theorem dX11_fewest_62 : decode cX11_fewest 62 = .ok (.invokestatic 366, 3) := by decide +kernel
theorem dX11_fewest_65 : decode cX11_fewest 65 = .ok (.iload_n 3, 1) := by decide +kernel
theorem dX11_fewest_66 : decode cX11_fewest 66 = .ok (.if_icmp .ne 33, 3) := by decide +kernel
theorem dX11_fewest_69 : decode cX11_fewest 69 = .ok (.iload 4, 2) := by decide +kernel
theorem dX11_fewest_71 : decode cX11_fewest 71 = .ok (.iload_n 2, 1) := by decide +kernel
theorem dX11_fewest_72 : decode cX11_fewest 72 = .ok (.iconst (-1), 1) := by decide +kernel
theorem dX11_fewest_73 : decode cX11_fewest 73 = .ok (.ixor, 1) := by decide +kernel
theorem dX11_fewest_74 : decode cX11_fewest 74 = .ok (.iand, 1) := by decide +kernel
theorem dX11_fewest_75 : decode cX11_fewest 75 = .ok (.ifCond .ne 24, 3) := by decide +kernel
theorem dX11_fewest_78 : decode cX11_fewest 78 = .ok (.aload_n 0, 1) := by decide +kernel
theorem dX11_fewest_79 : decode cX11_fewest 79 = .ok (.iload 4, 2) := by decide +kernel
theorem dX11_fewest_81 : decode cX11_fewest 81 = .ok (.iload_n 2, 1) := by decide +kernel
theorem dX11_fewest_82 : decode cX11_fewest 82 = .ok (.invokevirtual 398, 3) := by decide +kernel
theorem dX11_fewest_85 : decode cX11_fewest 85 = .ok (.ifCond .eq 14, 3) := by decide +kernel
theorem dX11_fewest_88 : decode cX11_fewest 88 = .ok (.iload_n 1, 1) := by decide +kernel
theorem dX11_fewest_89 : decode cX11_fewest 89 = .ok (.ifCond .ne 7, 3) := by decide +kernel
theorem dX11_fewest_92 : decode cX11_fewest 92 = .ok (.iload_n 3, 1) := by decide +kernel
theorem dX11_fewest_93 : decode cX11_fewest 93 = .ok (.goto 5, 3) := by decide +kernel
theorem dX11_fewest_96 : decode cX11_fewest 96 = .ok (.iload 4, 2) := by decide +kernel
theorem dX11_fewest_98 : decode cX11_fewest 98 = .ok (.ireturn, 1) := by decide +kernel
theorem dX11_fewest_99 : decode cX11_fewest 99 = .ok (.iinc 4 1, 3) := by decide +kernel
theorem dX11_fewest_102 : decode cX11_fewest 102 = .ok (.goto (-48), 3) := by decide +kernel
theorem dX11_fewest_105 : decode cX11_fewest 105 = .ok (.iinc 3 1, 3) := by decide +kernel
theorem dX11_fewest_108 : decode cX11_fewest 108 = .ok (.goto (-68), 3) := by decide +kernel
theorem dX11_fewest_111 : decode cX11_fewest 111 = .ok (.iconst (-1), 1) := by decide +kernel
theorem dX11_fewest_112 : decode cX11_fewest 112 = .ok (.ireturn, 1) := by decide +kernel
theorem dX11_isEnough_0 : decode cX11_isEnough 0 = .ok (.aload_n 0, 1) := by decide +kernel
theorem dX11_isEnough_1 : decode cX11_isEnough 1 = .ok (.getfield 52, 3) := by decide +kernel
theorem dX11_isEnough_4 : decode cX11_isEnough 4 = .ok (.aload_n 0, 1) := by decide +kernel
theorem dX11_isEnough_5 : decode cX11_isEnough 5 = .ok (.getfield 48, 3) := by decide +kernel
theorem dX11_isEnough_8 : decode cX11_isEnough 8 = .ok (.invokevirtual 143, 3) := by decide +kernel
theorem dX11_isEnough_11 : decode cX11_isEnough 11 = .ok (.aload_n 0, 1) := by decide +kernel
theorem dX11_isEnough_12 : decode cX11_isEnough 12 = .ok (.getfield 52, 3) := by decide +kernel
theorem dX11_isEnough_15 : decode cX11_isEnough 15 = .ok (.iload_n 1, 1) := by decide +kernel
theorem dX11_isEnough_16 : decode cX11_isEnough 16 = .ok (.putfield 167, 3) := by decide +kernel
theorem dX11_isEnough_19 : decode cX11_isEnough 19 = .ok (.aload_n 0, 1) := by decide +kernel
theorem dX11_isEnough_20 : decode cX11_isEnough 20 = .ok (.getfield 52, 3) := by decide +kernel
theorem dX11_isEnough_23 : decode cX11_isEnough 23 = .ok (.dup, 1) := by decide +kernel
theorem dX11_isEnough_24 : decode cX11_isEnough 24 = .ok (.getfield 276, 3) := by decide +kernel
theorem dX11_isEnough_27 : decode cX11_isEnough 27 = .ok (.iload_n 2, 1) := by decide +kernel
theorem dX11_isEnough_28 : decode cX11_isEnough 28 = .ok (.iload_n 1, 1) := by decide +kernel
theorem dX11_isEnough_29 : decode cX11_isEnough 29 = .ok (.iconst (-1), 1) := by decide +kernel
theorem dX11_isEnough_30 : decode cX11_isEnough 30 = .ok (.ixor, 1) := by decide +kernel
theorem dX11_isEnough_31 : decode cX11_isEnough 31 = .ok (.iand, 1) := by decide +kernel
theorem dX11_isEnough_32 : decode cX11_isEnough 32 = .ok (.ior, 1) := by decide +kernel
theorem dX11_isEnough_33 : decode cX11_isEnough 33 = .ok (.putfield 276, 3) := by decide +kernel
theorem dX11_isEnough_36 : decode cX11_isEnough 36 = .ok (.aload_n 0, 1) := by decide +kernel
theorem dX11_isEnough_37 : decode cX11_isEnough 37 = .ok (.getfield 58, 3) := by decide +kernel
theorem dX11_isEnough_40 : decode cX11_isEnough 40 = .ok (.aload_n 0, 1) := by decide +kernel
theorem dX11_isEnough_41 : decode cX11_isEnough 41 = .ok (.getfield 28, 3) := by decide +kernel
theorem dX11_isEnough_44 : decode cX11_isEnough 44 = .ok (.aload_n 0, 1) := by decide +kernel
theorem dX11_isEnough_45 : decode cX11_isEnough 45 = .ok (.getfield 52, 3) := by decide +kernel
theorem dX11_isEnough_48 : decode cX11_isEnough 48 = .ok (.invokevirtual 139, 3) := by decide +kernel
theorem dX11_isEnough_51 : decode cX11_isEnough 51 = .ok (.iconst (-1), 1) := by decide +kernel
theorem dX11_isEnough_52 : decode cX11_isEnough 52 = .ok (.if_icmp .ne 17, 3) := by decide +kernel
theorem dX11_isEnough_55 : decode cX11_isEnough 55 = .ok (.aload_n 0, 1) := by decide +kernel
theorem dX11_isEnough_56 : decode cX11_isEnough 56 = .ok (.getfield 58, 3) := by decide +kernel
theorem dX11_isEnough_59 : decode cX11_isEnough 59 = .ok (.getfield 312, 3) := by decide +kernel
theorem dX11_isEnough_62 : decode cX11_isEnough 62 = .ok (.ifCond .ne 7, 3) := by decide +kernel
theorem dX11_isEnough_65 : decode cX11_isEnough 65 = .ok (.iconst 1, 1) := by decide +kernel
theorem dX11_isEnough_66 : decode cX11_isEnough 66 = .ok (.goto 4, 3) := by decide +kernel
theorem dX11_isEnough_69 : decode cX11_isEnough 69 = .ok (.iconst 0, 1) := by decide +kernel
theorem dX11_isEnough_70 : decode cX11_isEnough 70 = .ok (.ireturn, 1) := by decide +kernel
theorem dX11_settlesWithout_0 : decode cX11_settlesWithout 0 = .ok (.aload_n 0, 1) := by decide +kernel
theorem dX11_settlesWithout_1 : decode cX11_settlesWithout 1 = .ok (.getfield 52, 3) := by decide +kernel
theorem dX11_settlesWithout_4 : decode cX11_settlesWithout 4 = .ok (.aload_n 0, 1) := by decide +kernel
theorem dX11_settlesWithout_5 : decode cX11_settlesWithout 5 = .ok (.getfield 48, 3) := by decide +kernel
theorem dX11_settlesWithout_8 : decode cX11_settlesWithout 8 = .ok (.invokevirtual 143, 3) := by decide +kernel
theorem dX11_settlesWithout_11 : decode cX11_settlesWithout 11 = .ok (.aload_n 0, 1) := by decide +kernel
theorem dX11_settlesWithout_12 : decode cX11_settlesWithout 12 = .ok (.getfield 58, 3) := by decide +kernel
theorem dX11_settlesWithout_15 : decode cX11_settlesWithout 15 = .ok (.aload_n 0, 1) := by decide +kernel
theorem dX11_settlesWithout_16 : decode cX11_settlesWithout 16 = .ok (.getfield 28, 3) := by decide +kernel
theorem dX11_settlesWithout_19 : decode cX11_settlesWithout 19 = .ok (.aload_n 0, 1) := by decide +kernel
theorem dX11_settlesWithout_20 : decode cX11_settlesWithout 20 = .ok (.getfield 52, 3) := by decide +kernel
theorem dX11_settlesWithout_23 : decode cX11_settlesWithout 23 = .ok (.iconst 2, 1) := by decide +kernel
theorem dX11_settlesWithout_24 : decode cX11_settlesWithout 24 = .ok (.iload_n 1, 1) := by decide +kernel
theorem dX11_settlesWithout_25 : decode cX11_settlesWithout 25 = .ok (.iconst 0, 1) := by decide +kernel
theorem dX11_settlesWithout_26 : decode cX11_settlesWithout 26 = .ok (.iconst 0, 1) := by decide +kernel
theorem dX11_settlesWithout_27 : decode cX11_settlesWithout 27 = .ok (.invokevirtual 315, 3) := by decide +kernel
theorem dX11_settlesWithout_30 : decode cX11_settlesWithout 30 = .ok (.iconst (-1), 1) := by decide +kernel
theorem dX11_settlesWithout_31 : decode cX11_settlesWithout 31 = .ok (.if_icmp .ne 7, 3) := by decide +kernel
theorem dX11_settlesWithout_34 : decode cX11_settlesWithout 34 = .ok (.iconst 1, 1) := by decide +kernel
theorem dX11_settlesWithout_35 : decode cX11_settlesWithout 35 = .ok (.goto 4, 3) := by decide +kernel
theorem dX11_settlesWithout_38 : decode cX11_settlesWithout 38 = .ok (.iconst 0, 1) := by decide +kernel
theorem dX11_settlesWithout_39 : decode cX11_settlesWithout 39 = .ok (.ireturn, 1) := by decide +kernel
theorem dX11_without_0 : decode cX11_without 0 = .ok (.aload_n 0, 1) := by decide +kernel
theorem dX11_without_1 : decode cX11_without 1 = .ok (.iload_n 1, 1) := by decide +kernel
theorem dX11_without_2 : decode cX11_without 2 = .ok (.invokevirtual 210, 3) := by decide +kernel
theorem dX11_without_5 : decode cX11_without 5 = .ok (.ifCond .eq 20, 3) := by decide +kernel
theorem dX11_without_8 : decode cX11_without 8 = .ok (.iload_n 2, 1) := by decide +kernel
theorem dX11_without_9 : decode cX11_without 9 = .ok (.iconst 0, 1) := by decide +kernel
theorem dX11_without_10 : decode cX11_without 10 = .ok (.iconst 1, 1) := by decide +kernel
theorem dX11_without_11 : decode cX11_without 11 = .ok (.invokestatic 180, 3) := by decide +kernel
theorem dX11_without_14 : decode cX11_without 14 = .ok (.ifCond .eq 11, 3) := by decide +kernel
theorem dX11_without_17 : decode cX11_without 17 = .ok (.aload_n 0, 1) := by decide +kernel
theorem dX11_without_18 : decode cX11_without 18 = .ok (.iload_n 1, 1) := by decide +kernel
theorem dX11_without_19 : decode cX11_without 19 = .ok (.invokevirtual 401, 3) := by decide +kernel
theorem dX11_without_22 : decode cX11_without 22 = .ok (.ifCond .ne 5, 3) := by decide +kernel
theorem dX11_without_25 : decode cX11_without 25 = .ok (.iconst (-1), 1) := by decide +kernel
theorem dX11_without_26 : decode cX11_without 26 = .ok (.ireturn, 1) := by decide +kernel
theorem dX11_without_27 : decode cX11_without 27 = .ok (.iload_n 2, 1) := by decide +kernel
theorem dX11_without_28 : decode cX11_without 28 = .ok (.ifCond .ne 13, 3) := by decide +kernel
theorem dX11_without_31 : decode cX11_without 31 = .ok (.aload_n 0, 1) := by decide +kernel
theorem dX11_without_32 : decode cX11_without 32 = .ok (.getfield 52, 3) := by decide +kernel
theorem dX11_without_35 : decode cX11_without 35 = .ok (.getfield 167, 3) := by decide +kernel
theorem dX11_without_38 : decode cX11_without 38 = .ok (.goto 10, 3) := by decide +kernel
theorem dX11_without_41 : decode cX11_without 41 = .ok (.aload_n 0, 1) := by decide +kernel
theorem dX11_without_42 : decode cX11_without 42 = .ok (.getfield 58, 3) := by decide +kernel
theorem dX11_without_45 : decode cX11_without 45 = .ok (.getfield 312, 3) := by decide +kernel
theorem dX11_without_48 : decode cX11_without 48 = .ok (.ireturn, 1) := by decide +kernel
theorem dX11_key_0 : decode cX11_key 0 = .ok (.iconst (-1), 1) := by decide +kernel
theorem dX11_key_1 : decode cX11_key 1 = .ok (.istore_n 1, 1) := by decide +kernel
theorem dX11_key_2 : decode cX11_key 2 = .ok (.iconst (-1), 1) := by decide +kernel
theorem dX11_key_3 : decode cX11_key 3 = .ok (.istore_n 2, 1) := by decide +kernel
theorem dX11_key_4 : decode cX11_key 4 = .ok (.iconst 0, 1) := by decide +kernel
theorem dX11_key_5 : decode cX11_key 5 = .ok (.istore_n 3, 1) := by decide +kernel
theorem dX11_key_6 : decode cX11_key 6 = .ok (.iload_n 3, 1) := by decide +kernel
theorem dX11_key_7 : decode cX11_key 7 = .ok (.aload_n 0, 1) := by decide +kernel
theorem dX11_key_8 : decode cX11_key 8 = .ok (.getfield 28, 3) := by decide +kernel
theorem dX11_key_11 : decode cX11_key 11 = .ok (.getfield 150, 3) := by decide +kernel
theorem dX11_key_14 : decode cX11_key 14 = .ok (.if_icmp .ge 53, 3) := by decide +kernel
theorem dX11_key_17 : decode cX11_key 17 = .ok (.aload_n 0, 1) := by decide +kernel
theorem dX11_key_18 : decode cX11_key 18 = .ok (.iload_n 3, 1) := by decide +kernel
theorem dX11_key_19 : decode cX11_key 19 = .ok (.invokevirtual 210, 3) := by decide +kernel
theorem dX11_key_22 : decode cX11_key 22 = .ok (.ifCond .ne 6, 3) := by decide +kernel
theorem dX11_key_25 : decode cX11_key 25 = .ok (.goto 36, 3) := by decide +kernel
theorem dX11_key_28 : decode cX11_key 28 = .ok (.aload_n 0, 1) := by decide +kernel
theorem dX11_key_29 : decode cX11_key 29 = .ok (.iload_n 3, 1) := by decide +kernel
theorem dX11_key_30 : decode cX11_key 30 = .ok (.invokevirtual 401, 3) := by decide +kernel
theorem dX11_key_33 : decode cX11_key 33 = .ok (.ifCond .eq 13, 3) := by decide +kernel
theorem dX11_key_36 : decode cX11_key 36 = .ok (.aload_n 0, 1) := by decide +kernel
theorem dX11_key_37 : decode cX11_key 37 = .ok (.getfield 58, 3) := by decide +kernel
theorem dX11_key_40 : decode cX11_key 40 = .ok (.getfield 332, 3) := by decide +kernel
theorem dX11_key_43 : decode cX11_key 43 = .ok (.goto 5, 3) := by decide +kernel
theorem dX11_key_46 : decode cX11_key 46 = .ok (.bipush 9, 2) := by decide +kernel
theorem dX11_key_48 : decode cX11_key 48 = .ok (.istore 4, 2) := by decide +kernel
theorem dX11_key_50 : decode cX11_key 50 = .ok (.iload 4, 2) := by decide +kernel
theorem dX11_key_52 : decode cX11_key 52 = .ok (.iload_n 2, 1) := by decide +kernel
theorem dX11_key_53 : decode cX11_key 53 = .ok (.if_icmp .le 8, 3) := by decide +kernel
theorem dX11_key_56 : decode cX11_key 56 = .ok (.iload_n 3, 1) := by decide +kernel
theorem dX11_key_57 : decode cX11_key 57 = .ok (.istore_n 1, 1) := by decide +kernel
theorem dX11_key_58 : decode cX11_key 58 = .ok (.iload 4, 2) := by decide +kernel
theorem dX11_key_60 : decode cX11_key 60 = .ok (.istore_n 2, 1) := by decide +kernel
theorem dX11_key_61 : decode cX11_key 61 = .ok (.iinc 3 1, 3) := by decide +kernel
theorem dX11_key_64 : decode cX11_key 64 = .ok (.goto (-58), 3) := by decide +kernel
theorem dX11_key_67 : decode cX11_key 67 = .ok (.iload_n 1, 1) := by decide +kernel
theorem dX11_key_68 : decode cX11_key 68 = .ok (.ireturn, 1) := by decide +kernel
theorem dX11_odds_0 : decode cX11_odds 0 = .ok (.aload_n 0, 1) := by decide +kernel
theorem dX11_odds_1 : decode cX11_odds 1 = .ok (.iload_n 2, 1) := by decide +kernel
theorem dX11_odds_2 : decode cX11_odds 2 = .ok (.iload_n 3, 1) := by decide +kernel
