theorem dX11_odds_3 : decode cX11_odds 3 = .ok (.iload 4, 2) := by decide +kernel
theorem dX11_odds_5 : decode cX11_odds 5 = .ok (.invokevirtual 374, 3) := by decide +kernel
theorem dX11_odds_8 : decode cX11_odds 8 = .ok (.ifCond .eq 24, 3) := by decide +kernel
theorem dX11_odds_11 : decode cX11_odds 11 = .ok (.iload_n 1, 1) := by decide +kernel
theorem dX11_odds_12 : decode cX11_odds 12 = .ok (.iconst 0, 1) := by decide +kernel
theorem dX11_odds_13 : decode cX11_odds 13 = .ok (.bipush 100, 2) := by decide +kernel
theorem dX11_odds_15 : decode cX11_odds 15 = .ok (.invokestatic 180, 3) := by decide +kernel
theorem dX11_odds_18 : decode cX11_odds 18 = .ok (.ifCond .eq 14, 3) := by decide +kernel
theorem dX11_odds_21 : decode cX11_odds 21 = .ok (.iload 5, 2) := by decide +kernel
theorem dX11_odds_23 : decode cX11_odds 23 = .ok (.iconst 1, 1) := by decide +kernel
theorem dX11_odds_24 : decode cX11_odds 24 = .ok (.bipush 6, 2) := by decide +kernel
theorem dX11_odds_26 : decode cX11_odds 26 = .ok (.invokestatic 180, 3) := by decide +kernel
theorem dX11_odds_29 : decode cX11_odds 29 = .ok (.ifCond .ne 5, 3) := by decide +kernel
theorem dX11_odds_32 : decode cX11_odds 32 = .ok (.iconst (-1), 1) := by decide +kernel
theorem dX11_odds_33 : decode cX11_odds 33 = .ok (.ireturn, 1) := by decide +kernel
theorem dX11_odds_34 : decode cX11_odds 34 = .ok (.aload_n 0, 1) := by decide +kernel
theorem dX11_odds_35 : decode cX11_odds 35 = .ok (.iload_n 2, 1) := by decide +kernel
theorem dX11_odds_36 : decode cX11_odds 36 = .ok (.iload_n 3, 1) := by decide +kernel
theorem dX11_odds_37 : decode cX11_odds 37 = .ok (.iload 4, 2) := by decide +kernel
theorem dX11_odds_39 : decode cX11_odds 39 = .ok (.iload 5, 2) := by decide +kernel
theorem dX11_odds_41 : decode cX11_odds 41 = .ok (.invokevirtual 377, 3) := by decide +kernel
theorem dX11_odds_44 : decode cX11_odds 44 = .ok (.istore 6, 2) := by decide +kernel
theorem dX11_odds_46 : decode cX11_odds 46 = .ok (.lconst 0, 1) := by decide +kernel
theorem dX11_odds_47 : decode cX11_odds 47 = .ok (.lstore 7, 2) := by decide +kernel
theorem dX11_odds_49 : decode cX11_odds 49 = .ok (.iconst 0, 1) := by decide +kernel
theorem dX11_odds_50 : decode cX11_odds 50 = .ok (.istore 9, 2) := by decide +kernel
theorem dX11_odds_52 : decode cX11_odds 52 = .ok (.iload 9, 2) := by decide +kernel
theorem dX11_odds_54 : decode cX11_odds 54 = .ok (.iconst 1, 1) := by decide +kernel
theorem dX11_odds_55 : decode cX11_odds 55 = .ok (.iload 5, 2) := by decide +kernel
theorem dX11_odds_57 : decode cX11_odds 57 = .ok (.ishl, 1) := by decide +kernel
theorem dX11_odds_58 : decode cX11_odds 58 = .ok (.if_icmp .ge 32, 3) := by decide +kernel
theorem dX11_odds_61 : decode cX11_odds 61 = .ok (.iload 9, 2) := by decide +kernel
theorem dX11_odds_63 : decode cX11_odds 63 = .ok (.invokestatic 366, 3) := by decide +kernel
theorem dX11_odds_66 : decode cX11_odds 66 = .ok (.iload 6, 2) := by decide +kernel
theorem dX11_odds_68 : decode cX11_odds 68 = .ok (.if_icmp .gt 16, 3) := by decide +kernel
theorem dX11_odds_71 : decode cX11_odds 71 = .ok (.lload 7, 2) := by decide +kernel
theorem dX11_odds_73 : decode cX11_odds 73 = .ok (.iload_n 1, 1) := by decide +kernel
theorem dX11_odds_74 : decode cX11_odds 74 = .ok (.iload 9, 2) := by decide +kernel
theorem dX11_odds_76 : decode cX11_odds 76 = .ok (.iload 5, 2) := by decide +kernel
theorem dX11_odds_78 : decode cX11_odds 78 = .ok (.invokestatic 404, 3) := by decide +kernel
theorem dX11_odds_81 : decode cX11_odds 81 = .ok (.ladd, 1) := by decide +kernel
theorem dX11_odds_82 : decode cX11_odds 82 = .ok (.lstore 7, 2) := by decide +kernel
theorem dX11_odds_84 : decode cX11_odds 84 = .ok (.iinc 9 1, 3) := by decide +kernel
theorem dX11_odds_87 : decode cX11_odds 87 = .ok (.goto (-35), 3) := by decide +kernel
theorem dX11_odds_90 : decode cX11_odds 90 = .ok (.lload 7, 2) := by decide +kernel
theorem dX11_odds_92 : decode cX11_odds 92 = .ok (.l2i, 1) := by decide +kernel
theorem dX11_odds_93 : decode cX11_odds 93 = .ok (.ireturn, 1) := by decide +kernel
theorem dX11_partsOf_0 : decode cX11_partsOf 0 = .ok (.ldc2_w 408, 3) := by decide +kernel
theorem dX11_partsOf_3 : decode cX11_partsOf 3 = .ok (.lstore_n 3, 1) := by decide +kernel
theorem dX11_partsOf_4 : decode cX11_partsOf 4 = .ok (.iconst 0, 1) := by decide +kernel
theorem dX11_partsOf_5 : decode cX11_partsOf 5 = .ok (.istore 5, 2) := by decide +kernel
theorem dX11_partsOf_7 : decode cX11_partsOf 7 = .ok (.iload 5, 2) := by decide +kernel
theorem dX11_partsOf_9 : decode cX11_partsOf 9 = .ok (.iload_n 2, 1) := by decide +kernel
theorem dX11_partsOf_10 : decode cX11_partsOf 10 = .ok (.if_icmp .ge 38, 3) := by decide +kernel
theorem dX11_partsOf_13 : decode cX11_partsOf 13 = .ok (.lload_n 3, 1) := by decide +kernel
theorem dX11_partsOf_14 : decode cX11_partsOf 14 = .ok (.iload_n 0, 1) := by decide +kernel
theorem dX11_partsOf_15 : decode cX11_partsOf 15 = .ok (.i2l, 1) := by decide +kernel
theorem dX11_partsOf_16 : decode cX11_partsOf 16 = .ok (.lmul, 1) := by decide +kernel
theorem dX11_partsOf_17 : decode cX11_partsOf 17 = .ok (.ldc2_w 410, 3) := by decide +kernel
theorem dX11_partsOf_20 : decode cX11_partsOf 20 = .ok (.ldiv, 1) := by decide +kernel
theorem dX11_partsOf_21 : decode cX11_partsOf 21 = .ok (.lstore 6, 2) := by decide +kernel
theorem dX11_partsOf_23 : decode cX11_partsOf 23 = .ok (.iload_n 1, 1) := by decide +kernel
theorem dX11_partsOf_24 : decode cX11_partsOf 24 = .ok (.iload 5, 2) := by decide +kernel
theorem dX11_partsOf_26 : decode cX11_partsOf 26 = .ok (.ishr, 1) := by decide +kernel
theorem dX11_partsOf_27 : decode cX11_partsOf 27 = .ok (.iconst 1, 1) := by decide +kernel
theorem dX11_partsOf_28 : decode cX11_partsOf 28 = .ok (.iand, 1) := by decide +kernel
theorem dX11_partsOf_29 : decode cX11_partsOf 29 = .ok (.ifCond .eq 8, 3) := by decide +kernel
theorem dX11_partsOf_32 : decode cX11_partsOf 32 = .ok (.lload 6, 2) := by decide +kernel
theorem dX11_partsOf_34 : decode cX11_partsOf 34 = .ok (.goto 7, 3) := by decide +kernel
theorem dX11_partsOf_37 : decode cX11_partsOf 37 = .ok (.lload_n 3, 1) := by decide +kernel
theorem dX11_partsOf_38 : decode cX11_partsOf 38 = .ok (.lload 6, 2) := by decide +kernel
theorem dX11_partsOf_40 : decode cX11_partsOf 40 = .ok (.lsub, 1) := by decide +kernel
theorem dX11_partsOf_41 : decode cX11_partsOf 41 = .ok (.lstore_n 3, 1) := by decide +kernel
theorem dX11_partsOf_42 : decode cX11_partsOf 42 = .ok (.iinc 5 1, 3) := by decide +kernel
theorem dX11_partsOf_45 : decode cX11_partsOf 45 = .ok (.goto (-38), 3) := by decide +kernel
theorem dX11_partsOf_48 : decode cX11_partsOf 48 = .ok (.lload_n 3, 1) := by decide +kernel
theorem dX11_partsOf_49 : decode cX11_partsOf 49 = .ok (.lreturn, 1) := by decide +kernel
theorem dX11_years_0 : decode cX11_years 0 = .ok (.aload_n 0, 1) := by decide +kernel
theorem dX11_years_1 : decode cX11_years 1 = .ok (.invokevirtual 176, 3) := by decide +kernel
theorem dX11_years_4 : decode cX11_years 4 = .ok (.ifCond .eq 13, 3) := by decide +kernel
theorem dX11_years_7 : decode cX11_years 7 = .ok (.iload_n 1, 1) := by decide +kernel
theorem dX11_years_8 : decode cX11_years 8 = .ok (.iconst 1, 1) := by decide +kernel
theorem dX11_years_9 : decode cX11_years 9 = .ok (.bipush 40, 2) := by decide +kernel
theorem dX11_years_11 : decode cX11_years 11 = .ok (.invokestatic 180, 3) := by decide +kernel
theorem dX11_years_14 : decode cX11_years 14 = .ok (.ifCond .ne 5, 3) := by decide +kernel
theorem dX11_years_17 : decode cX11_years 17 = .ok (.iconst (-1), 1) := by decide +kernel
theorem dX11_years_18 : decode cX11_years 18 = .ok (.ireturn, 1) := by decide +kernel
theorem dX11_years_19 : decode cX11_years 19 = .ok (.aload_n 0, 1) := by decide +kernel
theorem dX11_years_20 : decode cX11_years 20 = .ok (.lload_n 2, 1) := by decide +kernel
theorem dX11_years_21 : decode cX11_years 21 = .ok (.putfield 104, 3) := by decide +kernel
theorem dX11_years_24 : decode cX11_years 24 = .ok (.iconst 0, 1) := by decide +kernel
theorem dX11_years_25 : decode cX11_years 25 = .ok (.istore 4, 2) := by decide +kernel
theorem dX11_years_27 : decode cX11_years 27 = .ok (.iload 4, 2) := by decide +kernel
theorem dX11_years_29 : decode cX11_years 29 = .ok (.iload_n 1, 1) := by decide +kernel
theorem dX11_years_30 : decode cX11_years 30 = .ok (.if_icmp .ge 13, 3) := by decide +kernel
theorem dX11_years_33 : decode cX11_years 33 = .ok (.aload_n 0, 1) := by decide +kernel
theorem dX11_years_34 : decode cX11_years 34 = .ok (.invokevirtual 412, 3) := by decide +kernel
theorem dX11_years_37 : decode cX11_years 37 = .ok (.iinc 4 1, 3) := by decide +kernel
theorem dX11_years_40 : decode cX11_years 40 = .ok (.goto (-13), 3) := by decide +kernel
theorem dX11_years_43 : decode cX11_years 43 = .ok (.aload_n 0, 1) := by decide +kernel
theorem dX11_years_44 : decode cX11_years 44 = .ok (.getfield 48, 3) := by decide +kernel
theorem dX11_years_47 : decode cX11_years 47 = .ok (.getfield 167, 3) := by decide +kernel
theorem dX11_years_50 : decode cX11_years 50 = .ok (.ireturn, 1) := by decide +kernel
theorem dX11_drawAct_0 : decode cX11_drawAct 0 = .ok (.aload_n 0, 1) := by decide +kernel
theorem dX11_drawAct_1 : decode cX11_drawAct 1 = .ok (.bipush 8, 2) := by decide +kernel
theorem dX11_drawAct_3 : decode cX11_drawAct 3 = .ok (.invokevirtual 415, 3) := by decide +kernel
theorem dX11_drawAct_6 : decode cX11_drawAct 6 = .ok (.istore_n 1, 1) := by decide +kernel
theorem dX11_drawAct_7 : decode cX11_drawAct 7 = .ok (.iload_n 1, 1) := by decide +kernel
theorem dX11_drawAct_8 : decode cX11_drawAct 8 = .ok (.iconst 4, 1) := by decide +kernel
theorem dX11_drawAct_9 : decode cX11_drawAct 9 = .ok (.if_icmp .gt 45, 3) := by decide +kernel
theorem dX11_drawAct_12 : decode cX11_drawAct 12 = .ok (.aload_n 0, 1) := by decide +kernel
theorem dX11_drawAct_13 : decode cX11_drawAct 13 = .ok (.bipush 21, 2) := by decide +kernel
theorem dX11_drawAct_15 : decode cX11_drawAct 15 = .ok (.invokevirtual 415, 3) := by decide +kernel
theorem dX11_drawAct_18 : decode cX11_drawAct 18 = .ok (.bipush 10, 2) := by decide +kernel
theorem dX11_drawAct_20 : decode cX11_drawAct 20 = .ok (.isub, 1) := by decide +kernel
theorem dX11_drawAct_21 : decode cX11_drawAct 21 = .ok (.istore_n 2, 1) := by decide +kernel
theorem dX11_drawAct_22 : decode cX11_drawAct 22 = .ok (.aload_n 0, 1) := by decide +kernel
theorem dX11_drawAct_23 : decode cX11_drawAct 23 = .ok (.bipush 21, 2) := by decide +kernel
theorem dX11_drawAct_25 : decode cX11_drawAct 25 = .ok (.invokevirtual 415, 3) := by decide +kernel
theorem dX11_drawAct_28 : decode cX11_drawAct 28 = .ok (.bipush 10, 2) := by decide +kernel
theorem dX11_drawAct_30 : decode cX11_drawAct 30 = .ok (.isub, 1) := by decide +kernel
theorem dX11_drawAct_31 : decode cX11_drawAct 31 = .ok (.istore_n 3, 1) := by decide +kernel
theorem dX11_drawAct_32 : decode cX11_drawAct 32 = .ok (.aload_n 0, 1) := by decide +kernel
theorem dX11_drawAct_33 : decode cX11_drawAct 33 = .ok (.bipush 61, 2) := by decide +kernel
theorem dX11_drawAct_35 : decode cX11_drawAct 35 = .ok (.invokevirtual 415, 3) := by decide +kernel
theorem dX11_drawAct_38 : decode cX11_drawAct 38 = .ok (.bipush 30, 2) := by decide +kernel
theorem dX11_drawAct_40 : decode cX11_drawAct 40 = .ok (.isub, 1) := by decide +kernel
theorem dX11_drawAct_41 : decode cX11_drawAct 41 = .ok (.istore 4, 2) := by decide +kernel
theorem dX11_drawAct_43 : decode cX11_drawAct 43 = .ok (.aload_n 0, 1) := by decide +kernel
theorem dX11_drawAct_44 : decode cX11_drawAct 44 = .ok (.iconst 0, 1) := by decide +kernel
theorem dX11_drawAct_45 : decode cX11_drawAct 45 = .ok (.iload_n 2, 1) := by decide +kernel
theorem dX11_drawAct_46 : decode cX11_drawAct 46 = .ok (.iload_n 3, 1) := by decide +kernel
theorem dX11_drawAct_47 : decode cX11_drawAct 47 = .ok (.iload 4, 2) := by decide +kernel
theorem dX11_drawAct_49 : decode cX11_drawAct 49 = .ok (.invokevirtual 303, 3) := by decide +kernel
theorem dX11_drawAct_52 : decode cX11_drawAct 52 = .ok (.pop, 1) := by decide +kernel
theorem dX11_drawAct_53 : decode cX11_drawAct 53 = .ok (.return_, 1) := by decide +kernel
theorem dX11_drawAct_54 : decode cX11_drawAct 54 = .ok (.aload_n 0, 1) := by decide +kernel
theorem dX11_drawAct_55 : decode cX11_drawAct 55 = .ok (.aload_n 0, 1) := by decide +kernel
theorem dX11_drawAct_56 : decode cX11_drawAct 56 = .ok (.getfield 28, 3) := by decide +kernel
theorem dX11_drawAct_59 : decode cX11_drawAct 59 = .ok (.getfield 150, 3) := by decide +kernel
theorem dX11_drawAct_62 : decode cX11_drawAct 62 = .ok (.invokevirtual 415, 3) := by decide +kernel
theorem dX11_drawAct_65 : decode cX11_drawAct 65 = .ok (.istore_n 2, 1) := by decide +kernel
theorem dX11_drawAct_66 : decode cX11_drawAct 66 = .ok (.iload_n 1, 1) := by decide +kernel
theorem dX11_drawAct_67 : decode cX11_drawAct 67 = .ok (.bipush 6, 2) := by decide +kernel
theorem dX11_drawAct_69 : decode cX11_drawAct 69 = .ok (.if_icmp .gt 22, 3) := by decide +kernel
theorem dX11_drawAct_72 : decode cX11_drawAct 72 = .ok (.aload_n 0, 1) := by decide +kernel
theorem dX11_drawAct_73 : decode cX11_drawAct 73 = .ok (.iconst 1, 1) := by decide +kernel
theorem dX11_drawAct_74 : decode cX11_drawAct 74 = .ok (.iload_n 2, 1) := by decide +kernel
theorem dX11_drawAct_75 : decode cX11_drawAct 75 = .ok (.aload_n 0, 1) := by decide +kernel
theorem dX11_drawAct_76 : decode cX11_drawAct 76 = .ok (.bipush 7, 2) := by decide +kernel
theorem dX11_drawAct_78 : decode cX11_drawAct 78 = .ok (.invokevirtual 415, 3) := by decide +kernel
theorem dX11_drawAct_81 : decode cX11_drawAct 81 = .ok (.iconst 3, 1) := by decide +kernel
theorem dX11_drawAct_82 : decode cX11_drawAct 82 = .ok (.isub, 1) := by decide +kernel
theorem dX11_drawAct_83 : decode cX11_drawAct 83 = .ok (.iconst 0, 1) := by decide +kernel
theorem dX11_drawAct_84 : decode cX11_drawAct 84 = .ok (.invokevirtual 303, 3) := by decide +kernel
theorem dX11_drawAct_87 : decode cX11_drawAct 87 = .ok (.pop, 1) := by decide +kernel
theorem dX11_drawAct_88 : decode cX11_drawAct 88 = .ok (.goto 24, 3) := by decide +kernel
theorem dX11_drawAct_91 : decode cX11_drawAct 91 = .ok (.aload_n 0, 1) := by decide +kernel
theorem dX11_drawAct_92 : decode cX11_drawAct 92 = .ok (.aload_n 0, 1) := by decide +kernel
theorem dX11_drawAct_93 : decode cX11_drawAct 93 = .ok (.iload_n 2, 1) := by decide +kernel
theorem dX11_drawAct_94 : decode cX11_drawAct 94 = .ok (.invokevirtual 210, 3) := by decide +kernel
theorem dX11_drawAct_97 : decode cX11_drawAct 97 = .ok (.ifCond .eq 7, 3) := by decide +kernel
theorem dX11_drawAct_100 : decode cX11_drawAct 100 = .ok (.iconst 2, 1) := by decide +kernel
theorem dX11_drawAct_101 : decode cX11_drawAct 101 = .ok (.goto 4, 3) := by decide +kernel
theorem dX11_drawAct_104 : decode cX11_drawAct 104 = .ok (.iconst 3, 1) := by decide +kernel
theorem dX11_drawAct_105 : decode cX11_drawAct 105 = .ok (.iload_n 2, 1) := by decide +kernel
theorem dX11_drawAct_106 : decode cX11_drawAct 106 = .ok (.iconst 0, 1) := by decide +kernel
theorem dX11_drawAct_107 : decode cX11_drawAct 107 = .ok (.iconst 0, 1) := by decide +kernel
theorem dX11_drawAct_108 : decode cX11_drawAct 108 = .ok (.invokevirtual 303, 3) := by decide +kernel
theorem dX11_drawAct_111 : decode cX11_drawAct 111 = .ok (.pop, 1) := by decide +kernel
theorem dX11_drawAct_112 : decode cX11_drawAct 112 = .ok (.return_, 1) := by decide +kernel
theorem dX11_draw_0 : decode cX11_draw 0 = .ok (.aload_n 0, 1) := by decide +kernel
theorem dX11_draw_1 : decode cX11_draw 1 = .ok (.aload_n 0, 1) := by decide +kernel
theorem dX11_draw_2 : decode cX11_draw 2 = .ok (.getfield 104, 3) := by decide +kernel
theorem dX11_draw_5 : decode cX11_draw 5 = .ok (.ldc2_w 418, 3) := by decide +kernel
theorem dX11_draw_8 : decode cX11_draw 8 = .ok (.lmul, 1) := by decide +kernel
theorem dX11_draw_9 : decode cX11_draw 9 = .ok (.ldc2_w 420, 3) := by decide +kernel
theorem dX11_draw_12 : decode cX11_draw 12 = .ok (.ladd, 1) := by decide +kernel
theorem dX11_draw_13 : decode cX11_draw 13 = .ok (.putfield 104, 3) := by decide +kernel
theorem dX11_draw_16 : decode cX11_draw 16 = .ok (.iload_n 1, 1) := by decide +kernel
theorem dX11_draw_17 : decode cX11_draw 17 = .ok (.ifCond .le 17, 3) := by decide +kernel
theorem dX11_draw_20 : decode cX11_draw 20 = .ok (.aload_n 0, 1) := by decide +kernel
theorem dX11_draw_21 : decode cX11_draw 21 = .ok (.getfield 104, 3) := by decide +kernel
theorem dX11_draw_24 : decode cX11_draw 24 = .ok (.bipush 33, 2) := by decide +kernel
theorem dX11_draw_26 : decode cX11_draw 26 = .ok (.lushr, 1) := by decide +kernel
theorem dX11_draw_27 : decode cX11_draw 27 = .ok (.iload_n 1, 1) := by decide +kernel
theorem dX11_draw_28 : decode cX11_draw 28 = .ok (.i2l, 1) := by decide +kernel
theorem dX11_draw_29 : decode cX11_draw 29 = .ok (.lrem, 1) := by decide +kernel
theorem dX11_draw_30 : decode cX11_draw 30 = .ok (.l2i, 1) := by decide +kernel
theorem dX11_draw_31 : decode cX11_draw 31 = .ok (.goto 4, 3) := by decide +kernel
theorem dX11_draw_34 : decode cX11_draw 34 = .ok (.iconst 0, 1) := by decide +kernel
theorem dX11_draw_35 : decode cX11_draw 35 = .ok (.ireturn, 1) := by decide +kernel
theorem dX11_image_0 : decode cX11_image 0 = .ok (.aload_n 0, 1) := by decide +kernel
theorem dX11_image_1 : decode cX11_image 1 = .ok (.invokevirtual 176, 3) := by decide +kernel
theorem dX11_image_4 : decode cX11_image 4 = .ok (.ifCond .ne 5, 3) := by decide +kernel
theorem dX11_image_7 : decode cX11_image 7 = .ok (.iconst (-1), 1) := by decide +kernel
theorem dX11_image_8 : decode cX11_image 8 = .ok (.ireturn, 1) := by decide +kernel
theorem dX11_image_9 : decode cX11_image 9 = .ok (.aload_n 0, 1) := by decide +kernel
theorem dX11_image_10 : decode cX11_image 10 = .ok (.getfield 48, 3) := by decide +kernel
theorem dX11_image_13 : decode cX11_image 13 = .ok (.getfield 288, 3) := by decide +kernel
theorem dX11_image_16 : decode cX11_image 16 = .ok (.bipush 60, 2) := by decide +kernel
theorem dX11_image_18 : decode cX11_image 18 = .ok (.invokestatic 291, 3) := by decide +kernel
theorem dX11_image_21 : decode cX11_image 21 = .ok (.istore_n 1, 1) := by decide +kernel
theorem dX11_image_22 : decode cX11_image 22 = .ok (.iconst 0, 1) := by decide +kernel
theorem dX11_image_23 : decode cX11_image 23 = .ok (.istore_n 2, 1) := by decide +kernel
theorem dX11_image_24 : decode cX11_image 24 = .ok (.iload_n 2, 1) := by decide +kernel
theorem dX11_image_25 : decode cX11_image 25 = .ok (.iload_n 1, 1) := by decide +kernel
theorem dX11_image_26 : decode cX11_image 26 = .ok (.if_icmp .ge 33, 3) := by decide +kernel
theorem dX11_image_29 : decode cX11_image 29 = .ok (.aload_n 0, 1) := by decide +kernel
theorem dX11_image_30 : decode cX11_image 30 = .ok (.getfield 96, 3) := by decide +kernel
theorem dX11_image_33 : decode cX11_image 33 = .ok (.iload_n 2, 1) := by decide +kernel
theorem dX11_image_34 : decode cX11_image 34 = .ok (.aload_n 0, 1) := by decide +kernel
theorem dX11_image_35 : decode cX11_image 35 = .ok (.getfield 75, 3) := by decide +kernel
theorem dX11_image_38 : decode cX11_image 38 = .ok (.aload_n 0, 1) := by decide +kernel
theorem dX11_image_39 : decode cX11_image 39 = .ok (.getfield 48, 3) := by decide +kernel
theorem dX11_image_42 : decode cX11_image 42 = .ok (.getfield 288, 3) := by decide +kernel
theorem dX11_image_45 : decode cX11_image 45 = .ok (.iload_n 1, 1) := by decide +kernel
theorem dX11_image_46 : decode cX11_image 46 = .ok (.isub, 1) := by decide +kernel
theorem dX11_image_47 : decode cX11_image 47 = .ok (.iload_n 2, 1) := by decide +kernel
theorem dX11_image_48 : decode cX11_image 48 = .ok (.iadd, 1) := by decide +kernel
theorem dX11_image_49 : decode cX11_image 49 = .ok (.invokevirtual 422, 3) := by decide +kernel
theorem dX11_image_52 : decode cX11_image 52 = .ok (.iastore, 1) := by decide +kernel
theorem dX11_image_53 : decode cX11_image 53 = .ok (.iinc 2 1, 3) := by decide +kernel
theorem dX11_image_56 : decode cX11_image 56 = .ok (.goto (-32), 3) := by decide +kernel
theorem dX11_image_59 : decode cX11_image 59 = .ok (.aload_n 0, 1) := by decide +kernel
theorem dX11_image_60 : decode cX11_image 60 = .ok (.getfield 93, 3) := by decide +kernel
theorem dX11_image_63 : decode cX11_image 63 = .ok (.aload_n 0, 1) := by decide +kernel
theorem dX11_image_64 : decode cX11_image 64 = .ok (.getfield 48, 3) := by decide +kernel
theorem dX11_image_67 : decode cX11_image 67 = .ok (.invokevirtual 143, 3) := by decide +kernel
theorem dX11_image_70 : decode cX11_image 70 = .ok (.aload_n 0, 1) := by decide +kernel
theorem dX11_image_71 : decode cX11_image 71 = .ok (.getfield 93, 3) := by decide +kernel
theorem dX11_image_74 : decode cX11_image 74 = .ok (.iload_n 1, 1) := by decide +kernel
theorem dX11_image_75 : decode cX11_image 75 = .ok (.putfield 288, 3) := by decide +kernel
theorem dX11_image_78 : decode cX11_image 78 = .ok (.aload_n 0, 1) := by decide +kernel
theorem dX11_image_79 : decode cX11_image 79 = .ok (.iconst 1, 1) := by decide +kernel
theorem dX11_image_80 : decode cX11_image 80 = .ok (.putfield 100, 3) := by decide +kernel
theorem dX11_image_83 : decode cX11_image 83 = .ok (.aload_n 0, 1) := by decide +kernel
theorem dX11_image_84 : decode cX11_image 84 = .ok (.getfield 93, 3) := by decide +kernel
theorem dX11_image_87 : decode cX11_image 87 = .ok (.getfield 167, 3) := by decide +kernel
theorem dX11_image_90 : decode cX11_image 90 = .ok (.ireturn, 1) := by decide +kernel
theorem dX11_back_0 : decode cX11_back 0 = .ok (.aload_n 0, 1) := by decide +kernel
theorem dX11_back_1 : decode cX11_back 1 = .ok (.getfield 100, 3) := by decide +kernel
theorem dX11_back_4 : decode cX11_back 4 = .ok (.ifCond .ne 5, 3) := by decide +kernel
theorem dX11_back_7 : decode cX11_back 7 = .ok (.iconst (-1), 1) := by decide +kernel
theorem dX11_back_8 : decode cX11_back 8 = .ok (.ireturn, 1) := by decide +kernel
theorem dX11_back_9 : decode cX11_back 9 = .ok (.aload_n 0, 1) := by decide +kernel
theorem dX11_back_10 : decode cX11_back 10 = .ok (.getfield 48, 3) := by decide +kernel
theorem dX11_back_13 : decode cX11_back 13 = .ok (.aload_n 0, 1) := by decide +kernel
theorem dX11_back_14 : decode cX11_back 14 = .ok (.getfield 93, 3) := by decide +kernel
theorem dX11_back_17 : decode cX11_back 17 = .ok (.invokevirtual 143, 3) := by decide +kernel
theorem dX11_back_20 : decode cX11_back 20 = .ok (.iconst 0, 1) := by decide +kernel
theorem dX11_back_21 : decode cX11_back 21 = .ok (.istore_n 1, 1) := by decide +kernel
theorem dX11_back_22 : decode cX11_back 22 = .ok (.iload_n 1, 1) := by decide +kernel
theorem dX11_back_23 : decode cX11_back 23 = .ok (.aload_n 0, 1) := by decide +kernel
theorem dX11_back_24 : decode cX11_back 24 = .ok (.getfield 93, 3) := by decide +kernel
theorem dX11_back_27 : decode cX11_back 27 = .ok (.getfield 288, 3) := by decide +kernel
theorem dX11_back_30 : decode cX11_back 30 = .ok (.if_icmp .ge 29, 3) := by decide +kernel
theorem dX11_back_33 : decode cX11_back 33 = .ok (.iload_n 1, 1) := by decide +kernel
theorem dX11_back_34 : decode cX11_back 34 = .ok (.bipush 60, 2) := by decide +kernel
theorem dX11_back_36 : decode cX11_back 36 = .ok (.if_icmp .ge 23, 3) := by decide +kernel
theorem dX11_back_39 : decode cX11_back 39 = .ok (.aload_n 0, 1) := by decide +kernel
theorem dX11_back_40 : decode cX11_back 40 = .ok (.getfield 75, 3) := by decide +kernel
theorem dX11_back_43 : decode cX11_back 43 = .ok (.iload_n 1, 1) := by decide +kernel
theorem dX11_back_44 : decode cX11_back 44 = .ok (.aload_n 0, 1) := by decide +kernel
theorem dX11_back_45 : decode cX11_back 45 = .ok (.getfield 96, 3) := by decide +kernel
theorem dX11_back_48 : decode cX11_back 48 = .ok (.iload_n 1, 1) := by decide +kernel
theorem dX11_back_49 : decode cX11_back 49 = .ok (.iaload, 1) := by decide +kernel
theorem dX11_back_50 : decode cX11_back 50 = .ok (.invokevirtual 425, 3) := by decide +kernel
theorem dX11_back_53 : decode cX11_back 53 = .ok (.iinc 1 1, 3) := by decide +kernel
theorem dX11_back_56 : decode cX11_back 56 = .ok (.goto (-34), 3) := by decide +kernel
theorem dX11_back_59 : decode cX11_back 59 = .ok (.aload_n 0, 1) := by decide +kernel
theorem dX11_back_60 : decode cX11_back 60 = .ok (.getfield 82, 3) := by decide +kernel
theorem dX11_back_63 : decode cX11_back 63 = .ok (.invokevirtual 147, 3) := by decide +kernel
theorem dX11_back_66 : decode cX11_back 66 = .ok (.aload_n 0, 1) := by decide +kernel
theorem dX11_back_67 : decode cX11_back 67 = .ok (.getfield 48, 3) := by decide +kernel
theorem dX11_back_70 : decode cX11_back 70 = .ok (.getfield 167, 3) := by decide +kernel
theorem dX11_back_73 : decode cX11_back 73 = .ok (.ireturn, 1) := by decide +kernel
theorem dX12_init_0 : decode cX12_init 0 = .ok (.aload_n 0, 1) := by decide +kernel
theorem dX12_init_1 : decode cX12_init 1 = .ok (.invokespecial 3, 3) := by decide +kernel
theorem dX12_init_4 : decode cX12_init 4 = .ok (.aload_n 0, 1) := by decide +kernel
theorem dX12_init_5 : decode cX12_init 5 = .ok (.sipush 240, 3) := by decide +kernel
theorem dX12_init_8 : decode cX12_init 8 = .ok (.newarray .byte, 2) := by decide +kernel
theorem dX12_init_10 : decode cX12_init 10 = .ok (.putfield 9, 3) := by decide +kernel
theorem dX12_init_13 : decode cX12_init 13 = .ok (.aload_n 0, 1) := by decide +kernel
theorem dX12_init_14 : decode cX12_init 14 = .ok (.iconst 4, 1) := by decide +kernel
theorem dX12_init_15 : decode cX12_init 15 = .ok (.newarray .int, 2) := by decide +kernel
theorem dX12_init_17 : decode cX12_init 17 = .ok (.putfield 13, 3) := by decide +kernel
theorem dX12_init_20 : decode cX12_init 20 = .ok (.aload_n 0, 1) := by decide +kernel
theorem dX12_init_21 : decode cX12_init 21 = .ok (.iconst 4, 1) := by decide +kernel
theorem dX12_init_22 : decode cX12_init 22 = .ok (.newarray .int, 2) := by decide +kernel
theorem dX12_init_24 : decode cX12_init 24 = .ok (.putfield 17, 3) := by decide +kernel
theorem dX12_init_27 : decode cX12_init 27 = .ok (.aload_n 0, 1) := by decide +kernel
theorem dX12_init_28 : decode cX12_init 28 = .ok (.bipush 56, 2) := by decide +kernel
theorem dX12_init_30 : decode cX12_init 30 = .ok (.newarray .int, 2) := by decide +kernel
theorem dX12_init_32 : decode cX12_init 32 = .ok (.putfield 20, 3) := by decide +kernel
theorem dX12_init_35 : decode cX12_init 35 = .ok (.aload_n 0, 1) := by decide +kernel
theorem dX12_init_36 : decode cX12_init 36 = .ok (.bipush 56, 2) := by decide +kernel
theorem dX12_init_38 : decode cX12_init 38 = .ok (.newarray .int, 2) := by decide +kernel
theorem dX12_init_40 : decode cX12_init 40 = .ok (.putfield 23, 3) := by decide +kernel
theorem dX12_init_43 : decode cX12_init 43 = .ok (.aload_n 0, 1) := by decide +kernel
theorem dX12_init_44 : decode cX12_init 44 = .ok (.bipush 24, 2) := by decide +kernel
theorem dX12_init_46 : decode cX12_init 46 = .ok (.newarray .int, 2) := by decide +kernel
theorem dX12_init_48 : decode cX12_init 48 = .ok (.putfield 26, 3) := by decide +kernel
theorem dX12_init_51 : decode cX12_init 51 = .ok (.aload_n 0, 1) := by decide +kernel
theorem dX12_init_52 : decode cX12_init 52 = .ok (.sipush 320, 3) := by decide +kernel
theorem dX12_init_55 : decode cX12_init 55 = .ok (.newarray .int, 2) := by decide +kernel
theorem dX12_init_57 : decode cX12_init 57 = .ok (.putfield 29, 3) := by decide +kernel
theorem dX12_init_60 : decode cX12_init 60 = .ok (.aload_n 0, 1) := by decide +kernel
theorem dX12_init_61 : decode cX12_init 61 = .ok (.iconst 5, 1) := by decide +kernel
theorem dX12_init_62 : decode cX12_init 62 = .ok (.newarray .int, 2) := by decide +kernel
theorem dX12_init_64 : decode cX12_init 64 = .ok (.putfield 32, 3) := by decide +kernel
theorem dX12_init_67 : decode cX12_init 67 = .ok (.aload_n 0, 1) := by decide +kernel
theorem dX12_init_68 : decode cX12_init 68 = .ok (.iconst 5, 1) := by decide +kernel
theorem dX12_init_69 : decode cX12_init 69 = .ok (.newarray .int, 2) := by decide +kernel
theorem dX12_init_71 : decode cX12_init 71 = .ok (.putfield 35, 3) := by decide +kernel
theorem dX12_init_74 : decode cX12_init 74 = .ok (.aload_n 0, 1) := by decide +kernel
theorem dX12_init_75 : decode cX12_init 75 = .ok (.bipush 56, 2) := by decide +kernel
theorem dX12_init_77 : decode cX12_init 77 = .ok (.newarray .int, 2) := by decide +kernel
theorem dX12_init_79 : decode cX12_init 79 = .ok (.putfield 38, 3) := by decide +kernel
theorem dX12_init_82 : decode cX12_init 82 = .ok (.aload_n 0, 1) := by decide +kernel
theorem dX12_init_83 : decode cX12_init 83 = .ok (.iconst 4, 1) := by decide +kernel
theorem dX12_init_84 : decode cX12_init 84 = .ok (.newarray .int, 2) := by decide +kernel
theorem dX12_init_86 : decode cX12_init 86 = .ok (.putfield 41, 3) := by decide +kernel
theorem dX12_init_89 : decode cX12_init 89 = .ok (.aload_n 0, 1) := by decide +kernel
theorem dX12_init_90 : decode cX12_init 90 = .ok (.sipush 202, 3) := by decide +kernel
theorem dX12_init_93 : decode cX12_init 93 = .ok (.newarray .int, 2) := by decide +kernel
theorem dX12_init_95 : decode cX12_init 95 = .ok (.putfield 44, 3) := by decide +kernel
theorem dX12_init_98 : decode cX12_init 98 = .ok (.aload_n 0, 1) := by decide +kernel
theorem dX12_init_99 : decode cX12_init 99 = .ok (.sipush 202, 3) := by decide +kernel
theorem dX12_init_102 : decode cX12_init 102 = .ok (.newarray .int, 2) := by decide +kernel
theorem dX12_init_104 : decode cX12_init 104 = .ok (.putfield 47, 3) := by decide +kernel
theorem dX12_init_107 : decode cX12_init 107 = .ok (.aload_n 0, 1) := by decide +kernel
theorem dX12_init_108 : decode cX12_init 108 = .ok (.sipush 202, 3) := by decide +kernel
theorem dX12_init_111 : decode cX12_init 111 = .ok (.newarray .int, 2) := by decide +kernel
theorem dX12_init_113 : decode cX12_init 113 = .ok (.putfield 50, 3) := by decide +kernel
theorem dX12_init_116 : decode cX12_init 116 = .ok (.aload_n 0, 1) := by decide +kernel
theorem dX12_init_117 : decode cX12_init 117 = .ok (.sipush 8080, 3) := by decide +kernel
theorem dX12_init_120 : decode cX12_init 120 = .ok (.newarray .int, 2) := by decide +kernel
theorem dX12_init_122 : decode cX12_init 122 = .ok (.putfield 53, 3) := by decide +kernel
theorem dX12_init_125 : decode cX12_init 125 = .ok (.aload_n 0, 1) := by decide +kernel
theorem dX12_init_126 : decode cX12_init 126 = .ok (.bipush 9, 2) := by decide +kernel
theorem dX12_init_128 : decode cX12_init 128 = .ok (.newarray .long, 2) := by decide +kernel
theorem dX12_init_130 : decode cX12_init 130 = .ok (.putfield 56, 3) := by decide +kernel
theorem dX12_init_133 : decode cX12_init 133 = .ok (.aload_n 0, 1) := by decide +kernel
theorem dX12_init_134 : decode cX12_init 134 = .ok (.iconst 3, 1) := by decide +kernel
theorem dX12_init_135 : decode cX12_init 135 = .ok (.newarray .long, 2) := by decide +kernel
theorem dX12_init_137 : decode cX12_init 137 = .ok (.putfield 60, 3) := by decide +kernel
theorem dX12_init_140 : decode cX12_init 140 = .ok (.aload_n 0, 1) := by decide +kernel
theorem dX12_init_141 : decode cX12_init 141 = .ok (.iconst 3, 1) := by decide +kernel
theorem dX12_init_142 : decode cX12_init 142 = .ok (.newarray .long, 2) := by decide +kernel
theorem dX12_init_144 : decode cX12_init 144 = .ok (.putfield 63, 3) := by decide +kernel
theorem dX12_init_147 : decode cX12_init 147 = .ok (.aload_n 0, 1) := by decide +kernel
theorem dX12_init_148 : decode cX12_init 148 = .ok (.sipush 256, 3) := by decide +kernel
theorem dX12_init_151 : decode cX12_init 151 = .ok (.newarray .boolean, 2) := by decide +kernel
theorem dX12_init_153 : decode cX12_init 153 = .ok (.putfield 66, 3) := by decide +kernel
theorem dX12_init_156 : decode cX12_init 156 = .ok (.aload_n 0, 1) := by decide +kernel
theorem dX12_init_157 : decode cX12_init 157 = .ok (.bipush 8, 2) := by decide +kernel
theorem dX12_init_159 : decode cX12_init 159 = .ok (.newarray .int, 2) := by decide +kernel
theorem dX12_init_161 : decode cX12_init 161 = .ok (.putfield 70, 3) := by decide +kernel
theorem dX12_init_164 : decode cX12_init 164 = .ok (.aload_n 0, 1) := by decide +kernel
theorem dX12_init_165 : decode cX12_init 165 = .ok (.iconst 4, 1) := by decide +kernel
theorem dX12_init_166 : decode cX12_init 166 = .ok (.newarray .int, 2) := by decide +kernel
theorem dX12_init_168 : decode cX12_init 168 = .ok (.putfield 73, 3) := by decide +kernel
theorem dX12_init_171 : decode cX12_init 171 = .ok (.aload_n 0, 1) := by decide +kernel
theorem dX12_init_172 : decode cX12_init 172 = .ok (.sipush 202, 3) := by decide +kernel
theorem dX12_init_175 : decode cX12_init 175 = .ok (.newarray .int, 2) := by decide +kernel
theorem dX12_init_177 : decode cX12_init 177 = .ok (.putfield 76, 3) := by decide +kernel
theorem dX12_init_180 : decode cX12_init 180 = .ok (.return_, 1) := by decide +kernel
theorem dX12_thrown_0 : decode cX12_thrown 0 = .ok (.aload_n 0, 1) := by decide +kernel
theorem dX12_thrown_1 : decode cX12_thrown 1 = .ok (.getfield 79, 3) := by decide +kernel
theorem dX12_thrown_4 : decode cX12_thrown 4 = .ok (.ireturn, 1) := by decide +kernel
theorem dX12_isIn_0 : decode cX12_isIn 0 = .ok (.lload_n 0, 1) := by decide +kernel
theorem dX12_isIn_1 : decode cX12_isIn 1 = .ok (.lload_n 2, 1) := by decide +kernel
theorem dX12_isIn_2 : decode cX12_isIn 2 = .ok (.lcmp, 1) := by decide +kernel
theorem dX12_isIn_3 : decode cX12_isIn 3 = .ok (.ifCond .lt 14, 3) := by decide +kernel
theorem dX12_isIn_6 : decode cX12_isIn 6 = .ok (.lload_n 0, 1) := by decide +kernel
theorem dX12_isIn_7 : decode cX12_isIn 7 = .ok (.lload 4, 2) := by decide +kernel
theorem dX12_isIn_9 : decode cX12_isIn 9 = .ok (.lcmp, 1) := by decide +kernel
theorem dX12_isIn_10 : decode cX12_isIn 10 = .ok (.ifCond .gt 7, 3) := by decide +kernel
theorem dX12_isIn_13 : decode cX12_isIn 13 = .ok (.iconst 1, 1) := by decide +kernel
theorem dX12_isIn_14 : decode cX12_isIn 14 = .ok (.goto 4, 3) := by decide +kernel
theorem dX12_isIn_17 : decode cX12_isIn 17 = .ok (.iconst 0, 1) := by decide +kernel
theorem dX12_isIn_18 : decode cX12_isIn 18 = .ok (.ireturn, 1) := by decide +kernel
theorem dX12_has_0 : decode cX12_has 0 = .ok (.iload_n 0, 1) := by decide +kernel
theorem dX12_has_1 : decode cX12_has 1 = .ok (.iload_n 1, 1) := by decide +kernel
theorem dX12_has_2 : decode cX12_has 2 = .ok (.ishr, 1) := by decide +kernel
theorem dX12_has_3 : decode cX12_has 3 = .ok (.iconst 1, 1) := by decide +kernel
theorem dX12_has_4 : decode cX12_has 4 = .ok (.iand, 1) := by decide +kernel
theorem dX12_has_5 : decode cX12_has 5 = .ok (.iconst 1, 1) := by decide +kernel
theorem dX12_has_6 : decode cX12_has 6 = .ok (.if_icmp .ne 7, 3) := by decide +kernel
theorem dX12_has_9 : decode cX12_has 9 = .ok (.iconst 1, 1) := by decide +kernel
theorem dX12_has_10 : decode cX12_has 10 = .ok (.goto 4, 3) := by decide +kernel
theorem dX12_has_13 : decode cX12_has 13 = .ok (.iconst 0, 1) := by decide +kernel
theorem dX12_has_14 : decode cX12_has 14 = .ok (.ireturn, 1) := by decide +kernel
theorem dX12_bytesOf_0 : decode cX12_bytesOf 0 = .ok (.iconst 0, 1) := by decide +kernel
theorem dX12_bytesOf_1 : decode cX12_bytesOf 1 = .ok (.istore_n 1, 1) := by decide +kernel
theorem dX12_bytesOf_2 : decode cX12_bytesOf 2 = .ok (.iconst 0, 1) := by decide +kernel
theorem dX12_bytesOf_3 : decode cX12_bytesOf 3 = .ok (.istore_n 2, 1) := by decide +kernel
theorem dX12_bytesOf_4 : decode cX12_bytesOf 4 = .ok (.iload_n 2, 1) := by decide +kernel
theorem dX12_bytesOf_5 : decode cX12_bytesOf 5 = .ok (.iconst 4, 1) := by decide +kernel
theorem dX12_bytesOf_6 : decode cX12_bytesOf 6 = .ok (.if_icmp .ge 30, 3) := by decide +kernel
theorem dX12_bytesOf_9 : decode cX12_bytesOf 9 = .ok (.iload_n 1, 1) := by decide +kernel
theorem dX12_bytesOf_10 : decode cX12_bytesOf 10 = .ok (.iload_n 0, 1) := by decide +kernel
theorem dX12_bytesOf_11 : decode cX12_bytesOf 11 = .ok (.bipush 8, 2) := by decide +kernel
theorem dX12_bytesOf_13 : decode cX12_bytesOf 13 = .ok (.iload_n 2, 1) := by decide +kernel
theorem dX12_bytesOf_14 : decode cX12_bytesOf 14 = .ok (.imul, 1) := by decide +kernel
theorem dX12_bytesOf_15 : decode cX12_bytesOf 15 = .ok (.ishr, 1) := by decide +kernel
theorem dX12_bytesOf_16 : decode cX12_bytesOf 16 = .ok (.sipush 255, 3) := by decide +kernel
theorem dX12_bytesOf_19 : decode cX12_bytesOf 19 = .ok (.iand, 1) := by decide +kernel
theorem dX12_bytesOf_20 : decode cX12_bytesOf 20 = .ok (.ifCond .ne 7, 3) := by decide +kernel
theorem dX12_bytesOf_23 : decode cX12_bytesOf 23 = .ok (.iconst 0, 1) := by decide +kernel
theorem dX12_bytesOf_24 : decode cX12_bytesOf 24 = .ok (.goto 4, 3) := by decide +kernel
theorem dX12_bytesOf_27 : decode cX12_bytesOf 27 = .ok (.iconst 1, 1) := by decide +kernel
theorem dX12_bytesOf_28 : decode cX12_bytesOf 28 = .ok (.iadd, 1) := by decide +kernel
theorem dX12_bytesOf_29 : decode cX12_bytesOf 29 = .ok (.istore_n 1, 1) := by decide +kernel
theorem dX12_bytesOf_30 : decode cX12_bytesOf 30 = .ok (.iinc 2 1, 3) := by decide +kernel
theorem dX12_bytesOf_33 : decode cX12_bytesOf 33 = .ok (.goto (-29), 3) := by decide +kernel
theorem dX12_bytesOf_36 : decode cX12_bytesOf 36 = .ok (.iload_n 1, 1) := by decide +kernel
theorem dX12_bytesOf_37 : decode cX12_bytesOf 37 = .ok (.ireturn, 1) := by decide +kernel
theorem dX12_brings_0 : decode cX12_brings 0 = .ok (.bipush 24, 2) := by decide +kernel
theorem dX12_brings_2 : decode cX12_brings 2 = .ok (.istore_n 2, 1) := by decide +kernel
theorem dX12_brings_3 : decode cX12_brings 3 = .ok (.iload_n 2, 1) := by decide +kernel
theorem dX12_brings_4 : decode cX12_brings 4 = .ok (.ifCond .lt 45, 3) := by decide +kernel
theorem dX12_brings_7 : decode cX12_brings 7 = .ok (.iload_n 1, 1) := by decide +kernel
theorem dX12_brings_8 : decode cX12_brings 8 = .ok (.iload_n 2, 1) := by decide +kernel
theorem dX12_brings_9 : decode cX12_brings 9 = .ok (.ishr, 1) := by decide +kernel
theorem dX12_brings_10 : decode cX12_brings 10 = .ok (.sipush 255, 3) := by decide +kernel
theorem dX12_brings_13 : decode cX12_brings 13 = .ok (.iand, 1) := by decide +kernel
theorem dX12_brings_14 : decode cX12_brings 14 = .ok (.istore_n 3, 1) := by decide +kernel
theorem dX12_brings_15 : decode cX12_brings 15 = .ok (.iload_n 3, 1) := by decide +kernel
theorem dX12_brings_16 : decode cX12_brings 16 = .ok (.ifCond .ne 6, 3) := by decide +kernel
theorem dX12_brings_19 : decode cX12_brings 19 = .ok (.goto 24, 3) := by decide +kernel
theorem dX12_brings_22 : decode cX12_brings 22 = .ok (.aload_n 0, 1) := by decide +kernel
theorem dX12_brings_23 : decode cX12_brings 23 = .ok (.getfield 9, 3) := by decide +kernel
theorem dX12_brings_26 : decode cX12_brings 26 = .ok (.aload_n 0, 1) := by decide +kernel
theorem dX12_brings_27 : decode cX12_brings 27 = .ok (.getfield 83, 3) := by decide +kernel
theorem dX12_brings_30 : decode cX12_brings 30 = .ok (.iload_n 3, 1) := by decide +kernel
theorem dX12_brings_31 : decode cX12_brings 31 = .ok (.i2b, 1) := by decide +kernel
theorem dX12_brings_32 : decode cX12_brings 32 = .ok (.bastore, 1) := by decide +kernel
theorem dX12_brings_33 : decode cX12_brings 33 = .ok (.aload_n 0, 1) := by decide +kernel
theorem dX12_brings_34 : decode cX12_brings 34 = .ok (.dup, 1) := by decide +kernel
theorem dX12_brings_35 : decode cX12_brings 35 = .ok (.getfield 83, 3) := by decide +kernel
theorem dX12_brings_38 : decode cX12_brings 38 = .ok (.iconst 1, 1) := by decide +kernel
theorem dX12_brings_39 : decode cX12_brings 39 = .ok (.iadd, 1) := by decide +kernel
theorem dX12_brings_40 : decode cX12_brings 40 = .ok (.putfield 83, 3) := by decide +kernel
theorem dX12_brings_43 : decode cX12_brings 43 = .ok (.iinc 2 (-8), 3) := by decide +kernel
theorem dX12_brings_46 : decode cX12_brings 46 = .ok (.goto (-43), 3) := by decide +kernel
theorem dX12_brings_49 : decode cX12_brings 49 = .ok (.return_, 1) := by decide +kernel
theorem dX12_feed_0 : decode cX12_feed 0 = .ok (.aload_n 0, 1) := by decide +kernel
theorem dX12_feed_1 : decode cX12_feed 1 = .ok (.iconst 0, 1) := by decide +kernel
theorem dX12_feed_2 : decode cX12_feed 2 = .ok (.putfield 79, 3) := by decide +kernel
theorem dX12_feed_5 : decode cX12_feed 5 = .ok (.aload_n 0, 1) := by decide +kernel
theorem dX12_feed_6 : decode cX12_feed 6 = .ok (.getfield 83, 3) := by decide +kernel
theorem dX12_feed_9 : decode cX12_feed 9 = .ok (.iload_n 1, 1) := by decide +kernel
theorem dX12_feed_10 : decode cX12_feed 10 = .ok (.invokestatic 86, 3) := by decide +kernel
theorem dX12_feed_13 : decode cX12_feed 13 = .ok (.iadd, 1) := by decide +kernel
theorem dX12_feed_14 : decode cX12_feed 14 = .ok (.iload_n 2, 1) := by decide +kernel
theorem dX12_feed_15 : decode cX12_feed 15 = .ok (.invokestatic 86, 3) := by decide +kernel
theorem dX12_feed_18 : decode cX12_feed 18 = .ok (.iadd, 1) := by decide +kernel
theorem dX12_feed_19 : decode cX12_feed 19 = .ok (.iload_n 3, 1) := by decide +kernel
theorem dX12_feed_20 : decode cX12_feed 20 = .ok (.invokestatic 86, 3) := by decide +kernel
theorem dX12_feed_23 : decode cX12_feed 23 = .ok (.iadd, 1) := by decide +kernel
theorem dX12_feed_24 : decode cX12_feed 24 = .ok (.iload 4, 2) := by decide +kernel
theorem dX12_feed_26 : decode cX12_feed 26 = .ok (.invokestatic 86, 3) := by decide +kernel
theorem dX12_feed_29 : decode cX12_feed 29 = .ok (.iadd, 1) := by decide +kernel
theorem dX12_feed_30 : decode cX12_feed 30 = .ok (.iload 5, 2) := by decide +kernel
theorem dX12_feed_32 : decode cX12_feed 32 = .ok (.invokestatic 86, 3) := by decide +kernel
theorem dX12_feed_35 : decode cX12_feed 35 = .ok (.iadd, 1) := by decide +kernel
theorem dX12_feed_36 : decode cX12_feed 36 = .ok (.sipush 240, 3) := by decide +kernel
theorem dX12_feed_39 : decode cX12_feed 39 = .ok (.if_icmp .le 5, 3) := by decide +kernel
theorem dX12_feed_42 : decode cX12_feed 42 = .ok (.iconst (-1), 1) := by decide +kernel
theorem dX12_feed_43 : decode cX12_feed 43 = .ok (.ireturn, 1) := by decide +kernel
theorem dX12_feed_44 : decode cX12_feed 44 = .ok (.aload_n 0, 1) := by decide +kernel
theorem dX12_feed_45 : decode cX12_feed 45 = .ok (.iload_n 1, 1) := by decide +kernel
theorem dX12_feed_46 : decode cX12_feed 46 = .ok (.invokevirtual 90, 3) := by decide +kernel
theorem dX12_feed_49 : decode cX12_feed 49 = .ok (.aload_n 0, 1) := by decide +kernel
theorem dX12_feed_50 : decode cX12_feed 50 = .ok (.iload_n 2, 1) := by decide +kernel
theorem dX12_feed_51 : decode cX12_feed 51 = .ok (.invokevirtual 90, 3) := by decide +kernel
theorem dX12_feed_54 : decode cX12_feed 54 = .ok (.aload_n 0, 1) := by decide +kernel
theorem dX12_feed_55 : decode cX12_feed 55 = .ok (.iload_n 3, 1) := by decide +kernel
theorem dX12_feed_56 : decode cX12_feed 56 = .ok (.invokevirtual 90, 3) := by decide +kernel
theorem dX12_feed_59 : decode cX12_feed 59 = .ok (.aload_n 0, 1) := by decide +kernel
theorem dX12_feed_60 : decode cX12_feed 60 = .ok (.iload 4, 2) := by decide +kernel
theorem dX12_feed_62 : decode cX12_feed 62 = .ok (.invokevirtual 90, 3) := by decide +kernel
theorem dX12_feed_65 : decode cX12_feed 65 = .ok (.aload_n 0, 1) := by decide +kernel
theorem dX12_feed_66 : decode cX12_feed 66 = .ok (.iload 5, 2) := by decide +kernel
theorem dX12_feed_68 : decode cX12_feed 68 = .ok (.invokevirtual 90, 3) := by decide +kernel
theorem dX12_feed_71 : decode cX12_feed 71 = .ok (.aload_n 0, 1) := by decide +kernel
theorem dX12_feed_72 : decode cX12_feed 72 = .ok (.getfield 83, 3) := by decide +kernel
theorem dX12_feed_75 : decode cX12_feed 75 = .ok (.ireturn, 1) := by decide +kernel
theorem dX12_end_0 : decode cX12_end 0 = .ok (.aload_n 0, 1) := by decide +kernel
theorem dX12_end_1 : decode cX12_end 1 = .ok (.iconst 0, 1) := by decide +kernel
theorem dX12_end_2 : decode cX12_end 2 = .ok (.putfield 79, 3) := by decide +kernel
theorem dX12_end_5 : decode cX12_end 5 = .ok (.iload_n 1, 1) := by decide +kernel
theorem dX12_end_6 : decode cX12_end 6 = .ok (.ifCond .lt 11, 3) := by decide +kernel
theorem dX12_end_9 : decode cX12_end 9 = .ok (.iload_n 1, 1) := by decide +kernel
theorem dX12_end_10 : decode cX12_end 10 = .ok (.aload_n 0, 1) := by decide +kernel
theorem dX12_end_11 : decode cX12_end 11 = .ok (.getfield 83, 3) := by decide +kernel
theorem dX12_end_14 : decode cX12_end 14 = .ok (.if_icmp .le 5, 3) := by decide +kernel
theorem dX12_end_17 : decode cX12_end 17 = .ok (.iconst 0, 1) := by decide +kernel
theorem dX12_end_18 : decode cX12_end 18 = .ok (.ireturn, 1) := by decide +kernel
theorem dX12_end_19 : decode cX12_end 19 = .ok (.aload_n 0, 1) := by decide +kernel
theorem dX12_end_20 : decode cX12_end 20 = .ok (.iload_n 1, 1) := by decide +kernel
theorem dX12_end_21 : decode cX12_end 21 = .ok (.putfield 83, 3) := by decide +kernel
theorem dX12_end_24 : decode cX12_end 24 = .ok (.iconst 1, 1) := by decide +kernel
theorem dX12_end_25 : decode cX12_end 25 = .ok (.ireturn, 1) := by decide +kernel
theorem dX12_here_0 : decode cX12_here 0 = .ok (.aload_n 0, 1) := by decide +kernel
theorem dX12_here_1 : decode cX12_here 1 = .ok (.getfield 94, 3) := by decide +kernel
theorem dX12_here_4 : decode cX12_here 4 = .ok (.aload_n 0, 1) := by decide +kernel
theorem dX12_here_5 : decode cX12_here 5 = .ok (.getfield 83, 3) := by decide +kernel
theorem dX12_here_8 : decode cX12_here 8 = .ok (.if_icmp .ge 19, 3) := by decide +kernel
theorem dX12_here_11 : decode cX12_here 11 = .ok (.aload_n 0, 1) := by decide +kernel
theorem dX12_here_12 : decode cX12_here 12 = .ok (.getfield 9, 3) := by decide +kernel
theorem dX12_here_15 : decode cX12_here 15 = .ok (.aload_n 0, 1) := by decide +kernel
theorem dX12_here_16 : decode cX12_here 16 = .ok (.getfield 94, 3) := by decide +kernel
theorem dX12_here_19 : decode cX12_here 19 = .ok (.baload, 1) := by decide +kernel
theorem dX12_here_20 : decode cX12_here 20 = .ok (.sipush 255, 3) := by decide +kernel
theorem dX12_here_23 : decode cX12_here 23 = .ok (.iand, 1) := by decide +kernel
theorem dX12_here_24 : decode cX12_here 24 = .ok (.goto 4, 3) := by decide +kernel
theorem dX12_here_27 : decode cX12_here 27 = .ok (.iconst (-1), 1) := by decide +kernel
theorem dX12_here_28 : decode cX12_here 28 = .ok (.ireturn, 1) := by decide +kernel
theorem dX12_look_0 : decode cX12_look 0 = .ok (.aload_n 0, 1) := by decide +kernel
theorem dX12_look_1 : decode cX12_look 1 = .ok (.invokevirtual 97, 3) := by decide +kernel
theorem dX12_look_4 : decode cX12_look 4 = .ok (.bipush 32, 2) := by decide +kernel
theorem dX12_look_6 : decode cX12_look 6 = .ok (.if_icmp .ne 16, 3) := by decide +kernel
theorem dX12_look_9 : decode cX12_look 9 = .ok (.aload_n 0, 1) := by decide +kernel
theorem dX12_look_10 : decode cX12_look 10 = .ok (.dup, 1) := by decide +kernel
theorem dX12_look_11 : decode cX12_look 11 = .ok (.getfield 94, 3) := by decide +kernel
theorem dX12_look_14 : decode cX12_look 14 = .ok (.iconst 1, 1) := by decide +kernel
theorem dX12_look_15 : decode cX12_look 15 = .ok (.iadd, 1) := by decide +kernel
theorem dX12_look_16 : decode cX12_look 16 = .ok (.putfield 94, 3) := by decide +kernel
theorem dX12_look_19 : decode cX12_look 19 = .ok (.goto (-19), 3) := by decide +kernel
theorem dX12_look_22 : decode cX12_look 22 = .ok (.aload_n 0, 1) := by decide +kernel
theorem dX12_look_23 : decode cX12_look 23 = .ok (.invokevirtual 97, 3) := by decide +kernel
theorem dX12_look_26 : decode cX12_look 26 = .ok (.ireturn, 1) := by decide +kernel
theorem dX12_fails_0 : decode cX12_fails 0 = .ok (.aload_n 0, 1) := by decide +kernel
theorem dX12_fails_1 : decode cX12_fails 1 = .ok (.getfield 101, 3) := by decide +kernel
theorem dX12_fails_4 : decode cX12_fails 4 = .ok (.iconst (-1), 1) := by decide +kernel
theorem dX12_fails_5 : decode cX12_fails 5 = .ok (.if_icmp .ne 11, 3) := by decide +kernel
theorem dX12_fails_8 : decode cX12_fails 8 = .ok (.aload_n 0, 1) := by decide +kernel
theorem dX12_fails_9 : decode cX12_fails 9 = .ok (.aload_n 0, 1) := by decide +kernel
theorem dX12_fails_10 : decode cX12_fails 10 = .ok (.getfield 94, 3) := by decide +kernel
theorem dX12_fails_13 : decode cX12_fails 13 = .ok (.putfield 101, 3) := by decide +kernel
theorem dX12_fails_16 : decode cX12_fails 16 = .ok (.return_, 1) := by decide +kernel
theorem dX12_isDigit_0 : decode cX12_isDigit 0 = .ok (.aload_n 0, 1) := by decide +kernel
theorem dX12_isDigit_1 : decode cX12_isDigit 1 = .ok (.invokevirtual 97, 3) := by decide +kernel
theorem dX12_isDigit_4 : decode cX12_isDigit 4 = .ok (.bipush 48, 2) := by decide +kernel
theorem dX12_isDigit_6 : decode cX12_isDigit 6 = .ok (.if_icmp .lt 16, 3) := by decide +kernel
theorem dX12_isDigit_9 : decode cX12_isDigit 9 = .ok (.aload_n 0, 1) := by decide +kernel
theorem dX12_isDigit_10 : decode cX12_isDigit 10 = .ok (.invokevirtual 97, 3) := by decide +kernel
theorem dX12_isDigit_13 : decode cX12_isDigit 13 = .ok (.bipush 57, 2) := by decide +kernel
theorem dX12_isDigit_15 : decode cX12_isDigit 15 = .ok (.if_icmp .gt 7, 3) := by decide +kernel
theorem dX12_isDigit_18 : decode cX12_isDigit 18 = .ok (.iconst 1, 1) := by decide +kernel
theorem dX12_isDigit_19 : decode cX12_isDigit 19 = .ok (.goto 4, 3) := by decide +kernel
theorem dX12_isDigit_22 : decode cX12_isDigit 22 = .ok (.iconst 0, 1) := by decide +kernel
theorem dX12_isDigit_23 : decode cX12_isDigit 23 = .ok (.ireturn, 1) := by decide +kernel
theorem dX12_spotOf_0 : decode cX12_spotOf 0 = .ok (.iconst 0, 1) := by decide +kernel
theorem dX12_spotOf_1 : decode cX12_spotOf 1 = .ok (.istore_n 2, 1) := by decide +kernel
theorem dX12_spotOf_2 : decode cX12_spotOf 2 = .ok (.iload_n 2, 1) := by decide +kernel
theorem dX12_spotOf_3 : decode cX12_spotOf 3 = .ok (.aload_n 0, 1) := by decide +kernel
theorem dX12_spotOf_4 : decode cX12_spotOf 4 = .ok (.invokevirtual 104, 3) := by decide +kernel
theorem dX12_spotOf_7 : decode cX12_spotOf 7 = .ok (.if_icmp .ge 20, 3) := by decide +kernel
theorem dX12_spotOf_10 : decode cX12_spotOf 10 = .ok (.aload_n 0, 1) := by decide +kernel
theorem dX12_spotOf_11 : decode cX12_spotOf 11 = .ok (.iload_n 2, 1) := by decide +kernel
theorem dX12_spotOf_12 : decode cX12_spotOf 12 = .ok (.invokevirtual 108, 3) := by decide +kernel
theorem dX12_spotOf_15 : decode cX12_spotOf 15 = .ok (.iload_n 1, 1) := by decide +kernel
theorem dX12_spotOf_16 : decode cX12_spotOf 16 = .ok (.if_icmp .ne 5, 3) := by decide +kernel
theorem dX12_spotOf_19 : decode cX12_spotOf 19 = .ok (.iload_n 2, 1) := by decide +kernel
theorem dX12_spotOf_20 : decode cX12_spotOf 20 = .ok (.ireturn, 1) := by decide +kernel
theorem dX12_spotOf_21 : decode cX12_spotOf 21 = .ok (.iinc 2 1, 3) := by decide +kernel
theorem dX12_spotOf_24 : decode cX12_spotOf 24 = .ok (.goto (-22), 3) := by decide +kernel
theorem dX12_spotOf_27 : decode cX12_spotOf 27 = .ok (.iconst (-1), 1) := by decide +kernel
theorem dX12_spotOf_28 : decode cX12_spotOf 28 = .ok (.ireturn, 1) := by decide +kernel
theorem dX12_number_0 : decode cX12_number 0 = .ok (.aload_n 0, 1) := by decide +kernel
theorem dX12_number_1 : decode cX12_number 1 = .ok (.invokevirtual 112, 3) := by decide +kernel
theorem dX12_number_4 : decode cX12_number 4 = .ok (.bipush 45, 2) := by decide +kernel
theorem dX12_number_6 : decode cX12_number 6 = .ok (.if_icmp .ne 7, 3) := by decide +kernel
theorem dX12_number_9 : decode cX12_number 9 = .ok (.iconst 1, 1) := by decide +kernel
theorem dX12_number_10 : decode cX12_number 10 = .ok (.goto 4, 3) := by decide +kernel
theorem dX12_number_13 : decode cX12_number 13 = .ok (.iconst 0, 1) := by decide +kernel
theorem dX12_number_14 : decode cX12_number 14 = .ok (.istore_n 3, 1) := by decide +kernel
theorem dX12_number_15 : decode cX12_number 15 = .ok (.iload_n 3, 1) := by decide +kernel
theorem dX12_number_16 : decode cX12_number 16 = .ok (.ifCond .eq 13, 3) := by decide +kernel
theorem dX12_number_19 : decode cX12_number 19 = .ok (.aload_n 0, 1) := by decide +kernel
theorem dX12_number_20 : decode cX12_number 20 = .ok (.dup, 1) := by decide +kernel
theorem dX12_number_21 : decode cX12_number 21 = .ok (.getfield 94, 3) := by decide +kernel
theorem dX12_number_24 : decode cX12_number 24 = .ok (.iconst 1, 1) := by decide +kernel
theorem dX12_number_25 : decode cX12_number 25 = .ok (.iadd, 1) := by decide +kernel
theorem dX12_number_26 : decode cX12_number 26 = .ok (.putfield 94, 3) := by decide +kernel
theorem dX12_number_29 : decode cX12_number 29 = .ok (.aload_n 0, 1) := by decide +kernel
theorem dX12_number_30 : decode cX12_number 30 = .ok (.invokevirtual 115, 3) := by decide +kernel
theorem dX12_number_33 : decode cX12_number 33 = .ok (.ifCond .ne 9, 3) := by decide +kernel
theorem dX12_number_36 : decode cX12_number 36 = .ok (.aload_n 0, 1) := by decide +kernel
theorem dX12_number_37 : decode cX12_number 37 = .ok (.invokevirtual 119, 3) := by decide +kernel
theorem dX12_number_40 : decode cX12_number 40 = .ok (.iconst 0, 1) := by decide +kernel
theorem dX12_number_41 : decode cX12_number 41 = .ok (.ireturn, 1) := by decide +kernel
theorem dX12_number_42 : decode cX12_number 42 = .ok (.iconst 0, 1) := by decide +kernel
theorem dX12_number_43 : decode cX12_number 43 = .ok (.istore 4, 2) := by decide +kernel
theorem dX12_number_45 : decode cX12_number 45 = .ok (.iconst 0, 1) := by decide +kernel
theorem dX12_number_46 : decode cX12_number 46 = .ok (.istore 5, 2) := by decide +kernel
theorem dX12_number_48 : decode cX12_number 48 = .ok (.iload 5, 2) := by decide +kernel
theorem dX12_number_50 : decode cX12_number 50 = .ok (.iconst 3, 1) := by decide +kernel
theorem dX12_number_51 : decode cX12_number 51 = .ok (.if_icmp .ge 41, 3) := by decide +kernel
theorem dX12_number_54 : decode cX12_number 54 = .ok (.aload_n 0, 1) := by decide +kernel
theorem dX12_number_55 : decode cX12_number 55 = .ok (.invokevirtual 115, 3) := by decide +kernel
theorem dX12_number_58 : decode cX12_number 58 = .ok (.ifCond .eq 34, 3) := by decide +kernel
theorem dX12_number_61 : decode cX12_number 61 = .ok (.bipush 10, 2) := by decide +kernel
theorem dX12_number_63 : decode cX12_number 63 = .ok (.iload 4, 2) := by decide +kernel
theorem dX12_number_65 : decode cX12_number 65 = .ok (.imul, 1) := by decide +kernel
theorem dX12_number_66 : decode cX12_number 66 = .ok (.aload_n 0, 1) := by decide +kernel
theorem dX12_number_67 : decode cX12_number 67 = .ok (.invokevirtual 97, 3) := by decide +kernel
theorem dX12_number_70 : decode cX12_number 70 = .ok (.iadd, 1) := by decide +kernel
theorem dX12_number_71 : decode cX12_number 71 = .ok (.bipush 48, 2) := by decide +kernel
theorem dX12_number_73 : decode cX12_number 73 = .ok (.isub, 1) := by decide +kernel
theorem dX12_number_74 : decode cX12_number 74 = .ok (.istore 4, 2) := by decide +kernel
theorem dX12_number_76 : decode cX12_number 76 = .ok (.aload_n 0, 1) := by decide +kernel
theorem dX12_number_77 : decode cX12_number 77 = .ok (.dup, 1) := by decide +kernel
theorem dX12_number_78 : decode cX12_number 78 = .ok (.getfield 94, 3) := by decide +kernel
theorem dX12_number_81 : decode cX12_number 81 = .ok (.iconst 1, 1) := by decide +kernel
theorem dX12_number_82 : decode cX12_number 82 = .ok (.iadd, 1) := by decide +kernel
theorem dX12_number_83 : decode cX12_number 83 = .ok (.putfield 94, 3) := by decide +kernel
theorem dX12_number_86 : decode cX12_number 86 = .ok (.iinc 5 1, 3) := by decide +kernel
theorem dX12_number_89 : decode cX12_number 89 = .ok (.goto (-41), 3) := by decide +kernel
theorem dX12_number_92 : decode cX12_number 92 = .ok (.iload_n 3, 1) := by decide +kernel
theorem dX12_number_93 : decode cX12_number 93 = .ok (.ifCond .eq 9, 3) := by decide +kernel
theorem dX12_number_96 : decode cX12_number 96 = .ok (.iload 4, 2) := by decide +kernel
theorem dX12_number_98 : decode cX12_number 98 = .ok (.ineg, 1) := by decide +kernel
theorem dX12_number_99 : decode cX12_number 99 = .ok (.goto 5, 3) := by decide +kernel
theorem dX12_number_102 : decode cX12_number 102 = .ok (.iload 4, 2) := by decide +kernel
theorem dX12_number_104 : decode cX12_number 104 = .ok (.istore 4, 2) := by decide +kernel
theorem dX12_number_106 : decode cX12_number 106 = .ok (.aload_n 0, 1) := by decide +kernel
theorem dX12_number_107 : decode cX12_number 107 = .ok (.invokevirtual 115, 3) := by decide +kernel
theorem dX12_number_110 : decode cX12_number 110 = .ok (.ifCond .eq 10, 3) := by decide +kernel
theorem dX12_number_113 : decode cX12_number 113 = .ok (.aload_n 0, 1) := by decide +kernel
theorem dX12_number_114 : decode cX12_number 114 = .ok (.invokevirtual 119, 3) := by decide +kernel
theorem dX12_number_117 : decode cX12_number 117 = .ok (.goto 30, 3) := by decide +kernel
theorem dX12_number_120 : decode cX12_number 120 = .ok (.iload 4, 2) := by decide +kernel
theorem dX12_number_122 : decode cX12_number 122 = .ok (.i2l, 1) := by decide +kernel
theorem dX12_number_123 : decode cX12_number 123 = .ok (.iload_n 1, 1) := by decide +kernel
theorem dX12_number_124 : decode cX12_number 124 = .ok (.i2l, 1) := by decide +kernel
theorem dX12_number_125 : decode cX12_number 125 = .ok (.iload_n 2, 1) := by decide +kernel
theorem dX12_number_126 : decode cX12_number 126 = .ok (.i2l, 1) := by decide +kernel
theorem dX12_number_127 : decode cX12_number 127 = .ok (.invokestatic 122, 3) := by decide +kernel
theorem dX12_number_130 : decode cX12_number 130 = .ok (.ifCond .ne 17, 3) := by decide +kernel
theorem dX12_number_133 : decode cX12_number 133 = .ok (.aload_n 0, 1) := by decide +kernel
theorem dX12_number_134 : decode cX12_number 134 = .ok (.dup, 1) := by decide +kernel
theorem dX12_number_135 : decode cX12_number 135 = .ok (.getfield 94, 3) := by decide +kernel
theorem dX12_number_138 : decode cX12_number 138 = .ok (.iconst 1, 1) := by decide +kernel
theorem dX12_number_139 : decode cX12_number 139 = .ok (.isub, 1) := by decide +kernel
theorem dX12_number_140 : decode cX12_number 140 = .ok (.putfield 94, 3) := by decide +kernel
theorem dX12_number_143 : decode cX12_number 143 = .ok (.aload_n 0, 1) := by decide +kernel
theorem dX12_number_144 : decode cX12_number 144 = .ok (.invokevirtual 119, 3) := by decide +kernel
theorem dX12_number_147 : decode cX12_number 147 = .ok (.iload 4, 2) := by decide +kernel
theorem dX12_number_149 : decode cX12_number 149 = .ok (.ireturn, 1) := by decide +kernel
theorem dX12_leastRule_0 : decode cX12_leastRule 0 = .ok (.iload_n 0, 1) := by decide +kernel
theorem dX12_leastRule_1 : decode cX12_leastRule 1 = .ok (.ifCond .ne 7, 3) := by decide +kernel
theorem dX12_leastRule_4 : decode cX12_leastRule 4 = .ok (.iconst 1, 1) := by decide +kernel
theorem dX12_leastRule_5 : decode cX12_leastRule 5 = .ok (.goto 16, 3) := by decide +kernel
theorem dX12_leastRule_8 : decode cX12_leastRule 8 = .ok (.iload_n 0, 1) := by decide +kernel
theorem dX12_leastRule_9 : decode cX12_leastRule 9 = .ok (.iconst 3, 1) := by decide +kernel
theorem dX12_leastRule_10 : decode cX12_leastRule 10 = .ok (.if_icmp .ne 9, 3) := by decide +kernel
theorem dX12_leastRule_13 : decode cX12_leastRule 13 = .ok (.sipush (-999), 3) := by decide +kernel
theorem dX12_leastRule_16 : decode cX12_leastRule 16 = .ok (.goto 5, 3) := by decide +kernel
theorem dX12_leastRule_19 : decode cX12_leastRule 19 = .ok (.bipush (-99), 2) := by decide +kernel
theorem dX12_leastRule_21 : decode cX12_leastRule 21 = .ok (.ireturn, 1) := by decide +kernel
theorem dX12_mostRule_0 : decode cX12_mostRule 0 = .ok (.iload_n 0, 1) := by decide +kernel
theorem dX12_mostRule_1 : decode cX12_mostRule 1 = .ok (.ifCond .ne 8, 3) := by decide +kernel
theorem dX12_mostRule_4 : decode cX12_mostRule 4 = .ok (.bipush 7, 2) := by decide +kernel
theorem dX12_mostRule_6 : decode cX12_mostRule 6 = .ok (.goto 16, 3) := by decide +kernel
theorem dX12_mostRule_9 : decode cX12_mostRule 9 = .ok (.iload_n 0, 1) := by decide +kernel
theorem dX12_mostRule_10 : decode cX12_mostRule 10 = .ok (.iconst 3, 1) := by decide +kernel
theorem dX12_mostRule_11 : decode cX12_mostRule 11 = .ok (.if_icmp .ne 9, 3) := by decide +kernel
theorem dX12_mostRule_14 : decode cX12_mostRule 14 = .ok (.sipush 999, 3) := by decide +kernel
theorem dX12_mostRule_17 : decode cX12_mostRule 17 = .ok (.goto 5, 3) := by decide +kernel
theorem dX12_mostRule_20 : decode cX12_mostRule 20 = .ok (.bipush 99, 2) := by decide +kernel
theorem dX12_mostRule_22 : decode cX12_mostRule 22 = .ok (.ireturn, 1) := by decide +kernel
theorem dX12_leastOf_0 : decode cX12_leastOf 0 = .ok (.iload_n 0, 1) := by decide +kernel
theorem dX12_leastOf_1 : decode cX12_leastOf 1 = .ok (.lookupswitch 40 #[(0, 35), (5, 37), (6, 35)], 35) := by decide +kernel
theorem dX12_leastOf_36 : decode cX12_leastOf 36 = .ok (.iconst 1, 1) := by decide +kernel
theorem dX12_leastOf_37 : decode cX12_leastOf 37 = .ok (.ireturn, 1) := by decide +kernel
theorem dX12_leastOf_38 : decode cX12_leastOf 38 = .ok (.bipush (-50), 2) := by decide +kernel
theorem dX12_leastOf_40 : decode cX12_leastOf 40 = .ok (.ireturn, 1) := by decide +kernel
theorem dX12_leastOf_41 : decode cX12_leastOf 41 = .ok (.bipush (-4), 2) := by decide +kernel
theorem dX12_leastOf_43 : decode cX12_leastOf 43 = .ok (.ireturn, 1) := by decide +kernel
theorem dX12_mostOf_0 : decode cX12_mostOf 0 = .ok (.iload_n 0, 1) := by decide +kernel
theorem dX12_mostOf_1 : decode cX12_mostOf 1 = .ok (.lookupswitch 45 #[(0, 35), (5, 38), (6, 41)], 35) := by decide +kernel
theorem dX12_mostOf_36 : decode cX12_mostOf 36 = .ok (.bipush 9, 2) := by decide +kernel
theorem dX12_mostOf_38 : decode cX12_mostOf 38 = .ok (.ireturn, 1) := by decide +kernel
theorem dX12_mostOf_39 : decode cX12_mostOf 39 = .ok (.bipush 50, 2) := by decide +kernel
theorem dX12_mostOf_41 : decode cX12_mostOf 41 = .ok (.ireturn, 1) := by decide +kernel
theorem dX12_mostOf_42 : decode cX12_mostOf 42 = .ok (.sipush 999, 3) := by decide +kernel
theorem dX12_mostOf_45 : decode cX12_mostOf 45 = .ok (.ireturn, 1) := by decide +kernel
theorem dX12_mostOf_46 : decode cX12_mostOf 46 = .ok (.iconst 4, 1) := by decide +kernel
theorem dX12_mostOf_47 : decode cX12_mostOf 47 = .ok (.ireturn, 1) := by decide +kernel
theorem dX12_readItems_0 : decode cX12_readItems 0 = .ok (.bipush 7, 2) := by decide +kernel
theorem dX12_readItems_2 : decode cX12_readItems 2 = .ok (.aload_n 0, 1) := by decide +kernel
theorem dX12_readItems_3 : decode cX12_readItems 3 = .ok (.getfield 126, 3) := by decide +kernel
theorem dX12_readItems_6 : decode cX12_readItems 6 = .ok (.iconst 1, 1) := by decide +kernel
theorem dX12_readItems_7 : decode cX12_readItems 7 = .ok (.isub, 1) := by decide +kernel
theorem dX12_readItems_8 : decode cX12_readItems 8 = .ok (.imul, 1) := by decide +kernel
theorem dX12_readItems_9 : decode cX12_readItems 9 = .ok (.istore_n 2, 1) := by decide +kernel
theorem dX12_readItems_10 : decode cX12_readItems 10 = .ok (.iconst 0, 1) := by decide +kernel
theorem dX12_readItems_11 : decode cX12_readItems 11 = .ok (.istore_n 3, 1) := by decide +kernel
theorem dX12_readItems_12 : decode cX12_readItems 12 = .ok (.iload_n 1, 1) := by decide +kernel
theorem dX12_readItems_13 : decode cX12_readItems 13 = .ok (.ifCond .eq 15, 3) := by decide +kernel
theorem dX12_readItems_16 : decode cX12_readItems 16 = .ok (.ldc 129, 2) := by decide +kernel
theorem dX12_readItems_18 : decode cX12_readItems 18 = .ok (.aload_n 0, 1) := by decide +kernel
theorem dX12_readItems_19 : decode cX12_readItems 19 = .ok (.invokevirtual 112, 3) := by decide +kernel
theorem dX12_readItems_22 : decode cX12_readItems 22 = .ok (.invokestatic 131, 3) := by decide +kernel
theorem dX12_readItems_25 : decode cX12_readItems 25 = .ok (.goto 12, 3) := by decide +kernel
theorem dX12_readItems_28 : decode cX12_readItems 28 = .ok (.ldc 135, 2) := by decide +kernel
theorem dX12_readItems_30 : decode cX12_readItems 30 = .ok (.aload_n 0, 1) := by decide +kernel
theorem dX12_readItems_31 : decode cX12_readItems 31 = .ok (.invokevirtual 112, 3) := by decide +kernel
theorem dX12_readItems_34 : decode cX12_readItems 34 = .ok (.invokestatic 131, 3) := by decide +kernel
theorem dX12_readItems_37 : decode cX12_readItems 37 = .ok (.istore 4, 2) := by decide +kernel
theorem dX12_readItems_39 : decode cX12_readItems 39 = .ok (.iload 4, 2) := by decide +kernel
theorem dX12_readItems_41 : decode cX12_readItems 41 = .ok (.iconst (-1), 1) := by decide +kernel
theorem dX12_readItems_42 : decode cX12_readItems 42 = .ok (.if_icmp .eq 131, 3) := by decide +kernel
theorem dX12_readItems_45 : decode cX12_readItems 45 = .ok (.aload_n 0, 1) := by decide +kernel
theorem dX12_readItems_46 : decode cX12_readItems 46 = .ok (.getfield 101, 3) := by decide +kernel
theorem dX12_readItems_49 : decode cX12_readItems 49 = .ok (.iconst (-1), 1) := by decide +kernel
theorem dX12_readItems_50 : decode cX12_readItems 50 = .ok (.if_icmp .ne 123, 3) := by decide +kernel
theorem dX12_readItems_53 : decode cX12_readItems 53 = .ok (.iload_n 3, 1) := by decide +kernel
theorem dX12_readItems_54 : decode cX12_readItems 54 = .ok (.iload 4, 2) := by decide +kernel
theorem dX12_readItems_56 : decode cX12_readItems 56 = .ok (.invokestatic 137, 3) := by decide +kernel
theorem dX12_readItems_59 : decode cX12_readItems 59 = .ok (.ifCond .eq 8, 3) := by decide +kernel
theorem dX12_readItems_62 : decode cX12_readItems 62 = .ok (.aload_n 0, 1) := by decide +kernel
theorem dX12_readItems_63 : decode cX12_readItems 63 = .ok (.invokevirtual 119, 3) := by decide +kernel
theorem dX12_readItems_66 : decode cX12_readItems 66 = .ok (.return_, 1) := by decide +kernel
theorem dX12_readItems_67 : decode cX12_readItems 67 = .ok (.iload_n 3, 1) := by decide +kernel
theorem dX12_readItems_68 : decode cX12_readItems 68 = .ok (.iconst 1, 1) := by decide +kernel
theorem dX12_readItems_69 : decode cX12_readItems 69 = .ok (.iload 4, 2) := by decide +kernel
theorem dX12_readItems_71 : decode cX12_readItems 71 = .ok (.ishl, 1) := by decide +kernel
theorem dX12_readItems_72 : decode cX12_readItems 72 = .ok (.ior, 1) := by decide +kernel
theorem dX12_readItems_73 : decode cX12_readItems 73 = .ok (.istore_n 3, 1) := by decide +kernel
theorem dX12_readItems_74 : decode cX12_readItems 74 = .ok (.aload_n 0, 1) := by decide +kernel
theorem dX12_readItems_75 : decode cX12_readItems 75 = .ok (.dup, 1) := by decide +kernel
theorem dX12_readItems_76 : decode cX12_readItems 76 = .ok (.getfield 94, 3) := by decide +kernel
theorem dX12_readItems_79 : decode cX12_readItems 79 = .ok (.iconst 1, 1) := by decide +kernel
theorem dX12_readItems_80 : decode cX12_readItems 80 = .ok (.iadd, 1) := by decide +kernel
theorem dX12_readItems_81 : decode cX12_readItems 81 = .ok (.putfield 94, 3) := by decide +kernel
theorem dX12_readItems_84 : decode cX12_readItems 84 = .ok (.iload_n 1, 1) := by decide +kernel
theorem dX12_readItems_85 : decode cX12_readItems 85 = .ok (.ifCond .eq 27, 3) := by decide +kernel
theorem dX12_readItems_88 : decode cX12_readItems 88 = .ok (.aload_n 0, 1) := by decide +kernel
theorem dX12_readItems_89 : decode cX12_readItems 89 = .ok (.getfield 13, 3) := by decide +kernel
theorem dX12_readItems_92 : decode cX12_readItems 92 = .ok (.iload 4, 2) := by decide +kernel
theorem dX12_readItems_94 : decode cX12_readItems 94 = .ok (.aload_n 0, 1) := by decide +kernel
theorem dX12_readItems_95 : decode cX12_readItems 95 = .ok (.iload 4, 2) := by decide +kernel
theorem dX12_readItems_97 : decode cX12_readItems 97 = .ok (.invokestatic 141, 3) := by decide +kernel
theorem dX12_readItems_100 : decode cX12_readItems 100 = .ok (.iload 4, 2) := by decide +kernel
theorem dX12_readItems_102 : decode cX12_readItems 102 = .ok (.invokestatic 144, 3) := by decide +kernel
theorem dX12_readItems_105 : decode cX12_readItems 105 = .ok (.invokevirtual 147, 3) := by decide +kernel
theorem dX12_readItems_108 : decode cX12_readItems 108 = .ok (.iastore, 1) := by decide +kernel
theorem dX12_readItems_109 : decode cX12_readItems 109 = .ok (.goto 26, 3) := by decide +kernel
theorem dX12_readItems_112 : decode cX12_readItems 112 = .ok (.aload_n 0, 1) := by decide +kernel
theorem dX12_readItems_113 : decode cX12_readItems 113 = .ok (.getfield 20, 3) := by decide +kernel
theorem dX12_readItems_116 : decode cX12_readItems 116 = .ok (.iload_n 2, 1) := by decide +kernel
theorem dX12_readItems_117 : decode cX12_readItems 117 = .ok (.iload 4, 2) := by decide +kernel
theorem dX12_readItems_119 : decode cX12_readItems 119 = .ok (.iadd, 1) := by decide +kernel
theorem dX12_readItems_120 : decode cX12_readItems 120 = .ok (.aload_n 0, 1) := by decide +kernel
theorem dX12_readItems_121 : decode cX12_readItems 121 = .ok (.iload 4, 2) := by decide +kernel
theorem dX12_readItems_123 : decode cX12_readItems 123 = .ok (.invokestatic 151, 3) := by decide +kernel
theorem dX12_readItems_126 : decode cX12_readItems 126 = .ok (.iload 4, 2) := by decide +kernel
theorem dX12_readItems_128 : decode cX12_readItems 128 = .ok (.invokestatic 154, 3) := by decide +kernel
theorem dX12_readItems_131 : decode cX12_readItems 131 = .ok (.invokevirtual 147, 3) := by decide +kernel
theorem dX12_readItems_134 : decode cX12_readItems 134 = .ok (.iastore, 1) := by decide +kernel
theorem dX12_readItems_135 : decode cX12_readItems 135 = .ok (.aload_n 0, 1) := by decide +kernel
theorem dX12_readItems_136 : decode cX12_readItems 136 = .ok (.getfield 101, 3) := by decide +kernel
theorem dX12_readItems_139 : decode cX12_readItems 139 = .ok (.iconst (-1), 1) := by decide +kernel
theorem dX12_readItems_140 : decode cX12_readItems 140 = .ok (.if_icmp .ne (-101), 3) := by decide +kernel
theorem dX12_readItems_143 : decode cX12_readItems 143 = .ok (.iload_n 1, 1) := by decide +kernel
theorem dX12_readItems_144 : decode cX12_readItems 144 = .ok (.ifCond .eq 15, 3) := by decide +kernel
theorem dX12_readItems_147 : decode cX12_readItems 147 = .ok (.ldc 129, 2) := by decide +kernel
theorem dX12_readItems_149 : decode cX12_readItems 149 = .ok (.aload_n 0, 1) := by decide +kernel
theorem dX12_readItems_150 : decode cX12_readItems 150 = .ok (.invokevirtual 112, 3) := by decide +kernel
theorem dX12_readItems_153 : decode cX12_readItems 153 = .ok (.invokestatic 131, 3) := by decide +kernel
theorem dX12_readItems_156 : decode cX12_readItems 156 = .ok (.goto 12, 3) := by decide +kernel
theorem dX12_readItems_159 : decode cX12_readItems 159 = .ok (.ldc 135, 2) := by decide +kernel
theorem dX12_readItems_161 : decode cX12_readItems 161 = .ok (.aload_n 0, 1) := by decide +kernel
theorem dX12_readItems_162 : decode cX12_readItems 162 = .ok (.invokevirtual 112, 3) := by decide +kernel
theorem dX12_readItems_165 : decode cX12_readItems 165 = .ok (.invokestatic 131, 3) := by decide +kernel
theorem dX12_readItems_168 : decode cX12_readItems 168 = .ok (.istore 4, 2) := by decide +kernel
theorem dX12_readItems_170 : decode cX12_readItems 170 = .ok (.goto (-131), 3) := by decide +kernel
theorem dX12_readItems_173 : decode cX12_readItems 173 = .ok (.return_, 1) := by decide +kernel
theorem dX12_readClause_0 : decode cX12_readClause 0 = .ok (.aload_n 0, 1) := by decide +kernel
theorem dX12_readClause_1 : decode cX12_readClause 1 = .ok (.invokevirtual 112, 3) := by decide +kernel
theorem dX12_readClause_4 : decode cX12_readClause 4 = .ok (.istore_n 1, 1) := by decide +kernel
theorem dX12_readClause_5 : decode cX12_readClause 5 = .ok (.iload_n 1, 1) := by decide +kernel
theorem dX12_readClause_6 : decode cX12_readClause 6 = .ok (.bipush 115, 2) := by decide +kernel
theorem dX12_readClause_8 : decode cX12_readClause 8 = .ok (.if_icmp .ne 33, 3) := by decide +kernel
theorem dX12_readClause_11 : decode cX12_readClause 11 = .ok (.aload_n 0, 1) := by decide +kernel
theorem dX12_readClause_12 : decode cX12_readClause 12 = .ok (.getfield 157, 3) := by decide +kernel
theorem dX12_readClause_15 : decode cX12_readClause 15 = .ok (.ifCond .ne 26, 3) := by decide +kernel
theorem dX12_readClause_18 : decode cX12_readClause 18 = .ok (.aload_n 0, 1) := by decide +kernel
theorem dX12_readClause_19 : decode cX12_readClause 19 = .ok (.iconst 1, 1) := by decide +kernel
theorem dX12_readClause_20 : decode cX12_readClause 20 = .ok (.putfield 157, 3) := by decide +kernel
theorem dX12_readClause_23 : decode cX12_readClause 23 = .ok (.aload_n 0, 1) := by decide +kernel
theorem dX12_readClause_24 : decode cX12_readClause 24 = .ok (.dup, 1) := by decide +kernel
theorem dX12_readClause_25 : decode cX12_readClause 25 = .ok (.getfield 94, 3) := by decide +kernel
theorem dX12_readClause_28 : decode cX12_readClause 28 = .ok (.iconst 1, 1) := by decide +kernel
theorem dX12_readClause_29 : decode cX12_readClause 29 = .ok (.iadd, 1) := by decide +kernel
theorem dX12_readClause_30 : decode cX12_readClause 30 = .ok (.putfield 94, 3) := by decide +kernel
theorem dX12_readClause_33 : decode cX12_readClause 33 = .ok (.aload_n 0, 1) := by decide +kernel
theorem dX12_readClause_34 : decode cX12_readClause 34 = .ok (.iconst 1, 1) := by decide +kernel
theorem dX12_readClause_35 : decode cX12_readClause 35 = .ok (.invokevirtual 161, 3) := by decide +kernel
theorem dX12_readClause_38 : decode cX12_readClause 38 = .ok (.goto 106, 3) := by decide +kernel
theorem dX12_readClause_41 : decode cX12_readClause 41 = .ok (.iload_n 1, 1) := by decide +kernel
theorem dX12_readClause_42 : decode cX12_readClause 42 = .ok (.bipush 114, 2) := by decide +kernel
theorem dX12_readClause_44 : decode cX12_readClause 44 = .ok (.if_icmp .ne 96, 3) := by decide +kernel
theorem dX12_readClause_47 : decode cX12_readClause 47 = .ok (.aload_n 0, 1) := by decide +kernel
theorem dX12_readClause_48 : decode cX12_readClause 48 = .ok (.getfield 126, 3) := by decide +kernel
theorem dX12_readClause_51 : decode cX12_readClause 51 = .ok (.bipush 8, 2) := by decide +kernel
theorem dX12_readClause_53 : decode cX12_readClause 53 = .ok (.if_icmp .ge 87, 3) := by decide +kernel
theorem dX12_readClause_56 : decode cX12_readClause 56 = .ok (.bipush 7, 2) := by decide +kernel
theorem dX12_readClause_58 : decode cX12_readClause 58 = .ok (.aload_n 0, 1) := by decide +kernel
theorem dX12_readClause_59 : decode cX12_readClause 59 = .ok (.getfield 126, 3) := by decide +kernel
theorem dX12_readClause_62 : decode cX12_readClause 62 = .ok (.imul, 1) := by decide +kernel
theorem dX12_readClause_63 : decode cX12_readClause 63 = .ok (.istore_n 2, 1) := by decide +kernel
theorem dX12_readClause_64 : decode cX12_readClause 64 = .ok (.iconst 0, 1) := by decide +kernel
theorem dX12_readClause_65 : decode cX12_readClause 65 = .ok (.istore_n 3, 1) := by decide +kernel
theorem dX12_readClause_66 : decode cX12_readClause 66 = .ok (.iload_n 3, 1) := by decide +kernel
theorem dX12_readClause_67 : decode cX12_readClause 67 = .ok (.bipush 7, 2) := by decide +kernel
theorem dX12_readClause_69 : decode cX12_readClause 69 = .ok (.if_icmp .ge 43, 3) := by decide +kernel
theorem dX12_readClause_72 : decode cX12_readClause 72 = .ok (.aload_n 0, 1) := by decide +kernel
theorem dX12_readClause_73 : decode cX12_readClause 73 = .ok (.getfield 20, 3) := by decide +kernel
theorem dX12_readClause_76 : decode cX12_readClause 76 = .ok (.iload_n 2, 1) := by decide +kernel
theorem dX12_readClause_77 : decode cX12_readClause 77 = .ok (.iload_n 3, 1) := by decide +kernel
theorem dX12_readClause_78 : decode cX12_readClause 78 = .ok (.iadd, 1) := by decide +kernel
theorem dX12_readClause_79 : decode cX12_readClause 79 = .ok (.iload_n 3, 1) := by decide +kernel
theorem dX12_readClause_80 : decode cX12_readClause 80 = .ok (.ifCond .eq 8, 3) := by decide +kernel
theorem dX12_readClause_83 : decode cX12_readClause 83 = .ok (.iload_n 3, 1) := by decide +kernel
theorem dX12_readClause_84 : decode cX12_readClause 84 = .ok (.iconst 3, 1) := by decide +kernel
theorem dX12_readClause_85 : decode cX12_readClause 85 = .ok (.if_icmp .ne 7, 3) := by decide +kernel
theorem dX12_readClause_88 : decode cX12_readClause 88 = .ok (.iconst 1, 1) := by decide +kernel
theorem dX12_readClause_89 : decode cX12_readClause 89 = .ok (.goto 16, 3) := by decide +kernel
theorem dX12_readClause_92 : decode cX12_readClause 92 = .ok (.iload_n 3, 1) := by decide +kernel
theorem dX12_readClause_93 : decode cX12_readClause 93 = .ok (.bipush 6, 2) := by decide +kernel
theorem dX12_readClause_95 : decode cX12_readClause 95 = .ok (.if_icmp .ne 9, 3) := by decide +kernel
theorem dX12_readClause_98 : decode cX12_readClause 98 = .ok (.sipush 999, 3) := by decide +kernel
theorem dX12_readClause_101 : decode cX12_readClause 101 = .ok (.goto 4, 3) := by decide +kernel
theorem dX12_readClause_104 : decode cX12_readClause 104 = .ok (.iconst 0, 1) := by decide +kernel
theorem dX12_readClause_105 : decode cX12_readClause 105 = .ok (.iastore, 1) := by decide +kernel
theorem dX12_readClause_106 : decode cX12_readClause 106 = .ok (.iinc 3 1, 3) := by decide +kernel
theorem dX12_readClause_109 : decode cX12_readClause 109 = .ok (.goto (-43), 3) := by decide +kernel
theorem dX12_readClause_112 : decode cX12_readClause 112 = .ok (.aload_n 0, 1) := by decide +kernel
theorem dX12_readClause_113 : decode cX12_readClause 113 = .ok (.dup, 1) := by decide +kernel
theorem dX12_readClause_114 : decode cX12_readClause 114 = .ok (.getfield 126, 3) := by decide +kernel
theorem dX12_readClause_117 : decode cX12_readClause 117 = .ok (.iconst 1, 1) := by decide +kernel
theorem dX12_readClause_118 : decode cX12_readClause 118 = .ok (.iadd, 1) := by decide +kernel
theorem dX12_readClause_119 : decode cX12_readClause 119 = .ok (.putfield 126, 3) := by decide +kernel
theorem dX12_readClause_122 : decode cX12_readClause 122 = .ok (.aload_n 0, 1) := by decide +kernel
theorem dX12_readClause_123 : decode cX12_readClause 123 = .ok (.dup, 1) := by decide +kernel
theorem dX12_readClause_124 : decode cX12_readClause 124 = .ok (.getfield 94, 3) := by decide +kernel
theorem dX12_readClause_127 : decode cX12_readClause 127 = .ok (.iconst 1, 1) := by decide +kernel
theorem dX12_readClause_128 : decode cX12_readClause 128 = .ok (.iadd, 1) := by decide +kernel
theorem dX12_readClause_129 : decode cX12_readClause 129 = .ok (.putfield 94, 3) := by decide +kernel
theorem dX12_readClause_132 : decode cX12_readClause 132 = .ok (.aload_n 0, 1) := by decide +kernel
theorem dX12_readClause_133 : decode cX12_readClause 133 = .ok (.iconst 0, 1) := by decide +kernel
theorem dX12_readClause_134 : decode cX12_readClause 134 = .ok (.invokevirtual 161, 3) := by decide +kernel
theorem dX12_readClause_137 : decode cX12_readClause 137 = .ok (.goto 7, 3) := by decide +kernel
theorem dX12_readClause_140 : decode cX12_readClause 140 = .ok (.aload_n 0, 1) := by decide +kernel
theorem dX12_readClause_141 : decode cX12_readClause 141 = .ok (.invokevirtual 119, 3) := by decide +kernel
theorem dX12_readClause_144 : decode cX12_readClause 144 = .ok (.return_, 1) := by decide +kernel
theorem dX12_isWhole_0 : decode cX12_isWhole 0 = .ok (.iconst 0, 1) := by decide +kernel
theorem dX12_isWhole_1 : decode cX12_isWhole 1 = .ok (.istore_n 1, 1) := by decide +kernel
theorem dX12_isWhole_2 : decode cX12_isWhole 2 = .ok (.iload_n 1, 1) := by decide +kernel
theorem dX12_isWhole_3 : decode cX12_isWhole 3 = .ok (.aload_n 0, 1) := by decide +kernel
theorem dX12_isWhole_4 : decode cX12_isWhole 4 = .ok (.getfield 126, 3) := by decide +kernel
theorem dX12_isWhole_7 : decode cX12_isWhole 7 = .ok (.if_icmp .ge 39, 3) := by decide +kernel
theorem dX12_isWhole_10 : decode cX12_isWhole 10 = .ok (.aload_n 0, 1) := by decide +kernel
theorem dX12_isWhole_11 : decode cX12_isWhole 11 = .ok (.getfield 20, 3) := by decide +kernel
theorem dX12_isWhole_14 : decode cX12_isWhole 14 = .ok (.bipush 7, 2) := by decide +kernel
theorem dX12_isWhole_16 : decode cX12_isWhole 16 = .ok (.iload_n 1, 1) := by decide +kernel
theorem dX12_isWhole_17 : decode cX12_isWhole 17 = .ok (.imul, 1) := by decide +kernel
theorem dX12_isWhole_18 : decode cX12_isWhole 18 = .ok (.iconst 3, 1) := by decide +kernel
theorem dX12_isWhole_19 : decode cX12_isWhole 19 = .ok (.iadd, 1) := by decide +kernel
theorem dX12_isWhole_20 : decode cX12_isWhole 20 = .ok (.iaload, 1) := by decide +kernel
theorem dX12_isWhole_21 : decode cX12_isWhole 21 = .ok (.ifCond .ne 19, 3) := by decide +kernel
theorem dX12_isWhole_24 : decode cX12_isWhole 24 = .ok (.aload_n 0, 1) := by decide +kernel
theorem dX12_isWhole_25 : decode cX12_isWhole 25 = .ok (.getfield 20, 3) := by decide +kernel
theorem dX12_isWhole_28 : decode cX12_isWhole 28 = .ok (.bipush 7, 2) := by decide +kernel
theorem dX12_isWhole_30 : decode cX12_isWhole 30 = .ok (.iload_n 1, 1) := by decide +kernel
theorem dX12_isWhole_31 : decode cX12_isWhole 31 = .ok (.imul, 1) := by decide +kernel
theorem dX12_isWhole_32 : decode cX12_isWhole 32 = .ok (.iconst 4, 1) := by decide +kernel
theorem dX12_isWhole_33 : decode cX12_isWhole 33 = .ok (.iadd, 1) := by decide +kernel
theorem dX12_isWhole_34 : decode cX12_isWhole 34 = .ok (.iaload, 1) := by decide +kernel
theorem dX12_isWhole_35 : decode cX12_isWhole 35 = .ok (.ifCond .ne 5, 3) := by decide +kernel
theorem dX12_isWhole_38 : decode cX12_isWhole 38 = .ok (.iconst 0, 1) := by decide +kernel
theorem dX12_isWhole_39 : decode cX12_isWhole 39 = .ok (.ireturn, 1) := by decide +kernel
theorem dX12_isWhole_40 : decode cX12_isWhole 40 = .ok (.iinc 1 1, 3) := by decide +kernel
theorem dX12_isWhole_43 : decode cX12_isWhole 43 = .ok (.goto (-41), 3) := by decide +kernel
theorem dX12_isWhole_46 : decode cX12_isWhole 46 = .ok (.aload_n 0, 1) := by decide +kernel
theorem dX12_isWhole_47 : decode cX12_isWhole 47 = .ok (.getfield 126, 3) := by decide +kernel
theorem dX12_isWhole_50 : decode cX12_isWhole 50 = .ok (.ifCond .le 7, 3) := by decide +kernel
theorem dX12_isWhole_53 : decode cX12_isWhole 53 = .ok (.iconst 1, 1) := by decide +kernel
theorem dX12_isWhole_54 : decode cX12_isWhole 54 = .ok (.goto 4, 3) := by decide +kernel
theorem dX12_isWhole_57 : decode cX12_isWhole 57 = .ok (.iconst 0, 1) := by decide +kernel
theorem dX12_isWhole_58 : decode cX12_isWhole 58 = .ok (.ireturn, 1) := by decide +kernel
theorem dX12_readMooring_0 : decode cX12_readMooring 0 = .ok (.aload_n 0, 1) := by decide +kernel
theorem dX12_readMooring_1 : decode cX12_readMooring 1 = .ok (.getfield 13, 3) := by decide +kernel
theorem dX12_readMooring_4 : decode cX12_readMooring 4 = .ok (.iconst 0, 1) := by decide +kernel
theorem dX12_readMooring_5 : decode cX12_readMooring 5 = .ok (.iconst 3, 1) := by decide +kernel
theorem dX12_readMooring_6 : decode cX12_readMooring 6 = .ok (.iastore, 1) := by decide +kernel
theorem dX12_readMooring_7 : decode cX12_readMooring 7 = .ok (.aload_n 0, 1) := by decide +kernel
theorem dX12_readMooring_8 : decode cX12_readMooring 8 = .ok (.getfield 13, 3) := by decide +kernel
theorem dX12_readMooring_11 : decode cX12_readMooring 11 = .ok (.iconst 1, 1) := by decide +kernel
theorem dX12_readMooring_12 : decode cX12_readMooring 12 = .ok (.iconst 0, 1) := by decide +kernel
theorem dX12_readMooring_13 : decode cX12_readMooring 13 = .ok (.iastore, 1) := by decide +kernel
theorem dX12_readMooring_14 : decode cX12_readMooring 14 = .ok (.aload_n 0, 1) := by decide +kernel
theorem dX12_readMooring_15 : decode cX12_readMooring 15 = .ok (.getfield 13, 3) := by decide +kernel
theorem dX12_readMooring_18 : decode cX12_readMooring 18 = .ok (.iconst 2, 1) := by decide +kernel
theorem dX12_readMooring_19 : decode cX12_readMooring 19 = .ok (.iconst 0, 1) := by decide +kernel
theorem dX12_readMooring_20 : decode cX12_readMooring 20 = .ok (.iastore, 1) := by decide +kernel
theorem dX12_readMooring_21 : decode cX12_readMooring 21 = .ok (.aload_n 0, 1) := by decide +kernel
theorem dX12_readMooring_22 : decode cX12_readMooring 22 = .ok (.getfield 13, 3) := by decide +kernel
theorem dX12_readMooring_25 : decode cX12_readMooring 25 = .ok (.iconst 3, 1) := by decide +kernel
theorem dX12_readMooring_26 : decode cX12_readMooring 26 = .ok (.iconst 0, 1) := by decide +kernel
theorem dX12_readMooring_27 : decode cX12_readMooring 27 = .ok (.iastore, 1) := by decide +kernel
theorem dX12_readMooring_28 : decode cX12_readMooring 28 = .ok (.aload_n 0, 1) := by decide +kernel
theorem dX12_readMooring_29 : decode cX12_readMooring 29 = .ok (.iconst 0, 1) := by decide +kernel
theorem dX12_readMooring_30 : decode cX12_readMooring 30 = .ok (.putfield 126, 3) := by decide +kernel
theorem dX12_readMooring_33 : decode cX12_readMooring 33 = .ok (.aload_n 0, 1) := by decide +kernel
theorem dX12_readMooring_34 : decode cX12_readMooring 34 = .ok (.iconst 0, 1) := by decide +kernel
theorem dX12_readMooring_35 : decode cX12_readMooring 35 = .ok (.putfield 157, 3) := by decide +kernel
theorem dX12_readMooring_38 : decode cX12_readMooring 38 = .ok (.iconst 1, 1) := by decide +kernel
theorem dX12_readMooring_39 : decode cX12_readMooring 39 = .ok (.istore_n 1, 1) := by decide +kernel
theorem dX12_readMooring_40 : decode cX12_readMooring 40 = .ok (.iload_n 1, 1) := by decide +kernel
theorem dX12_readMooring_41 : decode cX12_readMooring 41 = .ok (.ifCond .eq 55, 3) := by decide +kernel
theorem dX12_readMooring_44 : decode cX12_readMooring 44 = .ok (.aload_n 0, 1) := by decide +kernel
theorem dX12_readMooring_45 : decode cX12_readMooring 45 = .ok (.getfield 101, 3) := by decide +kernel
theorem dX12_readMooring_48 : decode cX12_readMooring 48 = .ok (.iconst (-1), 1) := by decide +kernel
theorem dX12_readMooring_49 : decode cX12_readMooring 49 = .ok (.if_icmp .ne 47, 3) := by decide +kernel
theorem dX12_readMooring_52 : decode cX12_readMooring 52 = .ok (.aload_n 0, 1) := by decide +kernel
theorem dX12_readMooring_53 : decode cX12_readMooring 53 = .ok (.invokevirtual 165, 3) := by decide +kernel
theorem dX12_readMooring_56 : decode cX12_readMooring 56 = .ok (.aload_n 0, 1) := by decide +kernel
theorem dX12_readMooring_57 : decode cX12_readMooring 57 = .ok (.getfield 101, 3) := by decide +kernel
theorem dX12_readMooring_60 : decode cX12_readMooring 60 = .ok (.iconst (-1), 1) := by decide +kernel
theorem dX12_readMooring_61 : decode cX12_readMooring 61 = .ok (.if_icmp .ne 16, 3) := by decide +kernel
theorem dX12_readMooring_64 : decode cX12_readMooring 64 = .ok (.aload_n 0, 1) := by decide +kernel
theorem dX12_readMooring_65 : decode cX12_readMooring 65 = .ok (.invokevirtual 112, 3) := by decide +kernel
theorem dX12_readMooring_68 : decode cX12_readMooring 68 = .ok (.bipush 59, 2) := by decide +kernel
theorem dX12_readMooring_70 : decode cX12_readMooring 70 = .ok (.if_icmp .ne 7, 3) := by decide +kernel
theorem dX12_readMooring_73 : decode cX12_readMooring 73 = .ok (.iconst 1, 1) := by decide +kernel
theorem dX12_readMooring_74 : decode cX12_readMooring 74 = .ok (.goto 4, 3) := by decide +kernel
theorem dX12_readMooring_77 : decode cX12_readMooring 77 = .ok (.iconst 0, 1) := by decide +kernel
theorem dX12_readMooring_78 : decode cX12_readMooring 78 = .ok (.istore_n 1, 1) := by decide +kernel
theorem dX12_readMooring_79 : decode cX12_readMooring 79 = .ok (.iload_n 1, 1) := by decide +kernel
theorem dX12_readMooring_80 : decode cX12_readMooring 80 = .ok (.ifCond .eq (-40), 3) := by decide +kernel
theorem dX12_readMooring_83 : decode cX12_readMooring 83 = .ok (.aload_n 0, 1) := by decide +kernel
theorem dX12_readMooring_84 : decode cX12_readMooring 84 = .ok (.dup, 1) := by decide +kernel
theorem dX12_readMooring_85 : decode cX12_readMooring 85 = .ok (.getfield 94, 3) := by decide +kernel
theorem dX12_readMooring_88 : decode cX12_readMooring 88 = .ok (.iconst 1, 1) := by decide +kernel
theorem dX12_readMooring_89 : decode cX12_readMooring 89 = .ok (.iadd, 1) := by decide +kernel
theorem dX12_readMooring_90 : decode cX12_readMooring 90 = .ok (.putfield 94, 3) := by decide +kernel
theorem dX12_readMooring_93 : decode cX12_readMooring 93 = .ok (.goto (-53), 3) := by decide +kernel
theorem dX12_readMooring_96 : decode cX12_readMooring 96 = .ok (.aload_n 0, 1) := by decide +kernel
theorem dX12_readMooring_97 : decode cX12_readMooring 97 = .ok (.getfield 101, 3) := by decide +kernel
theorem dX12_readMooring_100 : decode cX12_readMooring 100 = .ok (.iconst (-1), 1) := by decide +kernel
theorem dX12_readMooring_101 : decode cX12_readMooring 101 = .ok (.if_icmp .ne 22, 3) := by decide +kernel
theorem dX12_readMooring_104 : decode cX12_readMooring 104 = .ok (.aload_n 0, 1) := by decide +kernel
theorem dX12_readMooring_105 : decode cX12_readMooring 105 = .ok (.invokevirtual 112, 3) := by decide +kernel
theorem dX12_readMooring_108 : decode cX12_readMooring 108 = .ok (.iconst (-1), 1) := by decide +kernel
theorem dX12_readMooring_109 : decode cX12_readMooring 109 = .ok (.if_icmp .ne 10, 3) := by decide +kernel
theorem dX12_readMooring_112 : decode cX12_readMooring 112 = .ok (.aload_n 0, 1) := by decide +kernel
theorem dX12_readMooring_113 : decode cX12_readMooring 113 = .ok (.invokevirtual 168, 3) := by decide +kernel
theorem dX12_readMooring_116 : decode cX12_readMooring 116 = .ok (.ifCond .ne 7, 3) := by decide +kernel
theorem dX12_readMooring_119 : decode cX12_readMooring 119 = .ok (.aload_n 0, 1) := by decide +kernel
theorem dX12_readMooring_120 : decode cX12_readMooring 120 = .ok (.invokevirtual 119, 3) := by decide +kernel
theorem dX12_readMooring_123 : decode cX12_readMooring 123 = .ok (.return_, 1) := by decide +kernel
theorem dX12_digit_0 : decode cX12_digit 0 = .ok (.aload_n 0, 1) := by decide +kernel
theorem dX12_digit_1 : decode cX12_digit 1 = .ok (.invokevirtual 112, 3) := by decide +kernel
theorem dX12_digit_4 : decode cX12_digit 4 = .ok (.istore_n 1, 1) := by decide +kernel
theorem dX12_digit_5 : decode cX12_digit 5 = .ok (.aload_n 0, 1) := by decide +kernel
theorem dX12_digit_6 : decode cX12_digit 6 = .ok (.invokevirtual 115, 3) := by decide +kernel
theorem dX12_digit_9 : decode cX12_digit 9 = .ok (.ifCond .ne 9, 3) := by decide +kernel
theorem dX12_digit_12 : decode cX12_digit 12 = .ok (.aload_n 0, 1) := by decide +kernel
theorem dX12_digit_13 : decode cX12_digit 13 = .ok (.invokevirtual 119, 3) := by decide +kernel
theorem dX12_digit_16 : decode cX12_digit 16 = .ok (.iconst 0, 1) := by decide +kernel
theorem dX12_digit_17 : decode cX12_digit 17 = .ok (.ireturn, 1) := by decide +kernel
theorem dX12_digit_18 : decode cX12_digit 18 = .ok (.aload_n 0, 1) := by decide +kernel
theorem dX12_digit_19 : decode cX12_digit 19 = .ok (.dup, 1) := by decide +kernel
theorem dX12_digit_20 : decode cX12_digit 20 = .ok (.getfield 94, 3) := by decide +kernel
theorem dX12_digit_23 : decode cX12_digit 23 = .ok (.iconst 1, 1) := by decide +kernel
theorem dX12_digit_24 : decode cX12_digit 24 = .ok (.iadd, 1) := by decide +kernel
theorem dX12_digit_25 : decode cX12_digit 25 = .ok (.putfield 94, 3) := by decide +kernel
theorem dX12_digit_28 : decode cX12_digit 28 = .ok (.iload_n 1, 1) := by decide +kernel
theorem dX12_digit_29 : decode cX12_digit 29 = .ok (.bipush 48, 2) := by decide +kernel
theorem dX12_digit_31 : decode cX12_digit 31 = .ok (.isub, 1) := by decide +kernel
theorem dX12_digit_32 : decode cX12_digit 32 = .ok (.ireturn, 1) := by decide +kernel
theorem dX12_sign_0 : decode cX12_sign 0 = .ok (.aload_n 0, 1) := by decide +kernel
theorem dX12_sign_1 : decode cX12_sign 1 = .ok (.getfield 101, 3) := by decide +kernel
theorem dX12_sign_4 : decode cX12_sign 4 = .ok (.iconst (-1), 1) := by decide +kernel
theorem dX12_sign_5 : decode cX12_sign 5 = .ok (.if_icmp .eq 4, 3) := by decide +kernel
theorem dX12_sign_8 : decode cX12_sign 8 = .ok (.return_, 1) := by decide +kernel
theorem dX12_sign_9 : decode cX12_sign 9 = .ok (.aload_n 0, 1) := by decide +kernel
theorem dX12_sign_10 : decode cX12_sign 10 = .ok (.invokevirtual 112, 3) := by decide +kernel
theorem dX12_sign_13 : decode cX12_sign 13 = .ok (.iload_n 1, 1) := by decide +kernel
theorem dX12_sign_14 : decode cX12_sign 14 = .ok (.if_icmp .ne 16, 3) := by decide +kernel
theorem dX12_sign_17 : decode cX12_sign 17 = .ok (.aload_n 0, 1) := by decide +kernel
theorem dX12_sign_18 : decode cX12_sign 18 = .ok (.dup, 1) := by decide +kernel
theorem dX12_sign_19 : decode cX12_sign 19 = .ok (.getfield 94, 3) := by decide +kernel
theorem dX12_sign_22 : decode cX12_sign 22 = .ok (.iconst 1, 1) := by decide +kernel
theorem dX12_sign_23 : decode cX12_sign 23 = .ok (.iadd, 1) := by decide +kernel
theorem dX12_sign_24 : decode cX12_sign 24 = .ok (.putfield 94, 3) := by decide +kernel
theorem dX12_sign_27 : decode cX12_sign 27 = .ok (.goto 7, 3) := by decide +kernel
theorem dX12_sign_30 : decode cX12_sign 30 = .ok (.aload_n 0, 1) := by decide +kernel
theorem dX12_sign_31 : decode cX12_sign 31 = .ok (.invokevirtual 119, 3) := by decide +kernel
theorem dX12_sign_34 : decode cX12_sign 34 = .ok (.return_, 1) := by decide +kernel
theorem dX12_readStep_0 : decode cX12_readStep 0 = .ok (.ldc 171, 2) := by decide +kernel
theorem dX12_readStep_2 : decode cX12_readStep 2 = .ok (.aload_n 0, 1) := by decide +kernel
theorem dX12_readStep_3 : decode cX12_readStep 3 = .ok (.invokevirtual 112, 3) := by decide +kernel
theorem dX12_readStep_6 : decode cX12_readStep 6 = .ok (.invokestatic 131, 3) := by decide +kernel
theorem dX12_readStep_9 : decode cX12_readStep 9 = .ok (.istore_n 2, 1) := by decide +kernel
theorem dX12_readStep_10 : decode cX12_readStep 10 = .ok (.iconst 1, 1) := by decide +kernel
theorem dX12_readStep_11 : decode cX12_readStep 11 = .ok (.istore_n 3, 1) := by decide +kernel
theorem dX12_readStep_12 : decode cX12_readStep 12 = .ok (.iload_n 3, 1) := by decide +kernel
theorem dX12_readStep_13 : decode cX12_readStep 13 = .ok (.iconst 4, 1) := by decide +kernel
theorem dX12_readStep_14 : decode cX12_readStep 14 = .ok (.if_icmp .ge 19, 3) := by decide +kernel
theorem dX12_readStep_17 : decode cX12_readStep 17 = .ok (.aload_n 0, 1) := by decide +kernel
theorem dX12_readStep_18 : decode cX12_readStep 18 = .ok (.getfield 29, 3) := by decide +kernel
theorem dX12_readStep_21 : decode cX12_readStep 21 = .ok (.iload_n 1, 1) := by decide +kernel
theorem dX12_readStep_22 : decode cX12_readStep 22 = .ok (.iload_n 3, 1) := by decide +kernel
theorem dX12_readStep_23 : decode cX12_readStep 23 = .ok (.iadd, 1) := by decide +kernel
theorem dX12_readStep_24 : decode cX12_readStep 24 = .ok (.ldc 173, 2) := by decide +kernel
theorem dX12_readStep_26 : decode cX12_readStep 26 = .ok (.iastore, 1) := by decide +kernel
theorem dX12_readStep_27 : decode cX12_readStep 27 = .ok (.iinc 3 1, 3) := by decide +kernel
theorem dX12_readStep_30 : decode cX12_readStep 30 = .ok (.goto (-18), 3) := by decide +kernel
theorem dX12_readStep_33 : decode cX12_readStep 33 = .ok (.iload_n 2, 1) := by decide +kernel
theorem dX12_readStep_34 : decode cX12_readStep 34 = .ok (.iconst (-1), 1) := by decide +kernel
theorem dX12_readStep_35 : decode cX12_readStep 35 = .ok (.if_icmp .ne 8, 3) := by decide +kernel
theorem dX12_readStep_38 : decode cX12_readStep 38 = .ok (.aload_n 0, 1) := by decide +kernel
theorem dX12_readStep_39 : decode cX12_readStep 39 = .ok (.invokevirtual 119, 3) := by decide +kernel
theorem dX12_readStep_42 : decode cX12_readStep 42 = .ok (.return_, 1) := by decide +kernel
theorem dX12_readStep_43 : decode cX12_readStep 43 = .ok (.aload_n 0, 1) := by decide +kernel
theorem dX12_readStep_44 : decode cX12_readStep 44 = .ok (.dup, 1) := by decide +kernel
theorem dX12_readStep_45 : decode cX12_readStep 45 = .ok (.getfield 94, 3) := by decide +kernel
theorem dX12_readStep_48 : decode cX12_readStep 48 = .ok (.iconst 1, 1) := by decide +kernel
theorem dX12_readStep_49 : decode cX12_readStep 49 = .ok (.iadd, 1) := by decide +kernel
theorem dX12_readStep_50 : decode cX12_readStep 50 = .ok (.putfield 94, 3) := by decide +kernel
theorem dX12_readStep_53 : decode cX12_readStep 53 = .ok (.aload_n 0, 1) := by decide +kernel
theorem dX12_readStep_54 : decode cX12_readStep 54 = .ok (.getfield 29, 3) := by decide +kernel
theorem dX12_readStep_57 : decode cX12_readStep 57 = .ok (.iload_n 1, 1) := by decide +kernel
theorem dX12_readStep_58 : decode cX12_readStep 58 = .ok (.iload_n 2, 1) := by decide +kernel
theorem dX12_readStep_59 : decode cX12_readStep 59 = .ok (.iastore, 1) := by decide +kernel
theorem dX12_readStep_60 : decode cX12_readStep 60 = .ok (.iload_n 2, 1) := by decide +kernel
theorem dX12_readStep_61 : decode cX12_readStep 61 = .ok (.ifCond .le 52, 3) := by decide +kernel
theorem dX12_readStep_64 : decode cX12_readStep 64 = .ok (.aload_n 0, 1) := by decide +kernel
theorem dX12_readStep_65 : decode cX12_readStep 65 = .ok (.getfield 29, 3) := by decide +kernel
theorem dX12_readStep_68 : decode cX12_readStep 68 = .ok (.iload_n 1, 1) := by decide +kernel
theorem dX12_readStep_69 : decode cX12_readStep 69 = .ok (.iconst 1, 1) := by decide +kernel
theorem dX12_readStep_70 : decode cX12_readStep 70 = .ok (.iadd, 1) := by decide +kernel
theorem dX12_readStep_71 : decode cX12_readStep 71 = .ok (.aload_n 0, 1) := by decide +kernel
theorem dX12_readStep_72 : decode cX12_readStep 72 = .ok (.invokevirtual 174, 3) := by decide +kernel
theorem dX12_readStep_75 : decode cX12_readStep 75 = .ok (.iastore, 1) := by decide +kernel
theorem dX12_readStep_76 : decode cX12_readStep 76 = .ok (.iload_n 2, 1) := by decide +kernel
theorem dX12_readStep_77 : decode cX12_readStep 77 = .ok (.iconst 1, 1) := by decide +kernel
theorem dX12_readStep_78 : decode cX12_readStep 78 = .ok (.if_icmp .le 4, 3) := by decide +kernel
theorem dX12_readStep_81 : decode cX12_readStep 81 = .ok (.return_, 1) := by decide +kernel
theorem dX12_readStep_82 : decode cX12_readStep 82 = .ok (.aload_n 0, 1) := by decide +kernel
theorem dX12_readStep_83 : decode cX12_readStep 83 = .ok (.bipush 58, 2) := by decide +kernel
theorem dX12_readStep_85 : decode cX12_readStep 85 = .ok (.invokevirtual 177, 3) := by decide +kernel
theorem dX12_readStep_88 : decode cX12_readStep 88 = .ok (.aload_n 0, 1) := by decide +kernel
theorem dX12_readStep_89 : decode cX12_readStep 89 = .ok (.getfield 101, 3) := by decide +kernel
theorem dX12_readStep_92 : decode cX12_readStep 92 = .ok (.iconst (-1), 1) := by decide +kernel
theorem dX12_readStep_93 : decode cX12_readStep 93 = .ok (.if_icmp .ne 19, 3) := by decide +kernel
theorem dX12_readStep_96 : decode cX12_readStep 96 = .ok (.aload_n 0, 1) := by decide +kernel
theorem dX12_readStep_97 : decode cX12_readStep 97 = .ok (.getfield 29, 3) := by decide +kernel
theorem dX12_readStep_100 : decode cX12_readStep 100 = .ok (.iload_n 1, 1) := by decide +kernel
theorem dX12_readStep_101 : decode cX12_readStep 101 = .ok (.iconst 2, 1) := by decide +kernel
theorem dX12_readStep_102 : decode cX12_readStep 102 = .ok (.iadd, 1) := by decide +kernel
theorem dX12_readStep_103 : decode cX12_readStep 103 = .ok (.aload_n 0, 1) := by decide +kernel
theorem dX12_readStep_104 : decode cX12_readStep 104 = .ok (.bipush (-9), 2) := by decide +kernel
theorem dX12_readStep_106 : decode cX12_readStep 106 = .ok (.bipush 9, 2) := by decide +kernel
theorem dX12_readStep_108 : decode cX12_readStep 108 = .ok (.invokevirtual 147, 3) := by decide +kernel
theorem dX12_readStep_111 : decode cX12_readStep 111 = .ok (.iastore, 1) := by decide +kernel
theorem dX12_readStep_112 : decode cX12_readStep 112 = .ok (.return_, 1) := by decide +kernel
theorem dX12_readStep_113 : decode cX12_readStep 113 = .ok (.iconst 1, 1) := by decide +kernel
theorem dX12_readStep_114 : decode cX12_readStep 114 = .ok (.istore_n 3, 1) := by decide +kernel
theorem dX12_readStep_115 : decode cX12_readStep 115 = .ok (.iload_n 3, 1) := by decide +kernel
theorem dX12_readStep_116 : decode cX12_readStep 116 = .ok (.iconst 4, 1) := by decide +kernel
theorem dX12_readStep_117 : decode cX12_readStep 117 = .ok (.if_icmp .ge 56, 3) := by decide +kernel
theorem dX12_readStep_120 : decode cX12_readStep 120 = .ok (.aload_n 0, 1) := by decide +kernel
theorem dX12_readStep_121 : decode cX12_readStep 121 = .ok (.getfield 101, 3) := by decide +kernel
theorem dX12_readStep_124 : decode cX12_readStep 124 = .ok (.iconst (-1), 1) := by decide +kernel
theorem dX12_readStep_125 : decode cX12_readStep 125 = .ok (.if_icmp .ne 48, 3) := by decide +kernel
theorem dX12_readStep_128 : decode cX12_readStep 128 = .ok (.iload_n 3, 1) := by decide +kernel
theorem dX12_readStep_129 : decode cX12_readStep 129 = .ok (.iconst 1, 1) := by decide +kernel
theorem dX12_readStep_130 : decode cX12_readStep 130 = .ok (.if_icmp .le 9, 3) := by decide +kernel
theorem dX12_readStep_133 : decode cX12_readStep 133 = .ok (.aload_n 0, 1) := by decide +kernel
theorem dX12_readStep_134 : decode cX12_readStep 134 = .ok (.bipush 44, 2) := by decide +kernel
theorem dX12_readStep_136 : decode cX12_readStep 136 = .ok (.invokevirtual 177, 3) := by decide +kernel
theorem dX12_readStep_139 : decode cX12_readStep 139 = .ok (.aload_n 0, 1) := by decide +kernel
theorem dX12_readStep_140 : decode cX12_readStep 140 = .ok (.getfield 101, 3) := by decide +kernel
theorem dX12_readStep_143 : decode cX12_readStep 143 = .ok (.iconst (-1), 1) := by decide +kernel
theorem dX12_readStep_144 : decode cX12_readStep 144 = .ok (.if_icmp .ne 23, 3) := by decide +kernel
theorem dX12_readStep_147 : decode cX12_readStep 147 = .ok (.aload_n 0, 1) := by decide +kernel
theorem dX12_readStep_148 : decode cX12_readStep 148 = .ok (.getfield 29, 3) := by decide +kernel
theorem dX12_readStep_151 : decode cX12_readStep 151 = .ok (.iload_n 1, 1) := by decide +kernel
theorem dX12_readStep_152 : decode cX12_readStep 152 = .ok (.iload_n 3, 1) := by decide +kernel
theorem dX12_readStep_153 : decode cX12_readStep 153 = .ok (.iadd, 1) := by decide +kernel
