theorem dX11_passes_65 : decode cX11_passes 65 = .ok (.iand, 1) := by decide +kernel
theorem dX11_passes_66 : decode cX11_passes 66 = .ok (.iconst 1, 1) := by decide +kernel
theorem dX11_passes_67 : decode cX11_passes 67 = .ok (.if_icmp .ne 13, 3) := by decide +kernel
theorem dX11_passes_70 : decode cX11_passes 70 = .ok (.aload_n 0, 1) := by decide +kernel
theorem dX11_passes_71 : decode cX11_passes 71 = .ok (.getfield 35, 3) := by decide +kernel
theorem dX11_passes_74 : decode cX11_passes 74 = .ok (.iload 8, 2) := by decide +kernel
theorem dX11_passes_76 : decode cX11_passes 76 = .ok (.iaload, 1) := by decide +kernel
theorem dX11_passes_77 : decode cX11_passes 77 = .ok (.goto 10, 3) := by decide +kernel
theorem dX11_passes_80 : decode cX11_passes 80 = .ok (.aload_n 0, 1) := by decide +kernel
theorem dX11_passes_81 : decode cX11_passes 81 = .ok (.getfield 32, 3) := by decide +kernel
theorem dX11_passes_84 : decode cX11_passes 84 = .ok (.iload 8, 2) := by decide +kernel
theorem dX11_passes_86 : decode cX11_passes 86 = .ok (.iaload, 1) := by decide +kernel
theorem dX11_passes_87 : decode cX11_passes 87 = .ok (.istore 9, 2) := by decide +kernel
theorem dX11_passes_89 : decode cX11_passes 89 = .ok (.lload_n 3, 1) := by decide +kernel
theorem dX11_passes_90 : decode cX11_passes 90 = .ok (.iload 7, 2) := by decide +kernel
theorem dX11_passes_92 : decode cX11_passes 92 = .ok (.iload 8, 2) := by decide +kernel
theorem dX11_passes_94 : decode cX11_passes 94 = .ok (.ishr, 1) := by decide +kernel
theorem dX11_passes_95 : decode cX11_passes 95 = .ok (.iconst 1, 1) := by decide +kernel
theorem dX11_passes_96 : decode cX11_passes 96 = .ok (.iand, 1) := by decide +kernel
theorem dX11_passes_97 : decode cX11_passes 97 = .ok (.iconst 1, 1) := by decide +kernel
theorem dX11_passes_98 : decode cX11_passes 98 = .ok (.if_icmp .ne 9, 3) := by decide +kernel
theorem dX11_passes_101 : decode cX11_passes 101 = .ok (.iload 9, 2) := by decide +kernel
theorem dX11_passes_103 : decode cX11_passes 103 = .ok (.i2l, 1) := by decide +kernel
theorem dX11_passes_104 : decode cX11_passes 104 = .ok (.goto 9, 3) := by decide +kernel
theorem dX11_passes_107 : decode cX11_passes 107 = .ok (.bipush 8, 2) := by decide +kernel
theorem dX11_passes_109 : decode cX11_passes 109 = .ok (.iload 9, 2) := by decide +kernel
theorem dX11_passes_111 : decode cX11_passes 111 = .ok (.isub, 1) := by decide +kernel
theorem dX11_passes_112 : decode cX11_passes 112 = .ok (.i2l, 1) := by decide +kernel
theorem dX11_passes_113 : decode cX11_passes 113 = .ok (.lmul, 1) := by decide +kernel
theorem dX11_passes_114 : decode cX11_passes 114 = .ok (.lstore_n 3, 1) := by decide +kernel
theorem dX11_passes_115 : decode cX11_passes 115 = .ok (.iinc 8 1, 3) := by decide +kernel
theorem dX11_passes_118 : decode cX11_passes 118 = .ok (.goto (-75), 3) := by decide +kernel
theorem dX11_passes_121 : decode cX11_passes 121 = .ok (.aload_n 0, 1) := by decide +kernel
theorem dX11_passes_122 : decode cX11_passes 122 = .ok (.iload 7, 2) := by decide +kernel
theorem dX11_passes_124 : decode cX11_passes 124 = .ok (.invokevirtual 362, 3) := by decide +kernel
theorem dX11_passes_127 : decode cX11_passes 127 = .ok (.iinc 6 1, 3) := by decide +kernel
theorem dX11_passes_130 : decode cX11_passes 130 = .ok (.goto (-122), 3) := by decide +kernel
theorem dX11_passes_133 : decode cX11_passes 133 = .ok (.lload_n 3, 1) := by decide +kernel
theorem dX11_passes_134 : decode cX11_passes 134 = .ok (.lreturn, 1) := by decide +kernel
theorem dX11_allOdds_0 : decode cX11_allOdds 0 = .ok (.lconst 1, 1) := by decide +kernel
theorem dX11_allOdds_1 : decode cX11_allOdds 1 = .ok (.lstore_n 2, 1) := by decide +kernel
theorem dX11_allOdds_2 : decode cX11_allOdds 2 = .ok (.iconst 0, 1) := by decide +kernel
theorem dX11_allOdds_3 : decode cX11_allOdds 3 = .ok (.istore 4, 2) := by decide +kernel
theorem dX11_allOdds_5 : decode cX11_allOdds 5 = .ok (.iload 4, 2) := by decide +kernel
theorem dX11_allOdds_7 : decode cX11_allOdds 7 = .ok (.aload_n 0, 1) := by decide +kernel
theorem dX11_allOdds_8 : decode cX11_allOdds 8 = .ok (.getfield 13, 3) := by decide +kernel
theorem dX11_allOdds_11 : decode cX11_allOdds 11 = .ok (.iconst 0, 1) := by decide +kernel
theorem dX11_allOdds_12 : decode cX11_allOdds 12 = .ok (.iaload, 1) := by decide +kernel
theorem dX11_allOdds_13 : decode cX11_allOdds 13 = .ok (.iload_n 1, 1) := by decide +kernel
theorem dX11_allOdds_14 : decode cX11_allOdds 14 = .ok (.imul, 1) := by decide +kernel
theorem dX11_allOdds_15 : decode cX11_allOdds 15 = .ok (.if_icmp .ge 15, 3) := by decide +kernel
theorem dX11_allOdds_18 : decode cX11_allOdds 18 = .ok (.lload_n 2, 1) := by decide +kernel
theorem dX11_allOdds_19 : decode cX11_allOdds 19 = .ok (.ldc2_w 380, 3) := by decide +kernel
theorem dX11_allOdds_22 : decode cX11_allOdds 22 = .ok (.lmul, 1) := by decide +kernel
theorem dX11_allOdds_23 : decode cX11_allOdds 23 = .ok (.lstore_n 2, 1) := by decide +kernel
theorem dX11_allOdds_24 : decode cX11_allOdds 24 = .ok (.iinc 4 1, 3) := by decide +kernel
theorem dX11_allOdds_27 : decode cX11_allOdds 27 = .ok (.goto (-22), 3) := by decide +kernel
theorem dX11_allOdds_30 : decode cX11_allOdds 30 = .ok (.lload_n 2, 1) := by decide +kernel
theorem dX11_allOdds_31 : decode cX11_allOdds 31 = .ok (.lreturn, 1) := by decide +kernel
theorem dX11_lowest_0 : decode cX11_lowest 0 = .ok (.iload 4, 2) := by decide +kernel
theorem dX11_lowest_2 : decode cX11_lowest 2 = .ok (.ifCond .ne 7, 3) := by decide +kernel
theorem dX11_lowest_5 : decode cX11_lowest 5 = .ok (.lload_n 0, 1) := by decide +kernel
theorem dX11_lowest_6 : decode cX11_lowest 6 = .ok (.goto 4, 3) := by decide +kernel
theorem dX11_lowest_9 : decode cX11_lowest 9 = .ok (.lload_n 2, 1) := by decide +kernel
theorem dX11_lowest_10 : decode cX11_lowest 10 = .ok (.lload_n 0, 1) := by decide +kernel
theorem dX11_lowest_11 : decode cX11_lowest 11 = .ok (.lload_n 2, 1) := by decide +kernel
theorem dX11_lowest_12 : decode cX11_lowest 12 = .ok (.invokestatic 382, 3) := by decide +kernel
theorem dX11_lowest_15 : decode cX11_lowest 15 = .ok (.ldiv, 1) := by decide +kernel
theorem dX11_lowest_16 : decode cX11_lowest 16 = .ok (.lreturn, 1) := by decide +kernel
theorem dX11_worth_0 : decode cX11_worth 0 = .ok (.aload_n 0, 1) := by decide +kernel
theorem dX11_worth_1 : decode cX11_worth 1 = .ok (.iconst 0, 1) := by decide +kernel
theorem dX11_worth_2 : decode cX11_worth 2 = .ok (.putfield 132, 3) := by decide +kernel
theorem dX11_worth_5 : decode cX11_worth 5 = .ok (.aload_n 0, 1) := by decide +kernel
theorem dX11_worth_6 : decode cX11_worth 6 = .ok (.iload_n 1, 1) := by decide +kernel
theorem dX11_worth_7 : decode cX11_worth 7 = .ok (.invokevirtual 328, 3) := by decide +kernel
theorem dX11_worth_10 : decode cX11_worth 10 = .ok (.ifCond .eq 20, 3) := by decide +kernel
theorem dX11_worth_13 : decode cX11_worth 13 = .ok (.iload_n 3, 1) := by decide +kernel
theorem dX11_worth_14 : decode cX11_worth 14 = .ok (.iconst 0, 1) := by decide +kernel
theorem dX11_worth_15 : decode cX11_worth 15 = .ok (.iconst 1, 1) := by decide +kernel
theorem dX11_worth_16 : decode cX11_worth 16 = .ok (.invokestatic 257, 3) := by decide +kernel
theorem dX11_worth_19 : decode cX11_worth 19 = .ok (.ifCond .eq 11, 3) := by decide +kernel
theorem dX11_worth_22 : decode cX11_worth 22 = .ok (.aload_n 0, 1) := by decide +kernel
theorem dX11_worth_23 : decode cX11_worth 23 = .ok (.iload_n 2, 1) := by decide +kernel
theorem dX11_worth_24 : decode cX11_worth 24 = .ok (.invokevirtual 386, 3) := by decide +kernel
theorem dX11_worth_27 : decode cX11_worth 27 = .ok (.ifCond .ne 7, 3) := by decide +kernel
theorem dX11_worth_30 : decode cX11_worth 30 = .ok (.ldc2_w 389, 3) := by decide +kernel
theorem dX11_worth_33 : decode cX11_worth 33 = .ok (.lreturn, 1) := by decide +kernel
theorem dX11_worth_34 : decode cX11_worth 34 = .ok (.aload_n 0, 1) := by decide +kernel
theorem dX11_worth_35 : decode cX11_worth 35 = .ok (.getfield 117, 3) := by decide +kernel
theorem dX11_worth_38 : decode cX11_worth 38 = .ok (.iconst 0, 1) := by decide +kernel
theorem dX11_worth_39 : decode cX11_worth 39 = .ok (.aload_n 0, 1) := by decide +kernel
theorem dX11_worth_40 : decode cX11_worth 40 = .ok (.getfield 120, 3) := by decide +kernel
theorem dX11_worth_43 : decode cX11_worth 43 = .ok (.iconst 0, 1) := by decide +kernel
theorem dX11_worth_44 : decode cX11_worth 44 = .ok (.invokestatic 352, 3) := by decide +kernel
theorem dX11_worth_47 : decode cX11_worth 47 = .ok (.lconst 0, 1) := by decide +kernel
theorem dX11_worth_48 : decode cX11_worth 48 = .ok (.lstore 4, 2) := by decide +kernel
theorem dX11_worth_50 : decode cX11_worth 50 = .ok (.iconst 0, 1) := by decide +kernel
theorem dX11_worth_51 : decode cX11_worth 51 = .ok (.istore 6, 2) := by decide +kernel
theorem dX11_worth_53 : decode cX11_worth 53 = .ok (.iload 6, 2) := by decide +kernel
theorem dX11_worth_55 : decode cX11_worth 55 = .ok (.aload_n 0, 1) := by decide +kernel
theorem dX11_worth_56 : decode cX11_worth 56 = .ok (.getfield 377, 3) := by decide +kernel
theorem dX11_worth_59 : decode cX11_worth 59 = .ok (.if_icmp .ge 59, 3) := by decide +kernel
theorem dX11_worth_62 : decode cX11_worth 62 = .ok (.aload_n 0, 1) := by decide +kernel
theorem dX11_worth_63 : decode cX11_worth 63 = .ok (.iload 6, 2) := by decide +kernel
theorem dX11_worth_65 : decode cX11_worth 65 = .ok (.iload_n 2, 1) := by decide +kernel
theorem dX11_worth_66 : decode cX11_worth 66 = .ok (.invokevirtual 391, 3) := by decide +kernel
theorem dX11_worth_69 : decode cX11_worth 69 = .ok (.lstore 7, 2) := by decide +kernel
theorem dX11_worth_71 : decode cX11_worth 71 = .ok (.lload 4, 2) := by decide +kernel
theorem dX11_worth_73 : decode cX11_worth 73 = .ok (.lload 7, 2) := by decide +kernel
theorem dX11_worth_75 : decode cX11_worth 75 = .ok (.aload_n 0, 1) := by decide +kernel
theorem dX11_worth_76 : decode cX11_worth 76 = .ok (.getfield 117, 3) := by decide +kernel
theorem dX11_worth_79 : decode cX11_worth 79 = .ok (.bipush 36, 2) := by decide +kernel
theorem dX11_worth_81 : decode cX11_worth 81 = .ok (.iload_n 1, 1) := by decide +kernel
theorem dX11_worth_82 : decode cX11_worth 82 = .ok (.iadd, 1) := by decide +kernel
theorem dX11_worth_83 : decode cX11_worth 83 = .ok (.iaload, 1) := by decide +kernel
theorem dX11_worth_84 : decode cX11_worth 84 = .ok (.aload_n 0, 1) := by decide +kernel
theorem dX11_worth_85 : decode cX11_worth 85 = .ok (.getfield 120, 3) := by decide +kernel
theorem dX11_worth_88 : decode cX11_worth 88 = .ok (.bipush 36, 2) := by decide +kernel
theorem dX11_worth_90 : decode cX11_worth 90 = .ok (.iload_n 1, 1) := by decide +kernel
theorem dX11_worth_91 : decode cX11_worth 91 = .ok (.iadd, 1) := by decide +kernel
theorem dX11_worth_92 : decode cX11_worth 92 = .ok (.iaload, 1) := by decide +kernel
theorem dX11_worth_93 : decode cX11_worth 93 = .ok (.isub, 1) := by decide +kernel
theorem dX11_worth_94 : decode cX11_worth 94 = .ok (.i2l, 1) := by decide +kernel
theorem dX11_worth_95 : decode cX11_worth 95 = .ok (.lmul, 1) := by decide +kernel
theorem dX11_worth_96 : decode cX11_worth 96 = .ok (.ladd, 1) := by decide +kernel
theorem dX11_worth_97 : decode cX11_worth 97 = .ok (.lstore 4, 2) := by decide +kernel
theorem dX11_worth_99 : decode cX11_worth 99 = .ok (.aload_n 0, 1) := by decide +kernel
theorem dX11_worth_100 : decode cX11_worth 100 = .ok (.getfield 120, 3) := by decide +kernel
theorem dX11_worth_103 : decode cX11_worth 103 = .ok (.iconst 0, 1) := by decide +kernel
theorem dX11_worth_104 : decode cX11_worth 104 = .ok (.aload_n 0, 1) := by decide +kernel
theorem dX11_worth_105 : decode cX11_worth 105 = .ok (.getfield 117, 3) := by decide +kernel
theorem dX11_worth_108 : decode cX11_worth 108 = .ok (.iconst 0, 1) := by decide +kernel
theorem dX11_worth_109 : decode cX11_worth 109 = .ok (.invokestatic 352, 3) := by decide +kernel
theorem dX11_worth_112 : decode cX11_worth 112 = .ok (.iinc 6 1, 3) := by decide +kernel
theorem dX11_worth_115 : decode cX11_worth 115 = .ok (.goto (-62), 3) := by decide +kernel
theorem dX11_worth_118 : decode cX11_worth 118 = .ok (.lload 4, 2) := by decide +kernel
theorem dX11_worth_120 : decode cX11_worth 120 = .ok (.aload_n 0, 1) := by decide +kernel
theorem dX11_worth_121 : decode cX11_worth 121 = .ok (.iload_n 2, 1) := by decide +kernel
theorem dX11_worth_122 : decode cX11_worth 122 = .ok (.invokevirtual 395, 3) := by decide +kernel
theorem dX11_worth_125 : decode cX11_worth 125 = .ok (.iload_n 3, 1) := by decide +kernel
theorem dX11_worth_126 : decode cX11_worth 126 = .ok (.invokestatic 399, 3) := by decide +kernel
theorem dX11_worth_129 : decode cX11_worth 129 = .ok (.lreturn, 1) := by decide +kernel
theorem dX11_chance_0 : decode cX11_chance 0 = .ok (.aload_n 0, 1) := by decide +kernel
theorem dX11_chance_1 : decode cX11_chance 1 = .ok (.iconst 0, 1) := by decide +kernel
theorem dX11_chance_2 : decode cX11_chance 2 = .ok (.putfield 132, 3) := by decide +kernel
theorem dX11_chance_5 : decode cX11_chance 5 = .ok (.aload_n 0, 1) := by decide +kernel
theorem dX11_chance_6 : decode cX11_chance 6 = .ok (.iload_n 1, 1) := by decide +kernel
theorem dX11_chance_7 : decode cX11_chance 7 = .ok (.invokevirtual 328, 3) := by decide +kernel
theorem dX11_chance_10 : decode cX11_chance 10 = .ok (.ifCond .eq 20, 3) := by decide +kernel
theorem dX11_chance_13 : decode cX11_chance 13 = .ok (.iload_n 3, 1) := by decide +kernel
theorem dX11_chance_14 : decode cX11_chance 14 = .ok (.iconst 0, 1) := by decide +kernel
theorem dX11_chance_15 : decode cX11_chance 15 = .ok (.iconst 1, 1) := by decide +kernel
theorem dX11_chance_16 : decode cX11_chance 16 = .ok (.invokestatic 257, 3) := by decide +kernel
theorem dX11_chance_19 : decode cX11_chance 19 = .ok (.ifCond .eq 11, 3) := by decide +kernel
theorem dX11_chance_22 : decode cX11_chance 22 = .ok (.aload_n 0, 1) := by decide +kernel
theorem dX11_chance_23 : decode cX11_chance 23 = .ok (.iload_n 2, 1) := by decide +kernel
theorem dX11_chance_24 : decode cX11_chance 24 = .ok (.invokevirtual 386, 3) := by decide +kernel
theorem dX11_chance_27 : decode cX11_chance 27 = .ok (.ifCond .ne 7, 3) := by decide +kernel
theorem dX11_chance_30 : decode cX11_chance 30 = .ok (.ldc2_w 389, 3) := by decide +kernel
theorem dX11_chance_33 : decode cX11_chance 33 = .ok (.lreturn, 1) := by decide +kernel
theorem dX11_chance_34 : decode cX11_chance 34 = .ok (.aload_n 0, 1) := by decide +kernel
theorem dX11_chance_35 : decode cX11_chance 35 = .ok (.getfield 117, 3) := by decide +kernel
theorem dX11_chance_38 : decode cX11_chance 38 = .ok (.iconst 0, 1) := by decide +kernel
theorem dX11_chance_39 : decode cX11_chance 39 = .ok (.aload_n 0, 1) := by decide +kernel
theorem dX11_chance_40 : decode cX11_chance 40 = .ok (.getfield 120, 3) := by decide +kernel
theorem dX11_chance_43 : decode cX11_chance 43 = .ok (.iconst 0, 1) := by decide +kernel
theorem dX11_chance_44 : decode cX11_chance 44 = .ok (.invokestatic 352, 3) := by decide +kernel
theorem dX11_chance_47 : decode cX11_chance 47 = .ok (.lconst 0, 1) := by decide +kernel
theorem dX11_chance_48 : decode cX11_chance 48 = .ok (.lstore 4, 2) := by decide +kernel
theorem dX11_chance_50 : decode cX11_chance 50 = .ok (.iconst 0, 1) := by decide +kernel
theorem dX11_chance_51 : decode cX11_chance 51 = .ok (.istore 6, 2) := by decide +kernel
theorem dX11_chance_53 : decode cX11_chance 53 = .ok (.iload 6, 2) := by decide +kernel
theorem dX11_chance_55 : decode cX11_chance 55 = .ok (.aload_n 0, 1) := by decide +kernel
theorem dX11_chance_56 : decode cX11_chance 56 = .ok (.getfield 377, 3) := by decide +kernel
theorem dX11_chance_59 : decode cX11_chance 59 = .ok (.if_icmp .ge 54, 3) := by decide +kernel
theorem dX11_chance_62 : decode cX11_chance 62 = .ok (.aload_n 0, 1) := by decide +kernel
theorem dX11_chance_63 : decode cX11_chance 63 = .ok (.iload 6, 2) := by decide +kernel
theorem dX11_chance_65 : decode cX11_chance 65 = .ok (.iload_n 2, 1) := by decide +kernel
theorem dX11_chance_66 : decode cX11_chance 66 = .ok (.invokevirtual 391, 3) := by decide +kernel
theorem dX11_chance_69 : decode cX11_chance 69 = .ok (.lstore 7, 2) := by decide +kernel
theorem dX11_chance_71 : decode cX11_chance 71 = .ok (.lload 4, 2) := by decide +kernel
theorem dX11_chance_73 : decode cX11_chance 73 = .ok (.aload_n 0, 1) := by decide +kernel
theorem dX11_chance_74 : decode cX11_chance 74 = .ok (.getfield 117, 3) := by decide +kernel
theorem dX11_chance_77 : decode cX11_chance 77 = .ok (.bipush 16, 2) := by decide +kernel
theorem dX11_chance_79 : decode cX11_chance 79 = .ok (.iload_n 1, 1) := by decide +kernel
theorem dX11_chance_80 : decode cX11_chance 80 = .ok (.iadd, 1) := by decide +kernel
theorem dX11_chance_81 : decode cX11_chance 81 = .ok (.iaload, 1) := by decide +kernel
theorem dX11_chance_82 : decode cX11_chance 82 = .ok (.ifCond .le 8, 3) := by decide +kernel
theorem dX11_chance_85 : decode cX11_chance 85 = .ok (.lload 7, 2) := by decide +kernel
theorem dX11_chance_87 : decode cX11_chance 87 = .ok (.goto 4, 3) := by decide +kernel
theorem dX11_chance_90 : decode cX11_chance 90 = .ok (.lconst 0, 1) := by decide +kernel
theorem dX11_chance_91 : decode cX11_chance 91 = .ok (.ladd, 1) := by decide +kernel
theorem dX11_chance_92 : decode cX11_chance 92 = .ok (.lstore 4, 2) := by decide +kernel
theorem dX11_chance_94 : decode cX11_chance 94 = .ok (.aload_n 0, 1) := by decide +kernel
theorem dX11_chance_95 : decode cX11_chance 95 = .ok (.getfield 120, 3) := by decide +kernel
theorem dX11_chance_98 : decode cX11_chance 98 = .ok (.iconst 0, 1) := by decide +kernel
theorem dX11_chance_99 : decode cX11_chance 99 = .ok (.aload_n 0, 1) := by decide +kernel
theorem dX11_chance_100 : decode cX11_chance 100 = .ok (.getfield 117, 3) := by decide +kernel
theorem dX11_chance_103 : decode cX11_chance 103 = .ok (.iconst 0, 1) := by decide +kernel
theorem dX11_chance_104 : decode cX11_chance 104 = .ok (.invokestatic 352, 3) := by decide +kernel
theorem dX11_chance_107 : decode cX11_chance 107 = .ok (.iinc 6 1, 3) := by decide +kernel
theorem dX11_chance_110 : decode cX11_chance 110 = .ok (.goto (-57), 3) := by decide +kernel
theorem dX11_chance_113 : decode cX11_chance 113 = .ok (.lload 4, 2) := by decide +kernel
theorem dX11_chance_115 : decode cX11_chance 115 = .ok (.aload_n 0, 1) := by decide +kernel
theorem dX11_chance_116 : decode cX11_chance 116 = .ok (.iload_n 2, 1) := by decide +kernel
theorem dX11_chance_117 : decode cX11_chance 117 = .ok (.invokevirtual 395, 3) := by decide +kernel
theorem dX11_chance_120 : decode cX11_chance 120 = .ok (.iload_n 3, 1) := by decide +kernel
theorem dX11_chance_121 : decode cX11_chance 121 = .ok (.invokestatic 399, 3) := by decide +kernel
theorem dX11_chance_124 : decode cX11_chance 124 = .ok (.lreturn, 1) := by decide +kernel
theorem dX11_better_0 : decode cX11_better 0 = .ok (.aload_n 0, 1) := by decide +kernel
theorem dX11_better_1 : decode cX11_better 1 = .ok (.iconst 0, 1) := by decide +kernel
theorem dX11_better_2 : decode cX11_better 2 = .ok (.putfield 132, 3) := by decide +kernel
theorem dX11_better_5 : decode cX11_better 5 = .ok (.aload_n 0, 1) := by decide +kernel
theorem dX11_better_6 : decode cX11_better 6 = .ok (.iload_n 1, 1) := by decide +kernel
theorem dX11_better_7 : decode cX11_better 7 = .ok (.invokevirtual 368, 3) := by decide +kernel
theorem dX11_better_10 : decode cX11_better 10 = .ok (.ifCond .eq 11, 3) := by decide +kernel
theorem dX11_better_13 : decode cX11_better 13 = .ok (.aload_n 0, 1) := by decide +kernel
theorem dX11_better_14 : decode cX11_better 14 = .ok (.iload_n 2, 1) := by decide +kernel
theorem dX11_better_15 : decode cX11_better 15 = .ok (.invokevirtual 386, 3) := by decide +kernel
theorem dX11_better_18 : decode cX11_better 18 = .ok (.ifCond .ne 6, 3) := by decide +kernel
theorem dX11_better_21 : decode cX11_better 21 = .ok (.bipush (-2), 2) := by decide +kernel
theorem dX11_better_23 : decode cX11_better 23 = .ok (.ireturn, 1) := by decide +kernel
theorem dX11_better_24 : decode cX11_better 24 = .ok (.aload_n 0, 1) := by decide +kernel
theorem dX11_better_25 : decode cX11_better 25 = .ok (.getfield 117, 3) := by decide +kernel
theorem dX11_better_28 : decode cX11_better 28 = .ok (.iconst 0, 1) := by decide +kernel
theorem dX11_better_29 : decode cX11_better 29 = .ok (.aload_n 0, 1) := by decide +kernel
theorem dX11_better_30 : decode cX11_better 30 = .ok (.getfield 120, 3) := by decide +kernel
theorem dX11_better_33 : decode cX11_better 33 = .ok (.iconst 0, 1) := by decide +kernel
theorem dX11_better_34 : decode cX11_better 34 = .ok (.invokestatic 352, 3) := by decide +kernel
theorem dX11_better_37 : decode cX11_better 37 = .ok (.lconst 0, 1) := by decide +kernel
theorem dX11_better_38 : decode cX11_better 38 = .ok (.lstore_n 3, 1) := by decide +kernel
theorem dX11_better_39 : decode cX11_better 39 = .ok (.iconst 0, 1) := by decide +kernel
theorem dX11_better_40 : decode cX11_better 40 = .ok (.istore 5, 2) := by decide +kernel
theorem dX11_better_42 : decode cX11_better 42 = .ok (.iload 5, 2) := by decide +kernel
theorem dX11_better_44 : decode cX11_better 44 = .ok (.iconst 2, 1) := by decide +kernel
theorem dX11_better_45 : decode cX11_better 45 = .ok (.aload_n 0, 1) := by decide +kernel
theorem dX11_better_46 : decode cX11_better 46 = .ok (.getfield 377, 3) := by decide +kernel
theorem dX11_better_49 : decode cX11_better 49 = .ok (.imul, 1) := by decide +kernel
theorem dX11_better_50 : decode cX11_better 50 = .ok (.if_icmp .ge 91, 3) := by decide +kernel
theorem dX11_better_53 : decode cX11_better 53 = .ok (.iload 5, 2) := by decide +kernel
theorem dX11_better_55 : decode cX11_better 55 = .ok (.aload_n 0, 1) := by decide +kernel
theorem dX11_better_56 : decode cX11_better 56 = .ok (.getfield 377, 3) := by decide +kernel
theorem dX11_better_59 : decode cX11_better 59 = .ok (.if_icmp .lt 7, 3) := by decide +kernel
theorem dX11_better_62 : decode cX11_better 62 = .ok (.iconst 1, 1) := by decide +kernel
theorem dX11_better_63 : decode cX11_better 63 = .ok (.goto 4, 3) := by decide +kernel
theorem dX11_better_66 : decode cX11_better 66 = .ok (.iconst 0, 1) := by decide +kernel
theorem dX11_better_67 : decode cX11_better 67 = .ok (.istore 6, 2) := by decide +kernel
theorem dX11_better_69 : decode cX11_better 69 = .ok (.iload 6, 2) := by decide +kernel
theorem dX11_better_71 : decode cX11_better 71 = .ok (.ifCond .eq 8, 3) := by decide +kernel
theorem dX11_better_74 : decode cX11_better 74 = .ok (.aload_n 0, 1) := by decide +kernel
theorem dX11_better_75 : decode cX11_better 75 = .ok (.iload_n 1, 1) := by decide +kernel
theorem dX11_better_76 : decode cX11_better 76 = .ok (.invokevirtual 371, 3) := by decide +kernel
theorem dX11_better_79 : decode cX11_better 79 = .ok (.aload_n 0, 1) := by decide +kernel
theorem dX11_better_80 : decode cX11_better 80 = .ok (.iload 5, 2) := by decide +kernel
theorem dX11_better_82 : decode cX11_better 82 = .ok (.aload_n 0, 1) := by decide +kernel
theorem dX11_better_83 : decode cX11_better 83 = .ok (.getfield 377, 3) := by decide +kernel
theorem dX11_better_86 : decode cX11_better 86 = .ok (.irem, 1) := by decide +kernel
theorem dX11_better_87 : decode cX11_better 87 = .ok (.iload_n 2, 1) := by decide +kernel
theorem dX11_better_88 : decode cX11_better 88 = .ok (.invokevirtual 391, 3) := by decide +kernel
theorem dX11_better_91 : decode cX11_better 91 = .ok (.lstore 7, 2) := by decide +kernel
theorem dX11_better_93 : decode cX11_better 93 = .ok (.lload_n 3, 1) := by decide +kernel
theorem dX11_better_94 : decode cX11_better 94 = .ok (.iload 6, 2) := by decide +kernel
theorem dX11_better_96 : decode cX11_better 96 = .ok (.ifCond .eq 8, 3) := by decide +kernel
theorem dX11_better_99 : decode cX11_better 99 = .ok (.lload 7, 2) := by decide +kernel
theorem dX11_better_101 : decode cX11_better 101 = .ok (.goto 6, 3) := by decide +kernel
theorem dX11_better_104 : decode cX11_better 104 = .ok (.lload 7, 2) := by decide +kernel
theorem dX11_better_106 : decode cX11_better 106 = .ok (.lneg, 1) := by decide +kernel
theorem dX11_better_107 : decode cX11_better 107 = .ok (.aload_n 0, 1) := by decide +kernel
theorem dX11_better_108 : decode cX11_better 108 = .ok (.getfield 117, 3) := by decide +kernel
theorem dX11_better_111 : decode cX11_better 111 = .ok (.aload_n 0, 1) := by decide +kernel
theorem dX11_better_112 : decode cX11_better 112 = .ok (.getfield 44, 3) := by decide +kernel
theorem dX11_better_115 : decode cX11_better 115 = .ok (.iload_n 1, 1) := by decide +kernel
theorem dX11_better_116 : decode cX11_better 116 = .ok (.iaload, 1) := by decide +kernel
theorem dX11_better_117 : decode cX11_better 117 = .ok (.iaload, 1) := by decide +kernel
theorem dX11_better_118 : decode cX11_better 118 = .ok (.i2l, 1) := by decide +kernel
theorem dX11_better_119 : decode cX11_better 119 = .ok (.lmul, 1) := by decide +kernel
theorem dX11_better_120 : decode cX11_better 120 = .ok (.ladd, 1) := by decide +kernel
theorem dX11_better_121 : decode cX11_better 121 = .ok (.lstore_n 3, 1) := by decide +kernel
theorem dX11_better_122 : decode cX11_better 122 = .ok (.aload_n 0, 1) := by decide +kernel
theorem dX11_better_123 : decode cX11_better 123 = .ok (.getfield 120, 3) := by decide +kernel
theorem dX11_better_126 : decode cX11_better 126 = .ok (.iconst 0, 1) := by decide +kernel
theorem dX11_better_127 : decode cX11_better 127 = .ok (.aload_n 0, 1) := by decide +kernel
theorem dX11_better_128 : decode cX11_better 128 = .ok (.getfield 117, 3) := by decide +kernel
theorem dX11_better_131 : decode cX11_better 131 = .ok (.iconst 0, 1) := by decide +kernel
theorem dX11_better_132 : decode cX11_better 132 = .ok (.invokestatic 352, 3) := by decide +kernel
theorem dX11_better_135 : decode cX11_better 135 = .ok (.iinc 5 1, 3) := by decide +kernel
theorem dX11_better_138 : decode cX11_better 138 = .ok (.goto (-96), 3) := by decide +kernel
theorem dX11_better_141 : decode cX11_better 141 = .ok (.lload_n 3, 1) := by decide +kernel
theorem dX11_better_142 : decode cX11_better 142 = .ok (.lconst 0, 1) := by decide +kernel
theorem dX11_better_143 : decode cX11_better 143 = .ok (.lcmp, 1) := by decide +kernel
theorem dX11_better_144 : decode cX11_better 144 = .ok (.ifCond .le 7, 3) := by decide +kernel
theorem dX11_better_147 : decode cX11_better 147 = .ok (.iconst 1, 1) := by decide +kernel
theorem dX11_better_148 : decode cX11_better 148 = .ok (.goto 14, 3) := by decide +kernel
theorem dX11_better_151 : decode cX11_better 151 = .ok (.lload_n 3, 1) := by decide +kernel
theorem dX11_better_152 : decode cX11_better 152 = .ok (.lconst 0, 1) := by decide +kernel
theorem dX11_better_153 : decode cX11_better 153 = .ok (.lcmp, 1) := by decide +kernel
theorem dX11_better_154 : decode cX11_better 154 = .ok (.ifCond .ge 7, 3) := by decide +kernel
theorem dX11_better_157 : decode cX11_better 157 = .ok (.iconst (-1), 1) := by decide +kernel
theorem dX11_better_158 : decode cX11_better 158 = .ok (.goto 4, 3) := by decide +kernel
theorem dX11_better_161 : decode cX11_better 161 = .ok (.iconst 0, 1) := by decide +kernel
theorem dX11_better_162 : decode cX11_better 162 = .ok (.ireturn, 1) := by decide +kernel
theorem dX11_fitting_0 : decode cX11_fitting 0 = .ok (.aload_n 0, 1) := by decide +kernel
theorem dX11_fitting_1 : decode cX11_fitting 1 = .ok (.getfield 117, 3) := by decide +kernel
theorem dX11_fitting_4 : decode cX11_fitting 4 = .ok (.iconst 0, 1) := by decide +kernel
theorem dX11_fitting_5 : decode cX11_fitting 5 = .ok (.aload_n 0, 1) := by decide +kernel
theorem dX11_fitting_6 : decode cX11_fitting 6 = .ok (.getfield 120, 3) := by decide +kernel
theorem dX11_fitting_9 : decode cX11_fitting 9 = .ok (.iconst 0, 1) := by decide +kernel
theorem dX11_fitting_10 : decode cX11_fitting 10 = .ok (.invokestatic 352, 3) := by decide +kernel
theorem dX11_fitting_13 : decode cX11_fitting 13 = .ok (.iconst 0, 1) := by decide +kernel
theorem dX11_fitting_14 : decode cX11_fitting 14 = .ok (.istore 5, 2) := by decide +kernel
theorem dX11_fitting_16 : decode cX11_fitting 16 = .ok (.iconst (-1), 1) := by decide +kernel
theorem dX11_fitting_17 : decode cX11_fitting 17 = .ok (.istore 6, 2) := by decide +kernel
theorem dX11_fitting_19 : decode cX11_fitting 19 = .ok (.iconst 0, 1) := by decide +kernel
theorem dX11_fitting_20 : decode cX11_fitting 20 = .ok (.istore 7, 2) := by decide +kernel
theorem dX11_fitting_22 : decode cX11_fitting 22 = .ok (.iload 7, 2) := by decide +kernel
theorem dX11_fitting_24 : decode cX11_fitting 24 = .ok (.aload_n 0, 1) := by decide +kernel
theorem dX11_fitting_25 : decode cX11_fitting 25 = .ok (.getfield 377, 3) := by decide +kernel
theorem dX11_fitting_28 : decode cX11_fitting 28 = .ok (.if_icmp .ge 83, 3) := by decide +kernel
theorem dX11_fitting_31 : decode cX11_fitting 31 = .ok (.iload 6, 2) := by decide +kernel
theorem dX11_fitting_33 : decode cX11_fitting 33 = .ok (.ifCond .ge 78, 3) := by decide +kernel
theorem dX11_fitting_36 : decode cX11_fitting 36 = .ok (.aload_n 0, 1) := by decide +kernel
theorem dX11_fitting_37 : decode cX11_fitting 37 = .ok (.iload 7, 2) := by decide +kernel
theorem dX11_fitting_39 : decode cX11_fitting 39 = .ok (.iload_n 1, 1) := by decide +kernel
theorem dX11_fitting_40 : decode cX11_fitting 40 = .ok (.invokevirtual 391, 3) := by decide +kernel
theorem dX11_fitting_43 : decode cX11_fitting 43 = .ok (.pop2, 1) := by decide +kernel
theorem dX11_fitting_44 : decode cX11_fitting 44 = .ok (.aload_n 0, 1) := by decide +kernel
theorem dX11_fitting_45 : decode cX11_fitting 45 = .ok (.getfield 117, 3) := by decide +kernel
theorem dX11_fitting_48 : decode cX11_fitting 48 = .ok (.iload_n 2, 1) := by decide +kernel
theorem dX11_fitting_49 : decode cX11_fitting 49 = .ok (.iaload, 1) := by decide +kernel
theorem dX11_fitting_50 : decode cX11_fitting 50 = .ok (.iload_n 3, 1) := by decide +kernel
theorem dX11_fitting_51 : decode cX11_fitting 51 = .ok (.if_icmp .ne 7, 3) := by decide +kernel
theorem dX11_fitting_54 : decode cX11_fitting 54 = .ok (.iconst 1, 1) := by decide +kernel
theorem dX11_fitting_55 : decode cX11_fitting 55 = .ok (.goto 4, 3) := by decide +kernel
theorem dX11_fitting_58 : decode cX11_fitting 58 = .ok (.iconst 0, 1) := by decide +kernel
theorem dX11_fitting_59 : decode cX11_fitting 59 = .ok (.istore 8, 2) := by decide +kernel
theorem dX11_fitting_61 : decode cX11_fitting 61 = .ok (.aload_n 0, 1) := by decide +kernel
theorem dX11_fitting_62 : decode cX11_fitting 62 = .ok (.getfield 120, 3) := by decide +kernel
theorem dX11_fitting_65 : decode cX11_fitting 65 = .ok (.iconst 0, 1) := by decide +kernel
theorem dX11_fitting_66 : decode cX11_fitting 66 = .ok (.aload_n 0, 1) := by decide +kernel
theorem dX11_fitting_67 : decode cX11_fitting 67 = .ok (.getfield 117, 3) := by decide +kernel
theorem dX11_fitting_70 : decode cX11_fitting 70 = .ok (.iconst 0, 1) := by decide +kernel
theorem dX11_fitting_71 : decode cX11_fitting 71 = .ok (.invokestatic 352, 3) := by decide +kernel
theorem dX11_fitting_74 : decode cX11_fitting 74 = .ok (.iload 8, 2) := by decide +kernel
theorem dX11_fitting_76 : decode cX11_fitting 76 = .ok (.ifCond .eq 14, 3) := by decide +kernel
theorem dX11_fitting_79 : decode cX11_fitting 79 = .ok (.iload 5, 2) := by decide +kernel
theorem dX11_fitting_81 : decode cX11_fitting 81 = .ok (.iload 4, 2) := by decide +kernel
theorem dX11_fitting_83 : decode cX11_fitting 83 = .ok (.if_icmp .ne 7, 3) := by decide +kernel
theorem dX11_fitting_86 : decode cX11_fitting 86 = .ok (.iload 7, 2) := by decide +kernel
theorem dX11_fitting_88 : decode cX11_fitting 88 = .ok (.istore 6, 2) := by decide +kernel
theorem dX11_fitting_90 : decode cX11_fitting 90 = .ok (.iload 5, 2) := by decide +kernel
theorem dX11_fitting_92 : decode cX11_fitting 92 = .ok (.iload 8, 2) := by decide +kernel
theorem dX11_fitting_94 : decode cX11_fitting 94 = .ok (.ifCond .eq 7, 3) := by decide +kernel
theorem dX11_fitting_97 : decode cX11_fitting 97 = .ok (.iconst 1, 1) := by decide +kernel
theorem dX11_fitting_98 : decode cX11_fitting 98 = .ok (.goto 4, 3) := by decide +kernel
theorem dX11_fitting_101 : decode cX11_fitting 101 = .ok (.iconst 0, 1) := by decide +kernel
theorem dX11_fitting_102 : decode cX11_fitting 102 = .ok (.iadd, 1) := by decide +kernel
theorem dX11_fitting_103 : decode cX11_fitting 103 = .ok (.istore 5, 2) := by decide +kernel
theorem dX11_fitting_105 : decode cX11_fitting 105 = .ok (.iinc 7 1, 3) := by decide +kernel
theorem dX11_fitting_108 : decode cX11_fitting 108 = .ok (.goto (-86), 3) := by decide +kernel
theorem dX11_fitting_111 : decode cX11_fitting 111 = .ok (.iload 4, 2) := by decide +kernel
theorem dX11_fitting_113 : decode cX11_fitting 113 = .ok (.ifCond .ge 8, 3) := by decide +kernel
theorem dX11_fitting_116 : decode cX11_fitting 116 = .ok (.iload 5, 2) := by decide +kernel
theorem dX11_fitting_118 : decode cX11_fitting 118 = .ok (.goto 5, 3) := by decide +kernel
theorem dX11_fitting_121 : decode cX11_fitting 121 = .ok (.iload 6, 2) := by decide +kernel
theorem dX11_fitting_123 : decode cX11_fitting 123 = .ok (.ireturn, 1) := by decide +kernel
theorem dX11_fits_0 : decode cX11_fits 0 = .ok (.aload_n 0, 1) := by decide +kernel
theorem dX11_fits_1 : decode cX11_fits 1 = .ok (.iconst 0, 1) := by decide +kernel
theorem dX11_fits_2 : decode cX11_fits 2 = .ok (.putfield 132, 3) := by decide +kernel
theorem dX11_fits_5 : decode cX11_fits 5 = .ok (.aload_n 0, 1) := by decide +kernel
theorem dX11_fits_6 : decode cX11_fits 6 = .ok (.iload_n 2, 1) := by decide +kernel
theorem dX11_fits_7 : decode cX11_fits 7 = .ok (.invokevirtual 325, 3) := by decide +kernel
theorem dX11_fits_10 : decode cX11_fits 10 = .ok (.ifCond .eq 33, 3) := by decide +kernel
theorem dX11_fits_13 : decode cX11_fits 13 = .ok (.iload_n 3, 1) := by decide +kernel
theorem dX11_fits_14 : decode cX11_fits 14 = .ok (.iconst 0, 1) := by decide +kernel
theorem dX11_fits_15 : decode cX11_fits 15 = .ok (.ldc_w 403, 3) := by decide +kernel
theorem dX11_fits_18 : decode cX11_fits 18 = .ok (.invokestatic 257, 3) := by decide +kernel
theorem dX11_fits_21 : decode cX11_fits 21 = .ok (.ifCond .eq 22, 3) := by decide +kernel
theorem dX11_fits_24 : decode cX11_fits 24 = .ok (.aload_n 0, 1) := by decide +kernel
theorem dX11_fits_25 : decode cX11_fits 25 = .ok (.iload_n 1, 1) := by decide +kernel
theorem dX11_fits_26 : decode cX11_fits 26 = .ok (.invokevirtual 386, 3) := by decide +kernel
theorem dX11_fits_29 : decode cX11_fits 29 = .ok (.ifCond .eq 14, 3) := by decide +kernel
theorem dX11_fits_32 : decode cX11_fits 32 = .ok (.aload_n 0, 1) := by decide +kernel
theorem dX11_fits_33 : decode cX11_fits 33 = .ok (.iload_n 1, 1) := by decide +kernel
theorem dX11_fits_34 : decode cX11_fits 34 = .ok (.iload_n 2, 1) := by decide +kernel
theorem dX11_fits_35 : decode cX11_fits 35 = .ok (.iload_n 3, 1) := by decide +kernel
theorem dX11_fits_36 : decode cX11_fits 36 = .ok (.iconst (-1), 1) := by decide +kernel
theorem dX11_fits_37 : decode cX11_fits 37 = .ok (.invokevirtual 404, 3) := by decide +kernel
theorem dX11_fits_40 : decode cX11_fits 40 = .ok (.goto 4, 3) := by decide +kernel
theorem dX11_fits_43 : decode cX11_fits 43 = .ok (.iconst (-1), 1) := by decide +kernel
theorem dX11_fits_44 : decode cX11_fits 44 = .ok (.ireturn, 1) := by decide +kernel
theorem dX11_fit_0 : decode cX11_fit 0 = .ok (.aload_n 0, 1) := by decide +kernel
theorem dX11_fit_1 : decode cX11_fit 1 = .ok (.iconst 0, 1) := by decide +kernel
theorem dX11_fit_2 : decode cX11_fit 2 = .ok (.putfield 132, 3) := by decide +kernel
theorem dX11_fit_5 : decode cX11_fit 5 = .ok (.iload 4, 2) := by decide +kernel
theorem dX11_fit_7 : decode cX11_fit 7 = .ok (.ifCond .lt 42, 3) := by decide +kernel
theorem dX11_fit_10 : decode cX11_fit 10 = .ok (.aload_n 0, 1) := by decide +kernel
theorem dX11_fit_11 : decode cX11_fit 11 = .ok (.iload_n 2, 1) := by decide +kernel
theorem dX11_fit_12 : decode cX11_fit 12 = .ok (.invokevirtual 325, 3) := by decide +kernel
theorem dX11_fit_15 : decode cX11_fit 15 = .ok (.ifCond .eq 34, 3) := by decide +kernel
theorem dX11_fit_18 : decode cX11_fit 18 = .ok (.iload_n 3, 1) := by decide +kernel
theorem dX11_fit_19 : decode cX11_fit 19 = .ok (.iconst 0, 1) := by decide +kernel
theorem dX11_fit_20 : decode cX11_fit 20 = .ok (.ldc_w 403, 3) := by decide +kernel
theorem dX11_fit_23 : decode cX11_fit 23 = .ok (.invokestatic 257, 3) := by decide +kernel
theorem dX11_fit_26 : decode cX11_fit 26 = .ok (.ifCond .eq 23, 3) := by decide +kernel
theorem dX11_fit_29 : decode cX11_fit 29 = .ok (.aload_n 0, 1) := by decide +kernel
theorem dX11_fit_30 : decode cX11_fit 30 = .ok (.iload_n 1, 1) := by decide +kernel
theorem dX11_fit_31 : decode cX11_fit 31 = .ok (.invokevirtual 386, 3) := by decide +kernel
theorem dX11_fit_34 : decode cX11_fit 34 = .ok (.ifCond .eq 15, 3) := by decide +kernel
theorem dX11_fit_37 : decode cX11_fit 37 = .ok (.aload_n 0, 1) := by decide +kernel
theorem dX11_fit_38 : decode cX11_fit 38 = .ok (.iload_n 1, 1) := by decide +kernel
theorem dX11_fit_39 : decode cX11_fit 39 = .ok (.iload_n 2, 1) := by decide +kernel
theorem dX11_fit_40 : decode cX11_fit 40 = .ok (.iload_n 3, 1) := by decide +kernel
theorem dX11_fit_41 : decode cX11_fit 41 = .ok (.iload 4, 2) := by decide +kernel
theorem dX11_fit_43 : decode cX11_fit 43 = .ok (.invokevirtual 404, 3) := by decide +kernel
theorem dX11_fit_46 : decode cX11_fit 46 = .ok (.goto 4, 3) := by decide +kernel
theorem dX11_fit_49 : decode cX11_fit 49 = .ok (.iconst (-1), 1) := by decide +kernel
theorem dX11_fit_50 : decode cX11_fit 50 = .ok (.ireturn, 1) := by decide +kernel
theorem dX11_gains_0 : decode cX11_gains 0 = .ok (.aload_n 0, 1) := by decide +kernel
theorem dX11_gains_1 : decode cX11_gains 1 = .ok (.getfield 114, 3) := by decide +kernel
theorem dX11_gains_4 : decode cX11_gains 4 = .ok (.iconst 5, 1) := by decide +kernel
theorem dX11_gains_5 : decode cX11_gains 5 = .ok (.iconst 0, 1) := by decide +kernel
theorem dX11_gains_6 : decode cX11_gains 6 = .ok (.iastore, 1) := by decide +kernel
theorem dX11_gains_7 : decode cX11_gains 7 = .ok (.iconst 0, 1) := by decide +kernel
theorem dX11_gains_8 : decode cX11_gains 8 = .ok (.istore_n 3, 1) := by decide +kernel
theorem dX11_gains_9 : decode cX11_gains 9 = .ok (.iload_n 3, 1) := by decide +kernel
theorem dX11_gains_10 : decode cX11_gains 10 = .ok (.iconst 4, 1) := by decide +kernel
theorem dX11_gains_11 : decode cX11_gains 11 = .ok (.if_icmp .ge 39, 3) := by decide +kernel
theorem dX11_gains_14 : decode cX11_gains 14 = .ok (.aload_n 0, 1) := by decide +kernel
theorem dX11_gains_15 : decode cX11_gains 15 = .ok (.getfield 114, 3) := by decide +kernel
theorem dX11_gains_18 : decode cX11_gains 18 = .ok (.iconst 1, 1) := by decide +kernel
theorem dX11_gains_19 : decode cX11_gains 19 = .ok (.iload_n 3, 1) := by decide +kernel
theorem dX11_gains_20 : decode cX11_gains 20 = .ok (.iadd, 1) := by decide +kernel
theorem dX11_gains_21 : decode cX11_gains 21 = .ok (.iload_n 2, 1) := by decide +kernel
theorem dX11_gains_22 : decode cX11_gains 22 = .ok (.iload_n 3, 1) := by decide +kernel
theorem dX11_gains_23 : decode cX11_gains 23 = .ok (.ishr, 1) := by decide +kernel
theorem dX11_gains_24 : decode cX11_gains 24 = .ok (.iconst 1, 1) := by decide +kernel
theorem dX11_gains_25 : decode cX11_gains 25 = .ok (.iand, 1) := by decide +kernel
theorem dX11_gains_26 : decode cX11_gains 26 = .ok (.iastore, 1) := by decide +kernel
theorem dX11_gains_27 : decode cX11_gains 27 = .ok (.aload_n 0, 1) := by decide +kernel
theorem dX11_gains_28 : decode cX11_gains 28 = .ok (.getfield 114, 3) := by decide +kernel
theorem dX11_gains_31 : decode cX11_gains 31 = .ok (.iconst 5, 1) := by decide +kernel
theorem dX11_gains_32 : decode cX11_gains 32 = .ok (.dup2, 1) := by decide +kernel
theorem dX11_gains_33 : decode cX11_gains 33 = .ok (.iaload, 1) := by decide +kernel
theorem dX11_gains_34 : decode cX11_gains 34 = .ok (.aload_n 0, 1) := by decide +kernel
theorem dX11_gains_35 : decode cX11_gains 35 = .ok (.getfield 114, 3) := by decide +kernel
theorem dX11_gains_38 : decode cX11_gains 38 = .ok (.iconst 1, 1) := by decide +kernel
theorem dX11_gains_39 : decode cX11_gains 39 = .ok (.iload_n 3, 1) := by decide +kernel
theorem dX11_gains_40 : decode cX11_gains 40 = .ok (.iadd, 1) := by decide +kernel
theorem dX11_gains_41 : decode cX11_gains 41 = .ok (.iaload, 1) := by decide +kernel
theorem dX11_gains_42 : decode cX11_gains 42 = .ok (.iadd, 1) := by decide +kernel
theorem dX11_gains_43 : decode cX11_gains 43 = .ok (.iastore, 1) := by decide +kernel
theorem dX11_gains_44 : decode cX11_gains 44 = .ok (.iinc 3 1, 3) := by decide +kernel
theorem dX11_gains_47 : decode cX11_gains 47 = .ok (.goto (-38), 3) := by decide +kernel
theorem dX11_gains_50 : decode cX11_gains 50 = .ok (.iconst 0, 1) := by decide +kernel
theorem dX11_gains_51 : decode cX11_gains 51 = .ok (.istore_n 3, 1) := by decide +kernel
theorem dX11_gains_52 : decode cX11_gains 52 = .ok (.iconst 0, 1) := by decide +kernel
theorem dX11_gains_53 : decode cX11_gains 53 = .ok (.istore 4, 2) := by decide +kernel
theorem dX11_gains_55 : decode cX11_gains 55 = .ok (.iload 4, 2) := by decide +kernel
theorem dX11_gains_57 : decode cX11_gains 57 = .ok (.aload_n 0, 1) := by decide +kernel
theorem dX11_gains_58 : decode cX11_gains 58 = .ok (.getfield 22, 3) := by decide +kernel
theorem dX11_gains_61 : decode cX11_gains 61 = .ok (.iconst 0, 1) := by decide +kernel
theorem dX11_gains_62 : decode cX11_gains 62 = .ok (.iaload, 1) := by decide +kernel
theorem dX11_gains_63 : decode cX11_gains 63 = .ok (.if_icmp .ge 50, 3) := by decide +kernel
theorem dX11_gains_66 : decode cX11_gains 66 = .ok (.iload_n 1, 1) := by decide +kernel
theorem dX11_gains_67 : decode cX11_gains 67 = .ok (.iload 4, 2) := by decide +kernel
theorem dX11_gains_69 : decode cX11_gains 69 = .ok (.ishr, 1) := by decide +kernel
theorem dX11_gains_70 : decode cX11_gains 70 = .ok (.iconst 1, 1) := by decide +kernel
theorem dX11_gains_71 : decode cX11_gains 71 = .ok (.iand, 1) := by decide +kernel
theorem dX11_gains_72 : decode cX11_gains 72 = .ok (.iconst 1, 1) := by decide +kernel
theorem dX11_gains_73 : decode cX11_gains 73 = .ok (.if_icmp .ne 34, 3) := by decide +kernel
theorem dX11_gains_76 : decode cX11_gains 76 = .ok (.iload_n 3, 1) := by decide +kernel
theorem dX11_gains_77 : decode cX11_gains 77 = .ok (.aload_n 0, 1) := by decide +kernel
theorem dX11_gains_78 : decode cX11_gains 78 = .ok (.iload 4, 2) := by decide +kernel
theorem dX11_gains_80 : decode cX11_gains 80 = .ok (.invokevirtual 408, 3) := by decide +kernel
theorem dX11_gains_83 : decode cX11_gains 83 = .ok (.ifCond .eq 13, 3) := by decide +kernel
theorem dX11_gains_86 : decode cX11_gains 86 = .ok (.aload_n 0, 1) := by decide +kernel
theorem dX11_gains_87 : decode cX11_gains 87 = .ok (.getfield 68, 3) := by decide +kernel
theorem dX11_gains_90 : decode cX11_gains 90 = .ok (.iload 4, 2) := by decide +kernel
theorem dX11_gains_92 : decode cX11_gains 92 = .ok (.iaload, 1) := by decide +kernel
theorem dX11_gains_93 : decode cX11_gains 93 = .ok (.goto 4, 3) := by decide +kernel
theorem dX11_gains_96 : decode cX11_gains 96 = .ok (.iconst 0, 1) := by decide +kernel
theorem dX11_gains_97 : decode cX11_gains 97 = .ok (.aload_n 0, 1) := by decide +kernel
theorem dX11_gains_98 : decode cX11_gains 98 = .ok (.getfield 65, 3) := by decide +kernel
theorem dX11_gains_101 : decode cX11_gains 101 = .ok (.iload 4, 2) := by decide +kernel
theorem dX11_gains_103 : decode cX11_gains 103 = .ok (.iaload, 1) := by decide +kernel
theorem dX11_gains_104 : decode cX11_gains 104 = .ok (.isub, 1) := by decide +kernel
theorem dX11_gains_105 : decode cX11_gains 105 = .ok (.iadd, 1) := by decide +kernel
theorem dX11_gains_106 : decode cX11_gains 106 = .ok (.istore_n 3, 1) := by decide +kernel
theorem dX11_gains_107 : decode cX11_gains 107 = .ok (.iinc 4 1, 3) := by decide +kernel
theorem dX11_gains_110 : decode cX11_gains 110 = .ok (.goto (-55), 3) := by decide +kernel
theorem dX11_gains_113 : decode cX11_gains 113 = .ok (.iload_n 3, 1) := by decide +kernel
theorem dX11_gains_114 : decode cX11_gains 114 = .ok (.ireturn, 1) := by decide +kernel
theorem dX11_gain_0 : decode cX11_gain 0 = .ok (.aload_n 0, 1) := by decide +kernel
theorem dX11_gain_1 : decode cX11_gain 1 = .ok (.iload_n 1, 1) := by decide +kernel
theorem dX11_gain_2 : decode cX11_gain 2 = .ok (.ifCond .lt 27, 3) := by decide +kernel
theorem dX11_gain_5 : decode cX11_gain 5 = .ok (.iload_n 1, 1) := by decide +kernel
theorem dX11_gain_6 : decode cX11_gain 6 = .ok (.iconst 1, 1) := by decide +kernel
theorem dX11_gain_7 : decode cX11_gain 7 = .ok (.aload_n 0, 1) := by decide +kernel
theorem dX11_gain_8 : decode cX11_gain 8 = .ok (.getfield 22, 3) := by decide +kernel
theorem dX11_gain_11 : decode cX11_gain 11 = .ok (.iconst 0, 1) := by decide +kernel
theorem dX11_gain_12 : decode cX11_gain 12 = .ok (.iaload, 1) := by decide +kernel
theorem dX11_gain_13 : decode cX11_gain 13 = .ok (.ishl, 1) := by decide +kernel
theorem dX11_gain_14 : decode cX11_gain 14 = .ok (.if_icmp .ge 15, 3) := by decide +kernel
theorem dX11_gain_17 : decode cX11_gain 17 = .ok (.aload_n 0, 1) := by decide +kernel
theorem dX11_gain_18 : decode cX11_gain 18 = .ok (.iload_n 2, 1) := by decide +kernel
theorem dX11_gain_19 : decode cX11_gain 19 = .ok (.invokevirtual 356, 3) := by decide +kernel
theorem dX11_gain_22 : decode cX11_gain 22 = .ok (.ifCond .eq 7, 3) := by decide +kernel
theorem dX11_gain_25 : decode cX11_gain 25 = .ok (.iconst 0, 1) := by decide +kernel
theorem dX11_gain_26 : decode cX11_gain 26 = .ok (.goto 4, 3) := by decide +kernel
theorem dX11_gain_29 : decode cX11_gain 29 = .ok (.iconst 1, 1) := by decide +kernel
theorem dX11_gain_30 : decode cX11_gain 30 = .ok (.putfield 132, 3) := by decide +kernel
theorem dX11_gain_33 : decode cX11_gain 33 = .ok (.aload_n 0, 1) := by decide +kernel
theorem dX11_gain_34 : decode cX11_gain 34 = .ok (.getfield 132, 3) := by decide +kernel
theorem dX11_gain_37 : decode cX11_gain 37 = .ok (.iconst 1, 1) := by decide +kernel
theorem dX11_gain_38 : decode cX11_gain 38 = .ok (.if_icmp .ne 7, 3) := by decide +kernel
theorem dX11_gain_41 : decode cX11_gain 41 = .ok (.iconst 0, 1) := by decide +kernel
theorem dX11_gain_42 : decode cX11_gain 42 = .ok (.goto 9, 3) := by decide +kernel
theorem dX11_gain_45 : decode cX11_gain 45 = .ok (.aload_n 0, 1) := by decide +kernel
theorem dX11_gain_46 : decode cX11_gain 46 = .ok (.iload_n 1, 1) := by decide +kernel
theorem dX11_gain_47 : decode cX11_gain 47 = .ok (.iload_n 2, 1) := by decide +kernel
theorem dX11_gain_48 : decode cX11_gain 48 = .ok (.invokevirtual 411, 3) := by decide +kernel
theorem dX11_gain_51 : decode cX11_gain 51 = .ok (.ireturn, 1) := by decide +kernel
theorem dX11_sure_0 : decode cX11_sure 0 = .ok (.aload_n 0, 1) := by decide +kernel
theorem dX11_sure_1 : decode cX11_sure 1 = .ok (.iconst 0, 1) := by decide +kernel
theorem dX11_sure_2 : decode cX11_sure 2 = .ok (.putfield 132, 3) := by decide +kernel
theorem dX11_sure_5 : decode cX11_sure 5 = .ok (.iload_n 1, 1) := by decide +kernel
theorem dX11_sure_6 : decode cX11_sure 6 = .ok (.iconst 0, 1) := by decide +kernel
theorem dX11_sure_7 : decode cX11_sure 7 = .ok (.iconst 1, 1) := by decide +kernel
theorem dX11_sure_8 : decode cX11_sure 8 = .ok (.invokestatic 257, 3) := by decide +kernel
theorem dX11_sure_11 : decode cX11_sure 11 = .ok (.ifCond .ne 5, 3) := by decide +kernel
theorem dX11_sure_14 : decode cX11_sure 14 = .ok (.iconst (-1), 1) := by decide +kernel
theorem dX11_sure_15 : decode cX11_sure 15 = .ok (.ireturn, 1) := by decide +kernel
theorem dX11_sure_16 : decode cX11_sure 16 = .ok (.iconst 0, 1) := by decide +kernel
theorem dX11_sure_17 : decode cX11_sure 17 = .ok (.istore_n 2, 1) := by decide +kernel
theorem dX11_sure_18 : decode cX11_sure 18 = .ok (.iconst 0, 1) := by decide +kernel
theorem dX11_sure_19 : decode cX11_sure 19 = .ok (.istore_n 3, 1) := by decide +kernel
theorem dX11_sure_20 : decode cX11_sure 20 = .ok (.iconst 0, 1) := by decide +kernel
theorem dX11_sure_21 : decode cX11_sure 21 = .ok (.istore 4, 2) := by decide +kernel
theorem dX11_sure_23 : decode cX11_sure 23 = .ok (.iload 4, 2) := by decide +kernel
theorem dX11_sure_25 : decode cX11_sure 25 = .ok (.iconst 1, 1) := by decide +kernel
theorem dX11_sure_26 : decode cX11_sure 26 = .ok (.aload_n 0, 1) := by decide +kernel
theorem dX11_sure_27 : decode cX11_sure 27 = .ok (.getfield 22, 3) := by decide +kernel
theorem dX11_sure_30 : decode cX11_sure 30 = .ok (.iconst 0, 1) := by decide +kernel
theorem dX11_sure_31 : decode cX11_sure 31 = .ok (.iaload, 1) := by decide +kernel
theorem dX11_sure_32 : decode cX11_sure 32 = .ok (.ishl, 1) := by decide +kernel
theorem dX11_sure_33 : decode cX11_sure 33 = .ok (.if_icmp .ge 71, 3) := by decide +kernel
theorem dX11_sure_36 : decode cX11_sure 36 = .ok (.aload_n 0, 1) := by decide +kernel
theorem dX11_sure_37 : decode cX11_sure 37 = .ok (.iload 4, 2) := by decide +kernel
theorem dX11_sure_39 : decode cX11_sure 39 = .ok (.iconst 0, 1) := by decide +kernel
theorem dX11_sure_40 : decode cX11_sure 40 = .ok (.invokevirtual 411, 3) := by decide +kernel
theorem dX11_sure_43 : decode cX11_sure 43 = .ok (.istore 5, 2) := by decide +kernel
theorem dX11_sure_45 : decode cX11_sure 45 = .ok (.iconst 1, 1) := by decide +kernel
theorem dX11_sure_46 : decode cX11_sure 46 = .ok (.istore 6, 2) := by decide +kernel
theorem dX11_sure_48 : decode cX11_sure 48 = .ok (.aload_n 0, 1) := by decide +kernel
theorem dX11_sure_49 : decode cX11_sure 49 = .ok (.iload 6, 2) := by decide +kernel
theorem dX11_sure_51 : decode cX11_sure 51 = .ok (.invokevirtual 356, 3) := by decide +kernel
theorem dX11_sure_54 : decode cX11_sure 54 = .ok (.ifCond .eq 24, 3) := by decide +kernel
theorem dX11_sure_57 : decode cX11_sure 57 = .ok (.iload 5, 2) := by decide +kernel
theorem dX11_sure_59 : decode cX11_sure 59 = .ok (.aload_n 0, 1) := by decide +kernel
theorem dX11_sure_60 : decode cX11_sure 60 = .ok (.iload 4, 2) := by decide +kernel
theorem dX11_sure_62 : decode cX11_sure 62 = .ok (.iload 6, 2) := by decide +kernel
theorem dX11_sure_64 : decode cX11_sure 64 = .ok (.invokevirtual 411, 3) := by decide +kernel
theorem dX11_sure_67 : decode cX11_sure 67 = .ok (.invokestatic 331, 3) := by decide +kernel
theorem dX11_sure_70 : decode cX11_sure 70 = .ok (.istore 5, 2) := by decide +kernel
theorem dX11_sure_72 : decode cX11_sure 72 = .ok (.iinc 6 1, 3) := by decide +kernel
theorem dX11_sure_75 : decode cX11_sure 75 = .ok (.goto (-27), 3) := by decide +kernel
theorem dX11_sure_78 : decode cX11_sure 78 = .ok (.iload 4, 2) := by decide +kernel
theorem dX11_sure_80 : decode cX11_sure 80 = .ok (.ifCond .le 12, 3) := by decide +kernel
theorem dX11_sure_83 : decode cX11_sure 83 = .ok (.iload 5, 2) := by decide +kernel
theorem dX11_sure_85 : decode cX11_sure 85 = .ok (.iload_n 3, 1) := by decide +kernel
theorem dX11_sure_86 : decode cX11_sure 86 = .ok (.if_icmp .gt 6, 3) := by decide +kernel
theorem dX11_sure_89 : decode cX11_sure 89 = .ok (.goto 9, 3) := by decide +kernel
theorem dX11_sure_92 : decode cX11_sure 92 = .ok (.iload 4, 2) := by decide +kernel
theorem dX11_sure_94 : decode cX11_sure 94 = .ok (.istore_n 2, 1) := by decide +kernel
theorem dX11_sure_95 : decode cX11_sure 95 = .ok (.iload 5, 2) := by decide +kernel
theorem dX11_sure_97 : decode cX11_sure 97 = .ok (.istore_n 3, 1) := by decide +kernel
theorem dX11_sure_98 : decode cX11_sure 98 = .ok (.iinc 4 1, 3) := by decide +kernel
theorem dX11_sure_101 : decode cX11_sure 101 = .ok (.goto (-78), 3) := by decide +kernel
theorem dX11_sure_104 : decode cX11_sure 104 = .ok (.iload_n 1, 1) := by decide +kernel
theorem dX11_sure_105 : decode cX11_sure 105 = .ok (.ifCond .ne 7, 3) := by decide +kernel
theorem dX11_sure_108 : decode cX11_sure 108 = .ok (.iload_n 3, 1) := by decide +kernel
theorem dX11_sure_109 : decode cX11_sure 109 = .ok (.goto 4, 3) := by decide +kernel
theorem dX11_sure_112 : decode cX11_sure 112 = .ok (.iload_n 2, 1) := by decide +kernel
theorem dX11_sure_113 : decode cX11_sure 113 = .ok (.ireturn, 1) := by decide +kernel
theorem dX11_draws_0 : decode cX11_draws 0 = .ok (.aload_n 0, 1) := by decide +kernel
theorem dX11_draws_1 : decode cX11_draws 1 = .ok (.aload_n 0, 1) := by decide +kernel
theorem dX11_draws_2 : decode cX11_draws 2 = .ok (.getfield 414, 3) := by decide +kernel
theorem dX11_draws_5 : decode cX11_draws 5 = .ok (.ldc2_w 417, 3) := by decide +kernel
theorem dX11_draws_8 : decode cX11_draws 8 = .ok (.lmul, 1) := by decide +kernel
theorem dX11_draws_9 : decode cX11_draws 9 = .ok (.ldc2_w 419, 3) := by decide +kernel
theorem dX11_draws_12 : decode cX11_draws 12 = .ok (.ladd, 1) := by decide +kernel
theorem dX11_draws_13 : decode cX11_draws 13 = .ok (.ldc2_w 421, 3) := by decide +kernel
theorem dX11_draws_16 : decode cX11_draws 16 = .ok (.lrem, 1) := by decide +kernel
theorem dX11_draws_17 : decode cX11_draws 17 = .ok (.putfield 414, 3) := by decide +kernel
theorem dX11_draws_20 : decode cX11_draws 20 = .ok (.aload_n 0, 1) := by decide +kernel
theorem dX11_draws_21 : decode cX11_draws 21 = .ok (.getfield 414, 3) := by decide +kernel
theorem dX11_draws_24 : decode cX11_draws 24 = .ok (.ldc2_w 423, 3) := by decide +kernel
theorem dX11_draws_27 : decode cX11_draws 27 = .ok (.ldiv, 1) := by decide +kernel
theorem dX11_draws_28 : decode cX11_draws 28 = .ok (.iload_n 1, 1) := by decide +kernel
theorem dX11_draws_29 : decode cX11_draws 29 = .ok (.i2l, 1) := by decide +kernel
theorem dX11_draws_30 : decode cX11_draws 30 = .ok (.lrem, 1) := by decide +kernel
theorem dX11_draws_31 : decode cX11_draws 31 = .ok (.l2i, 1) := by decide +kernel
theorem dX11_draws_32 : decode cX11_draws 32 = .ok (.ireturn, 1) := by decide +kernel
theorem dX11_lots_0 : decode cX11_lots 0 = .ok (.aload_n 0, 1) := by decide +kernel
theorem dX11_lots_1 : decode cX11_lots 1 = .ok (.iconst 0, 1) := by decide +kernel
theorem dX11_lots_2 : decode cX11_lots 2 = .ok (.putfield 132, 3) := by decide +kernel
theorem dX11_lots_5 : decode cX11_lots 5 = .ok (.iload_n 1, 1) := by decide +kernel
theorem dX11_lots_6 : decode cX11_lots 6 = .ok (.iconst 0, 1) := by decide +kernel
theorem dX11_lots_7 : decode cX11_lots 7 = .ok (.sipush 9999, 3) := by decide +kernel
theorem dX11_lots_10 : decode cX11_lots 10 = .ok (.invokestatic 257, 3) := by decide +kernel
theorem dX11_lots_13 : decode cX11_lots 13 = .ok (.ifCond .eq 22, 3) := by decide +kernel
theorem dX11_lots_16 : decode cX11_lots 16 = .ok (.iload_n 2, 1) := by decide +kernel
theorem dX11_lots_17 : decode cX11_lots 17 = .ok (.iconst 1, 1) := by decide +kernel
theorem dX11_lots_18 : decode cX11_lots 18 = .ok (.bipush 20, 2) := by decide +kernel
theorem dX11_lots_20 : decode cX11_lots 20 = .ok (.invokestatic 257, 3) := by decide +kernel
theorem dX11_lots_23 : decode cX11_lots 23 = .ok (.ifCond .eq 12, 3) := by decide +kernel
theorem dX11_lots_26 : decode cX11_lots 26 = .ok (.iload_n 3, 1) := by decide +kernel
theorem dX11_lots_27 : decode cX11_lots 27 = .ok (.iconst 0, 1) := by decide +kernel
theorem dX11_lots_28 : decode cX11_lots 28 = .ok (.iconst 3, 1) := by decide +kernel
theorem dX11_lots_29 : decode cX11_lots 29 = .ok (.invokestatic 257, 3) := by decide +kernel
theorem dX11_lots_32 : decode cX11_lots 32 = .ok (.ifCond .ne 5, 3) := by decide +kernel
theorem dX11_lots_35 : decode cX11_lots 35 = .ok (.iconst (-1), 1) := by decide +kernel
theorem dX11_lots_36 : decode cX11_lots 36 = .ok (.ireturn, 1) := by decide +kernel
theorem dX11_lots_37 : decode cX11_lots 37 = .ok (.aload_n 0, 1) := by decide +kernel
theorem dX11_lots_38 : decode cX11_lots 38 = .ok (.iload_n 1, 1) := by decide +kernel
theorem dX11_lots_39 : decode cX11_lots 39 = .ok (.i2l, 1) := by decide +kernel
theorem dX11_lots_40 : decode cX11_lots 40 = .ok (.putfield 414, 3) := by decide +kernel
theorem dX11_lots_43 : decode cX11_lots 43 = .ok (.aload_n 0, 1) := by decide +kernel
theorem dX11_lots_44 : decode cX11_lots 44 = .ok (.getfield 117, 3) := by decide +kernel
theorem dX11_lots_47 : decode cX11_lots 47 = .ok (.iconst 0, 1) := by decide +kernel
theorem dX11_lots_48 : decode cX11_lots 48 = .ok (.aload_n 0, 1) := by decide +kernel
theorem dX11_lots_49 : decode cX11_lots 49 = .ok (.getfield 120, 3) := by decide +kernel
theorem dX11_lots_52 : decode cX11_lots 52 = .ok (.iconst 0, 1) := by decide +kernel
theorem dX11_lots_53 : decode cX11_lots 53 = .ok (.invokestatic 352, 3) := by decide +kernel
theorem dX11_lots_56 : decode cX11_lots 56 = .ok (.iconst 0, 1) := by decide +kernel
theorem dX11_lots_57 : decode cX11_lots 57 = .ok (.istore 4, 2) := by decide +kernel
theorem dX11_lots_59 : decode cX11_lots 59 = .ok (.iconst 0, 1) := by decide +kernel
theorem dX11_lots_60 : decode cX11_lots 60 = .ok (.istore 5, 2) := by decide +kernel
theorem dX11_lots_62 : decode cX11_lots 62 = .ok (.iload 5, 2) := by decide +kernel
theorem dX11_lots_64 : decode cX11_lots 64 = .ok (.iload_n 2, 1) := by decide +kernel
theorem dX11_lots_65 : decode cX11_lots 65 = .ok (.if_icmp .ge 278, 3) := by decide +kernel
theorem dX11_lots_68 : decode cX11_lots 68 = .ok (.iconst 0, 1) := by decide +kernel
theorem dX11_lots_69 : decode cX11_lots 69 = .ok (.istore 6, 2) := by decide +kernel
theorem dX11_lots_71 : decode cX11_lots 71 = .ok (.iload 6, 2) := by decide +kernel
theorem dX11_lots_73 : decode cX11_lots 73 = .ok (.bipush 60, 2) := by decide +kernel
theorem dX11_lots_75 : decode cX11_lots 75 = .ok (.if_icmp .ge 93, 3) := by decide +kernel
theorem dX11_lots_78 : decode cX11_lots 78 = .ok (.iconst 0, 1) := by decide +kernel
theorem dX11_lots_79 : decode cX11_lots 79 = .ok (.istore 7, 2) := by decide +kernel
theorem dX11_lots_81 : decode cX11_lots 81 = .ok (.iconst 0, 1) := by decide +kernel
theorem dX11_lots_82 : decode cX11_lots 82 = .ok (.istore 8, 2) := by decide +kernel
theorem dX11_lots_84 : decode cX11_lots 84 = .ok (.iload 8, 2) := by decide +kernel
theorem dX11_lots_86 : decode cX11_lots 86 = .ok (.aload_n 0, 1) := by decide +kernel
theorem dX11_lots_87 : decode cX11_lots 87 = .ok (.getfield 13, 3) := by decide +kernel
theorem dX11_lots_90 : decode cX11_lots 90 = .ok (.iconst 0, 1) := by decide +kernel
theorem dX11_lots_91 : decode cX11_lots 91 = .ok (.iaload, 1) := by decide +kernel
theorem dX11_lots_92 : decode cX11_lots 92 = .ok (.if_icmp .ge 64, 3) := by decide +kernel
theorem dX11_lots_95 : decode cX11_lots 95 = .ok (.iload 7, 2) := by decide +kernel
theorem dX11_lots_97 : decode cX11_lots 97 = .ok (.aload_n 0, 1) := by decide +kernel
theorem dX11_lots_98 : decode cX11_lots 98 = .ok (.bipush 8, 2) := by decide +kernel
theorem dX11_lots_100 : decode cX11_lots 100 = .ok (.invokevirtual 425, 3) := by decide +kernel
theorem dX11_lots_103 : decode cX11_lots 103 = .ok (.aload_n 0, 1) := by decide +kernel
theorem dX11_lots_104 : decode cX11_lots 104 = .ok (.getfield 117, 3) := by decide +kernel
theorem dX11_lots_107 : decode cX11_lots 107 = .ok (.bipush 56, 2) := by decide +kernel
theorem dX11_lots_109 : decode cX11_lots 109 = .ok (.iaload, 1) := by decide +kernel
theorem dX11_lots_110 : decode cX11_lots 110 = .ok (.iload 8, 2) := by decide +kernel
theorem dX11_lots_112 : decode cX11_lots 112 = .ok (.ishr, 1) := by decide +kernel
theorem dX11_lots_113 : decode cX11_lots 113 = .ok (.iconst 1, 1) := by decide +kernel
theorem dX11_lots_114 : decode cX11_lots 114 = .ok (.iand, 1) := by decide +kernel
theorem dX11_lots_115 : decode cX11_lots 115 = .ok (.iconst 1, 1) := by decide +kernel
theorem dX11_lots_116 : decode cX11_lots 116 = .ok (.if_icmp .ne 13, 3) := by decide +kernel
theorem dX11_lots_119 : decode cX11_lots 119 = .ok (.aload_n 0, 1) := by decide +kernel
theorem dX11_lots_120 : decode cX11_lots 120 = .ok (.getfield 35, 3) := by decide +kernel
theorem dX11_lots_123 : decode cX11_lots 123 = .ok (.iload 8, 2) := by decide +kernel
theorem dX11_lots_125 : decode cX11_lots 125 = .ok (.iaload, 1) := by decide +kernel
theorem dX11_lots_126 : decode cX11_lots 126 = .ok (.goto 10, 3) := by decide +kernel
theorem dX11_lots_129 : decode cX11_lots 129 = .ok (.aload_n 0, 1) := by decide +kernel
theorem dX11_lots_130 : decode cX11_lots 130 = .ok (.getfield 32, 3) := by decide +kernel
theorem dX11_lots_133 : decode cX11_lots 133 = .ok (.iload 8, 2) := by decide +kernel
theorem dX11_lots_135 : decode cX11_lots 135 = .ok (.iaload, 1) := by decide +kernel
theorem dX11_lots_136 : decode cX11_lots 136 = .ok (.if_icmp .ge 10, 3) := by decide +kernel
theorem dX11_lots_139 : decode cX11_lots 139 = .ok (.iconst 1, 1) := by decide +kernel
theorem dX11_lots_140 : decode cX11_lots 140 = .ok (.iload 8, 2) := by decide +kernel
theorem dX11_lots_142 : decode cX11_lots 142 = .ok (.ishl, 1) := by decide +kernel
theorem dX11_lots_143 : decode cX11_lots 143 = .ok (.goto 4, 3) := by decide +kernel
theorem dX11_lots_146 : decode cX11_lots 146 = .ok (.iconst 0, 1) := by decide +kernel
theorem dX11_lots_147 : decode cX11_lots 147 = .ok (.ior, 1) := by decide +kernel
theorem dX11_lots_148 : decode cX11_lots 148 = .ok (.istore 7, 2) := by decide +kernel
theorem dX11_lots_150 : decode cX11_lots 150 = .ok (.iinc 8 1, 3) := by decide +kernel
theorem dX11_lots_153 : decode cX11_lots 153 = .ok (.goto (-69), 3) := by decide +kernel
theorem dX11_lots_156 : decode cX11_lots 156 = .ok (.aload_n 0, 1) := by decide +kernel
theorem dX11_lots_157 : decode cX11_lots 157 = .ok (.iload 7, 2) := by decide +kernel
theorem dX11_lots_159 : decode cX11_lots 159 = .ok (.invokevirtual 362, 3) := by decide +kernel
theorem dX11_lots_162 : decode cX11_lots 162 = .ok (.iinc 6 1, 3) := by decide +kernel
theorem dX11_lots_165 : decode cX11_lots 165 = .ok (.goto (-94), 3) := by decide +kernel
theorem dX11_lots_168 : decode cX11_lots 168 = .ok (.aload_n 0, 1) := by decide +kernel
theorem dX11_lots_169 : decode cX11_lots 169 = .ok (.invokevirtual 374, 3) := by decide +kernel
theorem dX11_lots_172 : decode cX11_lots 172 = .ok (.istore 6, 2) := by decide +kernel
theorem dX11_lots_174 : decode cX11_lots 174 = .ok (.iload 4, 2) := by decide +kernel
theorem dX11_lots_176 : decode cX11_lots 176 = .ok (.iload_n 3, 1) := by decide +kernel
theorem dX11_lots_177 : decode cX11_lots 177 = .ok (.iconst 2, 1) := by decide +kernel
theorem dX11_lots_178 : decode cX11_lots 178 = .ok (.if_icmp .ne 21, 3) := by decide +kernel
theorem dX11_lots_181 : decode cX11_lots 181 = .ok (.aload_n 0, 1) := by decide +kernel
theorem dX11_lots_182 : decode cX11_lots 182 = .ok (.getfield 117, 3) := by decide +kernel
theorem dX11_lots_185 : decode cX11_lots 185 = .ok (.bipush 58, 2) := by decide +kernel
theorem dX11_lots_187 : decode cX11_lots 187 = .ok (.iaload, 1) := by decide +kernel
theorem dX11_lots_188 : decode cX11_lots 188 = .ok (.aload_n 0, 1) := by decide +kernel
theorem dX11_lots_189 : decode cX11_lots 189 = .ok (.getfield 120, 3) := by decide +kernel
theorem dX11_lots_192 : decode cX11_lots 192 = .ok (.bipush 58, 2) := by decide +kernel
theorem dX11_lots_194 : decode cX11_lots 194 = .ok (.iaload, 1) := by decide +kernel
theorem dX11_lots_195 : decode cX11_lots 195 = .ok (.isub, 1) := by decide +kernel
theorem dX11_lots_196 : decode cX11_lots 196 = .ok (.goto 4, 3) := by decide +kernel
theorem dX11_lots_199 : decode cX11_lots 199 = .ok (.iconst 0, 1) := by decide +kernel
theorem dX11_lots_200 : decode cX11_lots 200 = .ok (.iadd, 1) := by decide +kernel
theorem dX11_lots_201 : decode cX11_lots 201 = .ok (.istore 4, 2) := by decide +kernel
theorem dX11_lots_203 : decode cX11_lots 203 = .ok (.iconst 0, 1) := by decide +kernel
theorem dX11_lots_204 : decode cX11_lots 204 = .ok (.istore 7, 2) := by decide +kernel
theorem dX11_lots_206 : decode cX11_lots 206 = .ok (.iload 7, 2) := by decide +kernel
theorem dX11_lots_208 : decode cX11_lots 208 = .ok (.aload_n 0, 1) := by decide +kernel
theorem dX11_lots_209 : decode cX11_lots 209 = .ok (.getfield 19, 3) := by decide +kernel
theorem dX11_lots_212 : decode cX11_lots 212 = .ok (.iconst 0, 1) := by decide +kernel
theorem dX11_lots_213 : decode cX11_lots 213 = .ok (.iaload, 1) := by decide +kernel
theorem dX11_lots_214 : decode cX11_lots 214 = .ok (.if_icmp .ge 73, 3) := by decide +kernel
theorem dX11_lots_217 : decode cX11_lots 217 = .ok (.iload 4, 2) := by decide +kernel
theorem dX11_lots_219 : decode cX11_lots 219 = .ok (.iload_n 3, 1) := by decide +kernel
theorem dX11_lots_220 : decode cX11_lots 220 = .ok (.ifCond .ne 25, 3) := by decide +kernel
theorem dX11_lots_223 : decode cX11_lots 223 = .ok (.aload_n 0, 1) := by decide +kernel
theorem dX11_lots_224 : decode cX11_lots 224 = .ok (.getfield 117, 3) := by decide +kernel
theorem dX11_lots_227 : decode cX11_lots 227 = .ok (.bipush 16, 2) := by decide +kernel
theorem dX11_lots_229 : decode cX11_lots 229 = .ok (.iload 7, 2) := by decide +kernel
theorem dX11_lots_231 : decode cX11_lots 231 = .ok (.iadd, 1) := by decide +kernel
theorem dX11_lots_232 : decode cX11_lots 232 = .ok (.iaload, 1) := by decide +kernel
theorem dX11_lots_233 : decode cX11_lots 233 = .ok (.iconst 2, 1) := by decide +kernel
theorem dX11_lots_234 : decode cX11_lots 234 = .ok (.if_icmp .ne 7, 3) := by decide +kernel
theorem dX11_lots_237 : decode cX11_lots 237 = .ok (.iconst 1, 1) := by decide +kernel
theorem dX11_lots_238 : decode cX11_lots 238 = .ok (.goto 40, 3) := by decide +kernel
theorem dX11_lots_241 : decode cX11_lots 241 = .ok (.iconst 0, 1) := by decide +kernel
theorem dX11_lots_242 : decode cX11_lots 242 = .ok (.goto 36, 3) := by decide +kernel
theorem dX11_lots_245 : decode cX11_lots 245 = .ok (.iload_n 3, 1) := by decide +kernel
theorem dX11_lots_246 : decode cX11_lots 246 = .ok (.iconst 1, 1) := by decide +kernel
theorem dX11_lots_247 : decode cX11_lots 247 = .ok (.if_icmp .ne 30, 3) := by decide +kernel
theorem dX11_lots_250 : decode cX11_lots 250 = .ok (.aload_n 0, 1) := by decide +kernel
theorem dX11_lots_251 : decode cX11_lots 251 = .ok (.getfield 117, 3) := by decide +kernel
theorem dX11_lots_254 : decode cX11_lots 254 = .ok (.bipush 16, 2) := by decide +kernel
theorem dX11_lots_256 : decode cX11_lots 256 = .ok (.iload 7, 2) := by decide +kernel
theorem dX11_lots_258 : decode cX11_lots 258 = .ok (.iadd, 1) := by decide +kernel
theorem dX11_lots_259 : decode cX11_lots 259 = .ok (.iaload, 1) := by decide +kernel
theorem dX11_lots_260 : decode cX11_lots 260 = .ok (.iconst 1, 1) := by decide +kernel
theorem dX11_lots_261 : decode cX11_lots 261 = .ok (.if_icmp .ne 16, 3) := by decide +kernel
theorem dX11_lots_264 : decode cX11_lots 264 = .ok (.aload_n 0, 1) := by decide +kernel
theorem dX11_lots_265 : decode cX11_lots 265 = .ok (.getfield 117, 3) := by decide +kernel
theorem dX11_lots_268 : decode cX11_lots 268 = .ok (.bipush 6, 2) := by decide +kernel
theorem dX11_lots_270 : decode cX11_lots 270 = .ok (.iload 7, 2) := by decide +kernel
theorem dX11_lots_272 : decode cX11_lots 272 = .ok (.iadd, 1) := by decide +kernel
theorem dX11_lots_273 : decode cX11_lots 273 = .ok (.iaload, 1) := by decide +kernel
theorem dX11_lots_274 : decode cX11_lots 274 = .ok (.goto 4, 3) := by decide +kernel
theorem dX11_lots_277 : decode cX11_lots 277 = .ok (.iconst 0, 1) := by decide +kernel
theorem dX11_lots_278 : decode cX11_lots 278 = .ok (.iadd, 1) := by decide +kernel
theorem dX11_lots_279 : decode cX11_lots 279 = .ok (.istore 4, 2) := by decide +kernel
theorem dX11_lots_281 : decode cX11_lots 281 = .ok (.iinc 7 1, 3) := by decide +kernel
theorem dX11_lots_284 : decode cX11_lots 284 = .ok (.goto (-78), 3) := by decide +kernel
theorem dX11_lots_287 : decode cX11_lots 287 = .ok (.iconst 0, 1) := by decide +kernel
theorem dX11_lots_288 : decode cX11_lots 288 = .ok (.istore 7, 2) := by decide +kernel
theorem dX11_lots_290 : decode cX11_lots 290 = .ok (.iload 7, 2) := by decide +kernel
theorem dX11_lots_292 : decode cX11_lots 292 = .ok (.bipush 6, 2) := by decide +kernel
theorem dX11_lots_294 : decode cX11_lots 294 = .ok (.if_icmp .ge 30, 3) := by decide +kernel
theorem dX11_lots_297 : decode cX11_lots 297 = .ok (.iload 4, 2) := by decide +kernel
theorem dX11_lots_299 : decode cX11_lots 299 = .ok (.iload_n 3, 1) := by decide +kernel
theorem dX11_lots_300 : decode cX11_lots 300 = .ok (.iconst 3, 1) := by decide +kernel
theorem dX11_lots_301 : decode cX11_lots 301 = .ok (.if_icmp .ne 13, 3) := by decide +kernel
theorem dX11_lots_304 : decode cX11_lots 304 = .ok (.iload 6, 2) := by decide +kernel
theorem dX11_lots_306 : decode cX11_lots 306 = .ok (.iload 7, 2) := by decide +kernel
theorem dX11_lots_308 : decode cX11_lots 308 = .ok (.ishr, 1) := by decide +kernel
theorem dX11_lots_309 : decode cX11_lots 309 = .ok (.iconst 1, 1) := by decide +kernel
theorem dX11_lots_310 : decode cX11_lots 310 = .ok (.iand, 1) := by decide +kernel
theorem dX11_lots_311 : decode cX11_lots 311 = .ok (.goto 4, 3) := by decide +kernel
theorem dX11_lots_314 : decode cX11_lots 314 = .ok (.iconst 0, 1) := by decide +kernel
theorem dX11_lots_315 : decode cX11_lots 315 = .ok (.iadd, 1) := by decide +kernel
theorem dX11_lots_316 : decode cX11_lots 316 = .ok (.istore 4, 2) := by decide +kernel
theorem dX11_lots_318 : decode cX11_lots 318 = .ok (.iinc 7 1, 3) := by decide +kernel
theorem dX11_lots_321 : decode cX11_lots 321 = .ok (.goto (-31), 3) := by decide +kernel
theorem dX11_lots_324 : decode cX11_lots 324 = .ok (.aload_n 0, 1) := by decide +kernel
theorem dX11_lots_325 : decode cX11_lots 325 = .ok (.getfield 120, 3) := by decide +kernel
theorem dX11_lots_328 : decode cX11_lots 328 = .ok (.iconst 0, 1) := by decide +kernel
theorem dX11_lots_329 : decode cX11_lots 329 = .ok (.aload_n 0, 1) := by decide +kernel
theorem dX11_lots_330 : decode cX11_lots 330 = .ok (.getfield 117, 3) := by decide +kernel
theorem dX11_lots_333 : decode cX11_lots 333 = .ok (.iconst 0, 1) := by decide +kernel
theorem dX11_lots_334 : decode cX11_lots 334 = .ok (.invokestatic 352, 3) := by decide +kernel
theorem dX11_lots_337 : decode cX11_lots 337 = .ok (.iinc 5 1, 3) := by decide +kernel
theorem dX11_lots_340 : decode cX11_lots 340 = .ok (.goto (-278), 3) := by decide +kernel
theorem dX11_lots_343 : decode cX11_lots 343 = .ok (.iload 4, 2) := by decide +kernel
theorem dX11_lots_345 : decode cX11_lots 345 = .ok (.ireturn, 1) := by decide +kernel
theorem dX11_mark_0 : decode cX11_mark 0 = .ok (.aload_n 0, 1) := by decide +kernel
theorem dX11_mark_1 : decode cX11_mark 1 = .ok (.iconst 0, 1) := by decide +kernel
theorem dX11_mark_2 : decode cX11_mark 2 = .ok (.putfield 132, 3) := by decide +kernel
theorem dX11_mark_5 : decode cX11_mark 5 = .ok (.iload_n 1, 1) := by decide +kernel
theorem dX11_mark_6 : decode cX11_mark 6 = .ok (.iconst 0, 1) := by decide +kernel
theorem dX11_mark_7 : decode cX11_mark 7 = .ok (.iconst 3, 1) := by decide +kernel
theorem dX11_mark_8 : decode cX11_mark 8 = .ok (.invokestatic 257, 3) := by decide +kernel
theorem dX11_mark_11 : decode cX11_mark 11 = .ok (.ifCond .eq 16, 3) := by decide +kernel
theorem dX11_mark_14 : decode cX11_mark 14 = .ok (.iload_n 2, 1) := by decide +kernel
theorem dX11_mark_15 : decode cX11_mark 15 = .ok (.ifCond .eq 14, 3) := by decide +kernel
theorem dX11_mark_18 : decode cX11_mark 18 = .ok (.aload_n 0, 1) := by decide +kernel
theorem dX11_mark_19 : decode cX11_mark 19 = .ok (.getfield 129, 3) := by decide +kernel
theorem dX11_mark_22 : decode cX11_mark 22 = .ok (.iload_n 1, 1) := by decide +kernel
theorem dX11_mark_23 : decode cX11_mark 23 = .ok (.baload, 1) := by decide +kernel
theorem dX11_mark_24 : decode cX11_mark 24 = .ok (.ifCond .ne 5, 3) := by decide +kernel
theorem dX11_mark_27 : decode cX11_mark 27 = .ok (.iconst 0, 1) := by decide +kernel
theorem dX11_mark_28 : decode cX11_mark 28 = .ok (.ireturn, 1) := by decide +kernel
theorem dX11_mark_29 : decode cX11_mark 29 = .ok (.aload_n 0, 1) := by decide +kernel
theorem dX11_mark_30 : decode cX11_mark 30 = .ok (.getfield 129, 3) := by decide +kernel
theorem dX11_mark_33 : decode cX11_mark 33 = .ok (.iload_n 1, 1) := by decide +kernel
theorem dX11_mark_34 : decode cX11_mark 34 = .ok (.iconst 1, 1) := by decide +kernel
theorem dX11_mark_35 : decode cX11_mark 35 = .ok (.bastore, 1) := by decide +kernel
theorem dX11_mark_36 : decode cX11_mark 36 = .ok (.iload_n 2, 1) := by decide +kernel
theorem dX11_mark_37 : decode cX11_mark 37 = .ok (.ifCond .eq 34, 3) := by decide +kernel
theorem dX11_mark_40 : decode cX11_mark 40 = .ok (.aload_n 0, 1) := by decide +kernel
theorem dX11_mark_41 : decode cX11_mark 41 = .ok (.iconst 2, 1) := by decide +kernel
theorem dX11_mark_42 : decode cX11_mark 42 = .ok (.iload_n 1, 1) := by decide +kernel
theorem dX11_mark_43 : decode cX11_mark 43 = .ok (.iadd, 1) := by decide +kernel
theorem dX11_mark_44 : decode cX11_mark 44 = .ok (.iconst 0, 1) := by decide +kernel
theorem dX11_mark_45 : decode cX11_mark 45 = .ok (.invokevirtual 315, 3) := by decide +kernel
theorem dX11_mark_48 : decode cX11_mark 48 = .ok (.aload_n 0, 1) := by decide +kernel
theorem dX11_mark_49 : decode cX11_mark 49 = .ok (.getfield 126, 3) := by decide +kernel
theorem dX11_mark_52 : decode cX11_mark 52 = .ok (.bipush 64, 2) := by decide +kernel
theorem dX11_mark_54 : decode cX11_mark 54 = .ok (.iload_n 1, 1) := by decide +kernel
theorem dX11_mark_55 : decode cX11_mark 55 = .ok (.imul, 1) := by decide +kernel
theorem dX11_mark_56 : decode cX11_mark 56 = .ok (.aload_n 0, 1) := by decide +kernel
theorem dX11_mark_57 : decode cX11_mark 57 = .ok (.getfield 117, 3) := by decide +kernel
theorem dX11_mark_60 : decode cX11_mark 60 = .ok (.iconst 0, 1) := by decide +kernel
theorem dX11_mark_61 : decode cX11_mark 61 = .ok (.invokestatic 352, 3) := by decide +kernel
theorem dX11_mark_64 : decode cX11_mark 64 = .ok (.aload_n 0, 1) := by decide +kernel
theorem dX11_mark_65 : decode cX11_mark 65 = .ok (.iconst 0, 1) := by decide +kernel
theorem dX11_mark_66 : decode cX11_mark 66 = .ok (.putfield 319, 3) := by decide +kernel
theorem dX11_mark_69 : decode cX11_mark 69 = .ok (.iconst 1, 1) := by decide +kernel
theorem dX11_mark_70 : decode cX11_mark 70 = .ok (.ireturn, 1) := by decide +kernel
theorem dX11_mark_71 : decode cX11_mark 71 = .ok (.aload_n 0, 1) := by decide +kernel
theorem dX11_mark_72 : decode cX11_mark 72 = .ok (.iconst 0, 1) := by decide +kernel
theorem dX11_mark_73 : decode cX11_mark 73 = .ok (.iconst 2, 1) := by decide +kernel
theorem dX11_mark_74 : decode cX11_mark 74 = .ok (.iload_n 1, 1) := by decide +kernel
theorem dX11_mark_75 : decode cX11_mark 75 = .ok (.iadd, 1) := by decide +kernel
theorem dX11_mark_76 : decode cX11_mark 76 = .ok (.invokevirtual 315, 3) := by decide +kernel
theorem dX11_mark_79 : decode cX11_mark 79 = .ok (.aload_n 0, 1) := by decide +kernel
theorem dX11_mark_80 : decode cX11_mark 80 = .ok (.getfield 117, 3) := by decide +kernel
theorem dX11_mark_83 : decode cX11_mark 83 = .ok (.iconst 0, 1) := by decide +kernel
theorem dX11_mark_84 : decode cX11_mark 84 = .ok (.aload_n 0, 1) := by decide +kernel
theorem dX11_mark_85 : decode cX11_mark 85 = .ok (.getfield 126, 3) := by decide +kernel
theorem dX11_mark_88 : decode cX11_mark 88 = .ok (.bipush 64, 2) := by decide +kernel
theorem dX11_mark_90 : decode cX11_mark 90 = .ok (.iload_n 1, 1) := by decide +kernel
theorem dX11_mark_91 : decode cX11_mark 91 = .ok (.imul, 1) := by decide +kernel
theorem dX11_mark_92 : decode cX11_mark 92 = .ok (.invokestatic 352, 3) := by decide +kernel
theorem dX11_mark_95 : decode cX11_mark 95 = .ok (.iconst 1, 1) := by decide +kernel
theorem dX11_mark_96 : decode cX11_mark 96 = .ok (.ireturn, 1) := by decide +kernel
theorem dX11_count_0 : decode cX11_count 0 = .ok (.aload_n 0, 1) := by decide +kernel
theorem dX11_count_1 : decode cX11_count 1 = .ok (.iconst 0, 1) := by decide +kernel
theorem dX11_count_2 : decode cX11_count 2 = .ok (.putfield 132, 3) := by decide +kernel
theorem dX11_count_5 : decode cX11_count 5 = .ok (.iload_n 1, 1) := by decide +kernel
theorem dX11_count_6 : decode cX11_count 6 = .ok (.iconst 0, 1) := by decide +kernel
theorem dX11_count_7 : decode cX11_count 7 = .ok (.bipush 7, 2) := by decide +kernel
theorem dX11_count_9 : decode cX11_count 9 = .ok (.invokestatic 257, 3) := by decide +kernel
theorem dX11_count_12 : decode cX11_count 12 = .ok (.ifCond .ne 5, 3) := by decide +kernel
theorem dX11_count_15 : decode cX11_count 15 = .ok (.iconst (-1), 1) := by decide +kernel
theorem dX11_count_16 : decode cX11_count 16 = .ok (.ireturn, 1) := by decide +kernel
theorem dX11_count_17 : decode cX11_count 17 = .ok (.iload_n 1, 1) := by decide +kernel
theorem dX11_count_18 : decode cX11_count 18 = .ok (.iconst 4, 1) := by decide +kernel
theorem dX11_count_19 : decode cX11_count 19 = .ok (.if_icmp .ge 51, 3) := by decide +kernel
theorem dX11_count_22 : decode cX11_count 22 = .ok (.iload_n 1, 1) := by decide +kernel
theorem dX11_count_23 : decode cX11_count 23 = .ok (.ifCond .ne 12, 3) := by decide +kernel
theorem dX11_count_26 : decode cX11_count 26 = .ok (.aload_n 0, 1) := by decide +kernel
theorem dX11_count_27 : decode cX11_count 27 = .ok (.getfield 13, 3) := by decide +kernel
theorem dX11_count_30 : decode cX11_count 30 = .ok (.iconst 0, 1) := by decide +kernel
theorem dX11_count_31 : decode cX11_count 31 = .ok (.iaload, 1) := by decide +kernel
theorem dX11_count_32 : decode cX11_count 32 = .ok (.goto 37, 3) := by decide +kernel
theorem dX11_count_35 : decode cX11_count 35 = .ok (.iload_n 1, 1) := by decide +kernel
theorem dX11_count_36 : decode cX11_count 36 = .ok (.iconst 1, 1) := by decide +kernel
theorem dX11_count_37 : decode cX11_count 37 = .ok (.if_icmp .ne 12, 3) := by decide +kernel
theorem dX11_count_40 : decode cX11_count 40 = .ok (.aload_n 0, 1) := by decide +kernel
theorem dX11_count_41 : decode cX11_count 41 = .ok (.getfield 16, 3) := by decide +kernel
theorem dX11_count_44 : decode cX11_count 44 = .ok (.iconst 0, 1) := by decide +kernel
theorem dX11_count_45 : decode cX11_count 45 = .ok (.iaload, 1) := by decide +kernel
theorem dX11_count_46 : decode cX11_count 46 = .ok (.goto 23, 3) := by decide +kernel
theorem dX11_count_49 : decode cX11_count 49 = .ok (.iload_n 1, 1) := by decide +kernel
theorem dX11_count_50 : decode cX11_count 50 = .ok (.iconst 2, 1) := by decide +kernel
theorem dX11_count_51 : decode cX11_count 51 = .ok (.if_icmp .ne 12, 3) := by decide +kernel
theorem dX11_count_54 : decode cX11_count 54 = .ok (.aload_n 0, 1) := by decide +kernel
theorem dX11_count_55 : decode cX11_count 55 = .ok (.getfield 19, 3) := by decide +kernel
theorem dX11_count_58 : decode cX11_count 58 = .ok (.iconst 0, 1) := by decide +kernel
theorem dX11_count_59 : decode cX11_count 59 = .ok (.iaload, 1) := by decide +kernel
theorem dX11_count_60 : decode cX11_count 60 = .ok (.goto 9, 3) := by decide +kernel
theorem dX11_count_63 : decode cX11_count 63 = .ok (.aload_n 0, 1) := by decide +kernel
theorem dX11_count_64 : decode cX11_count 64 = .ok (.getfield 22, 3) := by decide +kernel
theorem dX11_count_67 : decode cX11_count 67 = .ok (.iconst 0, 1) := by decide +kernel
theorem dX11_count_68 : decode cX11_count 68 = .ok (.iaload, 1) := by decide +kernel
theorem dX11_count_69 : decode cX11_count 69 = .ok (.ireturn, 1) := by decide +kernel
theorem dX11_count_70 : decode cX11_count 70 = .ok (.iload_n 1, 1) := by decide +kernel
theorem dX11_count_71 : decode cX11_count 71 = .ok (.iconst 4, 1) := by decide +kernel
theorem dX11_count_72 : decode cX11_count 72 = .ok (.if_icmp .ne 13, 3) := by decide +kernel
theorem dX11_count_75 : decode cX11_count 75 = .ok (.aload_n 0, 1) := by decide +kernel
theorem dX11_count_76 : decode cX11_count 76 = .ok (.getfield 117, 3) := by decide +kernel
theorem dX11_count_79 : decode cX11_count 79 = .ok (.bipush 57, 2) := by decide +kernel
theorem dX11_count_81 : decode cX11_count 81 = .ok (.iaload, 1) := by decide +kernel
theorem dX11_count_82 : decode cX11_count 82 = .ok (.goto 35, 3) := by decide +kernel
theorem dX11_count_85 : decode cX11_count 85 = .ok (.iload_n 1, 1) := by decide +kernel
theorem dX11_count_86 : decode cX11_count 86 = .ok (.iconst 5, 1) := by decide +kernel
theorem dX11_count_87 : decode cX11_count 87 = .ok (.if_icmp .ne 13, 3) := by decide +kernel
theorem dX11_count_90 : decode cX11_count 90 = .ok (.aload_n 0, 1) := by decide +kernel
theorem dX11_count_91 : decode cX11_count 91 = .ok (.getfield 117, 3) := by decide +kernel
theorem dX11_count_94 : decode cX11_count 94 = .ok (.bipush 58, 2) := by decide +kernel
theorem dX11_count_96 : decode cX11_count 96 = .ok (.iaload, 1) := by decide +kernel
theorem dX11_count_97 : decode cX11_count 97 = .ok (.goto 20, 3) := by decide +kernel
theorem dX11_count_100 : decode cX11_count 100 = .ok (.iload_n 1, 1) := by decide +kernel
theorem dX11_count_101 : decode cX11_count 101 = .ok (.bipush 6, 2) := by decide +kernel
theorem dX11_count_103 : decode cX11_count 103 = .ok (.if_icmp .ne 10, 3) := by decide +kernel
theorem dX11_count_106 : decode cX11_count 106 = .ok (.aload_n 0, 1) := by decide +kernel
theorem dX11_count_107 : decode cX11_count 107 = .ok (.getfield 319, 3) := by decide +kernel
theorem dX11_count_110 : decode cX11_count 110 = .ok (.goto 7, 3) := by decide +kernel
theorem dX11_count_113 : decode cX11_count 113 = .ok (.aload_n 0, 1) := by decide +kernel
theorem dX11_count_114 : decode cX11_count 114 = .ok (.getfield 138, 3) := by decide +kernel
theorem dX11_count_117 : decode cX11_count 117 = .ok (.ireturn, 1) := by decide +kernel
theorem dJ11_isValidCodePoint_9a6ad_0 : decode cJ11_isValidCodePoint_9a6ad 0 = .ok (.iload_n 0, 1) := by decide +kernel
theorem dJ11_isValidCodePoint_9a6ad_1 : decode cJ11_isValidCodePoint_9a6ad 1 = .ok (.bipush 16, 2) := by decide +kernel
theorem dJ11_isValidCodePoint_9a6ad_3 : decode cJ11_isValidCodePoint_9a6ad 3 = .ok (.iushr, 1) := by decide +kernel
theorem dJ11_isValidCodePoint_9a6ad_4 : decode cJ11_isValidCodePoint_9a6ad 4 = .ok (.istore_n 1, 1) := by decide +kernel
theorem dJ11_isValidCodePoint_9a6ad_5 : decode cJ11_isValidCodePoint_9a6ad 5 = .ok (.iload_n 1, 1) := by decide +kernel
theorem dJ11_isValidCodePoint_9a6ad_6 : decode cJ11_isValidCodePoint_9a6ad 6 = .ok (.bipush 17, 2) := by decide +kernel
theorem dJ11_isValidCodePoint_9a6ad_8 : decode cJ11_isValidCodePoint_9a6ad 8 = .ok (.if_icmp .ge 7, 3) := by decide +kernel
theorem dJ11_isValidCodePoint_9a6ad_11 : decode cJ11_isValidCodePoint_9a6ad 11 = .ok (.iconst 1, 1) := by decide +kernel
theorem dJ11_isValidCodePoint_9a6ad_12 : decode cJ11_isValidCodePoint_9a6ad 12 = .ok (.goto 4, 3) := by decide +kernel
theorem dJ11_isValidCodePoint_9a6ad_15 : decode cJ11_isValidCodePoint_9a6ad 15 = .ok (.iconst 0, 1) := by decide +kernel
theorem dJ11_isValidCodePoint_9a6ad_16 : decode cJ11_isValidCodePoint_9a6ad 16 = .ok (.ireturn, 1) := by decide +kernel
theorem dJ11_highSurrogate_5068e_0 : decode cJ11_highSurrogate_5068e 0 = .ok (.iload_n 0, 1) := by decide +kernel
theorem dJ11_highSurrogate_5068e_1 : decode cJ11_highSurrogate_5068e 1 = .ok (.bipush 10, 2) := by decide +kernel
theorem dJ11_highSurrogate_5068e_3 : decode cJ11_highSurrogate_5068e 3 = .ok (.iushr, 1) := by decide +kernel
theorem dJ11_highSurrogate_5068e_4 : decode cJ11_highSurrogate_5068e 4 = .ok (.ldc 110, 2) := by decide +kernel
theorem dJ11_highSurrogate_5068e_6 : decode cJ11_highSurrogate_5068e 6 = .ok (.iadd, 1) := by decide +kernel
theorem dJ11_highSurrogate_5068e_7 : decode cJ11_highSurrogate_5068e 7 = .ok (.i2c, 1) := by decide +kernel
theorem dJ11_highSurrogate_5068e_8 : decode cJ11_highSurrogate_5068e 8 = .ok (.ireturn, 1) := by decide +kernel
theorem dJ11_lowSurrogate_5068e_0 : decode cJ11_lowSurrogate_5068e 0 = .ok (.iload_n 0, 1) := by decide +kernel
theorem dJ11_lowSurrogate_5068e_1 : decode cJ11_lowSurrogate_5068e 1 = .ok (.sipush 1023, 3) := by decide +kernel
theorem dJ11_lowSurrogate_5068e_4 : decode cJ11_lowSurrogate_5068e 4 = .ok (.iand, 1) := by decide +kernel
theorem dJ11_lowSurrogate_5068e_5 : decode cJ11_lowSurrogate_5068e 5 = .ok (.ldc 76, 2) := by decide +kernel
theorem dJ11_lowSurrogate_5068e_7 : decode cJ11_lowSurrogate_5068e 7 = .ok (.iadd, 1) := by decide +kernel
theorem dJ11_lowSurrogate_5068e_8 : decode cJ11_lowSurrogate_5068e 8 = .ok (.i2c, 1) := by decide +kernel
theorem dJ11_lowSurrogate_5068e_9 : decode cJ11_lowSurrogate_5068e 9 = .ok (.ireturn, 1) := by decide +kernel
theorem dJ6_bitCount_0f7a4_0 : decode cJ6_bitCount_0f7a4 0 = .ok (.iload_n 0, 1) := by decide +kernel
theorem dJ6_bitCount_0f7a4_1 : decode cJ6_bitCount_0f7a4 1 = .ok (.iload_n 0, 1) := by decide +kernel
theorem dJ6_bitCount_0f7a4_2 : decode cJ6_bitCount_0f7a4 2 = .ok (.iconst 1, 1) := by decide +kernel
theorem dJ6_bitCount_0f7a4_3 : decode cJ6_bitCount_0f7a4 3 = .ok (.iushr, 1) := by decide +kernel
theorem dJ6_bitCount_0f7a4_4 : decode cJ6_bitCount_0f7a4 4 = .ok (.ldc_w 265, 3) := by decide +kernel
theorem dJ6_bitCount_0f7a4_7 : decode cJ6_bitCount_0f7a4 7 = .ok (.iand, 1) := by decide +kernel
theorem dJ6_bitCount_0f7a4_8 : decode cJ6_bitCount_0f7a4 8 = .ok (.isub, 1) := by decide +kernel
theorem dJ6_bitCount_0f7a4_9 : decode cJ6_bitCount_0f7a4 9 = .ok (.istore_n 0, 1) := by decide +kernel
theorem dJ6_bitCount_0f7a4_10 : decode cJ6_bitCount_0f7a4 10 = .ok (.iload_n 0, 1) := by decide +kernel
theorem dJ6_bitCount_0f7a4_11 : decode cJ6_bitCount_0f7a4 11 = .ok (.ldc_w 266, 3) := by decide +kernel
theorem dJ6_bitCount_0f7a4_14 : decode cJ6_bitCount_0f7a4 14 = .ok (.iand, 1) := by decide +kernel
theorem dJ6_bitCount_0f7a4_15 : decode cJ6_bitCount_0f7a4 15 = .ok (.iload_n 0, 1) := by decide +kernel
theorem dJ6_bitCount_0f7a4_16 : decode cJ6_bitCount_0f7a4 16 = .ok (.iconst 2, 1) := by decide +kernel
theorem dJ6_bitCount_0f7a4_17 : decode cJ6_bitCount_0f7a4 17 = .ok (.iushr, 1) := by decide +kernel
theorem dJ6_bitCount_0f7a4_18 : decode cJ6_bitCount_0f7a4 18 = .ok (.ldc_w 266, 3) := by decide +kernel
theorem dJ6_bitCount_0f7a4_21 : decode cJ6_bitCount_0f7a4 21 = .ok (.iand, 1) := by decide +kernel
theorem dJ6_bitCount_0f7a4_22 : decode cJ6_bitCount_0f7a4 22 = .ok (.iadd, 1) := by decide +kernel
theorem dJ6_bitCount_0f7a4_23 : decode cJ6_bitCount_0f7a4 23 = .ok (.istore_n 0, 1) := by decide +kernel
theorem dJ6_bitCount_0f7a4_24 : decode cJ6_bitCount_0f7a4 24 = .ok (.iload_n 0, 1) := by decide +kernel
theorem dJ6_bitCount_0f7a4_25 : decode cJ6_bitCount_0f7a4 25 = .ok (.iload_n 0, 1) := by decide +kernel
theorem dJ6_bitCount_0f7a4_26 : decode cJ6_bitCount_0f7a4 26 = .ok (.iconst 4, 1) := by decide +kernel
theorem dJ6_bitCount_0f7a4_27 : decode cJ6_bitCount_0f7a4 27 = .ok (.iushr, 1) := by decide +kernel
theorem dJ6_bitCount_0f7a4_28 : decode cJ6_bitCount_0f7a4 28 = .ok (.iadd, 1) := by decide +kernel
theorem dJ6_bitCount_0f7a4_29 : decode cJ6_bitCount_0f7a4 29 = .ok (.ldc_w 267, 3) := by decide +kernel
theorem dJ6_bitCount_0f7a4_32 : decode cJ6_bitCount_0f7a4 32 = .ok (.iand, 1) := by decide +kernel
theorem dJ6_bitCount_0f7a4_33 : decode cJ6_bitCount_0f7a4 33 = .ok (.istore_n 0, 1) := by decide +kernel
theorem dJ6_bitCount_0f7a4_34 : decode cJ6_bitCount_0f7a4 34 = .ok (.iload_n 0, 1) := by decide +kernel
theorem dJ6_bitCount_0f7a4_35 : decode cJ6_bitCount_0f7a4 35 = .ok (.iload_n 0, 1) := by decide +kernel
theorem dJ6_bitCount_0f7a4_36 : decode cJ6_bitCount_0f7a4 36 = .ok (.bipush 8, 2) := by decide +kernel
theorem dJ6_bitCount_0f7a4_38 : decode cJ6_bitCount_0f7a4 38 = .ok (.iushr, 1) := by decide +kernel
theorem dJ6_bitCount_0f7a4_39 : decode cJ6_bitCount_0f7a4 39 = .ok (.iadd, 1) := by decide +kernel
theorem dJ6_bitCount_0f7a4_40 : decode cJ6_bitCount_0f7a4 40 = .ok (.istore_n 0, 1) := by decide +kernel
theorem dJ6_bitCount_0f7a4_41 : decode cJ6_bitCount_0f7a4 41 = .ok (.iload_n 0, 1) := by decide +kernel
theorem dJ6_bitCount_0f7a4_42 : decode cJ6_bitCount_0f7a4 42 = .ok (.iload_n 0, 1) := by decide +kernel
theorem dJ6_bitCount_0f7a4_43 : decode cJ6_bitCount_0f7a4 43 = .ok (.bipush 16, 2) := by decide +kernel
theorem dJ6_bitCount_0f7a4_45 : decode cJ6_bitCount_0f7a4 45 = .ok (.iushr, 1) := by decide +kernel
theorem dJ6_bitCount_0f7a4_46 : decode cJ6_bitCount_0f7a4 46 = .ok (.iadd, 1) := by decide +kernel
theorem dJ6_bitCount_0f7a4_47 : decode cJ6_bitCount_0f7a4 47 = .ok (.istore_n 0, 1) := by decide +kernel
theorem dJ6_bitCount_0f7a4_48 : decode cJ6_bitCount_0f7a4 48 = .ok (.iload_n 0, 1) := by decide +kernel
theorem dJ6_bitCount_0f7a4_49 : decode cJ6_bitCount_0f7a4 49 = .ok (.bipush 63, 2) := by decide +kernel
theorem dJ6_bitCount_0f7a4_51 : decode cJ6_bitCount_0f7a4 51 = .ok (.iand, 1) := by decide +kernel
theorem dJ6_bitCount_0f7a4_52 : decode cJ6_bitCount_0f7a4 52 = .ok (.ireturn, 1) := by decide +kernel
theorem dJ9_max_7cf53_0 : decode cJ9_max_7cf53 0 = .ok (.iload_n 0, 1) := by decide +kernel
theorem dJ9_max_7cf53_1 : decode cJ9_max_7cf53 1 = .ok (.iload_n 1, 1) := by decide +kernel
theorem dJ9_max_7cf53_2 : decode cJ9_max_7cf53 2 = .ok (.if_icmp .lt 7, 3) := by decide +kernel
theorem dJ9_max_7cf53_5 : decode cJ9_max_7cf53 5 = .ok (.iload_n 0, 1) := by decide +kernel
theorem dJ9_max_7cf53_6 : decode cJ9_max_7cf53 6 = .ok (.goto 4, 3) := by decide +kernel
theorem dJ9_max_7cf53_9 : decode cJ9_max_7cf53 9 = .ok (.iload_n 1, 1) := by decide +kernel
theorem dJ9_max_7cf53_10 : decode cJ9_max_7cf53 10 = .ok (.ireturn, 1) := by decide +kernel
theorem dJ9_min_7cf53_0 : decode cJ9_min_7cf53 0 = .ok (.iload_n 0, 1) := by decide +kernel
theorem dJ9_min_7cf53_1 : decode cJ9_min_7cf53 1 = .ok (.iload_n 1, 1) := by decide +kernel
theorem dJ9_min_7cf53_2 : decode cJ9_min_7cf53 2 = .ok (.if_icmp .gt 7, 3) := by decide +kernel
theorem dJ9_min_7cf53_5 : decode cJ9_min_7cf53 5 = .ok (.iload_n 0, 1) := by decide +kernel
theorem dJ9_min_7cf53_6 : decode cJ9_min_7cf53 6 = .ok (.goto 4, 3) := by decide +kernel
theorem dJ9_min_7cf53_9 : decode cJ9_min_7cf53 9 = .ok (.iload_n 1, 1) := by decide +kernel
theorem dJ9_min_7cf53_10 : decode cJ9_min_7cf53 10 = .ok (.ireturn, 1) := by decide +kernel
theorem dJ0_length_8abf5_0 : decode cJ0_length_8abf5 0 = .ok (.aload_n 0, 1) := by decide +kernel
theorem dJ0_length_8abf5_1 : decode cJ0_length_8abf5 1 = .ok (.getfield 9, 3) := by decide +kernel
theorem dJ0_length_8abf5_4 : decode cJ0_length_8abf5 4 = .ok (.arraylength, 1) := by decide +kernel
theorem dJ0_length_8abf5_5 : decode cJ0_length_8abf5 5 = .ok (.aload_n 0, 1) := by decide +kernel
theorem dJ0_length_8abf5_6 : decode cJ0_length_8abf5 6 = .ok (.invokevirtual 335, 3) := by decide +kernel
theorem dJ0_length_8abf5_9 : decode cJ0_length_8abf5 9 = .ok (.ishr, 1) := by decide +kernel
theorem dJ0_length_8abf5_10 : decode cJ0_length_8abf5 10 = .ok (.ireturn, 1) := by decide +kernel
theorem dJ0_charAt_5068e_0 : decode cJ0_charAt_5068e 0 = .ok (.aload_n 0, 1) := by decide +kernel
theorem dJ0_charAt_5068e_1 : decode cJ0_charAt_5068e 1 = .ok (.invokevirtual 492, 3) := by decide +kernel
theorem dJ0_charAt_5068e_4 : decode cJ0_charAt_5068e 4 = .ok (.ifCond .eq 12, 3) := by decide +kernel
theorem dJ0_charAt_5068e_7 : decode cJ0_charAt_5068e 7 = .ok (.aload_n 0, 1) := by decide +kernel
theorem dJ0_charAt_5068e_8 : decode cJ0_charAt_5068e 8 = .ok (.getfield 9, 3) := by decide +kernel
theorem dJ0_charAt_5068e_11 : decode cJ0_charAt_5068e 11 = .ok (.iload_n 1, 1) := by decide +kernel
theorem dJ0_charAt_5068e_12 : decode cJ0_charAt_5068e 12 = .ok (.invokestatic 495, 3) := by decide +kernel
theorem dJ0_charAt_5068e_15 : decode cJ0_charAt_5068e 15 = .ok (.ireturn, 1) := by decide +kernel
theorem dJ0_charAt_5068e_16 : decode cJ0_charAt_5068e 16 = .ok (.aload_n 0, 1) := by decide +kernel
theorem dJ0_charAt_5068e_17 : decode cJ0_charAt_5068e 17 = .ok (.getfield 9, 3) := by decide +kernel
theorem dJ0_charAt_5068e_20 : decode cJ0_charAt_5068e 20 = .ok (.iload_n 1, 1) := by decide +kernel
theorem dJ0_charAt_5068e_21 : decode cJ0_charAt_5068e 21 = .ok (.invokestatic 498, 3) := by decide +kernel
theorem dJ0_charAt_5068e_24 : decode cJ0_charAt_5068e 24 = .ok (.ireturn, 1) := by decide +kernel
theorem dJ0_indexOf_0f7a4_0 : decode cJ0_indexOf_0f7a4 0 = .ok (.aload_n 0, 1) := by decide +kernel
theorem dJ0_indexOf_0f7a4_1 : decode cJ0_indexOf_0f7a4 1 = .ok (.iload_n 1, 1) := by decide +kernel
theorem dJ0_indexOf_0f7a4_2 : decode cJ0_indexOf_0f7a4 2 = .ok (.iconst 0, 1) := by decide +kernel
theorem dJ0_indexOf_0f7a4_3 : decode cJ0_indexOf_0f7a4 3 = .ok (.invokevirtual 633, 3) := by decide +kernel
theorem dJ0_indexOf_0f7a4_6 : decode cJ0_indexOf_0f7a4 6 = .ok (.ireturn, 1) := by decide +kernel
theorem dJ0_indexOf_7cf53_0 : decode cJ0_indexOf_7cf53 0 = .ok (.aload_n 0, 1) := by decide +kernel
theorem dJ0_indexOf_7cf53_1 : decode cJ0_indexOf_7cf53 1 = .ok (.invokevirtual 492, 3) := by decide +kernel
theorem dJ0_indexOf_7cf53_4 : decode cJ0_indexOf_7cf53 4 = .ok (.ifCond .eq 19, 3) := by decide +kernel
theorem dJ0_indexOf_7cf53_7 : decode cJ0_indexOf_7cf53 7 = .ok (.aload_n 0, 1) := by decide +kernel
theorem dJ0_indexOf_7cf53_8 : decode cJ0_indexOf_7cf53 8 = .ok (.getfield 9, 3) := by decide +kernel
theorem dJ0_indexOf_7cf53_11 : decode cJ0_indexOf_7cf53 11 = .ok (.iload_n 1, 1) := by decide +kernel
theorem dJ0_indexOf_7cf53_12 : decode cJ0_indexOf_7cf53 12 = .ok (.iload_n 2, 1) := by decide +kernel
theorem dJ0_indexOf_7cf53_13 : decode cJ0_indexOf_7cf53 13 = .ok (.aload_n 0, 1) := by decide +kernel
theorem dJ0_indexOf_7cf53_14 : decode cJ0_indexOf_7cf53 14 = .ok (.invokevirtual 505, 3) := by decide +kernel
theorem dJ0_indexOf_7cf53_17 : decode cJ0_indexOf_7cf53 17 = .ok (.invokestatic 637, 3) := by decide +kernel
theorem dJ0_indexOf_7cf53_20 : decode cJ0_indexOf_7cf53 20 = .ok (.goto 16, 3) := by decide +kernel
theorem dJ0_indexOf_7cf53_23 : decode cJ0_indexOf_7cf53 23 = .ok (.aload_n 0, 1) := by decide +kernel
theorem dJ0_indexOf_7cf53_24 : decode cJ0_indexOf_7cf53 24 = .ok (.getfield 9, 3) := by decide +kernel
theorem dJ0_indexOf_7cf53_27 : decode cJ0_indexOf_7cf53 27 = .ok (.iload_n 1, 1) := by decide +kernel
theorem dJ0_indexOf_7cf53_28 : decode cJ0_indexOf_7cf53 28 = .ok (.iload_n 2, 1) := by decide +kernel
theorem dJ0_indexOf_7cf53_29 : decode cJ0_indexOf_7cf53 29 = .ok (.aload_n 0, 1) := by decide +kernel
theorem dJ0_indexOf_7cf53_30 : decode cJ0_indexOf_7cf53 30 = .ok (.invokevirtual 505, 3) := by decide +kernel
theorem dJ0_indexOf_7cf53_33 : decode cJ0_indexOf_7cf53 33 = .ok (.invokestatic 640, 3) := by decide +kernel
theorem dJ0_indexOf_7cf53_36 : decode cJ0_indexOf_7cf53 36 = .ok (.ireturn, 1) := by decide +kernel
theorem dJ0_coder_7d493_0 : decode cJ0_coder_7d493 0 = .ok (.getstatic 38, 3) := by decide +kernel
theorem dJ0_coder_7d493_3 : decode cJ0_coder_7d493 3 = .ok (.ifCond .eq 10, 3) := by decide +kernel
theorem dJ0_coder_7d493_6 : decode cJ0_coder_7d493 6 = .ok (.aload_n 0, 1) := by decide +kernel
theorem dJ0_coder_7d493_7 : decode cJ0_coder_7d493 7 = .ok (.getfield 15, 3) := by decide +kernel
theorem dJ0_coder_7d493_10 : decode cJ0_coder_7d493 10 = .ok (.goto 4, 3) := by decide +kernel
theorem dJ0_coder_7d493_13 : decode cJ0_coder_7d493 13 = .ok (.iconst 1, 1) := by decide +kernel
theorem dJ0_coder_7d493_14 : decode cJ0_coder_7d493 14 = .ok (.ireturn, 1) := by decide +kernel
theorem dJ0_isLatin1_aae02_0 : decode cJ0_isLatin1_aae02 0 = .ok (.getstatic 38, 3) := by decide +kernel
theorem dJ0_isLatin1_aae02_3 : decode cJ0_isLatin1_aae02 3 = .ok (.ifCond .eq 14, 3) := by decide +kernel
theorem dJ0_isLatin1_aae02_6 : decode cJ0_isLatin1_aae02 6 = .ok (.aload_n 0, 1) := by decide +kernel
theorem dJ0_isLatin1_aae02_7 : decode cJ0_isLatin1_aae02 7 = .ok (.getfield 15, 3) := by decide +kernel
theorem dJ0_isLatin1_aae02_10 : decode cJ0_isLatin1_aae02 10 = .ok (.ifCond .ne 7, 3) := by decide +kernel
theorem dJ0_isLatin1_aae02_13 : decode cJ0_isLatin1_aae02 13 = .ok (.iconst 1, 1) := by decide +kernel
theorem dJ0_isLatin1_aae02_14 : decode cJ0_isLatin1_aae02 14 = .ok (.goto 4, 3) := by decide +kernel
theorem dJ0_isLatin1_aae02_17 : decode cJ0_isLatin1_aae02 17 = .ok (.iconst 0, 1) := by decide +kernel
theorem dJ0_isLatin1_aae02_18 : decode cJ0_isLatin1_aae02 18 = .ok (.ireturn, 1) := by decide +kernel
theorem dJ0_checkIndex_df160_0 : decode cJ0_checkIndex_df160 0 = .ok (.iload_n 0, 1) := by decide +kernel
theorem dJ0_checkIndex_df160_1 : decode cJ0_checkIndex_df160 1 = .ok (.iload_n 1, 1) := by decide +kernel
theorem dJ0_checkIndex_df160_2 : decode cJ0_checkIndex_df160 2 = .ok (.getstatic 1053, 3) := by decide +kernel
theorem dJ0_checkIndex_df160_5 : decode cJ0_checkIndex_df160 5 = .ok (.invokestatic 1059, 3) := by decide +kernel
theorem dJ0_checkIndex_df160_8 : decode cJ0_checkIndex_df160 8 = .ok (.pop, 1) := by decide +kernel
theorem dJ0_checkIndex_df160_9 : decode cJ0_checkIndex_df160 9 = .ok (.return_, 1) := by decide +kernel
theorem dJ0_checkBoundsBeginEnd_23922_0 : decode cJ0_checkBoundsBeginEnd_23922 0 = .ok (.iload_n 0, 1) := by decide +kernel
theorem dJ0_checkBoundsBeginEnd_23922_1 : decode cJ0_checkBoundsBeginEnd_23922 1 = .ok (.iload_n 1, 1) := by decide +kernel
theorem dJ0_checkBoundsBeginEnd_23922_2 : decode cJ0_checkBoundsBeginEnd_23922 2 = .ok (.iload_n 2, 1) := by decide +kernel
theorem dJ0_checkBoundsBeginEnd_23922_3 : decode cJ0_checkBoundsBeginEnd_23922 3 = .ok (.getstatic 1053, 3) := by decide +kernel
theorem dJ0_checkBoundsBeginEnd_23922_6 : decode cJ0_checkBoundsBeginEnd_23922 6 = .ok (.invokestatic 1062, 3) := by decide +kernel
theorem dJ0_checkBoundsBeginEnd_23922_9 : decode cJ0_checkBoundsBeginEnd_23922 9 = .ok (.pop, 1) := by decide +kernel
theorem dJ0_checkBoundsBeginEnd_23922_10 : decode cJ0_checkBoundsBeginEnd_23922 10 = .ok (.return_, 1) := by decide +kernel
theorem dJ1_charAt_3b067_0 : decode cJ1_charAt_3b067 0 = .ok (.iload_n 1, 1) := by decide +kernel
theorem dJ1_charAt_3b067_1 : decode cJ1_charAt_3b067 1 = .ok (.aload_n 0, 1) := by decide +kernel
theorem dJ1_charAt_3b067_2 : decode cJ1_charAt_3b067 2 = .ok (.arraylength, 1) := by decide +kernel
theorem dJ1_charAt_3b067_3 : decode cJ1_charAt_3b067 3 = .ok (.invokestatic 9, 3) := by decide +kernel
theorem dJ1_charAt_3b067_6 : decode cJ1_charAt_3b067 6 = .ok (.aload_n 0, 1) := by decide +kernel
theorem dJ1_charAt_3b067_7 : decode cJ1_charAt_3b067 7 = .ok (.iload_n 1, 1) := by decide +kernel
theorem dJ1_charAt_3b067_8 : decode cJ1_charAt_3b067 8 = .ok (.baload, 1) := by decide +kernel
theorem dJ1_charAt_3b067_9 : decode cJ1_charAt_3b067 9 = .ok (.sipush 255, 3) := by decide +kernel
theorem dJ1_charAt_3b067_12 : decode cJ1_charAt_3b067 12 = .ok (.iand, 1) := by decide +kernel
theorem dJ1_charAt_3b067_13 : decode cJ1_charAt_3b067 13 = .ok (.i2c, 1) := by decide +kernel
theorem dJ1_charAt_3b067_14 : decode cJ1_charAt_3b067 14 = .ok (.ireturn, 1) := by decide +kernel
theorem dJ1_canEncode_9a6ad_0 : decode cJ1_canEncode_9a6ad 0 = .ok (.iload_n 0, 1) := by decide +kernel
theorem dJ1_canEncode_9a6ad_1 : decode cJ1_canEncode_9a6ad 1 = .ok (.ifCond .lt 14, 3) := by decide +kernel
theorem dJ1_canEncode_9a6ad_4 : decode cJ1_canEncode_9a6ad 4 = .ok (.iload_n 0, 1) := by decide +kernel
theorem dJ1_canEncode_9a6ad_5 : decode cJ1_canEncode_9a6ad 5 = .ok (.sipush 255, 3) := by decide +kernel
theorem dJ1_canEncode_9a6ad_8 : decode cJ1_canEncode_9a6ad 8 = .ok (.if_icmp .gt 7, 3) := by decide +kernel
theorem dJ1_canEncode_9a6ad_11 : decode cJ1_canEncode_9a6ad 11 = .ok (.iconst 1, 1) := by decide +kernel
theorem dJ1_canEncode_9a6ad_12 : decode cJ1_canEncode_9a6ad 12 = .ok (.goto 4, 3) := by decide +kernel
theorem dJ1_canEncode_9a6ad_15 : decode cJ1_canEncode_9a6ad 15 = .ok (.iconst 0, 1) := by decide +kernel
theorem dJ1_canEncode_9a6ad_16 : decode cJ1_canEncode_9a6ad 16 = .ok (.ireturn, 1) := by decide +kernel
theorem dJ1_indexOf_4cfef_0 : decode cJ1_indexOf_4cfef 0 = .ok (.iload_n 1, 1) := by decide +kernel
theorem dJ1_indexOf_4cfef_1 : decode cJ1_indexOf_4cfef 1 = .ok (.invokestatic 88, 3) := by decide +kernel
theorem dJ1_indexOf_4cfef_4 : decode cJ1_indexOf_4cfef 4 = .ok (.ifCond .ne 5, 3) := by decide +kernel
theorem dJ1_indexOf_4cfef_7 : decode cJ1_indexOf_4cfef 7 = .ok (.iconst (-1), 1) := by decide +kernel
theorem dJ1_indexOf_4cfef_8 : decode cJ1_indexOf_4cfef 8 = .ok (.ireturn, 1) := by decide +kernel
theorem dJ1_indexOf_4cfef_9 : decode cJ1_indexOf_4cfef 9 = .ok (.iload_n 2, 1) := by decide +kernel
theorem dJ1_indexOf_4cfef_10 : decode cJ1_indexOf_4cfef 10 = .ok (.iconst 0, 1) := by decide +kernel
theorem dJ1_indexOf_4cfef_11 : decode cJ1_indexOf_4cfef 11 = .ok (.invokestatic 92, 3) := by decide +kernel
theorem dJ1_indexOf_4cfef_14 : decode cJ1_indexOf_4cfef 14 = .ok (.istore_n 2, 1) := by decide +kernel
theorem dJ1_indexOf_4cfef_15 : decode cJ1_indexOf_4cfef 15 = .ok (.iload_n 3, 1) := by decide +kernel
theorem dJ1_indexOf_4cfef_16 : decode cJ1_indexOf_4cfef 16 = .ok (.aload_n 0, 1) := by decide +kernel
theorem dJ1_indexOf_4cfef_17 : decode cJ1_indexOf_4cfef 17 = .ok (.arraylength, 1) := by decide +kernel
theorem dJ1_indexOf_4cfef_18 : decode cJ1_indexOf_4cfef 18 = .ok (.invokestatic 38, 3) := by decide +kernel
theorem dJ1_indexOf_4cfef_21 : decode cJ1_indexOf_4cfef 21 = .ok (.istore_n 3, 1) := by decide +kernel
theorem dJ1_indexOf_4cfef_22 : decode cJ1_indexOf_4cfef 22 = .ok (.iload_n 2, 1) := by decide +kernel
theorem dJ1_indexOf_4cfef_23 : decode cJ1_indexOf_4cfef 23 = .ok (.iload_n 3, 1) := by decide +kernel
theorem dJ1_indexOf_4cfef_24 : decode cJ1_indexOf_4cfef 24 = .ok (.if_icmp .lt 5, 3) := by decide +kernel
theorem dJ1_indexOf_4cfef_27 : decode cJ1_indexOf_4cfef 27 = .ok (.iconst (-1), 1) := by decide +kernel
theorem dJ1_indexOf_4cfef_28 : decode cJ1_indexOf_4cfef 28 = .ok (.ireturn, 1) := by decide +kernel
theorem dJ1_indexOf_4cfef_29 : decode cJ1_indexOf_4cfef 29 = .ok (.aload_n 0, 1) := by decide +kernel
theorem dJ1_indexOf_4cfef_30 : decode cJ1_indexOf_4cfef 30 = .ok (.iload_n 1, 1) := by decide +kernel
theorem dJ1_indexOf_4cfef_31 : decode cJ1_indexOf_4cfef 31 = .ok (.iload_n 2, 1) := by decide +kernel
theorem dJ1_indexOf_4cfef_32 : decode cJ1_indexOf_4cfef 32 = .ok (.iload_n 3, 1) := by decide +kernel
theorem dJ1_indexOf_4cfef_33 : decode cJ1_indexOf_4cfef 33 = .ok (.invokestatic 95, 3) := by decide +kernel
theorem dJ1_indexOf_4cfef_36 : decode cJ1_indexOf_4cfef 36 = .ok (.ireturn, 1) := by decide +kernel
theorem dJ1_indexOfChar_4cfef_0 : decode cJ1_indexOfChar_4cfef 0 = .ok (.iload_n 1, 1) := by decide +kernel
theorem dJ1_indexOfChar_4cfef_1 : decode cJ1_indexOfChar_4cfef 1 = .ok (.i2b, 1) := by decide +kernel
theorem dJ1_indexOfChar_4cfef_2 : decode cJ1_indexOfChar_4cfef 2 = .ok (.istore 4, 2) := by decide +kernel
theorem dJ1_indexOfChar_4cfef_4 : decode cJ1_indexOfChar_4cfef 4 = .ok (.iload_n 2, 1) := by decide +kernel
theorem dJ1_indexOfChar_4cfef_5 : decode cJ1_indexOfChar_4cfef 5 = .ok (.istore 5, 2) := by decide +kernel
theorem dJ1_indexOfChar_4cfef_7 : decode cJ1_indexOfChar_4cfef 7 = .ok (.iload 5, 2) := by decide +kernel
theorem dJ1_indexOfChar_4cfef_9 : decode cJ1_indexOfChar_4cfef 9 = .ok (.iload_n 3, 1) := by decide +kernel
theorem dJ1_indexOfChar_4cfef_10 : decode cJ1_indexOfChar_4cfef 10 = .ok (.if_icmp .ge 21, 3) := by decide +kernel
theorem dJ1_indexOfChar_4cfef_13 : decode cJ1_indexOfChar_4cfef 13 = .ok (.aload_n 0, 1) := by decide +kernel
theorem dJ1_indexOfChar_4cfef_14 : decode cJ1_indexOfChar_4cfef 14 = .ok (.iload 5, 2) := by decide +kernel
theorem dJ1_indexOfChar_4cfef_16 : decode cJ1_indexOfChar_4cfef 16 = .ok (.baload, 1) := by decide +kernel
theorem dJ1_indexOfChar_4cfef_17 : decode cJ1_indexOfChar_4cfef 17 = .ok (.iload 4, 2) := by decide +kernel
theorem dJ1_indexOfChar_4cfef_19 : decode cJ1_indexOfChar_4cfef 19 = .ok (.if_icmp .ne 6, 3) := by decide +kernel
theorem dJ1_indexOfChar_4cfef_22 : decode cJ1_indexOfChar_4cfef 22 = .ok (.iload 5, 2) := by decide +kernel
theorem dJ1_indexOfChar_4cfef_24 : decode cJ1_indexOfChar_4cfef 24 = .ok (.ireturn, 1) := by decide +kernel
theorem dJ1_indexOfChar_4cfef_25 : decode cJ1_indexOfChar_4cfef 25 = .ok (.iinc 5 1, 3) := by decide +kernel
theorem dJ1_indexOfChar_4cfef_28 : decode cJ1_indexOfChar_4cfef 28 = .ok (.goto (-21), 3) := by decide +kernel
theorem dJ1_indexOfChar_4cfef_31 : decode cJ1_indexOfChar_4cfef 31 = .ok (.iconst (-1), 1) := by decide +kernel
theorem dJ1_indexOfChar_4cfef_32 : decode cJ1_indexOfChar_4cfef 32 = .ok (.ireturn, 1) := by decide +kernel
theorem dJ2_getChar_3b067_0 : decode cJ2_getChar_3b067 0 = .ok (.getstatic 44, 3) := by decide +kernel
theorem dJ2_getChar_3b067_3 : decode cJ2_getChar_3b067 3 = .ok (.ifCond .ne 25, 3) := by decide +kernel
theorem dJ2_getChar_3b067_6 : decode cJ2_getChar_3b067 6 = .ok (.iload_n 1, 1) := by decide +kernel
theorem dJ2_getChar_3b067_7 : decode cJ2_getChar_3b067 7 = .ok (.ifCond .lt 11, 3) := by decide +kernel
theorem dJ2_getChar_3b067_10 : decode cJ2_getChar_3b067 10 = .ok (.iload_n 1, 1) := by decide +kernel
theorem dJ2_getChar_3b067_11 : decode cJ2_getChar_3b067 11 = .ok (.aload_n 0, 1) := by decide +kernel
theorem dJ2_getChar_3b067_12 : decode cJ2_getChar_3b067 12 = .ok (.invokestatic 48, 3) := by decide +kernel
theorem dJ2_getChar_3b067_15 : decode cJ2_getChar_3b067 15 = .ok (.if_icmp .lt 13, 3) := by decide +kernel
theorem dJ2_getChar_3b067_18 : decode cJ2_getChar_3b067 18 = .ok (.new 52, 3) := by decide +kernel
theorem dJ2_getChar_3b067_21 : decode cJ2_getChar_3b067 21 = .ok (.dup, 1) := by decide +kernel
theorem dJ2_getChar_3b067_22 : decode cJ2_getChar_3b067 22 = .ok (.ldc 54, 2) := by decide +kernel
theorem dJ2_getChar_3b067_24 : decode cJ2_getChar_3b067 24 = .ok (.invokespecial 56, 3) := by decide +kernel
theorem dJ2_getChar_3b067_27 : decode cJ2_getChar_3b067 27 = .ok (.athrow, 1) := by decide +kernel
theorem dJ2_getChar_3b067_28 : decode cJ2_getChar_3b067 28 = .ok (.iload_n 1, 1) := by decide +kernel
theorem dJ2_getChar_3b067_29 : decode cJ2_getChar_3b067 29 = .ok (.iconst 1, 1) := by decide +kernel
theorem dJ2_getChar_3b067_30 : decode cJ2_getChar_3b067 30 = .ok (.ishl, 1) := by decide +kernel
theorem dJ2_getChar_3b067_31 : decode cJ2_getChar_3b067 31 = .ok (.istore_n 1, 1) := by decide +kernel
theorem dJ2_getChar_3b067_32 : decode cJ2_getChar_3b067 32 = .ok (.aload_n 0, 1) := by decide +kernel
theorem dJ2_getChar_3b067_33 : decode cJ2_getChar_3b067 33 = .ok (.iload_n 1, 1) := by decide +kernel
theorem dJ2_getChar_3b067_34 : decode cJ2_getChar_3b067 34 = .ok (.iinc 1 1, 3) := by decide +kernel
theorem dJ2_getChar_3b067_37 : decode cJ2_getChar_3b067 37 = .ok (.baload, 1) := by decide +kernel
theorem dJ2_getChar_3b067_38 : decode cJ2_getChar_3b067 38 = .ok (.sipush 255, 3) := by decide +kernel
theorem dJ2_getChar_3b067_41 : decode cJ2_getChar_3b067 41 = .ok (.iand, 1) := by decide +kernel
theorem dJ2_getChar_3b067_42 : decode cJ2_getChar_3b067 42 = .ok (.getstatic 59, 3) := by decide +kernel
theorem dJ2_getChar_3b067_45 : decode cJ2_getChar_3b067 45 = .ok (.ishl, 1) := by decide +kernel
theorem dJ2_getChar_3b067_46 : decode cJ2_getChar_3b067 46 = .ok (.aload_n 0, 1) := by decide +kernel
theorem dJ2_getChar_3b067_47 : decode cJ2_getChar_3b067 47 = .ok (.iload_n 1, 1) := by decide +kernel
theorem dJ2_getChar_3b067_48 : decode cJ2_getChar_3b067 48 = .ok (.baload, 1) := by decide +kernel
theorem dJ2_getChar_3b067_49 : decode cJ2_getChar_3b067 49 = .ok (.sipush 255, 3) := by decide +kernel
theorem dJ2_getChar_3b067_52 : decode cJ2_getChar_3b067 52 = .ok (.iand, 1) := by decide +kernel
theorem dJ2_getChar_3b067_53 : decode cJ2_getChar_3b067 53 = .ok (.getstatic 63, 3) := by decide +kernel
theorem dJ2_getChar_3b067_56 : decode cJ2_getChar_3b067 56 = .ok (.ishl, 1) := by decide +kernel
theorem dJ2_getChar_3b067_57 : decode cJ2_getChar_3b067 57 = .ok (.ior, 1) := by decide +kernel
theorem dJ2_getChar_3b067_58 : decode cJ2_getChar_3b067 58 = .ok (.i2c, 1) := by decide +kernel
theorem dJ2_getChar_3b067_59 : decode cJ2_getChar_3b067 59 = .ok (.ireturn, 1) := by decide +kernel
theorem dJ2_length_9d52b_0 : decode cJ2_length_9d52b 0 = .ok (.aload_n 0, 1) := by decide +kernel
theorem dJ2_length_9d52b_1 : decode cJ2_length_9d52b 1 = .ok (.arraylength, 1) := by decide +kernel
theorem dJ2_length_9d52b_2 : decode cJ2_length_9d52b 2 = .ok (.iconst 1, 1) := by decide +kernel
theorem dJ2_length_9d52b_3 : decode cJ2_length_9d52b 3 = .ok (.ishr, 1) := by decide +kernel
theorem dJ2_length_9d52b_4 : decode cJ2_length_9d52b 4 = .ok (.ireturn, 1) := by decide +kernel
theorem dJ2_indexOf_4cfef_0 : decode cJ2_indexOf_4cfef 0 = .ok (.iload_n 2, 1) := by decide +kernel
theorem dJ2_indexOf_4cfef_1 : decode cJ2_indexOf_4cfef 1 = .ok (.iconst 0, 1) := by decide +kernel
theorem dJ2_indexOf_4cfef_2 : decode cJ2_indexOf_4cfef 2 = .ok (.invokestatic 224, 3) := by decide +kernel
theorem dJ2_indexOf_4cfef_5 : decode cJ2_indexOf_4cfef 5 = .ok (.istore_n 2, 1) := by decide +kernel
theorem dJ2_indexOf_4cfef_6 : decode cJ2_indexOf_4cfef 6 = .ok (.iload_n 3, 1) := by decide +kernel
theorem dJ2_indexOf_4cfef_7 : decode cJ2_indexOf_4cfef 7 = .ok (.aload_n 0, 1) := by decide +kernel
theorem dJ2_indexOf_4cfef_8 : decode cJ2_indexOf_4cfef 8 = .ok (.arraylength, 1) := by decide +kernel
theorem dJ2_indexOf_4cfef_9 : decode cJ2_indexOf_4cfef 9 = .ok (.iconst 1, 1) := by decide +kernel
theorem dJ2_indexOf_4cfef_10 : decode cJ2_indexOf_4cfef 10 = .ok (.ishr, 1) := by decide +kernel
theorem dJ2_indexOf_4cfef_11 : decode cJ2_indexOf_4cfef 11 = .ok (.invokestatic 183, 3) := by decide +kernel
theorem dJ2_indexOf_4cfef_14 : decode cJ2_indexOf_4cfef 14 = .ok (.istore_n 3, 1) := by decide +kernel
theorem dJ2_indexOf_4cfef_15 : decode cJ2_indexOf_4cfef 15 = .ok (.iload_n 2, 1) := by decide +kernel
theorem dJ2_indexOf_4cfef_16 : decode cJ2_indexOf_4cfef 16 = .ok (.iload_n 3, 1) := by decide +kernel
theorem dJ2_indexOf_4cfef_17 : decode cJ2_indexOf_4cfef 17 = .ok (.if_icmp .lt 5, 3) := by decide +kernel
theorem dJ2_indexOf_4cfef_20 : decode cJ2_indexOf_4cfef 20 = .ok (.iconst (-1), 1) := by decide +kernel
theorem dJ2_indexOf_4cfef_21 : decode cJ2_indexOf_4cfef 21 = .ok (.ireturn, 1) := by decide +kernel
theorem dJ2_indexOf_4cfef_22 : decode cJ2_indexOf_4cfef 22 = .ok (.iload_n 1, 1) := by decide +kernel
theorem dJ2_indexOf_4cfef_23 : decode cJ2_indexOf_4cfef 23 = .ok (.ldc 227, 2) := by decide +kernel
theorem dJ2_indexOf_4cfef_25 : decode cJ2_indexOf_4cfef 25 = .ok (.if_icmp .ge 11, 3) := by decide +kernel
theorem dJ2_indexOf_4cfef_28 : decode cJ2_indexOf_4cfef 28 = .ok (.aload_n 0, 1) := by decide +kernel
theorem dJ2_indexOf_4cfef_29 : decode cJ2_indexOf_4cfef 29 = .ok (.iload_n 1, 1) := by decide +kernel
theorem dJ2_indexOf_4cfef_30 : decode cJ2_indexOf_4cfef 30 = .ok (.iload_n 2, 1) := by decide +kernel
theorem dJ2_indexOf_4cfef_31 : decode cJ2_indexOf_4cfef 31 = .ok (.iload_n 3, 1) := by decide +kernel
theorem dJ2_indexOf_4cfef_32 : decode cJ2_indexOf_4cfef 32 = .ok (.invokestatic 228, 3) := by decide +kernel
theorem dJ2_indexOf_4cfef_35 : decode cJ2_indexOf_4cfef 35 = .ok (.ireturn, 1) := by decide +kernel
theorem dJ2_indexOf_4cfef_36 : decode cJ2_indexOf_4cfef 36 = .ok (.aload_n 0, 1) := by decide +kernel
theorem dJ2_indexOf_4cfef_37 : decode cJ2_indexOf_4cfef 37 = .ok (.iload_n 1, 1) := by decide +kernel
theorem dJ2_indexOf_4cfef_38 : decode cJ2_indexOf_4cfef 38 = .ok (.iload_n 2, 1) := by decide +kernel
theorem dJ2_indexOf_4cfef_39 : decode cJ2_indexOf_4cfef 39 = .ok (.iload_n 3, 1) := by decide +kernel
theorem dJ2_indexOf_4cfef_40 : decode cJ2_indexOf_4cfef 40 = .ok (.invokestatic 232, 3) := by decide +kernel
theorem dJ2_indexOf_4cfef_43 : decode cJ2_indexOf_4cfef 43 = .ok (.ireturn, 1) := by decide +kernel
theorem dJ2_indexOfChar_4cfef_0 : decode cJ2_indexOfChar_4cfef 0 = .ok (.iload_n 2, 1) := by decide +kernel
theorem dJ2_indexOfChar_4cfef_1 : decode cJ2_indexOfChar_4cfef 1 = .ok (.iload_n 3, 1) := by decide +kernel
theorem dJ2_indexOfChar_4cfef_2 : decode cJ2_indexOfChar_4cfef 2 = .ok (.aload_n 0, 1) := by decide +kernel
theorem dJ2_indexOfChar_4cfef_3 : decode cJ2_indexOfChar_4cfef 3 = .ok (.invokestatic 96, 3) := by decide +kernel
theorem dJ2_indexOfChar_4cfef_6 : decode cJ2_indexOfChar_4cfef 6 = .ok (.aload_n 0, 1) := by decide +kernel
theorem dJ2_indexOfChar_4cfef_7 : decode cJ2_indexOfChar_4cfef 7 = .ok (.iload_n 1, 1) := by decide +kernel
theorem dJ2_indexOfChar_4cfef_8 : decode cJ2_indexOfChar_4cfef 8 = .ok (.iload_n 2, 1) := by decide +kernel
theorem dJ2_indexOfChar_4cfef_9 : decode cJ2_indexOfChar_4cfef 9 = .ok (.iload_n 3, 1) := by decide +kernel
theorem dJ2_indexOfChar_4cfef_10 : decode cJ2_indexOfChar_4cfef 10 = .ok (.invokestatic 244, 3) := by decide +kernel
theorem dJ2_indexOfChar_4cfef_13 : decode cJ2_indexOfChar_4cfef 13 = .ok (.ireturn, 1) := by decide +kernel
theorem dJ2_indexOfCharUnsafe_4cfef_0 : decode cJ2_indexOfCharUnsafe_4cfef 0 = .ok (.iload_n 2, 1) := by decide +kernel
theorem dJ2_indexOfCharUnsafe_4cfef_1 : decode cJ2_indexOfCharUnsafe_4cfef 1 = .ok (.istore 4, 2) := by decide +kernel
theorem dJ2_indexOfCharUnsafe_4cfef_3 : decode cJ2_indexOfCharUnsafe_4cfef 3 = .ok (.iload 4, 2) := by decide +kernel
theorem dJ2_indexOfCharUnsafe_4cfef_5 : decode cJ2_indexOfCharUnsafe_4cfef 5 = .ok (.iload_n 3, 1) := by decide +kernel
theorem dJ2_indexOfCharUnsafe_4cfef_6 : decode cJ2_indexOfCharUnsafe_4cfef 6 = .ok (.if_icmp .ge 22, 3) := by decide +kernel
theorem dJ2_indexOfCharUnsafe_4cfef_9 : decode cJ2_indexOfCharUnsafe_4cfef 9 = .ok (.aload_n 0, 1) := by decide +kernel
theorem dJ2_indexOfCharUnsafe_4cfef_10 : decode cJ2_indexOfCharUnsafe_4cfef 10 = .ok (.iload 4, 2) := by decide +kernel
theorem dJ2_indexOfCharUnsafe_4cfef_12 : decode cJ2_indexOfCharUnsafe_4cfef 12 = .ok (.invokestatic 71, 3) := by decide +kernel
theorem dJ2_indexOfCharUnsafe_4cfef_15 : decode cJ2_indexOfCharUnsafe_4cfef 15 = .ok (.iload_n 1, 1) := by decide +kernel
theorem dJ2_indexOfCharUnsafe_4cfef_16 : decode cJ2_indexOfCharUnsafe_4cfef 16 = .ok (.if_icmp .ne 6, 3) := by decide +kernel
theorem dJ2_indexOfCharUnsafe_4cfef_19 : decode cJ2_indexOfCharUnsafe_4cfef 19 = .ok (.iload 4, 2) := by decide +kernel
theorem dJ2_indexOfCharUnsafe_4cfef_21 : decode cJ2_indexOfCharUnsafe_4cfef 21 = .ok (.ireturn, 1) := by decide +kernel
theorem dJ2_indexOfCharUnsafe_4cfef_22 : decode cJ2_indexOfCharUnsafe_4cfef 22 = .ok (.iinc 4 1, 3) := by decide +kernel
theorem dJ2_indexOfCharUnsafe_4cfef_25 : decode cJ2_indexOfCharUnsafe_4cfef 25 = .ok (.goto (-22), 3) := by decide +kernel
theorem dJ2_indexOfCharUnsafe_4cfef_28 : decode cJ2_indexOfCharUnsafe_4cfef 28 = .ok (.iconst (-1), 1) := by decide +kernel
theorem dJ2_indexOfCharUnsafe_4cfef_29 : decode cJ2_indexOfCharUnsafe_4cfef 29 = .ok (.ireturn, 1) := by decide +kernel
theorem dJ2_indexOfSupplementary_4cfef_0 : decode cJ2_indexOfSupplementary_4cfef 0 = .ok (.iload_n 1, 1) := by decide +kernel
theorem dJ2_indexOfSupplementary_4cfef_1 : decode cJ2_indexOfSupplementary_4cfef 1 = .ok (.invokestatic 164, 3) := by decide +kernel
theorem dJ2_indexOfSupplementary_4cfef_4 : decode cJ2_indexOfSupplementary_4cfef 4 = .ok (.ifCond .eq 65, 3) := by decide +kernel
theorem dJ2_indexOfSupplementary_4cfef_7 : decode cJ2_indexOfSupplementary_4cfef 7 = .ok (.iload_n 1, 1) := by decide +kernel
theorem dJ2_indexOfSupplementary_4cfef_8 : decode cJ2_indexOfSupplementary_4cfef 8 = .ok (.invokestatic 157, 3) := by decide +kernel
theorem dJ2_indexOfSupplementary_4cfef_11 : decode cJ2_indexOfSupplementary_4cfef 11 = .ok (.istore 4, 2) := by decide +kernel
theorem dJ2_indexOfSupplementary_4cfef_13 : decode cJ2_indexOfSupplementary_4cfef 13 = .ok (.iload_n 1, 1) := by decide +kernel
theorem dJ2_indexOfSupplementary_4cfef_14 : decode cJ2_indexOfSupplementary_4cfef 14 = .ok (.invokestatic 161, 3) := by decide +kernel
theorem dJ2_indexOfSupplementary_4cfef_17 : decode cJ2_indexOfSupplementary_4cfef 17 = .ok (.istore 5, 2) := by decide +kernel
theorem dJ2_indexOfSupplementary_4cfef_19 : decode cJ2_indexOfSupplementary_4cfef 19 = .ok (.iload_n 2, 1) := by decide +kernel
theorem dJ2_indexOfSupplementary_4cfef_20 : decode cJ2_indexOfSupplementary_4cfef 20 = .ok (.iload_n 3, 1) := by decide +kernel
theorem dJ2_indexOfSupplementary_4cfef_21 : decode cJ2_indexOfSupplementary_4cfef 21 = .ok (.aload_n 0, 1) := by decide +kernel
theorem dJ2_indexOfSupplementary_4cfef_22 : decode cJ2_indexOfSupplementary_4cfef 22 = .ok (.invokestatic 96, 3) := by decide +kernel
theorem dJ2_indexOfSupplementary_4cfef_25 : decode cJ2_indexOfSupplementary_4cfef 25 = .ok (.iload_n 2, 1) := by decide +kernel
theorem dJ2_indexOfSupplementary_4cfef_26 : decode cJ2_indexOfSupplementary_4cfef 26 = .ok (.istore 6, 2) := by decide +kernel
theorem dJ2_indexOfSupplementary_4cfef_28 : decode cJ2_indexOfSupplementary_4cfef 28 = .ok (.iload 6, 2) := by decide +kernel
theorem dJ2_indexOfSupplementary_4cfef_30 : decode cJ2_indexOfSupplementary_4cfef 30 = .ok (.iload_n 3, 1) := by decide +kernel
theorem dJ2_indexOfSupplementary_4cfef_31 : decode cJ2_indexOfSupplementary_4cfef 31 = .ok (.iconst 1, 1) := by decide +kernel
theorem dJ2_indexOfSupplementary_4cfef_32 : decode cJ2_indexOfSupplementary_4cfef 32 = .ok (.isub, 1) := by decide +kernel
theorem dJ2_indexOfSupplementary_4cfef_33 : decode cJ2_indexOfSupplementary_4cfef 33 = .ok (.if_icmp .ge 36, 3) := by decide +kernel
theorem dJ2_indexOfSupplementary_4cfef_36 : decode cJ2_indexOfSupplementary_4cfef 36 = .ok (.aload_n 0, 1) := by decide +kernel
theorem dJ2_indexOfSupplementary_4cfef_37 : decode cJ2_indexOfSupplementary_4cfef 37 = .ok (.iload 6, 2) := by decide +kernel
theorem dJ2_indexOfSupplementary_4cfef_39 : decode cJ2_indexOfSupplementary_4cfef 39 = .ok (.invokestatic 71, 3) := by decide +kernel
theorem dJ2_indexOfSupplementary_4cfef_42 : decode cJ2_indexOfSupplementary_4cfef 42 = .ok (.iload 4, 2) := by decide +kernel
theorem dJ2_indexOfSupplementary_4cfef_44 : decode cJ2_indexOfSupplementary_4cfef 44 = .ok (.if_icmp .ne 19, 3) := by decide +kernel
theorem dJ2_indexOfSupplementary_4cfef_47 : decode cJ2_indexOfSupplementary_4cfef 47 = .ok (.aload_n 0, 1) := by decide +kernel
theorem dJ2_indexOfSupplementary_4cfef_48 : decode cJ2_indexOfSupplementary_4cfef 48 = .ok (.iload 6, 2) := by decide +kernel
theorem dJ2_indexOfSupplementary_4cfef_50 : decode cJ2_indexOfSupplementary_4cfef 50 = .ok (.iconst 1, 1) := by decide +kernel
theorem dJ2_indexOfSupplementary_4cfef_51 : decode cJ2_indexOfSupplementary_4cfef 51 = .ok (.iadd, 1) := by decide +kernel
theorem dJ2_indexOfSupplementary_4cfef_52 : decode cJ2_indexOfSupplementary_4cfef 52 = .ok (.invokestatic 71, 3) := by decide +kernel
theorem dJ2_indexOfSupplementary_4cfef_55 : decode cJ2_indexOfSupplementary_4cfef 55 = .ok (.iload 5, 2) := by decide +kernel
theorem dJ2_indexOfSupplementary_4cfef_57 : decode cJ2_indexOfSupplementary_4cfef 57 = .ok (.if_icmp .ne 6, 3) := by decide +kernel
theorem dJ2_indexOfSupplementary_4cfef_60 : decode cJ2_indexOfSupplementary_4cfef 60 = .ok (.iload 6, 2) := by decide +kernel
theorem dJ2_indexOfSupplementary_4cfef_62 : decode cJ2_indexOfSupplementary_4cfef 62 = .ok (.ireturn, 1) := by decide +kernel
theorem dJ2_indexOfSupplementary_4cfef_63 : decode cJ2_indexOfSupplementary_4cfef 63 = .ok (.iinc 6 1, 3) := by decide +kernel
theorem dJ2_indexOfSupplementary_4cfef_66 : decode cJ2_indexOfSupplementary_4cfef 66 = .ok (.goto (-38), 3) := by decide +kernel
theorem dJ2_indexOfSupplementary_4cfef_69 : decode cJ2_indexOfSupplementary_4cfef 69 = .ok (.iconst (-1), 1) := by decide +kernel
theorem dJ2_indexOfSupplementary_4cfef_70 : decode cJ2_indexOfSupplementary_4cfef 70 = .ok (.ireturn, 1) := by decide +kernel
theorem dJ2_charAt_3b067_0 : decode cJ2_charAt_3b067 0 = .ok (.iload_n 1, 1) := by decide +kernel
theorem dJ2_charAt_3b067_1 : decode cJ2_charAt_3b067 1 = .ok (.aload_n 0, 1) := by decide +kernel
theorem dJ2_charAt_3b067_2 : decode cJ2_charAt_3b067 2 = .ok (.invokestatic 67, 3) := by decide +kernel
theorem dJ2_charAt_3b067_5 : decode cJ2_charAt_3b067 5 = .ok (.aload_n 0, 1) := by decide +kernel
theorem dJ2_charAt_3b067_6 : decode cJ2_charAt_3b067 6 = .ok (.iload_n 1, 1) := by decide +kernel
theorem dJ2_charAt_3b067_7 : decode cJ2_charAt_3b067 7 = .ok (.invokestatic 71, 3) := by decide +kernel
theorem dJ2_charAt_3b067_10 : decode cJ2_charAt_3b067 10 = .ok (.ireturn, 1) := by decide +kernel
theorem dJ2_checkIndex_2214a_0 : decode cJ2_checkIndex_2214a 0 = .ok (.iload_n 0, 1) := by decide +kernel
theorem dJ2_checkIndex_2214a_1 : decode cJ2_checkIndex_2214a 1 = .ok (.aload_n 1, 1) := by decide +kernel
theorem dJ2_checkIndex_2214a_2 : decode cJ2_checkIndex_2214a 2 = .ok (.invokestatic 48, 3) := by decide +kernel
theorem dJ2_checkIndex_2214a_5 : decode cJ2_checkIndex_2214a 5 = .ok (.invokestatic 414, 3) := by decide +kernel
theorem dJ2_checkIndex_2214a_8 : decode cJ2_checkIndex_2214a 8 = .ok (.return_, 1) := by decide +kernel
theorem dJ2_checkBoundsBeginEnd_d044e_0 : decode cJ2_checkBoundsBeginEnd_d044e 0 = .ok (.iload_n 0, 1) := by decide +kernel
theorem dJ2_checkBoundsBeginEnd_d044e_1 : decode cJ2_checkBoundsBeginEnd_d044e 1 = .ok (.iload_n 1, 1) := by decide +kernel
theorem dJ2_checkBoundsBeginEnd_d044e_2 : decode cJ2_checkBoundsBeginEnd_d044e 2 = .ok (.aload_n 2, 1) := by decide +kernel
theorem dJ2_checkBoundsBeginEnd_d044e_3 : decode cJ2_checkBoundsBeginEnd_d044e 3 = .ok (.invokestatic 48, 3) := by decide +kernel
theorem dJ2_checkBoundsBeginEnd_d044e_6 : decode cJ2_checkBoundsBeginEnd_d044e 6 = .ok (.invokestatic 241, 3) := by decide +kernel
theorem dJ2_checkBoundsBeginEnd_d044e_9 : decode cJ2_checkBoundsBeginEnd_d044e 9 = .ok (.return_, 1) := by decide +kernel
theorem dJ3_checkIndex_8e157_0 : decode cJ3_checkIndex_8e157 0 = .ok (.iload_n 0, 1) := by decide +kernel
theorem dJ3_checkIndex_8e157_1 : decode cJ3_checkIndex_8e157 1 = .ok (.ifCond .lt 8, 3) := by decide +kernel
theorem dJ3_checkIndex_8e157_4 : decode cJ3_checkIndex_8e157 4 = .ok (.iload_n 0, 1) := by decide +kernel
theorem dJ3_checkIndex_8e157_5 : decode cJ3_checkIndex_8e157 5 = .ok (.iload_n 1, 1) := by decide +kernel
theorem dJ3_checkIndex_8e157_6 : decode cJ3_checkIndex_8e157 6 = .ok (.if_icmp .lt 10, 3) := by decide +kernel
theorem dJ3_checkIndex_8e157_9 : decode cJ3_checkIndex_8e157 9 = .ok (.aload_n 2, 1) := by decide +kernel
theorem dJ3_checkIndex_8e157_10 : decode cJ3_checkIndex_8e157 10 = .ok (.iload_n 0, 1) := by decide +kernel
theorem dJ3_checkIndex_8e157_11 : decode cJ3_checkIndex_8e157 11 = .ok (.iload_n 1, 1) := by decide +kernel
theorem dJ3_checkIndex_8e157_12 : decode cJ3_checkIndex_8e157 12 = .ok (.invokestatic 95, 3) := by decide +kernel
theorem dJ3_checkIndex_8e157_15 : decode cJ3_checkIndex_8e157 15 = .ok (.athrow, 1) := by decide +kernel
theorem dJ3_checkIndex_8e157_16 : decode cJ3_checkIndex_8e157 16 = .ok (.iload_n 0, 1) := by decide +kernel
theorem dJ3_checkIndex_8e157_17 : decode cJ3_checkIndex_8e157 17 = .ok (.ireturn, 1) := by decide +kernel
theorem dJ3_checkFromToIndex_8c36e_0 : decode cJ3_checkFromToIndex_8c36e 0 = .ok (.iload_n 0, 1) := by decide +kernel
theorem dJ3_checkFromToIndex_8c36e_1 : decode cJ3_checkFromToIndex_8c36e 1 = .ok (.ifCond .lt 13, 3) := by decide +kernel
theorem dJ3_checkFromToIndex_8c36e_4 : decode cJ3_checkFromToIndex_8c36e 4 = .ok (.iload_n 0, 1) := by decide +kernel
theorem dJ3_checkFromToIndex_8c36e_5 : decode cJ3_checkFromToIndex_8c36e 5 = .ok (.iload_n 1, 1) := by decide +kernel
theorem dJ3_checkFromToIndex_8c36e_6 : decode cJ3_checkFromToIndex_8c36e 6 = .ok (.if_icmp .gt 8, 3) := by decide +kernel
theorem dJ3_checkFromToIndex_8c36e_9 : decode cJ3_checkFromToIndex_8c36e 9 = .ok (.iload_n 1, 1) := by decide +kernel
theorem dJ3_checkFromToIndex_8c36e_10 : decode cJ3_checkFromToIndex_8c36e 10 = .ok (.iload_n 2, 1) := by decide +kernel
theorem dJ3_checkFromToIndex_8c36e_11 : decode cJ3_checkFromToIndex_8c36e 11 = .ok (.if_icmp .le 11, 3) := by decide +kernel
theorem dJ3_checkFromToIndex_8c36e_14 : decode cJ3_checkFromToIndex_8c36e 14 = .ok (.aload_n 3, 1) := by decide +kernel
theorem dJ3_checkFromToIndex_8c36e_15 : decode cJ3_checkFromToIndex_8c36e 15 = .ok (.iload_n 0, 1) := by decide +kernel
theorem dJ3_checkFromToIndex_8c36e_16 : decode cJ3_checkFromToIndex_8c36e 16 = .ok (.iload_n 1, 1) := by decide +kernel
theorem dJ3_checkFromToIndex_8c36e_17 : decode cJ3_checkFromToIndex_8c36e 17 = .ok (.iload_n 2, 1) := by decide +kernel
theorem dJ3_checkFromToIndex_8c36e_18 : decode cJ3_checkFromToIndex_8c36e 18 = .ok (.invokestatic 99, 3) := by decide +kernel
theorem dJ3_checkFromToIndex_8c36e_21 : decode cJ3_checkFromToIndex_8c36e 21 = .ok (.athrow, 1) := by decide +kernel
theorem dJ3_checkFromToIndex_8c36e_22 : decode cJ3_checkFromToIndex_8c36e 22 = .ok (.iload_n 0, 1) := by decide +kernel
theorem dJ3_checkFromToIndex_8c36e_23 : decode cJ3_checkFromToIndex_8c36e 23 = .ok (.ireturn, 1) := by decide +kernel
theorem dL_purse_0 : decode cL_purse 0 = .ok (.aload_n 2, 1) := by decide +kernel
theorem dL_purse_1 : decode cL_purse 1 = .ok (.iconst 0, 1) := by decide +kernel
theorem dL_purse_2 : decode cL_purse 2 = .ok (.aload_n 0, 1) := by decide +kernel
theorem dL_purse_3 : decode cL_purse 3 = .ok (.iload_n 1, 1) := by decide +kernel
theorem dL_purse_4 : decode cL_purse 4 = .ok (.invokevirtual 7, 3) := by decide +kernel
theorem dL_purse_7 : decode cL_purse 7 = .ok (.i2l, 1) := by decide +kernel
theorem dL_purse_8 : decode cL_purse 8 = .ok (.lastore, 1) := by decide +kernel
theorem dL_purse_9 : decode cL_purse 9 = .ok (.goto 6, 3) := by decide +kernel
theorem dL_purse_12 : decode cL_purse 12 = .ok (.astore_n 3, 1) := by decide +kernel
theorem dL_purse_13 : decode cL_purse 13 = .ok (.iconst 1, 1) := by decide +kernel
theorem dL_purse_14 : decode cL_purse 14 = .ok (.ireturn, 1) := by decide +kernel
theorem dL_purse_15 : decode cL_purse 15 = .ok (.iconst 0, 1) := by decide +kernel
theorem dL_purse_16 : decode cL_purse 16 = .ok (.ireturn, 1) := by decide +kernel
theorem dL_has_0 : decode cL_has 0 = .ok (.aload_n 2, 1) := by decide +kernel
theorem dL_has_1 : decode cL_has 1 = .ok (.iconst 0, 1) := by decide +kernel
theorem dL_has_2 : decode cL_has 2 = .ok (.aload_n 0, 1) := by decide +kernel
theorem dL_has_3 : decode cL_has 3 = .ok (.iload_n 1, 1) := by decide +kernel
theorem dL_has_4 : decode cL_has 4 = .ok (.invokevirtual 15, 3) := by decide +kernel
theorem dL_has_7 : decode cL_has 7 = .ok (.i2l, 1) := by decide +kernel
theorem dL_has_8 : decode cL_has 8 = .ok (.lastore, 1) := by decide +kernel
theorem dL_has_9 : decode cL_has 9 = .ok (.goto 6, 3) := by decide +kernel
theorem dL_has_12 : decode cL_has 12 = .ok (.astore_n 3, 1) := by decide +kernel
theorem dL_has_13 : decode cL_has 13 = .ok (.iconst 1, 1) := by decide +kernel
theorem dL_has_14 : decode cL_has 14 = .ok (.ireturn, 1) := by decide +kernel
theorem dL_has_15 : decode cL_has 15 = .ok (.iconst 0, 1) := by decide +kernel
theorem dL_has_16 : decode cL_has 16 = .ok (.ireturn, 1) := by decide +kernel
theorem dL_gain_0 : decode cL_gain 0 = .ok (.aload_n 3, 1) := by decide +kernel
theorem dL_gain_1 : decode cL_gain 1 = .ok (.iconst 0, 1) := by decide +kernel
theorem dL_gain_2 : decode cL_gain 2 = .ok (.aload_n 0, 1) := by decide +kernel
theorem dL_gain_3 : decode cL_gain 3 = .ok (.iload_n 1, 1) := by decide +kernel
theorem dL_gain_4 : decode cL_gain 4 = .ok (.iload_n 2, 1) := by decide +kernel
theorem dL_gain_5 : decode cL_gain 5 = .ok (.invokevirtual 18, 3) := by decide +kernel
theorem dL_gain_8 : decode cL_gain 8 = .ok (.i2l, 1) := by decide +kernel
theorem dL_gain_9 : decode cL_gain 9 = .ok (.lastore, 1) := by decide +kernel
theorem dL_gain_10 : decode cL_gain 10 = .ok (.goto 7, 3) := by decide +kernel
theorem dL_gain_13 : decode cL_gain 13 = .ok (.astore 4, 2) := by decide +kernel
theorem dL_gain_15 : decode cL_gain 15 = .ok (.iconst 1, 1) := by decide +kernel
theorem dL_gain_16 : decode cL_gain 16 = .ok (.ireturn, 1) := by decide +kernel
theorem dL_gain_17 : decode cL_gain 17 = .ok (.iconst 0, 1) := by decide +kernel
theorem dL_gain_18 : decode cL_gain 18 = .ok (.ireturn, 1) := by decide +kernel
theorem dL_law_0 : decode cL_law 0 = .ok (.new 8, 3) := by decide +kernel
theorem dL_law_3 : decode cL_law 3 = .ok (.dup, 1) := by decide +kernel
theorem dL_law_4 : decode cL_law 4 = .ok (.invokespecial 22, 3) := by decide +kernel
theorem dL_law_7 : decode cL_law 7 = .ok (.astore_n 1, 1) := by decide +kernel
theorem dL_law_8 : decode cL_law 8 = .ok (.new 23, 3) := by decide +kernel
theorem dL_law_11 : decode cL_law 11 = .ok (.dup, 1) := by decide +kernel
theorem dL_law_12 : decode cL_law 12 = .ok (.invokespecial 25, 3) := by decide +kernel
theorem dL_law_15 : decode cL_law 15 = .ok (.astore_n 2, 1) := by decide +kernel
theorem dL_law_16 : decode cL_law 16 = .ok (.iconst 1, 1) := by decide +kernel
theorem dL_law_17 : decode cL_law 17 = .ok (.newarray .long, 2) := by decide +kernel
theorem dL_law_19 : decode cL_law 19 = .ok (.astore_n 3, 1) := by decide +kernel
theorem dL_law_20 : decode cL_law 20 = .ok (.iconst 0, 1) := by decide +kernel
theorem dL_law_21 : decode cL_law 21 = .ok (.istore 4, 2) := by decide +kernel
theorem dL_law_23 : decode cL_law 23 = .ok (.iload 4, 2) := by decide +kernel
theorem dL_law_25 : decode cL_law 25 = .ok (.aload_n 0, 1) := by decide +kernel
theorem dL_law_26 : decode cL_law 26 = .ok (.arraylength, 1) := by decide +kernel
theorem dL_law_27 : decode cL_law 27 = .ok (.bipush 7, 2) := by decide +kernel
theorem dL_law_29 : decode cL_law 29 = .ok (.isub, 1) := by decide +kernel
theorem dL_law_30 : decode cL_law 30 = .ok (.if_icmp .gt 1001, 3) := by decide +kernel
theorem dL_law_33 : decode cL_law 33 = .ok (.aload_n 0, 1) := by decide +kernel
theorem dL_law_34 : decode cL_law 34 = .ok (.iload 4, 2) := by decide +kernel
theorem dL_law_36 : decode cL_law 36 = .ok (.iaload, 1) := by decide +kernel
theorem dL_law_37 : decode cL_law 37 = .ok (.bipush 31, 2) := by decide +kernel
theorem dL_law_39 : decode cL_law 39 = .ok (.iand, 1) := by decide +kernel
theorem dL_law_40 : decode cL_law 40 = .ok (.tableswitch 985 0 19 #[96, 243, 256, 293, 349, 386, 411, 436, 449, 462, 518, 568, 618, 655, 704, 765, 833, 858, 907, 960], 96) := by decide +kernel
theorem dL_law_136 : decode cL_law 136 = .ok (.aload_n 1, 1) := by decide +kernel
theorem dL_law_137 : decode cL_law 137 = .ok (.aload_n 0, 1) := by decide +kernel
theorem dL_law_138 : decode cL_law 138 = .ok (.iload 4, 2) := by decide +kernel
theorem dL_law_140 : decode cL_law 140 = .ok (.iconst 1, 1) := by decide +kernel
theorem dL_law_141 : decode cL_law 141 = .ok (.iadd, 1) := by decide +kernel
theorem dL_law_142 : decode cL_law 142 = .ok (.iaload, 1) := by decide +kernel
theorem dL_law_143 : decode cL_law 143 = .ok (.i2l, 1) := by decide +kernel
theorem dL_law_144 : decode cL_law 144 = .ok (.bipush 32, 2) := by decide +kernel
theorem dL_law_146 : decode cL_law 146 = .ok (.lshl, 1) := by decide +kernel
theorem dL_law_147 : decode cL_law 147 = .ok (.aload_n 0, 1) := by decide +kernel
theorem dL_law_148 : decode cL_law 148 = .ok (.iload 4, 2) := by decide +kernel
theorem dL_law_150 : decode cL_law 150 = .ok (.iconst 2, 1) := by decide +kernel
theorem dL_law_151 : decode cL_law 151 = .ok (.iadd, 1) := by decide +kernel
theorem dL_law_152 : decode cL_law 152 = .ok (.iaload, 1) := by decide +kernel
theorem dL_law_153 : decode cL_law 153 = .ok (.i2l, 1) := by decide +kernel
theorem dL_law_154 : decode cL_law 154 = .ok (.ldc2_w 26, 3) := by decide +kernel
theorem dL_law_157 : decode cL_law 157 = .ok (.land, 1) := by decide +kernel
theorem dL_law_158 : decode cL_law 158 = .ok (.lor, 1) := by decide +kernel
theorem dL_law_159 : decode cL_law 159 = .ok (.aload_n 0, 1) := by decide +kernel
theorem dL_law_160 : decode cL_law 160 = .ok (.iload 4, 2) := by decide +kernel
theorem dL_law_162 : decode cL_law 162 = .ok (.iconst 3, 1) := by decide +kernel
theorem dL_law_163 : decode cL_law 163 = .ok (.iadd, 1) := by decide +kernel
theorem dL_law_164 : decode cL_law 164 = .ok (.iaload, 1) := by decide +kernel
theorem dL_law_165 : decode cL_law 165 = .ok (.i2l, 1) := by decide +kernel
theorem dL_law_166 : decode cL_law 166 = .ok (.bipush 32, 2) := by decide +kernel
theorem dL_law_168 : decode cL_law 168 = .ok (.lshl, 1) := by decide +kernel
theorem dL_law_169 : decode cL_law 169 = .ok (.aload_n 0, 1) := by decide +kernel
theorem dL_law_170 : decode cL_law 170 = .ok (.iload 4, 2) := by decide +kernel
theorem dL_law_172 : decode cL_law 172 = .ok (.iconst 4, 1) := by decide +kernel
theorem dL_law_173 : decode cL_law 173 = .ok (.iadd, 1) := by decide +kernel
theorem dL_law_174 : decode cL_law 174 = .ok (.iaload, 1) := by decide +kernel
theorem dL_law_175 : decode cL_law 175 = .ok (.i2l, 1) := by decide +kernel
theorem dL_law_176 : decode cL_law 176 = .ok (.ldc2_w 26, 3) := by decide +kernel
theorem dL_law_179 : decode cL_law 179 = .ok (.land, 1) := by decide +kernel
theorem dL_law_180 : decode cL_law 180 = .ok (.lor, 1) := by decide +kernel
theorem dL_law_181 : decode cL_law 181 = .ok (.aload_n 0, 1) := by decide +kernel
theorem dL_law_182 : decode cL_law 182 = .ok (.iload 4, 2) := by decide +kernel
theorem dL_law_184 : decode cL_law 184 = .ok (.iconst 5, 1) := by decide +kernel
theorem dL_law_185 : decode cL_law 185 = .ok (.iadd, 1) := by decide +kernel
theorem dL_law_186 : decode cL_law 186 = .ok (.iaload, 1) := by decide +kernel
theorem dL_law_187 : decode cL_law 187 = .ok (.i2l, 1) := by decide +kernel
theorem dL_law_188 : decode cL_law 188 = .ok (.bipush 32, 2) := by decide +kernel
theorem dL_law_190 : decode cL_law 190 = .ok (.lshl, 1) := by decide +kernel
theorem dL_law_191 : decode cL_law 191 = .ok (.aload_n 0, 1) := by decide +kernel
theorem dL_law_192 : decode cL_law 192 = .ok (.iload 4, 2) := by decide +kernel
theorem dL_law_194 : decode cL_law 194 = .ok (.bipush 6, 2) := by decide +kernel
theorem dL_law_196 : decode cL_law 196 = .ok (.iadd, 1) := by decide +kernel
theorem dL_law_197 : decode cL_law 197 = .ok (.iaload, 1) := by decide +kernel
theorem dL_law_198 : decode cL_law 198 = .ok (.i2l, 1) := by decide +kernel
theorem dL_law_199 : decode cL_law 199 = .ok (.ldc2_w 26, 3) := by decide +kernel
theorem dL_law_202 : decode cL_law 202 = .ok (.land, 1) := by decide +kernel
theorem dL_law_203 : decode cL_law 203 = .ok (.lor, 1) := by decide +kernel
theorem dL_law_204 : decode cL_law 204 = .ok (.invokevirtual 28, 3) := by decide +kernel
theorem dL_law_207 : decode cL_law 207 = .ok (.aload_n 2, 1) := by decide +kernel
theorem dL_law_208 : decode cL_law 208 = .ok (.aload_n 0, 1) := by decide +kernel
theorem dL_law_209 : decode cL_law 209 = .ok (.iload 4, 2) := by decide +kernel
theorem dL_law_211 : decode cL_law 211 = .ok (.iconst 1, 1) := by decide +kernel
theorem dL_law_212 : decode cL_law 212 = .ok (.iadd, 1) := by decide +kernel
theorem dL_law_213 : decode cL_law 213 = .ok (.iaload, 1) := by decide +kernel
theorem dL_law_214 : decode cL_law 214 = .ok (.i2l, 1) := by decide +kernel
theorem dL_law_215 : decode cL_law 215 = .ok (.bipush 32, 2) := by decide +kernel
theorem dL_law_217 : decode cL_law 217 = .ok (.lshl, 1) := by decide +kernel
theorem dL_law_218 : decode cL_law 218 = .ok (.aload_n 0, 1) := by decide +kernel
theorem dL_law_219 : decode cL_law 219 = .ok (.iload 4, 2) := by decide +kernel
theorem dL_law_221 : decode cL_law 221 = .ok (.iconst 2, 1) := by decide +kernel
theorem dL_law_222 : decode cL_law 222 = .ok (.iadd, 1) := by decide +kernel
theorem dL_law_223 : decode cL_law 223 = .ok (.iaload, 1) := by decide +kernel
theorem dL_law_224 : decode cL_law 224 = .ok (.i2l, 1) := by decide +kernel
theorem dL_law_225 : decode cL_law 225 = .ok (.ldc2_w 26, 3) := by decide +kernel
theorem dL_law_228 : decode cL_law 228 = .ok (.land, 1) := by decide +kernel
theorem dL_law_229 : decode cL_law 229 = .ok (.lor, 1) := by decide +kernel
theorem dL_law_230 : decode cL_law 230 = .ok (.aload_n 0, 1) := by decide +kernel
theorem dL_law_231 : decode cL_law 231 = .ok (.iload 4, 2) := by decide +kernel
theorem dL_law_233 : decode cL_law 233 = .ok (.iconst 3, 1) := by decide +kernel
theorem dL_law_234 : decode cL_law 234 = .ok (.iadd, 1) := by decide +kernel
theorem dL_law_235 : decode cL_law 235 = .ok (.iaload, 1) := by decide +kernel
theorem dL_law_236 : decode cL_law 236 = .ok (.i2l, 1) := by decide +kernel
theorem dL_law_237 : decode cL_law 237 = .ok (.bipush 32, 2) := by decide +kernel
theorem dL_law_239 : decode cL_law 239 = .ok (.lshl, 1) := by decide +kernel
theorem dL_law_240 : decode cL_law 240 = .ok (.aload_n 0, 1) := by decide +kernel
theorem dL_law_241 : decode cL_law 241 = .ok (.iload 4, 2) := by decide +kernel
theorem dL_law_243 : decode cL_law 243 = .ok (.iconst 4, 1) := by decide +kernel
theorem dL_law_244 : decode cL_law 244 = .ok (.iadd, 1) := by decide +kernel
theorem dL_law_245 : decode cL_law 245 = .ok (.iaload, 1) := by decide +kernel
theorem dL_law_246 : decode cL_law 246 = .ok (.i2l, 1) := by decide +kernel
theorem dL_law_247 : decode cL_law 247 = .ok (.ldc2_w 26, 3) := by decide +kernel
theorem dL_law_250 : decode cL_law 250 = .ok (.land, 1) := by decide +kernel
theorem dL_law_251 : decode cL_law 251 = .ok (.lor, 1) := by decide +kernel
theorem dL_law_252 : decode cL_law 252 = .ok (.aload_n 0, 1) := by decide +kernel
theorem dL_law_253 : decode cL_law 253 = .ok (.iload 4, 2) := by decide +kernel
theorem dL_law_255 : decode cL_law 255 = .ok (.iconst 5, 1) := by decide +kernel
theorem dL_law_256 : decode cL_law 256 = .ok (.iadd, 1) := by decide +kernel
theorem dL_law_257 : decode cL_law 257 = .ok (.iaload, 1) := by decide +kernel
theorem dL_law_258 : decode cL_law 258 = .ok (.i2l, 1) := by decide +kernel
theorem dL_law_259 : decode cL_law 259 = .ok (.bipush 32, 2) := by decide +kernel
theorem dL_law_261 : decode cL_law 261 = .ok (.lshl, 1) := by decide +kernel
theorem dL_law_262 : decode cL_law 262 = .ok (.aload_n 0, 1) := by decide +kernel
theorem dL_law_263 : decode cL_law 263 = .ok (.iload 4, 2) := by decide +kernel
theorem dL_law_265 : decode cL_law 265 = .ok (.bipush 6, 2) := by decide +kernel
theorem dL_law_267 : decode cL_law 267 = .ok (.iadd, 1) := by decide +kernel
theorem dL_law_268 : decode cL_law 268 = .ok (.iaload, 1) := by decide +kernel
theorem dL_law_269 : decode cL_law 269 = .ok (.i2l, 1) := by decide +kernel
theorem dL_law_270 : decode cL_law 270 = .ok (.ldc2_w 26, 3) := by decide +kernel
theorem dL_law_273 : decode cL_law 273 = .ok (.land, 1) := by decide +kernel
theorem dL_law_274 : decode cL_law 274 = .ok (.lor, 1) := by decide +kernel
theorem dL_law_275 : decode cL_law 275 = .ok (.invokevirtual 32, 3) := by decide +kernel
theorem dL_law_278 : decode cL_law 278 = .ok (.if_icmp .eq 747, 3) := by decide +kernel
theorem dL_law_281 : decode cL_law 281 = .ok (.iconst 0, 1) := by decide +kernel
theorem dL_law_282 : decode cL_law 282 = .ok (.ireturn, 1) := by decide +kernel
theorem dL_law_283 : decode cL_law 283 = .ok (.aload_n 1, 1) := by decide +kernel
theorem dL_law_284 : decode cL_law 284 = .ok (.invokevirtual 33, 3) := by decide +kernel
theorem dL_law_287 : decode cL_law 287 = .ok (.aload_n 2, 1) := by decide +kernel
theorem dL_law_288 : decode cL_law 288 = .ok (.invokevirtual 37, 3) := by decide +kernel
theorem dL_law_291 : decode cL_law 291 = .ok (.if_icmp .eq 734, 3) := by decide +kernel
theorem dL_law_294 : decode cL_law 294 = .ok (.iconst 0, 1) := by decide +kernel
theorem dL_law_295 : decode cL_law 295 = .ok (.ireturn, 1) := by decide +kernel
theorem dL_law_296 : decode cL_law 296 = .ok (.aload_n 1, 1) := by decide +kernel
theorem dL_law_297 : decode cL_law 297 = .ok (.aload_n 0, 1) := by decide +kernel
theorem dL_law_298 : decode cL_law 298 = .ok (.iload 4, 2) := by decide +kernel
theorem dL_law_300 : decode cL_law 300 = .ok (.iconst 1, 1) := by decide +kernel
theorem dL_law_301 : decode cL_law 301 = .ok (.iadd, 1) := by decide +kernel
theorem dL_law_302 : decode cL_law 302 = .ok (.iaload, 1) := by decide +kernel
theorem dL_law_303 : decode cL_law 303 = .ok (.aload_n 0, 1) := by decide +kernel
theorem dL_law_304 : decode cL_law 304 = .ok (.iload 4, 2) := by decide +kernel
theorem dL_law_306 : decode cL_law 306 = .ok (.iconst 2, 1) := by decide +kernel
theorem dL_law_307 : decode cL_law 307 = .ok (.iadd, 1) := by decide +kernel
theorem dL_law_308 : decode cL_law 308 = .ok (.iaload, 1) := by decide +kernel
theorem dL_law_309 : decode cL_law 309 = .ok (.invokevirtual 38, 3) := by decide +kernel
theorem dL_law_312 : decode cL_law 312 = .ok (.aload_n 2, 1) := by decide +kernel
theorem dL_law_313 : decode cL_law 313 = .ok (.aload_n 0, 1) := by decide +kernel
theorem dL_law_314 : decode cL_law 314 = .ok (.iload 4, 2) := by decide +kernel
theorem dL_law_316 : decode cL_law 316 = .ok (.iconst 1, 1) := by decide +kernel
theorem dL_law_317 : decode cL_law 317 = .ok (.iadd, 1) := by decide +kernel
theorem dL_law_318 : decode cL_law 318 = .ok (.iaload, 1) := by decide +kernel
theorem dL_law_319 : decode cL_law 319 = .ok (.aload_n 0, 1) := by decide +kernel
theorem dL_law_320 : decode cL_law 320 = .ok (.iload 4, 2) := by decide +kernel
theorem dL_law_322 : decode cL_law 322 = .ok (.iconst 2, 1) := by decide +kernel
theorem dL_law_323 : decode cL_law 323 = .ok (.iadd, 1) := by decide +kernel
theorem dL_law_324 : decode cL_law 324 = .ok (.iaload, 1) := by decide +kernel
theorem dL_law_325 : decode cL_law 325 = .ok (.invokevirtual 41, 3) := by decide +kernel
theorem dL_law_328 : decode cL_law 328 = .ok (.if_icmp .eq 697, 3) := by decide +kernel
theorem dL_law_331 : decode cL_law 331 = .ok (.iconst 0, 1) := by decide +kernel
theorem dL_law_332 : decode cL_law 332 = .ok (.ireturn, 1) := by decide +kernel
theorem dL_law_333 : decode cL_law 333 = .ok (.aload_n 1, 1) := by decide +kernel
theorem dL_law_334 : decode cL_law 334 = .ok (.aload_n 0, 1) := by decide +kernel
theorem dL_law_335 : decode cL_law 335 = .ok (.iload 4, 2) := by decide +kernel
theorem dL_law_337 : decode cL_law 337 = .ok (.iconst 1, 1) := by decide +kernel
theorem dL_law_338 : decode cL_law 338 = .ok (.iadd, 1) := by decide +kernel
theorem dL_law_339 : decode cL_law 339 = .ok (.iaload, 1) := by decide +kernel
theorem dL_law_340 : decode cL_law 340 = .ok (.aload_n 3, 1) := by decide +kernel
theorem dL_law_341 : decode cL_law 341 = .ok (.invokestatic 42, 3) := by decide +kernel
theorem dL_law_344 : decode cL_law 344 = .ok (.istore 5, 2) := by decide +kernel
theorem dL_law_346 : decode cL_law 346 = .ok (.aload_n 2, 1) := by decide +kernel
theorem dL_law_347 : decode cL_law 347 = .ok (.aload_n 0, 1) := by decide +kernel
theorem dL_law_348 : decode cL_law 348 = .ok (.iload 4, 2) := by decide +kernel
theorem dL_law_350 : decode cL_law 350 = .ok (.iconst 1, 1) := by decide +kernel
theorem dL_law_351 : decode cL_law 351 = .ok (.iadd, 1) := by decide +kernel
theorem dL_law_352 : decode cL_law 352 = .ok (.iaload, 1) := by decide +kernel
theorem dL_law_353 : decode cL_law 353 = .ok (.invokevirtual 47, 3) := by decide +kernel
theorem dL_law_356 : decode cL_law 356 = .ok (.istore 6, 2) := by decide +kernel
theorem dL_law_358 : decode cL_law 358 = .ok (.aload_n 2, 1) := by decide +kernel
theorem dL_law_359 : decode cL_law 359 = .ok (.invokevirtual 48, 3) := by decide +kernel
theorem dL_law_362 : decode cL_law 362 = .ok (.iload 5, 2) := by decide +kernel
theorem dL_law_364 : decode cL_law 364 = .ok (.if_icmp .eq 5, 3) := by decide +kernel
theorem dL_law_367 : decode cL_law 367 = .ok (.iconst 0, 1) := by decide +kernel
theorem dL_law_368 : decode cL_law 368 = .ok (.ireturn, 1) := by decide +kernel
theorem dL_law_369 : decode cL_law 369 = .ok (.iload 5, 2) := by decide +kernel
theorem dL_law_371 : decode cL_law 371 = .ok (.ifCond .ne 15, 3) := by decide +kernel
theorem dL_law_374 : decode cL_law 374 = .ok (.aload_n 3, 1) := by decide +kernel
theorem dL_law_375 : decode cL_law 375 = .ok (.iconst 0, 1) := by decide +kernel
theorem dL_law_376 : decode cL_law 376 = .ok (.laload, 1) := by decide +kernel
theorem dL_law_377 : decode cL_law 377 = .ok (.iload 6, 2) := by decide +kernel
theorem dL_law_379 : decode cL_law 379 = .ok (.i2l, 1) := by decide +kernel
theorem dL_law_380 : decode cL_law 380 = .ok (.lcmp, 1) := by decide +kernel
theorem dL_law_381 : decode cL_law 381 = .ok (.ifCond .eq 5, 3) := by decide +kernel
theorem dL_law_384 : decode cL_law 384 = .ok (.iconst 0, 1) := by decide +kernel
theorem dL_law_385 : decode cL_law 385 = .ok (.ireturn, 1) := by decide +kernel
theorem dL_law_386 : decode cL_law 386 = .ok (.goto 639, 3) := by decide +kernel
theorem dL_law_389 : decode cL_law 389 = .ok (.aload_n 1, 1) := by decide +kernel
theorem dL_law_390 : decode cL_law 390 = .ok (.aload_n 0, 1) := by decide +kernel
theorem dL_law_391 : decode cL_law 391 = .ok (.iload 4, 2) := by decide +kernel
theorem dL_law_393 : decode cL_law 393 = .ok (.iconst 1, 1) := by decide +kernel
theorem dL_law_394 : decode cL_law 394 = .ok (.iadd, 1) := by decide +kernel
theorem dL_law_395 : decode cL_law 395 = .ok (.iaload, 1) := by decide +kernel
theorem dL_law_396 : decode cL_law 396 = .ok (.aload_n 0, 1) := by decide +kernel
theorem dL_law_397 : decode cL_law 397 = .ok (.iload 4, 2) := by decide +kernel
theorem dL_law_399 : decode cL_law 399 = .ok (.iconst 2, 1) := by decide +kernel
theorem dL_law_400 : decode cL_law 400 = .ok (.iadd, 1) := by decide +kernel
theorem dL_law_401 : decode cL_law 401 = .ok (.iaload, 1) := by decide +kernel
theorem dL_law_402 : decode cL_law 402 = .ok (.invokevirtual 51, 3) := by decide +kernel
theorem dL_law_405 : decode cL_law 405 = .ok (.aload_n 2, 1) := by decide +kernel
theorem dL_law_406 : decode cL_law 406 = .ok (.aload_n 0, 1) := by decide +kernel
theorem dL_law_407 : decode cL_law 407 = .ok (.iload 4, 2) := by decide +kernel
theorem dL_law_409 : decode cL_law 409 = .ok (.iconst 1, 1) := by decide +kernel
theorem dL_law_410 : decode cL_law 410 = .ok (.iadd, 1) := by decide +kernel
theorem dL_law_411 : decode cL_law 411 = .ok (.iaload, 1) := by decide +kernel
theorem dL_law_412 : decode cL_law 412 = .ok (.aload_n 0, 1) := by decide +kernel
theorem dL_law_413 : decode cL_law 413 = .ok (.iload 4, 2) := by decide +kernel
theorem dL_law_415 : decode cL_law 415 = .ok (.iconst 2, 1) := by decide +kernel
theorem dL_law_416 : decode cL_law 416 = .ok (.iadd, 1) := by decide +kernel
theorem dL_law_417 : decode cL_law 417 = .ok (.iaload, 1) := by decide +kernel
theorem dL_law_418 : decode cL_law 418 = .ok (.invokevirtual 54, 3) := by decide +kernel
theorem dL_law_421 : decode cL_law 421 = .ok (.if_icmp .eq 604, 3) := by decide +kernel
theorem dL_law_424 : decode cL_law 424 = .ok (.iconst 0, 1) := by decide +kernel
theorem dL_law_425 : decode cL_law 425 = .ok (.ireturn, 1) := by decide +kernel
theorem dL_law_426 : decode cL_law 426 = .ok (.aload_n 1, 1) := by decide +kernel
theorem dL_law_427 : decode cL_law 427 = .ok (.aload_n 0, 1) := by decide +kernel
theorem dL_law_428 : decode cL_law 428 = .ok (.iload 4, 2) := by decide +kernel
theorem dL_law_430 : decode cL_law 430 = .ok (.iconst 1, 1) := by decide +kernel
theorem dL_law_431 : decode cL_law 431 = .ok (.iadd, 1) := by decide +kernel
theorem dL_law_432 : decode cL_law 432 = .ok (.iaload, 1) := by decide +kernel
theorem dL_law_433 : decode cL_law 433 = .ok (.invokevirtual 55, 3) := by decide +kernel
theorem dL_law_436 : decode cL_law 436 = .ok (.aload_n 2, 1) := by decide +kernel
theorem dL_law_437 : decode cL_law 437 = .ok (.aload_n 0, 1) := by decide +kernel
theorem dL_law_438 : decode cL_law 438 = .ok (.iload 4, 2) := by decide +kernel
theorem dL_law_440 : decode cL_law 440 = .ok (.iconst 1, 1) := by decide +kernel
theorem dL_law_441 : decode cL_law 441 = .ok (.iadd, 1) := by decide +kernel
theorem dL_law_442 : decode cL_law 442 = .ok (.iaload, 1) := by decide +kernel
theorem dL_law_443 : decode cL_law 443 = .ok (.invokevirtual 58, 3) := by decide +kernel
theorem dL_law_446 : decode cL_law 446 = .ok (.if_icmp .eq 579, 3) := by decide +kernel
theorem dL_law_449 : decode cL_law 449 = .ok (.iconst 0, 1) := by decide +kernel
theorem dL_law_450 : decode cL_law 450 = .ok (.ireturn, 1) := by decide +kernel
theorem dL_law_451 : decode cL_law 451 = .ok (.aload_n 1, 1) := by decide +kernel
theorem dL_law_452 : decode cL_law 452 = .ok (.aload_n 0, 1) := by decide +kernel
theorem dL_law_453 : decode cL_law 453 = .ok (.iload 4, 2) := by decide +kernel
theorem dL_law_455 : decode cL_law 455 = .ok (.iconst 1, 1) := by decide +kernel
theorem dL_law_456 : decode cL_law 456 = .ok (.iadd, 1) := by decide +kernel
theorem dL_law_457 : decode cL_law 457 = .ok (.iaload, 1) := by decide +kernel
theorem dL_law_458 : decode cL_law 458 = .ok (.invokevirtual 59, 3) := by decide +kernel
theorem dL_law_461 : decode cL_law 461 = .ok (.aload_n 2, 1) := by decide +kernel
theorem dL_law_462 : decode cL_law 462 = .ok (.aload_n 0, 1) := by decide +kernel
theorem dL_law_463 : decode cL_law 463 = .ok (.iload 4, 2) := by decide +kernel
theorem dL_law_465 : decode cL_law 465 = .ok (.iconst 1, 1) := by decide +kernel
theorem dL_law_466 : decode cL_law 466 = .ok (.iadd, 1) := by decide +kernel
theorem dL_law_467 : decode cL_law 467 = .ok (.iaload, 1) := by decide +kernel
theorem dL_law_468 : decode cL_law 468 = .ok (.invokevirtual 63, 3) := by decide +kernel
theorem dL_law_471 : decode cL_law 471 = .ok (.if_icmp .eq 554, 3) := by decide +kernel
theorem dL_law_474 : decode cL_law 474 = .ok (.iconst 0, 1) := by decide +kernel
theorem dL_law_475 : decode cL_law 475 = .ok (.ireturn, 1) := by decide +kernel
theorem dL_law_476 : decode cL_law 476 = .ok (.aload_n 1, 1) := by decide +kernel
theorem dL_law_477 : decode cL_law 477 = .ok (.invokevirtual 64, 3) := by decide +kernel
theorem dL_law_480 : decode cL_law 480 = .ok (.aload_n 2, 1) := by decide +kernel
theorem dL_law_481 : decode cL_law 481 = .ok (.invokevirtual 68, 3) := by decide +kernel
theorem dL_law_484 : decode cL_law 484 = .ok (.if_icmp .eq 541, 3) := by decide +kernel
theorem dL_law_487 : decode cL_law 487 = .ok (.iconst 0, 1) := by decide +kernel
theorem dL_law_488 : decode cL_law 488 = .ok (.ireturn, 1) := by decide +kernel
theorem dL_law_489 : decode cL_law 489 = .ok (.aload_n 1, 1) := by decide +kernel
theorem dL_law_490 : decode cL_law 490 = .ok (.invokevirtual 69, 3) := by decide +kernel
theorem dL_law_493 : decode cL_law 493 = .ok (.aload_n 2, 1) := by decide +kernel
theorem dL_law_494 : decode cL_law 494 = .ok (.invokevirtual 72, 3) := by decide +kernel
theorem dL_law_497 : decode cL_law 497 = .ok (.if_icmp .eq 528, 3) := by decide +kernel
theorem dL_law_500 : decode cL_law 500 = .ok (.iconst 0, 1) := by decide +kernel
theorem dL_law_501 : decode cL_law 501 = .ok (.ireturn, 1) := by decide +kernel
theorem dL_law_502 : decode cL_law 502 = .ok (.aload_n 1, 1) := by decide +kernel
theorem dL_law_503 : decode cL_law 503 = .ok (.aload_n 0, 1) := by decide +kernel
theorem dL_law_504 : decode cL_law 504 = .ok (.iload 4, 2) := by decide +kernel
theorem dL_law_506 : decode cL_law 506 = .ok (.iconst 1, 1) := by decide +kernel
theorem dL_law_507 : decode cL_law 507 = .ok (.iadd, 1) := by decide +kernel
theorem dL_law_508 : decode cL_law 508 = .ok (.iaload, 1) := by decide +kernel
theorem dL_law_509 : decode cL_law 509 = .ok (.aload_n 3, 1) := by decide +kernel
theorem dL_law_510 : decode cL_law 510 = .ok (.invokestatic 73, 3) := by decide +kernel
theorem dL_law_513 : decode cL_law 513 = .ok (.istore 5, 2) := by decide +kernel
theorem dL_law_515 : decode cL_law 515 = .ok (.aload_n 2, 1) := by decide +kernel
theorem dL_law_516 : decode cL_law 516 = .ok (.aload_n 0, 1) := by decide +kernel
theorem dL_law_517 : decode cL_law 517 = .ok (.iload 4, 2) := by decide +kernel
theorem dL_law_519 : decode cL_law 519 = .ok (.iconst 1, 1) := by decide +kernel
theorem dL_law_520 : decode cL_law 520 = .ok (.iadd, 1) := by decide +kernel
theorem dL_law_521 : decode cL_law 521 = .ok (.iaload, 1) := by decide +kernel
theorem dL_law_522 : decode cL_law 522 = .ok (.invokevirtual 75, 3) := by decide +kernel
theorem dL_law_525 : decode cL_law 525 = .ok (.istore 6, 2) := by decide +kernel
theorem dL_law_527 : decode cL_law 527 = .ok (.aload_n 2, 1) := by decide +kernel
theorem dL_law_528 : decode cL_law 528 = .ok (.invokevirtual 48, 3) := by decide +kernel
theorem dL_law_531 : decode cL_law 531 = .ok (.iload 5, 2) := by decide +kernel
theorem dL_law_533 : decode cL_law 533 = .ok (.if_icmp .eq 5, 3) := by decide +kernel
theorem dL_law_536 : decode cL_law 536 = .ok (.iconst 0, 1) := by decide +kernel
theorem dL_law_537 : decode cL_law 537 = .ok (.ireturn, 1) := by decide +kernel
theorem dL_law_538 : decode cL_law 538 = .ok (.iload 5, 2) := by decide +kernel
theorem dL_law_540 : decode cL_law 540 = .ok (.ifCond .ne 15, 3) := by decide +kernel
theorem dL_law_543 : decode cL_law 543 = .ok (.aload_n 3, 1) := by decide +kernel
theorem dL_law_544 : decode cL_law 544 = .ok (.iconst 0, 1) := by decide +kernel
theorem dL_law_545 : decode cL_law 545 = .ok (.laload, 1) := by decide +kernel
theorem dL_law_546 : decode cL_law 546 = .ok (.iload 6, 2) := by decide +kernel
theorem dL_law_548 : decode cL_law 548 = .ok (.i2l, 1) := by decide +kernel
theorem dL_law_549 : decode cL_law 549 = .ok (.lcmp, 1) := by decide +kernel
theorem dL_law_550 : decode cL_law 550 = .ok (.ifCond .eq 5, 3) := by decide +kernel
theorem dL_law_553 : decode cL_law 553 = .ok (.iconst 0, 1) := by decide +kernel
theorem dL_law_554 : decode cL_law 554 = .ok (.ireturn, 1) := by decide +kernel
theorem dL_law_555 : decode cL_law 555 = .ok (.goto 470, 3) := by decide +kernel
theorem dL_law_558 : decode cL_law 558 = .ok (.aload_n 1, 1) := by decide +kernel
theorem dL_law_559 : decode cL_law 559 = .ok (.aload_n 0, 1) := by decide +kernel
theorem dL_law_560 : decode cL_law 560 = .ok (.iload 4, 2) := by decide +kernel
theorem dL_law_562 : decode cL_law 562 = .ok (.iconst 1, 1) := by decide +kernel
theorem dL_law_563 : decode cL_law 563 = .ok (.iadd, 1) := by decide +kernel
theorem dL_law_564 : decode cL_law 564 = .ok (.iaload, 1) := by decide +kernel
theorem dL_law_565 : decode cL_law 565 = .ok (.aload_n 0, 1) := by decide +kernel
theorem dL_law_566 : decode cL_law 566 = .ok (.iload 4, 2) := by decide +kernel
theorem dL_law_568 : decode cL_law 568 = .ok (.iconst 2, 1) := by decide +kernel
theorem dL_law_569 : decode cL_law 569 = .ok (.iadd, 1) := by decide +kernel
theorem dL_law_570 : decode cL_law 570 = .ok (.iaload, 1) := by decide +kernel
theorem dL_law_571 : decode cL_law 571 = .ok (.aload_n 0, 1) := by decide +kernel
theorem dL_law_572 : decode cL_law 572 = .ok (.iload 4, 2) := by decide +kernel
theorem dL_law_574 : decode cL_law 574 = .ok (.iconst 3, 1) := by decide +kernel
theorem dL_law_575 : decode cL_law 575 = .ok (.iadd, 1) := by decide +kernel
theorem dL_law_576 : decode cL_law 576 = .ok (.iaload, 1) := by decide +kernel
theorem dL_law_577 : decode cL_law 577 = .ok (.invokevirtual 76, 3) := by decide +kernel
theorem dL_law_580 : decode cL_law 580 = .ok (.aload_n 2, 1) := by decide +kernel
theorem dL_law_581 : decode cL_law 581 = .ok (.aload_n 0, 1) := by decide +kernel
theorem dL_law_582 : decode cL_law 582 = .ok (.iload 4, 2) := by decide +kernel
theorem dL_law_584 : decode cL_law 584 = .ok (.iconst 1, 1) := by decide +kernel
theorem dL_law_585 : decode cL_law 585 = .ok (.iadd, 1) := by decide +kernel
theorem dL_law_586 : decode cL_law 586 = .ok (.iaload, 1) := by decide +kernel
theorem dL_law_587 : decode cL_law 587 = .ok (.aload_n 0, 1) := by decide +kernel
theorem dL_law_588 : decode cL_law 588 = .ok (.iload 4, 2) := by decide +kernel
theorem dL_law_590 : decode cL_law 590 = .ok (.iconst 2, 1) := by decide +kernel
theorem dL_law_591 : decode cL_law 591 = .ok (.iadd, 1) := by decide +kernel
theorem dL_law_592 : decode cL_law 592 = .ok (.iaload, 1) := by decide +kernel
theorem dL_law_593 : decode cL_law 593 = .ok (.aload_n 0, 1) := by decide +kernel
theorem dL_law_594 : decode cL_law 594 = .ok (.iload 4, 2) := by decide +kernel
theorem dL_law_596 : decode cL_law 596 = .ok (.iconst 3, 1) := by decide +kernel
theorem dL_law_597 : decode cL_law 597 = .ok (.iadd, 1) := by decide +kernel
theorem dL_law_598 : decode cL_law 598 = .ok (.iaload, 1) := by decide +kernel
theorem dL_law_599 : decode cL_law 599 = .ok (.invokevirtual 80, 3) := by decide +kernel
theorem dL_law_602 : decode cL_law 602 = .ok (.lcmp, 1) := by decide +kernel
theorem dL_law_603 : decode cL_law 603 = .ok (.ifCond .eq 422, 3) := by decide +kernel
theorem dL_law_606 : decode cL_law 606 = .ok (.iconst 0, 1) := by decide +kernel
theorem dL_law_607 : decode cL_law 607 = .ok (.ireturn, 1) := by decide +kernel
theorem dL_law_608 : decode cL_law 608 = .ok (.aload_n 1, 1) := by decide +kernel
theorem dL_law_609 : decode cL_law 609 = .ok (.aload_n 0, 1) := by decide +kernel
theorem dL_law_610 : decode cL_law 610 = .ok (.iload 4, 2) := by decide +kernel
theorem dL_law_612 : decode cL_law 612 = .ok (.iconst 1, 1) := by decide +kernel
theorem dL_law_613 : decode cL_law 613 = .ok (.iadd, 1) := by decide +kernel
theorem dL_law_614 : decode cL_law 614 = .ok (.iaload, 1) := by decide +kernel
theorem dL_law_615 : decode cL_law 615 = .ok (.aload_n 0, 1) := by decide +kernel
theorem dL_law_616 : decode cL_law 616 = .ok (.iload 4, 2) := by decide +kernel
theorem dL_law_618 : decode cL_law 618 = .ok (.iconst 2, 1) := by decide +kernel
theorem dL_law_619 : decode cL_law 619 = .ok (.iadd, 1) := by decide +kernel
theorem dL_law_620 : decode cL_law 620 = .ok (.iaload, 1) := by decide +kernel
theorem dL_law_621 : decode cL_law 621 = .ok (.aload_n 0, 1) := by decide +kernel
theorem dL_law_622 : decode cL_law 622 = .ok (.iload 4, 2) := by decide +kernel
theorem dL_law_624 : decode cL_law 624 = .ok (.iconst 3, 1) := by decide +kernel
theorem dL_law_625 : decode cL_law 625 = .ok (.iadd, 1) := by decide +kernel
theorem dL_law_626 : decode cL_law 626 = .ok (.iaload, 1) := by decide +kernel
theorem dL_law_627 : decode cL_law 627 = .ok (.invokevirtual 81, 3) := by decide +kernel
theorem dL_law_630 : decode cL_law 630 = .ok (.aload_n 2, 1) := by decide +kernel
theorem dL_law_631 : decode cL_law 631 = .ok (.aload_n 0, 1) := by decide +kernel
theorem dL_law_632 : decode cL_law 632 = .ok (.iload 4, 2) := by decide +kernel
theorem dL_law_634 : decode cL_law 634 = .ok (.iconst 1, 1) := by decide +kernel
theorem dL_law_635 : decode cL_law 635 = .ok (.iadd, 1) := by decide +kernel
theorem dL_law_636 : decode cL_law 636 = .ok (.iaload, 1) := by decide +kernel
theorem dL_law_637 : decode cL_law 637 = .ok (.aload_n 0, 1) := by decide +kernel
theorem dL_law_638 : decode cL_law 638 = .ok (.iload 4, 2) := by decide +kernel
theorem dL_law_640 : decode cL_law 640 = .ok (.iconst 2, 1) := by decide +kernel
theorem dL_law_641 : decode cL_law 641 = .ok (.iadd, 1) := by decide +kernel
theorem dL_law_642 : decode cL_law 642 = .ok (.iaload, 1) := by decide +kernel
theorem dL_law_643 : decode cL_law 643 = .ok (.aload_n 0, 1) := by decide +kernel
theorem dL_law_644 : decode cL_law 644 = .ok (.iload 4, 2) := by decide +kernel
theorem dL_law_646 : decode cL_law 646 = .ok (.iconst 3, 1) := by decide +kernel
theorem dL_law_647 : decode cL_law 647 = .ok (.iadd, 1) := by decide +kernel
theorem dL_law_648 : decode cL_law 648 = .ok (.iaload, 1) := by decide +kernel
theorem dL_law_649 : decode cL_law 649 = .ok (.invokevirtual 84, 3) := by decide +kernel
theorem dL_law_652 : decode cL_law 652 = .ok (.lcmp, 1) := by decide +kernel
theorem dL_law_653 : decode cL_law 653 = .ok (.ifCond .eq 372, 3) := by decide +kernel
theorem dL_law_656 : decode cL_law 656 = .ok (.iconst 0, 1) := by decide +kernel
theorem dL_law_657 : decode cL_law 657 = .ok (.ireturn, 1) := by decide +kernel
theorem dL_law_658 : decode cL_law 658 = .ok (.aload_n 1, 1) := by decide +kernel
theorem dL_law_659 : decode cL_law 659 = .ok (.aload_n 0, 1) := by decide +kernel
theorem dL_law_660 : decode cL_law 660 = .ok (.iload 4, 2) := by decide +kernel
theorem dL_law_662 : decode cL_law 662 = .ok (.iconst 1, 1) := by decide +kernel
theorem dL_law_663 : decode cL_law 663 = .ok (.iadd, 1) := by decide +kernel
theorem dL_law_664 : decode cL_law 664 = .ok (.iaload, 1) := by decide +kernel
theorem dL_law_665 : decode cL_law 665 = .ok (.aload_n 0, 1) := by decide +kernel
theorem dL_law_666 : decode cL_law 666 = .ok (.iload 4, 2) := by decide +kernel
theorem dL_law_668 : decode cL_law 668 = .ok (.iconst 2, 1) := by decide +kernel
theorem dL_law_669 : decode cL_law 669 = .ok (.iadd, 1) := by decide +kernel
theorem dL_law_670 : decode cL_law 670 = .ok (.iaload, 1) := by decide +kernel
theorem dL_law_671 : decode cL_law 671 = .ok (.invokevirtual 85, 3) := by decide +kernel
theorem dL_law_674 : decode cL_law 674 = .ok (.aload_n 2, 1) := by decide +kernel
theorem dL_law_675 : decode cL_law 675 = .ok (.aload_n 0, 1) := by decide +kernel
theorem dL_law_676 : decode cL_law 676 = .ok (.iload 4, 2) := by decide +kernel
theorem dL_law_678 : decode cL_law 678 = .ok (.iconst 1, 1) := by decide +kernel
theorem dL_law_679 : decode cL_law 679 = .ok (.iadd, 1) := by decide +kernel
theorem dL_law_680 : decode cL_law 680 = .ok (.iaload, 1) := by decide +kernel
theorem dL_law_681 : decode cL_law 681 = .ok (.aload_n 0, 1) := by decide +kernel
theorem dL_law_682 : decode cL_law 682 = .ok (.iload 4, 2) := by decide +kernel
theorem dL_law_684 : decode cL_law 684 = .ok (.iconst 2, 1) := by decide +kernel
theorem dL_law_685 : decode cL_law 685 = .ok (.iadd, 1) := by decide +kernel
theorem dL_law_686 : decode cL_law 686 = .ok (.iaload, 1) := by decide +kernel
theorem dL_law_687 : decode cL_law 687 = .ok (.invokevirtual 88, 3) := by decide +kernel
theorem dL_law_690 : decode cL_law 690 = .ok (.if_icmp .eq 335, 3) := by decide +kernel
theorem dL_law_693 : decode cL_law 693 = .ok (.iconst 0, 1) := by decide +kernel
theorem dL_law_694 : decode cL_law 694 = .ok (.ireturn, 1) := by decide +kernel
theorem dL_law_695 : decode cL_law 695 = .ok (.aload_n 1, 1) := by decide +kernel
theorem dL_law_696 : decode cL_law 696 = .ok (.aload_n 0, 1) := by decide +kernel
theorem dL_law_697 : decode cL_law 697 = .ok (.iload 4, 2) := by decide +kernel
theorem dL_law_699 : decode cL_law 699 = .ok (.iconst 1, 1) := by decide +kernel
theorem dL_law_700 : decode cL_law 700 = .ok (.iadd, 1) := by decide +kernel
theorem dL_law_701 : decode cL_law 701 = .ok (.iaload, 1) := by decide +kernel
theorem dL_law_702 : decode cL_law 702 = .ok (.aload_n 0, 1) := by decide +kernel
theorem dL_law_703 : decode cL_law 703 = .ok (.iload 4, 2) := by decide +kernel
theorem dL_law_705 : decode cL_law 705 = .ok (.iconst 2, 1) := by decide +kernel
theorem dL_law_706 : decode cL_law 706 = .ok (.iadd, 1) := by decide +kernel
theorem dL_law_707 : decode cL_law 707 = .ok (.iaload, 1) := by decide +kernel
theorem dL_law_708 : decode cL_law 708 = .ok (.aload_n 0, 1) := by decide +kernel
theorem dL_law_709 : decode cL_law 709 = .ok (.iload 4, 2) := by decide +kernel
theorem dL_law_711 : decode cL_law 711 = .ok (.iconst 3, 1) := by decide +kernel
theorem dL_law_712 : decode cL_law 712 = .ok (.iadd, 1) := by decide +kernel
theorem dL_law_713 : decode cL_law 713 = .ok (.iaload, 1) := by decide +kernel
theorem dL_law_714 : decode cL_law 714 = .ok (.invokevirtual 89, 3) := by decide +kernel
theorem dL_law_717 : decode cL_law 717 = .ok (.aload_n 2, 1) := by decide +kernel
theorem dL_law_718 : decode cL_law 718 = .ok (.aload_n 0, 1) := by decide +kernel
theorem dL_law_719 : decode cL_law 719 = .ok (.iload 4, 2) := by decide +kernel
theorem dL_law_721 : decode cL_law 721 = .ok (.iconst 1, 1) := by decide +kernel
theorem dL_law_722 : decode cL_law 722 = .ok (.iadd, 1) := by decide +kernel
theorem dL_law_723 : decode cL_law 723 = .ok (.iaload, 1) := by decide +kernel
theorem dL_law_724 : decode cL_law 724 = .ok (.aload_n 0, 1) := by decide +kernel
theorem dL_law_725 : decode cL_law 725 = .ok (.iload 4, 2) := by decide +kernel
theorem dL_law_727 : decode cL_law 727 = .ok (.iconst 2, 1) := by decide +kernel
theorem dL_law_728 : decode cL_law 728 = .ok (.iadd, 1) := by decide +kernel
theorem dL_law_729 : decode cL_law 729 = .ok (.iaload, 1) := by decide +kernel
theorem dL_law_730 : decode cL_law 730 = .ok (.aload_n 0, 1) := by decide +kernel
theorem dL_law_731 : decode cL_law 731 = .ok (.iload 4, 2) := by decide +kernel
theorem dL_law_733 : decode cL_law 733 = .ok (.iconst 3, 1) := by decide +kernel
theorem dL_law_734 : decode cL_law 734 = .ok (.iadd, 1) := by decide +kernel
theorem dL_law_735 : decode cL_law 735 = .ok (.iaload, 1) := by decide +kernel
theorem dL_law_736 : decode cL_law 736 = .ok (.invokevirtual 93, 3) := by decide +kernel
theorem dL_law_739 : decode cL_law 739 = .ok (.if_icmp .eq 286, 3) := by decide +kernel
theorem dL_law_742 : decode cL_law 742 = .ok (.iconst 0, 1) := by decide +kernel
theorem dL_law_743 : decode cL_law 743 = .ok (.ireturn, 1) := by decide +kernel
theorem dL_law_744 : decode cL_law 744 = .ok (.aload_n 1, 1) := by decide +kernel
theorem dL_law_745 : decode cL_law 745 = .ok (.aload_n 0, 1) := by decide +kernel
theorem dL_law_746 : decode cL_law 746 = .ok (.iload 4, 2) := by decide +kernel
theorem dL_law_748 : decode cL_law 748 = .ok (.iconst 1, 1) := by decide +kernel
theorem dL_law_749 : decode cL_law 749 = .ok (.iadd, 1) := by decide +kernel
theorem dL_law_750 : decode cL_law 750 = .ok (.iaload, 1) := by decide +kernel
theorem dL_law_751 : decode cL_law 751 = .ok (.aload_n 0, 1) := by decide +kernel
theorem dL_law_752 : decode cL_law 752 = .ok (.iload 4, 2) := by decide +kernel
theorem dL_law_754 : decode cL_law 754 = .ok (.iconst 2, 1) := by decide +kernel
theorem dL_law_755 : decode cL_law 755 = .ok (.iadd, 1) := by decide +kernel
theorem dL_law_756 : decode cL_law 756 = .ok (.iaload, 1) := by decide +kernel
theorem dL_law_757 : decode cL_law 757 = .ok (.aload_n 0, 1) := by decide +kernel
theorem dL_law_758 : decode cL_law 758 = .ok (.iload 4, 2) := by decide +kernel
theorem dL_law_760 : decode cL_law 760 = .ok (.iconst 3, 1) := by decide +kernel
theorem dL_law_761 : decode cL_law 761 = .ok (.iadd, 1) := by decide +kernel
theorem dL_law_762 : decode cL_law 762 = .ok (.iaload, 1) := by decide +kernel
theorem dL_law_763 : decode cL_law 763 = .ok (.aload_n 0, 1) := by decide +kernel
theorem dL_law_764 : decode cL_law 764 = .ok (.iload 4, 2) := by decide +kernel
theorem dL_law_766 : decode cL_law 766 = .ok (.iconst 4, 1) := by decide +kernel
theorem dL_law_767 : decode cL_law 767 = .ok (.iadd, 1) := by decide +kernel
theorem dL_law_768 : decode cL_law 768 = .ok (.iaload, 1) := by decide +kernel
theorem dL_law_769 : decode cL_law 769 = .ok (.invokevirtual 94, 3) := by decide +kernel
theorem dL_law_772 : decode cL_law 772 = .ok (.aload_n 2, 1) := by decide +kernel
theorem dL_law_773 : decode cL_law 773 = .ok (.aload_n 0, 1) := by decide +kernel
theorem dL_law_774 : decode cL_law 774 = .ok (.iload 4, 2) := by decide +kernel
theorem dL_law_776 : decode cL_law 776 = .ok (.iconst 1, 1) := by decide +kernel
theorem dL_law_777 : decode cL_law 777 = .ok (.iadd, 1) := by decide +kernel
theorem dL_law_778 : decode cL_law 778 = .ok (.iaload, 1) := by decide +kernel
theorem dL_law_779 : decode cL_law 779 = .ok (.aload_n 0, 1) := by decide +kernel
theorem dL_law_780 : decode cL_law 780 = .ok (.iload 4, 2) := by decide +kernel
theorem dL_law_782 : decode cL_law 782 = .ok (.iconst 2, 1) := by decide +kernel
theorem dL_law_783 : decode cL_law 783 = .ok (.iadd, 1) := by decide +kernel
theorem dL_law_784 : decode cL_law 784 = .ok (.iaload, 1) := by decide +kernel
theorem dL_law_785 : decode cL_law 785 = .ok (.aload_n 0, 1) := by decide +kernel
theorem dL_law_786 : decode cL_law 786 = .ok (.iload 4, 2) := by decide +kernel
theorem dL_law_788 : decode cL_law 788 = .ok (.iconst 3, 1) := by decide +kernel
theorem dL_law_789 : decode cL_law 789 = .ok (.iadd, 1) := by decide +kernel
theorem dL_law_790 : decode cL_law 790 = .ok (.iaload, 1) := by decide +kernel
theorem dL_law_791 : decode cL_law 791 = .ok (.aload_n 0, 1) := by decide +kernel
theorem dL_law_792 : decode cL_law 792 = .ok (.iload 4, 2) := by decide +kernel
theorem dL_law_794 : decode cL_law 794 = .ok (.iconst 4, 1) := by decide +kernel
theorem dL_law_795 : decode cL_law 795 = .ok (.iadd, 1) := by decide +kernel
theorem dL_law_796 : decode cL_law 796 = .ok (.iaload, 1) := by decide +kernel
theorem dL_law_797 : decode cL_law 797 = .ok (.invokevirtual 98, 3) := by decide +kernel
theorem dL_law_800 : decode cL_law 800 = .ok (.if_icmp .eq 225, 3) := by decide +kernel
theorem dL_law_803 : decode cL_law 803 = .ok (.iconst 0, 1) := by decide +kernel
theorem dL_law_804 : decode cL_law 804 = .ok (.ireturn, 1) := by decide +kernel
theorem dL_law_805 : decode cL_law 805 = .ok (.aload_n 1, 1) := by decide +kernel
theorem dL_law_806 : decode cL_law 806 = .ok (.aload_n 0, 1) := by decide +kernel
theorem dL_law_807 : decode cL_law 807 = .ok (.iload 4, 2) := by decide +kernel
theorem dL_law_809 : decode cL_law 809 = .ok (.iconst 1, 1) := by decide +kernel
theorem dL_law_810 : decode cL_law 810 = .ok (.iadd, 1) := by decide +kernel
theorem dL_law_811 : decode cL_law 811 = .ok (.iaload, 1) := by decide +kernel
theorem dL_law_812 : decode cL_law 812 = .ok (.aload_n 0, 1) := by decide +kernel
theorem dL_law_813 : decode cL_law 813 = .ok (.iload 4, 2) := by decide +kernel
theorem dL_law_815 : decode cL_law 815 = .ok (.iconst 2, 1) := by decide +kernel
theorem dL_law_816 : decode cL_law 816 = .ok (.iadd, 1) := by decide +kernel
theorem dL_law_817 : decode cL_law 817 = .ok (.iaload, 1) := by decide +kernel
theorem dL_law_818 : decode cL_law 818 = .ok (.aload_n 3, 1) := by decide +kernel
theorem dL_law_819 : decode cL_law 819 = .ok (.invokestatic 99, 3) := by decide +kernel
theorem dL_law_822 : decode cL_law 822 = .ok (.istore 5, 2) := by decide +kernel
theorem dL_law_824 : decode cL_law 824 = .ok (.aload_n 2, 1) := by decide +kernel
theorem dL_law_825 : decode cL_law 825 = .ok (.aload_n 0, 1) := by decide +kernel
theorem dL_law_826 : decode cL_law 826 = .ok (.iload 4, 2) := by decide +kernel
theorem dL_law_828 : decode cL_law 828 = .ok (.iconst 1, 1) := by decide +kernel
theorem dL_law_829 : decode cL_law 829 = .ok (.iadd, 1) := by decide +kernel
theorem dL_law_830 : decode cL_law 830 = .ok (.iaload, 1) := by decide +kernel
theorem dL_law_831 : decode cL_law 831 = .ok (.aload_n 0, 1) := by decide +kernel
theorem dL_law_832 : decode cL_law 832 = .ok (.iload 4, 2) := by decide +kernel
theorem dL_law_834 : decode cL_law 834 = .ok (.iconst 2, 1) := by decide +kernel
theorem dL_law_835 : decode cL_law 835 = .ok (.iadd, 1) := by decide +kernel
theorem dL_law_836 : decode cL_law 836 = .ok (.iaload, 1) := by decide +kernel
theorem dL_law_837 : decode cL_law 837 = .ok (.invokevirtual 102, 3) := by decide +kernel
theorem dL_law_840 : decode cL_law 840 = .ok (.istore 6, 2) := by decide +kernel
theorem dL_law_842 : decode cL_law 842 = .ok (.aload_n 2, 1) := by decide +kernel
theorem dL_law_843 : decode cL_law 843 = .ok (.invokevirtual 48, 3) := by decide +kernel
theorem dL_law_846 : decode cL_law 846 = .ok (.iload 5, 2) := by decide +kernel
theorem dL_law_848 : decode cL_law 848 = .ok (.if_icmp .eq 5, 3) := by decide +kernel
theorem dL_law_851 : decode cL_law 851 = .ok (.iconst 0, 1) := by decide +kernel
theorem dL_law_852 : decode cL_law 852 = .ok (.ireturn, 1) := by decide +kernel
theorem dL_law_853 : decode cL_law 853 = .ok (.iload 5, 2) := by decide +kernel
theorem dL_law_855 : decode cL_law 855 = .ok (.ifCond .ne 15, 3) := by decide +kernel
theorem dL_law_858 : decode cL_law 858 = .ok (.aload_n 3, 1) := by decide +kernel
theorem dL_law_859 : decode cL_law 859 = .ok (.iconst 0, 1) := by decide +kernel
theorem dL_law_860 : decode cL_law 860 = .ok (.laload, 1) := by decide +kernel
theorem dL_law_861 : decode cL_law 861 = .ok (.iload 6, 2) := by decide +kernel
theorem dL_law_863 : decode cL_law 863 = .ok (.i2l, 1) := by decide +kernel
theorem dL_law_864 : decode cL_law 864 = .ok (.lcmp, 1) := by decide +kernel
theorem dL_law_865 : decode cL_law 865 = .ok (.ifCond .eq 5, 3) := by decide +kernel
theorem dL_law_868 : decode cL_law 868 = .ok (.iconst 0, 1) := by decide +kernel
theorem dL_law_869 : decode cL_law 869 = .ok (.ireturn, 1) := by decide +kernel
theorem dL_law_870 : decode cL_law 870 = .ok (.goto 155, 3) := by decide +kernel
theorem dL_law_873 : decode cL_law 873 = .ok (.aload_n 1, 1) := by decide +kernel
theorem dL_law_874 : decode cL_law 874 = .ok (.aload_n 0, 1) := by decide +kernel
theorem dL_law_875 : decode cL_law 875 = .ok (.iload 4, 2) := by decide +kernel
theorem dL_law_877 : decode cL_law 877 = .ok (.iconst 1, 1) := by decide +kernel
theorem dL_law_878 : decode cL_law 878 = .ok (.iadd, 1) := by decide +kernel
theorem dL_law_879 : decode cL_law 879 = .ok (.iaload, 1) := by decide +kernel
theorem dL_law_880 : decode cL_law 880 = .ok (.invokevirtual 103, 3) := by decide +kernel
theorem dL_law_883 : decode cL_law 883 = .ok (.aload_n 2, 1) := by decide +kernel
theorem dL_law_884 : decode cL_law 884 = .ok (.aload_n 0, 1) := by decide +kernel
theorem dL_law_885 : decode cL_law 885 = .ok (.iload 4, 2) := by decide +kernel
theorem dL_law_887 : decode cL_law 887 = .ok (.iconst 1, 1) := by decide +kernel
theorem dL_law_888 : decode cL_law 888 = .ok (.iadd, 1) := by decide +kernel
theorem dL_law_889 : decode cL_law 889 = .ok (.iaload, 1) := by decide +kernel
theorem dL_law_890 : decode cL_law 890 = .ok (.invokevirtual 106, 3) := by decide +kernel
theorem dL_law_893 : decode cL_law 893 = .ok (.if_icmp .eq 132, 3) := by decide +kernel
theorem dL_law_896 : decode cL_law 896 = .ok (.iconst 0, 1) := by decide +kernel
theorem dL_law_897 : decode cL_law 897 = .ok (.ireturn, 1) := by decide +kernel
theorem dL_law_898 : decode cL_law 898 = .ok (.aload_n 1, 1) := by decide +kernel
theorem dL_law_899 : decode cL_law 899 = .ok (.aload_n 0, 1) := by decide +kernel
theorem dL_law_900 : decode cL_law 900 = .ok (.iload 4, 2) := by decide +kernel
theorem dL_law_902 : decode cL_law 902 = .ok (.iconst 1, 1) := by decide +kernel
theorem dL_law_903 : decode cL_law 903 = .ok (.iadd, 1) := by decide +kernel
theorem dL_law_904 : decode cL_law 904 = .ok (.iaload, 1) := by decide +kernel
theorem dL_law_905 : decode cL_law 905 = .ok (.aload_n 0, 1) := by decide +kernel
theorem dL_law_906 : decode cL_law 906 = .ok (.iload 4, 2) := by decide +kernel
theorem dL_law_908 : decode cL_law 908 = .ok (.iconst 2, 1) := by decide +kernel
theorem dL_law_909 : decode cL_law 909 = .ok (.iadd, 1) := by decide +kernel
theorem dL_law_910 : decode cL_law 910 = .ok (.iaload, 1) := by decide +kernel
theorem dL_law_911 : decode cL_law 911 = .ok (.aload_n 0, 1) := by decide +kernel
theorem dL_law_912 : decode cL_law 912 = .ok (.iload 4, 2) := by decide +kernel
theorem dL_law_914 : decode cL_law 914 = .ok (.iconst 3, 1) := by decide +kernel
theorem dL_law_915 : decode cL_law 915 = .ok (.iadd, 1) := by decide +kernel
theorem dL_law_916 : decode cL_law 916 = .ok (.iaload, 1) := by decide +kernel
theorem dL_law_917 : decode cL_law 917 = .ok (.invokevirtual 107, 3) := by decide +kernel
theorem dL_law_920 : decode cL_law 920 = .ok (.aload_n 2, 1) := by decide +kernel
theorem dL_law_921 : decode cL_law 921 = .ok (.aload_n 0, 1) := by decide +kernel
theorem dL_law_922 : decode cL_law 922 = .ok (.iload 4, 2) := by decide +kernel
theorem dL_law_924 : decode cL_law 924 = .ok (.iconst 1, 1) := by decide +kernel
theorem dL_law_925 : decode cL_law 925 = .ok (.iadd, 1) := by decide +kernel
theorem dL_law_926 : decode cL_law 926 = .ok (.iaload, 1) := by decide +kernel
theorem dL_law_927 : decode cL_law 927 = .ok (.aload_n 0, 1) := by decide +kernel
theorem dL_law_928 : decode cL_law 928 = .ok (.iload 4, 2) := by decide +kernel
theorem dL_law_930 : decode cL_law 930 = .ok (.iconst 2, 1) := by decide +kernel
theorem dL_law_931 : decode cL_law 931 = .ok (.iadd, 1) := by decide +kernel
theorem dL_law_932 : decode cL_law 932 = .ok (.iaload, 1) := by decide +kernel
theorem dL_law_933 : decode cL_law 933 = .ok (.aload_n 0, 1) := by decide +kernel
theorem dL_law_934 : decode cL_law 934 = .ok (.iload 4, 2) := by decide +kernel
theorem dL_law_936 : decode cL_law 936 = .ok (.iconst 3, 1) := by decide +kernel
theorem dL_law_937 : decode cL_law 937 = .ok (.iadd, 1) := by decide +kernel
theorem dL_law_938 : decode cL_law 938 = .ok (.iaload, 1) := by decide +kernel
theorem dL_law_939 : decode cL_law 939 = .ok (.invokevirtual 110, 3) := by decide +kernel
theorem dL_law_942 : decode cL_law 942 = .ok (.if_icmp .eq 83, 3) := by decide +kernel
theorem dL_law_945 : decode cL_law 945 = .ok (.iconst 0, 1) := by decide +kernel
theorem dL_law_946 : decode cL_law 946 = .ok (.ireturn, 1) := by decide +kernel
theorem dL_law_947 : decode cL_law 947 = .ok (.aload_n 1, 1) := by decide +kernel
theorem dL_law_948 : decode cL_law 948 = .ok (.aload_n 0, 1) := by decide +kernel
theorem dL_law_949 : decode cL_law 949 = .ok (.iload 4, 2) := by decide +kernel
theorem dL_law_951 : decode cL_law 951 = .ok (.iconst 1, 1) := by decide +kernel
theorem dL_law_952 : decode cL_law 952 = .ok (.iadd, 1) := by decide +kernel
theorem dL_law_953 : decode cL_law 953 = .ok (.iaload, 1) := by decide +kernel
theorem dL_law_954 : decode cL_law 954 = .ok (.aload_n 0, 1) := by decide +kernel
theorem dL_law_955 : decode cL_law 955 = .ok (.iload 4, 2) := by decide +kernel
theorem dL_law_957 : decode cL_law 957 = .ok (.iconst 2, 1) := by decide +kernel
theorem dL_law_958 : decode cL_law 958 = .ok (.iadd, 1) := by decide +kernel
theorem dL_law_959 : decode cL_law 959 = .ok (.iaload, 1) := by decide +kernel
theorem dL_law_960 : decode cL_law 960 = .ok (.ifCond .eq 7, 3) := by decide +kernel
theorem dL_law_963 : decode cL_law 963 = .ok (.iconst 1, 1) := by decide +kernel
theorem dL_law_964 : decode cL_law 964 = .ok (.goto 4, 3) := by decide +kernel
theorem dL_law_967 : decode cL_law 967 = .ok (.iconst 0, 1) := by decide +kernel
theorem dL_law_968 : decode cL_law 968 = .ok (.invokevirtual 111, 3) := by decide +kernel
theorem dL_law_971 : decode cL_law 971 = .ok (.aload_n 2, 1) := by decide +kernel
theorem dL_law_972 : decode cL_law 972 = .ok (.aload_n 0, 1) := by decide +kernel
theorem dL_law_973 : decode cL_law 973 = .ok (.iload 4, 2) := by decide +kernel
theorem dL_law_975 : decode cL_law 975 = .ok (.iconst 1, 1) := by decide +kernel
theorem dL_law_976 : decode cL_law 976 = .ok (.iadd, 1) := by decide +kernel
theorem dL_law_977 : decode cL_law 977 = .ok (.iaload, 1) := by decide +kernel
theorem dL_law_978 : decode cL_law 978 = .ok (.aload_n 0, 1) := by decide +kernel
theorem dL_law_979 : decode cL_law 979 = .ok (.iload 4, 2) := by decide +kernel
theorem dL_law_981 : decode cL_law 981 = .ok (.iconst 2, 1) := by decide +kernel
theorem dL_law_982 : decode cL_law 982 = .ok (.iadd, 1) := by decide +kernel
theorem dL_law_983 : decode cL_law 983 = .ok (.iaload, 1) := by decide +kernel
theorem dL_law_984 : decode cL_law 984 = .ok (.ifCond .eq 7, 3) := by decide +kernel
theorem dL_law_987 : decode cL_law 987 = .ok (.iconst 1, 1) := by decide +kernel
theorem dL_law_988 : decode cL_law 988 = .ok (.goto 4, 3) := by decide +kernel
theorem dL_law_991 : decode cL_law 991 = .ok (.iconst 0, 1) := by decide +kernel
theorem dL_law_992 : decode cL_law 992 = .ok (.invokevirtual 115, 3) := by decide +kernel
theorem dL_law_995 : decode cL_law 995 = .ok (.if_icmp .eq 30, 3) := by decide +kernel
theorem dL_law_998 : decode cL_law 998 = .ok (.iconst 0, 1) := by decide +kernel
theorem dL_law_999 : decode cL_law 999 = .ok (.ireturn, 1) := by decide +kernel
theorem dL_law_1000 : decode cL_law 1000 = .ok (.aload_n 1, 1) := by decide +kernel
theorem dL_law_1001 : decode cL_law 1001 = .ok (.aload_n 0, 1) := by decide +kernel
theorem dL_law_1002 : decode cL_law 1002 = .ok (.iload 4, 2) := by decide +kernel
theorem dL_law_1004 : decode cL_law 1004 = .ok (.iconst 1, 1) := by decide +kernel
theorem dL_law_1005 : decode cL_law 1005 = .ok (.iadd, 1) := by decide +kernel
theorem dL_law_1006 : decode cL_law 1006 = .ok (.iaload, 1) := by decide +kernel
theorem dL_law_1007 : decode cL_law 1007 = .ok (.invokevirtual 116, 3) := by decide +kernel
theorem dL_law_1010 : decode cL_law 1010 = .ok (.aload_n 2, 1) := by decide +kernel
theorem dL_law_1011 : decode cL_law 1011 = .ok (.aload_n 0, 1) := by decide +kernel
theorem dL_law_1012 : decode cL_law 1012 = .ok (.iload 4, 2) := by decide +kernel
theorem dL_law_1014 : decode cL_law 1014 = .ok (.iconst 1, 1) := by decide +kernel
theorem dL_law_1015 : decode cL_law 1015 = .ok (.iadd, 1) := by decide +kernel
theorem dL_law_1016 : decode cL_law 1016 = .ok (.iaload, 1) := by decide +kernel
theorem dL_law_1017 : decode cL_law 1017 = .ok (.invokevirtual 119, 3) := by decide +kernel
theorem dL_law_1020 : decode cL_law 1020 = .ok (.if_icmp .eq 5, 3) := by decide +kernel
theorem dL_law_1023 : decode cL_law 1023 = .ok (.iconst 0, 1) := by decide +kernel
theorem dL_law_1024 : decode cL_law 1024 = .ok (.ireturn, 1) := by decide +kernel
theorem dL_law_1025 : decode cL_law 1025 = .ok (.iinc 4 7, 3) := by decide +kernel
theorem dL_law_1028 : decode cL_law 1028 = .ok (.goto (-1005), 3) := by decide +kernel
theorem dL_law_1031 : decode cL_law 1031 = .ok (.iconst 1, 1) := by decide +kernel
theorem dL_law_1032 : decode cL_law 1032 = .ok (.ireturn, 1) := by decide +kernel
