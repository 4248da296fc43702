theorem dX0_init_0 : decode cX0_init 0 = .ok (.aload_n 0, 1) := by decide +kernel
theorem dX0_init_1 : decode cX0_init 1 = .ok (.invokespecial 3, 3) := by decide +kernel
theorem dX0_init_4 : decode cX0_init 4 = .ok (.aload_n 0, 1) := by decide +kernel
theorem dX0_init_5 : decode cX0_init 5 = .ok (.bipush 13, 2) := by decide +kernel
theorem dX0_init_7 : decode cX0_init 7 = .ok (.anewarray 9, 3) := by decide +kernel
theorem dX0_init_10 : decode cX0_init 10 = .ok (.putfield 11, 3) := by decide +kernel
theorem dX0_init_13 : decode cX0_init 13 = .ok (.iconst 0, 1) := by decide +kernel
theorem dX0_init_14 : decode cX0_init 14 = .ok (.istore_n 1, 1) := by decide +kernel
theorem dX0_init_15 : decode cX0_init 15 = .ok (.iload_n 1, 1) := by decide +kernel
theorem dX0_init_16 : decode cX0_init 16 = .ok (.bipush 12, 2) := by decide +kernel
theorem dX0_init_18 : decode cX0_init 18 = .ok (.if_icmp .gt 22, 3) := by decide +kernel
theorem dX0_init_21 : decode cX0_init 21 = .ok (.aload_n 0, 1) := by decide +kernel
theorem dX0_init_22 : decode cX0_init 22 = .ok (.getfield 11, 3) := by decide +kernel
theorem dX0_init_25 : decode cX0_init 25 = .ok (.iload_n 1, 1) := by decide +kernel
theorem dX0_init_26 : decode cX0_init 26 = .ok (.new 9, 3) := by decide +kernel
theorem dX0_init_29 : decode cX0_init 29 = .ok (.dup, 1) := by decide +kernel
theorem dX0_init_30 : decode cX0_init 30 = .ok (.invokespecial 17, 3) := by decide +kernel
theorem dX0_init_33 : decode cX0_init 33 = .ok (.aastore, 1) := by decide +kernel
theorem dX0_init_34 : decode cX0_init 34 = .ok (.iinc 1 1, 3) := by decide +kernel
theorem dX0_init_37 : decode cX0_init 37 = .ok (.goto (-22), 3) := by decide +kernel
theorem dX0_init_40 : decode cX0_init 40 = .ok (.aload_n 0, 1) := by decide +kernel
theorem dX0_init_41 : decode cX0_init 41 = .ok (.bipush 64, 2) := by decide +kernel
theorem dX0_init_43 : decode cX0_init 43 = .ok (.newarray .long, 2) := by decide +kernel
theorem dX0_init_45 : decode cX0_init 45 = .ok (.putfield 18, 3) := by decide +kernel
theorem dX0_init_48 : decode cX0_init 48 = .ok (.return_, 1) := by decide +kernel
theorem dX0_start_0 : decode cX0_start 0 = .ok (.aload_n 0, 1) := by decide +kernel
theorem dX0_start_1 : decode cX0_start 1 = .ok (.getfield 11, 3) := by decide +kernel
theorem dX0_start_4 : decode cX0_start 4 = .ok (.iconst 0, 1) := by decide +kernel
theorem dX0_start_5 : decode cX0_start 5 = .ok (.aaload, 1) := by decide +kernel
theorem dX0_start_6 : decode cX0_start 6 = .ok (.aload_n 1, 1) := by decide +kernel
theorem dX0_start_7 : decode cX0_start 7 = .ok (.invokevirtual 22, 3) := by decide +kernel
theorem dX0_start_10 : decode cX0_start 10 = .ok (.return_, 1) := by decide +kernel
theorem dX0_startPaid_0 : decode cX0_startPaid 0 = .ok (.aload_n 0, 1) := by decide +kernel
theorem dX0_startPaid_1 : decode cX0_startPaid 1 = .ok (.getfield 11, 3) := by decide +kernel
theorem dX0_startPaid_4 : decode cX0_startPaid 4 = .ok (.iconst 0, 1) := by decide +kernel
theorem dX0_startPaid_5 : decode cX0_startPaid 5 = .ok (.aaload, 1) := by decide +kernel
theorem dX0_startPaid_6 : decode cX0_startPaid 6 = .ok (.aload_n 1, 1) := by decide +kernel
theorem dX0_startPaid_7 : decode cX0_startPaid 7 = .ok (.iload_n 2, 1) := by decide +kernel
theorem dX0_startPaid_8 : decode cX0_startPaid 8 = .ok (.invokevirtual 26, 3) := by decide +kernel
theorem dX0_startPaid_11 : decode cX0_startPaid 11 = .ok (.return_, 1) := by decide +kernel
theorem dX0_total_0 : decode cX0_total 0 = .ok (.aload_n 0, 1) := by decide +kernel
theorem dX0_total_1 : decode cX0_total 1 = .ok (.iload_n 2, 1) := by decide +kernel
theorem dX0_total_2 : decode cX0_total 2 = .ok (.putfield 30, 3) := by decide +kernel
theorem dX0_total_5 : decode cX0_total 5 = .ok (.aload_n 0, 1) := by decide +kernel
theorem dX0_total_6 : decode cX0_total 6 = .ok (.iload_n 3, 1) := by decide +kernel
theorem dX0_total_7 : decode cX0_total 7 = .ok (.putfield 34, 3) := by decide +kernel
theorem dX0_total_10 : decode cX0_total 10 = .ok (.aload_n 0, 1) := by decide +kernel
theorem dX0_total_11 : decode cX0_total 11 = .ok (.iload 4, 2) := by decide +kernel
theorem dX0_total_13 : decode cX0_total 13 = .ok (.putfield 37, 3) := by decide +kernel
theorem dX0_total_16 : decode cX0_total 16 = .ok (.aload_n 0, 1) := by decide +kernel
theorem dX0_total_17 : decode cX0_total 17 = .ok (.lconst 0, 1) := by decide +kernel
theorem dX0_total_18 : decode cX0_total 18 = .ok (.putfield 40, 3) := by decide +kernel
theorem dX0_total_21 : decode cX0_total 21 = .ok (.aload_n 0, 1) := by decide +kernel
theorem dX0_total_22 : decode cX0_total 22 = .ok (.aload_n 1, 1) := by decide +kernel
theorem dX0_total_23 : decode cX0_total 23 = .ok (.iconst 0, 1) := by decide +kernel
theorem dX0_total_24 : decode cX0_total 24 = .ok (.lconst 1, 1) := by decide +kernel
theorem dX0_total_25 : decode cX0_total 25 = .ok (.iconst 0, 1) := by decide +kernel
theorem dX0_total_26 : decode cX0_total 26 = .ok (.invokevirtual 44, 3) := by decide +kernel
theorem dX0_total_29 : decode cX0_total 29 = .ok (.aload_n 0, 1) := by decide +kernel
theorem dX0_total_30 : decode cX0_total 30 = .ok (.getfield 40, 3) := by decide +kernel
theorem dX0_total_33 : decode cX0_total 33 = .ok (.lreturn, 1) := by decide +kernel
theorem dX0_findFitting_0 : decode cX0_findFitting 0 = .ok (.aload_n 0, 1) := by decide +kernel
theorem dX0_findFitting_1 : decode cX0_findFitting 1 = .ok (.iload 4, 2) := by decide +kernel
theorem dX0_findFitting_3 : decode cX0_findFitting 3 = .ok (.putfield 48, 3) := by decide +kernel
theorem dX0_findFitting_6 : decode cX0_findFitting 6 = .ok (.iconst 0, 1) := by decide +kernel
theorem dX0_findFitting_7 : decode cX0_findFitting 7 = .ok (.istore 5, 2) := by decide +kernel
theorem dX0_findFitting_9 : decode cX0_findFitting 9 = .ok (.iload 5, 2) := by decide +kernel
theorem dX0_findFitting_11 : decode cX0_findFitting 11 = .ok (.bipush 64, 2) := by decide +kernel
theorem dX0_findFitting_13 : decode cX0_findFitting 13 = .ok (.if_icmp .ge 17, 3) := by decide +kernel
theorem dX0_findFitting_16 : decode cX0_findFitting 16 = .ok (.aload_n 0, 1) := by decide +kernel
theorem dX0_findFitting_17 : decode cX0_findFitting 17 = .ok (.getfield 18, 3) := by decide +kernel
theorem dX0_findFitting_20 : decode cX0_findFitting 20 = .ok (.iload 5, 2) := by decide +kernel
theorem dX0_findFitting_22 : decode cX0_findFitting 22 = .ok (.lconst 0, 1) := by decide +kernel
theorem dX0_findFitting_23 : decode cX0_findFitting 23 = .ok (.lastore, 1) := by decide +kernel
theorem dX0_findFitting_24 : decode cX0_findFitting 24 = .ok (.iinc 5 1, 3) := by decide +kernel
theorem dX0_findFitting_27 : decode cX0_findFitting 27 = .ok (.goto (-18), 3) := by decide +kernel
theorem dX0_findFitting_30 : decode cX0_findFitting 30 = .ok (.aload_n 0, 1) := by decide +kernel
theorem dX0_findFitting_31 : decode cX0_findFitting 31 = .ok (.aload_n 1, 1) := by decide +kernel
theorem dX0_findFitting_32 : decode cX0_findFitting 32 = .ok (.iload_n 2, 1) := by decide +kernel
theorem dX0_findFitting_33 : decode cX0_findFitting 33 = .ok (.iconst 3, 1) := by decide +kernel
theorem dX0_findFitting_34 : decode cX0_findFitting 34 = .ok (.iload_n 3, 1) := by decide +kernel
theorem dX0_findFitting_35 : decode cX0_findFitting 35 = .ok (.invokevirtual 51, 3) := by decide +kernel
theorem dX0_findFitting_38 : decode cX0_findFitting 38 = .ok (.l2i, 1) := by decide +kernel
theorem dX0_findFitting_39 : decode cX0_findFitting 39 = .ok (.ireturn, 1) := by decide +kernel
theorem dX0_walk_0 : decode cX0_walk 0 = .ok (.iload_n 2, 1) := by decide +kernel
theorem dX0_walk_1 : decode cX0_walk 1 = .ok (.aload_n 0, 1) := by decide +kernel
theorem dX0_walk_2 : decode cX0_walk 2 = .ok (.getfield 30, 3) := by decide +kernel
theorem dX0_walk_5 : decode cX0_walk 5 = .ok (.if_icmp .ge 9, 3) := by decide +kernel
theorem dX0_walk_8 : decode cX0_walk 8 = .ok (.iload_n 2, 1) := by decide +kernel
theorem dX0_walk_9 : decode cX0_walk 9 = .ok (.bipush 12, 2) := by decide +kernel
theorem dX0_walk_11 : decode cX0_walk 11 = .ok (.if_icmp .lt 17, 3) := by decide +kernel
theorem dX0_walk_14 : decode cX0_walk 14 = .ok (.aload_n 0, 1) := by decide +kernel
theorem dX0_walk_15 : decode cX0_walk 15 = .ok (.aload_n 0, 1) := by decide +kernel
theorem dX0_walk_16 : decode cX0_walk 16 = .ok (.getfield 11, 3) := by decide +kernel
theorem dX0_walk_19 : decode cX0_walk 19 = .ok (.iload_n 2, 1) := by decide +kernel
theorem dX0_walk_20 : decode cX0_walk 20 = .ok (.aaload, 1) := by decide +kernel
theorem dX0_walk_21 : decode cX0_walk 21 = .ok (.lload_n 3, 1) := by decide +kernel
theorem dX0_walk_22 : decode cX0_walk 22 = .ok (.iload 5, 2) := by decide +kernel
theorem dX0_walk_24 : decode cX0_walk 24 = .ok (.invokevirtual 55, 3) := by decide +kernel
theorem dX0_walk_27 : decode cX0_walk 27 = .ok (.return_, 1) := by decide +kernel
theorem dX0_walk_28 : decode cX0_walk 28 = .ok (.iconst 0, 1) := by decide +kernel
theorem dX0_walk_29 : decode cX0_walk 29 = .ok (.istore 6, 2) := by decide +kernel
theorem dX0_walk_31 : decode cX0_walk 31 = .ok (.iload 6, 2) := by decide +kernel
theorem dX0_walk_33 : decode cX0_walk 33 = .ok (.iconst 1, 1) := by decide +kernel
theorem dX0_walk_34 : decode cX0_walk 34 = .ok (.aload_n 1, 1) := by decide +kernel
theorem dX0_walk_35 : decode cX0_walk 35 = .ok (.getfield 59, 3) := by decide +kernel
theorem dX0_walk_38 : decode cX0_walk 38 = .ok (.ishl, 1) := by decide +kernel
theorem dX0_walk_39 : decode cX0_walk 39 = .ok (.if_icmp .ge 96, 3) := by decide +kernel
theorem dX0_walk_42 : decode cX0_walk 42 = .ok (.lload_n 3, 1) := by decide +kernel
theorem dX0_walk_43 : decode cX0_walk 43 = .ok (.aload_n 1, 1) := by decide +kernel
theorem dX0_walk_44 : decode cX0_walk 44 = .ok (.iload 6, 2) := by decide +kernel
theorem dX0_walk_46 : decode cX0_walk 46 = .ok (.aload_n 0, 1) := by decide +kernel
theorem dX0_walk_47 : decode cX0_walk 47 = .ok (.getfield 11, 3) := by decide +kernel
theorem dX0_walk_50 : decode cX0_walk 50 = .ok (.iload_n 2, 1) := by decide +kernel
theorem dX0_walk_51 : decode cX0_walk 51 = .ok (.aaload, 1) := by decide +kernel
theorem dX0_walk_52 : decode cX0_walk 52 = .ok (.getfield 64, 3) := by decide +kernel
theorem dX0_walk_55 : decode cX0_walk 55 = .ok (.invokevirtual 67, 3) := by decide +kernel
theorem dX0_walk_58 : decode cX0_walk 58 = .ok (.lmul, 1) := by decide +kernel
theorem dX0_walk_59 : decode cX0_walk 59 = .ok (.lstore 7, 2) := by decide +kernel
theorem dX0_walk_61 : decode cX0_walk 61 = .ok (.lload 7, 2) := by decide +kernel
theorem dX0_walk_63 : decode cX0_walk 63 = .ok (.lconst 0, 1) := by decide +kernel
theorem dX0_walk_64 : decode cX0_walk 64 = .ok (.lcmp, 1) := by decide +kernel
theorem dX0_walk_65 : decode cX0_walk 65 = .ok (.ifCond .ne 11, 3) := by decide +kernel
theorem dX0_walk_68 : decode cX0_walk 68 = .ok (.aload_n 0, 1) := by decide +kernel
theorem dX0_walk_69 : decode cX0_walk 69 = .ok (.getfield 34, 3) := by decide +kernel
theorem dX0_walk_72 : decode cX0_walk 72 = .ok (.iconst 3, 1) := by decide +kernel
theorem dX0_walk_73 : decode cX0_walk 73 = .ok (.if_icmp .ne 56, 3) := by decide +kernel
theorem dX0_walk_76 : decode cX0_walk 76 = .ok (.aload_n 0, 1) := by decide +kernel
theorem dX0_walk_77 : decode cX0_walk 77 = .ok (.getfield 11, 3) := by decide +kernel
theorem dX0_walk_80 : decode cX0_walk 80 = .ok (.iload_n 2, 1) := by decide +kernel
theorem dX0_walk_81 : decode cX0_walk 81 = .ok (.iconst 1, 1) := by decide +kernel
theorem dX0_walk_82 : decode cX0_walk 82 = .ok (.iadd, 1) := by decide +kernel
theorem dX0_walk_83 : decode cX0_walk 83 = .ok (.aaload, 1) := by decide +kernel
theorem dX0_walk_84 : decode cX0_walk 84 = .ok (.aload_n 0, 1) := by decide +kernel
theorem dX0_walk_85 : decode cX0_walk 85 = .ok (.getfield 11, 3) := by decide +kernel
theorem dX0_walk_88 : decode cX0_walk 88 = .ok (.iload_n 2, 1) := by decide +kernel
theorem dX0_walk_89 : decode cX0_walk 89 = .ok (.aaload, 1) := by decide +kernel
theorem dX0_walk_90 : decode cX0_walk 90 = .ok (.invokevirtual 22, 3) := by decide +kernel
theorem dX0_walk_93 : decode cX0_walk 93 = .ok (.aload_n 0, 1) := by decide +kernel
theorem dX0_walk_94 : decode cX0_walk 94 = .ok (.getfield 11, 3) := by decide +kernel
theorem dX0_walk_97 : decode cX0_walk 97 = .ok (.iload_n 2, 1) := by decide +kernel
theorem dX0_walk_98 : decode cX0_walk 98 = .ok (.iconst 1, 1) := by decide +kernel
theorem dX0_walk_99 : decode cX0_walk 99 = .ok (.iadd, 1) := by decide +kernel
theorem dX0_walk_100 : decode cX0_walk 100 = .ok (.aaload, 1) := by decide +kernel
theorem dX0_walk_101 : decode cX0_walk 101 = .ok (.aload_n 1, 1) := by decide +kernel
theorem dX0_walk_102 : decode cX0_walk 102 = .ok (.iload 6, 2) := by decide +kernel
theorem dX0_walk_104 : decode cX0_walk 104 = .ok (.invokevirtual 71, 3) := by decide +kernel
theorem dX0_walk_107 : decode cX0_walk 107 = .ok (.aload_n 0, 1) := by decide +kernel
theorem dX0_walk_108 : decode cX0_walk 108 = .ok (.aload_n 1, 1) := by decide +kernel
theorem dX0_walk_109 : decode cX0_walk 109 = .ok (.iload_n 2, 1) := by decide +kernel
theorem dX0_walk_110 : decode cX0_walk 110 = .ok (.iconst 1, 1) := by decide +kernel
theorem dX0_walk_111 : decode cX0_walk 111 = .ok (.iadd, 1) := by decide +kernel
theorem dX0_walk_112 : decode cX0_walk 112 = .ok (.lload 7, 2) := by decide +kernel
theorem dX0_walk_114 : decode cX0_walk 114 = .ok (.iload 5, 2) := by decide +kernel
theorem dX0_walk_116 : decode cX0_walk 116 = .ok (.iload 6, 2) := by decide +kernel
theorem dX0_walk_118 : decode cX0_walk 118 = .ok (.aload_n 1, 1) := by decide +kernel
theorem dX0_walk_119 : decode cX0_walk 119 = .ok (.getfield 59, 3) := by decide +kernel
theorem dX0_walk_122 : decode cX0_walk 122 = .ok (.iload_n 2, 1) := by decide +kernel
theorem dX0_walk_123 : decode cX0_walk 123 = .ok (.imul, 1) := by decide +kernel
theorem dX0_walk_124 : decode cX0_walk 124 = .ok (.ishl, 1) := by decide +kernel
theorem dX0_walk_125 : decode cX0_walk 125 = .ok (.ior, 1) := by decide +kernel
theorem dX0_walk_126 : decode cX0_walk 126 = .ok (.invokevirtual 44, 3) := by decide +kernel
theorem dX0_walk_129 : decode cX0_walk 129 = .ok (.iinc 6 1, 3) := by decide +kernel
theorem dX0_walk_132 : decode cX0_walk 132 = .ok (.goto (-101), 3) := by decide +kernel
theorem dX0_walk_135 : decode cX0_walk 135 = .ok (.return_, 1) := by decide +kernel
theorem dX0_arrive_0 : decode cX0_arrive 0 = .ok (.aload_n 0, 1) := by decide +kernel
theorem dX0_arrive_1 : decode cX0_arrive 1 = .ok (.getfield 34, 3) := by decide +kernel
theorem dX0_arrive_4 : decode cX0_arrive 4 = .ok (.tableswitch 120 0 2 #[28, 67, 96], 28) := by decide +kernel
theorem dX0_arrive_32 : decode cX0_arrive 32 = .ok (.aload_n 0, 1) := by decide +kernel
theorem dX0_arrive_33 : decode cX0_arrive 33 = .ok (.dup, 1) := by decide +kernel
theorem dX0_arrive_34 : decode cX0_arrive 34 = .ok (.getfield 40, 3) := by decide +kernel
theorem dX0_arrive_37 : decode cX0_arrive 37 = .ok (.lload_n 2, 1) := by decide +kernel
theorem dX0_arrive_38 : decode cX0_arrive 38 = .ok (.aload_n 1, 1) := by decide +kernel
theorem dX0_arrive_39 : decode cX0_arrive 39 = .ok (.getfield 74, 3) := by decide +kernel
theorem dX0_arrive_42 : decode cX0_arrive 42 = .ok (.aload_n 0, 1) := by decide +kernel
theorem dX0_arrive_43 : decode cX0_arrive 43 = .ok (.getfield 37, 3) := by decide +kernel
theorem dX0_arrive_46 : decode cX0_arrive 46 = .ok (.iaload, 1) := by decide +kernel
theorem dX0_arrive_47 : decode cX0_arrive 47 = .ok (.aload_n 0, 1) := by decide +kernel
theorem dX0_arrive_48 : decode cX0_arrive 48 = .ok (.getfield 11, 3) := by decide +kernel
theorem dX0_arrive_51 : decode cX0_arrive 51 = .ok (.iconst 0, 1) := by decide +kernel
theorem dX0_arrive_52 : decode cX0_arrive 52 = .ok (.aaload, 1) := by decide +kernel
theorem dX0_arrive_53 : decode cX0_arrive 53 = .ok (.getfield 74, 3) := by decide +kernel
theorem dX0_arrive_56 : decode cX0_arrive 56 = .ok (.aload_n 0, 1) := by decide +kernel
theorem dX0_arrive_57 : decode cX0_arrive 57 = .ok (.getfield 37, 3) := by decide +kernel
theorem dX0_arrive_60 : decode cX0_arrive 60 = .ok (.iaload, 1) := by decide +kernel
theorem dX0_arrive_61 : decode cX0_arrive 61 = .ok (.isub, 1) := by decide +kernel
theorem dX0_arrive_62 : decode cX0_arrive 62 = .ok (.i2l, 1) := by decide +kernel
theorem dX0_arrive_63 : decode cX0_arrive 63 = .ok (.lmul, 1) := by decide +kernel
theorem dX0_arrive_64 : decode cX0_arrive 64 = .ok (.ladd, 1) := by decide +kernel
theorem dX0_arrive_65 : decode cX0_arrive 65 = .ok (.putfield 40, 3) := by decide +kernel
theorem dX0_arrive_68 : decode cX0_arrive 68 = .ok (.goto 63, 3) := by decide +kernel
theorem dX0_arrive_71 : decode cX0_arrive 71 = .ok (.aload_n 0, 1) := by decide +kernel
theorem dX0_arrive_72 : decode cX0_arrive 72 = .ok (.dup, 1) := by decide +kernel
theorem dX0_arrive_73 : decode cX0_arrive 73 = .ok (.getfield 40, 3) := by decide +kernel
theorem dX0_arrive_76 : decode cX0_arrive 76 = .ok (.aload_n 1, 1) := by decide +kernel
theorem dX0_arrive_77 : decode cX0_arrive 77 = .ok (.getfield 78, 3) := by decide +kernel
theorem dX0_arrive_80 : decode cX0_arrive 80 = .ok (.aload_n 0, 1) := by decide +kernel
theorem dX0_arrive_81 : decode cX0_arrive 81 = .ok (.getfield 37, 3) := by decide +kernel
theorem dX0_arrive_84 : decode cX0_arrive 84 = .ok (.iaload, 1) := by decide +kernel
theorem dX0_arrive_85 : decode cX0_arrive 85 = .ok (.ifCond .eq 7, 3) := by decide +kernel
theorem dX0_arrive_88 : decode cX0_arrive 88 = .ok (.lload_n 2, 1) := by decide +kernel
theorem dX0_arrive_89 : decode cX0_arrive 89 = .ok (.goto 4, 3) := by decide +kernel
theorem dX0_arrive_92 : decode cX0_arrive 92 = .ok (.lconst 0, 1) := by decide +kernel
theorem dX0_arrive_93 : decode cX0_arrive 93 = .ok (.ladd, 1) := by decide +kernel
theorem dX0_arrive_94 : decode cX0_arrive 94 = .ok (.putfield 40, 3) := by decide +kernel
theorem dX0_arrive_97 : decode cX0_arrive 97 = .ok (.goto 34, 3) := by decide +kernel
theorem dX0_arrive_100 : decode cX0_arrive 100 = .ok (.aload_n 0, 1) := by decide +kernel
theorem dX0_arrive_101 : decode cX0_arrive 101 = .ok (.dup, 1) := by decide +kernel
theorem dX0_arrive_102 : decode cX0_arrive 102 = .ok (.getfield 40, 3) := by decide +kernel
theorem dX0_arrive_105 : decode cX0_arrive 105 = .ok (.lload_n 2, 1) := by decide +kernel
theorem dX0_arrive_106 : decode cX0_arrive 106 = .ok (.aload_n 1, 1) := by decide +kernel
theorem dX0_arrive_107 : decode cX0_arrive 107 = .ok (.getfield 81, 3) := by decide +kernel
theorem dX0_arrive_110 : decode cX0_arrive 110 = .ok (.aload_n 0, 1) := by decide +kernel
theorem dX0_arrive_111 : decode cX0_arrive 111 = .ok (.getfield 37, 3) := by decide +kernel
theorem dX0_arrive_114 : decode cX0_arrive 114 = .ok (.iaload, 1) := by decide +kernel
theorem dX0_arrive_115 : decode cX0_arrive 115 = .ok (.i2l, 1) := by decide +kernel
theorem dX0_arrive_116 : decode cX0_arrive 116 = .ok (.lmul, 1) := by decide +kernel
theorem dX0_arrive_117 : decode cX0_arrive 117 = .ok (.ladd, 1) := by decide +kernel
theorem dX0_arrive_118 : decode cX0_arrive 118 = .ok (.putfield 40, 3) := by decide +kernel
theorem dX0_arrive_121 : decode cX0_arrive 121 = .ok (.goto 10, 3) := by decide +kernel
theorem dX0_arrive_124 : decode cX0_arrive 124 = .ok (.aload_n 0, 1) := by decide +kernel
theorem dX0_arrive_125 : decode cX0_arrive 125 = .ok (.aload_n 1, 1) := by decide +kernel
theorem dX0_arrive_126 : decode cX0_arrive 126 = .ok (.iload 4, 2) := by decide +kernel
theorem dX0_arrive_128 : decode cX0_arrive 128 = .ok (.invokevirtual 84, 3) := by decide +kernel
theorem dX0_arrive_131 : decode cX0_arrive 131 = .ok (.return_, 1) := by decide +kernel
theorem dX0_noteFit_0 : decode cX0_noteFit 0 = .ok (.iload_n 2, 1) := by decide +kernel
theorem dX0_noteFit_1 : decode cX0_noteFit 1 = .ok (.bipush 6, 2) := by decide +kernel
theorem dX0_noteFit_3 : decode cX0_noteFit 3 = .ok (.ishr, 1) := by decide +kernel
theorem dX0_noteFit_4 : decode cX0_noteFit 4 = .ok (.istore_n 3, 1) := by decide +kernel
theorem dX0_noteFit_5 : decode cX0_noteFit 5 = .ok (.aload_n 1, 1) := by decide +kernel
theorem dX0_noteFit_6 : decode cX0_noteFit 6 = .ok (.getfield 81, 3) := by decide +kernel
theorem dX0_noteFit_9 : decode cX0_noteFit 9 = .ok (.aload_n 0, 1) := by decide +kernel
theorem dX0_noteFit_10 : decode cX0_noteFit 10 = .ok (.getfield 37, 3) := by decide +kernel
theorem dX0_noteFit_13 : decode cX0_noteFit 13 = .ok (.iaload, 1) := by decide +kernel
theorem dX0_noteFit_14 : decode cX0_noteFit 14 = .ok (.aload_n 0, 1) := by decide +kernel
theorem dX0_noteFit_15 : decode cX0_noteFit 15 = .ok (.getfield 48, 3) := by decide +kernel
theorem dX0_noteFit_18 : decode cX0_noteFit 18 = .ok (.if_icmp .ne 38, 3) := by decide +kernel
theorem dX0_noteFit_21 : decode cX0_noteFit 21 = .ok (.iload_n 3, 1) := by decide +kernel
theorem dX0_noteFit_22 : decode cX0_noteFit 22 = .ok (.ifCond .lt 34, 3) := by decide +kernel
theorem dX0_noteFit_25 : decode cX0_noteFit 25 = .ok (.iload_n 3, 1) := by decide +kernel
theorem dX0_noteFit_26 : decode cX0_noteFit 26 = .ok (.bipush 64, 2) := by decide +kernel
theorem dX0_noteFit_28 : decode cX0_noteFit 28 = .ok (.if_icmp .ge 28, 3) := by decide +kernel
theorem dX0_noteFit_31 : decode cX0_noteFit 31 = .ok (.aload_n 0, 1) := by decide +kernel
theorem dX0_noteFit_32 : decode cX0_noteFit 32 = .ok (.getfield 18, 3) := by decide +kernel
theorem dX0_noteFit_35 : decode cX0_noteFit 35 = .ok (.iload_n 3, 1) := by decide +kernel
theorem dX0_noteFit_36 : decode cX0_noteFit 36 = .ok (.dup2, 1) := by decide +kernel
theorem dX0_noteFit_37 : decode cX0_noteFit 37 = .ok (.laload, 1) := by decide +kernel
theorem dX0_noteFit_38 : decode cX0_noteFit 38 = .ok (.lconst 1, 1) := by decide +kernel
theorem dX0_noteFit_39 : decode cX0_noteFit 39 = .ok (.iload_n 2, 1) := by decide +kernel
theorem dX0_noteFit_40 : decode cX0_noteFit 40 = .ok (.bipush 63, 2) := by decide +kernel
theorem dX0_noteFit_42 : decode cX0_noteFit 42 = .ok (.iand, 1) := by decide +kernel
theorem dX0_noteFit_43 : decode cX0_noteFit 43 = .ok (.lshl, 1) := by decide +kernel
theorem dX0_noteFit_44 : decode cX0_noteFit 44 = .ok (.lor, 1) := by decide +kernel
theorem dX0_noteFit_45 : decode cX0_noteFit 45 = .ok (.lastore, 1) := by decide +kernel
theorem dX0_noteFit_46 : decode cX0_noteFit 46 = .ok (.aload_n 0, 1) := by decide +kernel
theorem dX0_noteFit_47 : decode cX0_noteFit 47 = .ok (.dup, 1) := by decide +kernel
theorem dX0_noteFit_48 : decode cX0_noteFit 48 = .ok (.getfield 40, 3) := by decide +kernel
theorem dX0_noteFit_51 : decode cX0_noteFit 51 = .ok (.lconst 1, 1) := by decide +kernel
theorem dX0_noteFit_52 : decode cX0_noteFit 52 = .ok (.ladd, 1) := by decide +kernel
theorem dX0_noteFit_53 : decode cX0_noteFit 53 = .ok (.putfield 40, 3) := by decide +kernel
theorem dX0_noteFit_56 : decode cX0_noteFit 56 = .ok (.return_, 1) := by decide +kernel
theorem dX0_fittingAt_0 : decode cX0_fittingAt 0 = .ok (.iload_n 1, 1) := by decide +kernel
theorem dX0_fittingAt_1 : decode cX0_fittingAt 1 = .ok (.istore_n 2, 1) := by decide +kernel
theorem dX0_fittingAt_2 : decode cX0_fittingAt 2 = .ok (.iconst 0, 1) := by decide +kernel
theorem dX0_fittingAt_3 : decode cX0_fittingAt 3 = .ok (.istore_n 3, 1) := by decide +kernel
theorem dX0_fittingAt_4 : decode cX0_fittingAt 4 = .ok (.iload_n 3, 1) := by decide +kernel
theorem dX0_fittingAt_5 : decode cX0_fittingAt 5 = .ok (.sipush 4096, 3) := by decide +kernel
theorem dX0_fittingAt_8 : decode cX0_fittingAt 8 = .ok (.if_icmp .ge 39, 3) := by decide +kernel
theorem dX0_fittingAt_11 : decode cX0_fittingAt 11 = .ok (.aload_n 0, 1) := by decide +kernel
theorem dX0_fittingAt_12 : decode cX0_fittingAt 12 = .ok (.getfield 18, 3) := by decide +kernel
theorem dX0_fittingAt_15 : decode cX0_fittingAt 15 = .ok (.iload_n 3, 1) := by decide +kernel
theorem dX0_fittingAt_16 : decode cX0_fittingAt 16 = .ok (.bipush 6, 2) := by decide +kernel
theorem dX0_fittingAt_18 : decode cX0_fittingAt 18 = .ok (.ishr, 1) := by decide +kernel
theorem dX0_fittingAt_19 : decode cX0_fittingAt 19 = .ok (.laload, 1) := by decide +kernel
theorem dX0_fittingAt_20 : decode cX0_fittingAt 20 = .ok (.iload_n 3, 1) := by decide +kernel
theorem dX0_fittingAt_21 : decode cX0_fittingAt 21 = .ok (.bipush 63, 2) := by decide +kernel
theorem dX0_fittingAt_23 : decode cX0_fittingAt 23 = .ok (.iand, 1) := by decide +kernel
theorem dX0_fittingAt_24 : decode cX0_fittingAt 24 = .ok (.lshr, 1) := by decide +kernel
theorem dX0_fittingAt_25 : decode cX0_fittingAt 25 = .ok (.lconst 1, 1) := by decide +kernel
theorem dX0_fittingAt_26 : decode cX0_fittingAt 26 = .ok (.land, 1) := by decide +kernel
theorem dX0_fittingAt_27 : decode cX0_fittingAt 27 = .ok (.lconst 1, 1) := by decide +kernel
theorem dX0_fittingAt_28 : decode cX0_fittingAt 28 = .ok (.lcmp, 1) := by decide +kernel
theorem dX0_fittingAt_29 : decode cX0_fittingAt 29 = .ok (.ifCond .ne 12, 3) := by decide +kernel
theorem dX0_fittingAt_32 : decode cX0_fittingAt 32 = .ok (.iload_n 2, 1) := by decide +kernel
theorem dX0_fittingAt_33 : decode cX0_fittingAt 33 = .ok (.ifCond .ne 5, 3) := by decide +kernel
theorem dX0_fittingAt_36 : decode cX0_fittingAt 36 = .ok (.iload_n 3, 1) := by decide +kernel
theorem dX0_fittingAt_37 : decode cX0_fittingAt 37 = .ok (.ireturn, 1) := by decide +kernel
theorem dX0_fittingAt_38 : decode cX0_fittingAt 38 = .ok (.iinc 2 (-1), 3) := by decide +kernel
theorem dX0_fittingAt_41 : decode cX0_fittingAt 41 = .ok (.iinc 3 1, 3) := by decide +kernel
theorem dX0_fittingAt_44 : decode cX0_fittingAt 44 = .ok (.goto (-40), 3) := by decide +kernel
theorem dX0_fittingAt_47 : decode cX0_fittingAt 47 = .ok (.iconst (-1), 1) := by decide +kernel
theorem dX0_fittingAt_48 : decode cX0_fittingAt 48 = .ok (.ireturn, 1) := by decide +kernel
theorem dX1_init_0 : decode cX1_init 0 = .ok (.aload_n 0, 1) := by decide +kernel
theorem dX1_init_1 : decode cX1_init 1 = .ok (.invokespecial 3, 3) := by decide +kernel
theorem dX1_init_4 : decode cX1_init 4 = .ok (.aload_n 0, 1) := by decide +kernel
theorem dX1_init_5 : decode cX1_init 5 = .ok (.bipush 6, 2) := by decide +kernel
theorem dX1_init_7 : decode cX1_init 7 = .ok (.newarray .int, 2) := by decide +kernel
theorem dX1_init_9 : decode cX1_init 9 = .ok (.putfield 9, 3) := by decide +kernel
theorem dX1_init_12 : decode cX1_init 12 = .ok (.aload_n 0, 1) := by decide +kernel
theorem dX1_init_13 : decode cX1_init 13 = .ok (.bipush 10, 2) := by decide +kernel
theorem dX1_init_15 : decode cX1_init 15 = .ok (.newarray .int, 2) := by decide +kernel
theorem dX1_init_17 : decode cX1_init 17 = .ok (.putfield 15, 3) := by decide +kernel
theorem dX1_init_20 : decode cX1_init 20 = .ok (.aload_n 0, 1) := by decide +kernel
theorem dX1_init_21 : decode cX1_init 21 = .ok (.bipush 10, 2) := by decide +kernel
theorem dX1_init_23 : decode cX1_init 23 = .ok (.newarray .int, 2) := by decide +kernel
theorem dX1_init_25 : decode cX1_init 25 = .ok (.putfield 18, 3) := by decide +kernel
theorem dX1_init_28 : decode cX1_init 28 = .ok (.aload_n 0, 1) := by decide +kernel
theorem dX1_init_29 : decode cX1_init 29 = .ok (.bipush 10, 2) := by decide +kernel
theorem dX1_init_31 : decode cX1_init 31 = .ok (.newarray .int, 2) := by decide +kernel
theorem dX1_init_33 : decode cX1_init 33 = .ok (.putfield 21, 3) := by decide +kernel
theorem dX1_init_36 : decode cX1_init 36 = .ok (.aload_n 0, 1) := by decide +kernel
theorem dX1_init_37 : decode cX1_init 37 = .ok (.bipush 10, 2) := by decide +kernel
theorem dX1_init_39 : decode cX1_init 39 = .ok (.newarray .int, 2) := by decide +kernel
theorem dX1_init_41 : decode cX1_init 41 = .ok (.putfield 24, 3) := by decide +kernel
theorem dX1_init_44 : decode cX1_init 44 = .ok (.return_, 1) := by decide +kernel
theorem dX1_open_0 : decode cX1_open 0 = .ok (.aload_n 0, 1) := by decide +kernel
theorem dX1_open_1 : decode cX1_open 1 = .ok (.iconst 0, 1) := by decide +kernel
theorem dX1_open_2 : decode cX1_open 2 = .ok (.putfield 27, 3) := by decide +kernel
theorem dX1_open_5 : decode cX1_open 5 = .ok (.aload_n 0, 1) := by decide +kernel
theorem dX1_open_6 : decode cX1_open 6 = .ok (.iconst 0, 1) := by decide +kernel
theorem dX1_open_7 : decode cX1_open 7 = .ok (.putfield 31, 3) := by decide +kernel
theorem dX1_open_10 : decode cX1_open 10 = .ok (.aload_n 0, 1) := by decide +kernel
theorem dX1_open_11 : decode cX1_open 11 = .ok (.iconst 0, 1) := by decide +kernel
theorem dX1_open_12 : decode cX1_open 12 = .ok (.putfield 34, 3) := by decide +kernel
theorem dX1_open_15 : decode cX1_open 15 = .ok (.aload_n 0, 1) := by decide +kernel
theorem dX1_open_16 : decode cX1_open 16 = .ok (.iconst 0, 1) := by decide +kernel
theorem dX1_open_17 : decode cX1_open 17 = .ok (.putfield 37, 3) := by decide +kernel
theorem dX1_open_20 : decode cX1_open 20 = .ok (.iconst 0, 1) := by decide +kernel
theorem dX1_open_21 : decode cX1_open 21 = .ok (.istore_n 2, 1) := by decide +kernel
theorem dX1_open_22 : decode cX1_open 22 = .ok (.iload_n 2, 1) := by decide +kernel
theorem dX1_open_23 : decode cX1_open 23 = .ok (.aload_n 1, 1) := by decide +kernel
theorem dX1_open_24 : decode cX1_open 24 = .ok (.getfield 40, 3) := by decide +kernel
theorem dX1_open_27 : decode cX1_open 27 = .ok (.if_icmp .ge 21, 3) := by decide +kernel
theorem dX1_open_30 : decode cX1_open 30 = .ok (.aload_n 0, 1) := by decide +kernel
theorem dX1_open_31 : decode cX1_open 31 = .ok (.getfield 9, 3) := by decide +kernel
theorem dX1_open_34 : decode cX1_open 34 = .ok (.iload_n 2, 1) := by decide +kernel
theorem dX1_open_35 : decode cX1_open 35 = .ok (.aload_n 1, 1) := by decide +kernel
theorem dX1_open_36 : decode cX1_open 36 = .ok (.getfield 45, 3) := by decide +kernel
theorem dX1_open_39 : decode cX1_open 39 = .ok (.iload_n 2, 1) := by decide +kernel
theorem dX1_open_40 : decode cX1_open 40 = .ok (.iaload, 1) := by decide +kernel
theorem dX1_open_41 : decode cX1_open 41 = .ok (.iastore, 1) := by decide +kernel
theorem dX1_open_42 : decode cX1_open 42 = .ok (.iinc 2 1, 3) := by decide +kernel
theorem dX1_open_45 : decode cX1_open 45 = .ok (.goto (-23), 3) := by decide +kernel
theorem dX1_open_48 : decode cX1_open 48 = .ok (.iconst 0, 1) := by decide +kernel
theorem dX1_open_49 : decode cX1_open 49 = .ok (.istore_n 2, 1) := by decide +kernel
theorem dX1_open_50 : decode cX1_open 50 = .ok (.iload_n 2, 1) := by decide +kernel
theorem dX1_open_51 : decode cX1_open 51 = .ok (.aload_n 1, 1) := by decide +kernel
theorem dX1_open_52 : decode cX1_open 52 = .ok (.getfield 48, 3) := by decide +kernel
theorem dX1_open_55 : decode cX1_open 55 = .ok (.if_icmp .ge 45, 3) := by decide +kernel
theorem dX1_open_58 : decode cX1_open 58 = .ok (.aload_n 0, 1) := by decide +kernel
theorem dX1_open_59 : decode cX1_open 59 = .ok (.getfield 15, 3) := by decide +kernel
theorem dX1_open_62 : decode cX1_open 62 = .ok (.iload_n 2, 1) := by decide +kernel
theorem dX1_open_63 : decode cX1_open 63 = .ok (.aload_n 1, 1) := by decide +kernel
theorem dX1_open_64 : decode cX1_open 64 = .ok (.getfield 51, 3) := by decide +kernel
theorem dX1_open_67 : decode cX1_open 67 = .ok (.iload_n 2, 1) := by decide +kernel
theorem dX1_open_68 : decode cX1_open 68 = .ok (.aaload, 1) := by decide +kernel
theorem dX1_open_69 : decode cX1_open 69 = .ok (.getfield 55, 3) := by decide +kernel
theorem dX1_open_72 : decode cX1_open 72 = .ok (.iastore, 1) := by decide +kernel
theorem dX1_open_73 : decode cX1_open 73 = .ok (.aload_n 0, 1) := by decide +kernel
theorem dX1_open_74 : decode cX1_open 74 = .ok (.getfield 18, 3) := by decide +kernel
theorem dX1_open_77 : decode cX1_open 77 = .ok (.iload_n 2, 1) := by decide +kernel
theorem dX1_open_78 : decode cX1_open 78 = .ok (.iconst 0, 1) := by decide +kernel
theorem dX1_open_79 : decode cX1_open 79 = .ok (.iastore, 1) := by decide +kernel
theorem dX1_open_80 : decode cX1_open 80 = .ok (.aload_n 0, 1) := by decide +kernel
theorem dX1_open_81 : decode cX1_open 81 = .ok (.getfield 21, 3) := by decide +kernel
theorem dX1_open_84 : decode cX1_open 84 = .ok (.iload_n 2, 1) := by decide +kernel
theorem dX1_open_85 : decode cX1_open 85 = .ok (.iconst 0, 1) := by decide +kernel
theorem dX1_open_86 : decode cX1_open 86 = .ok (.iastore, 1) := by decide +kernel
theorem dX1_open_87 : decode cX1_open 87 = .ok (.aload_n 0, 1) := by decide +kernel
theorem dX1_open_88 : decode cX1_open 88 = .ok (.getfield 24, 3) := by decide +kernel
theorem dX1_open_91 : decode cX1_open 91 = .ok (.iload_n 2, 1) := by decide +kernel
theorem dX1_open_92 : decode cX1_open 92 = .ok (.iconst 0, 1) := by decide +kernel
theorem dX1_open_93 : decode cX1_open 93 = .ok (.iastore, 1) := by decide +kernel
theorem dX1_open_94 : decode cX1_open 94 = .ok (.iinc 2 1, 3) := by decide +kernel
theorem dX1_open_97 : decode cX1_open 97 = .ok (.goto (-47), 3) := by decide +kernel
theorem dX1_open_100 : decode cX1_open 100 = .ok (.return_, 1) := by decide +kernel
theorem dX1_copyFrom_0 : decode cX1_copyFrom 0 = .ok (.aload_n 0, 1) := by decide +kernel
theorem dX1_copyFrom_1 : decode cX1_copyFrom 1 = .ok (.aload_n 1, 1) := by decide +kernel
theorem dX1_copyFrom_2 : decode cX1_copyFrom 2 = .ok (.getfield 27, 3) := by decide +kernel
theorem dX1_copyFrom_5 : decode cX1_copyFrom 5 = .ok (.putfield 27, 3) := by decide +kernel
theorem dX1_copyFrom_8 : decode cX1_copyFrom 8 = .ok (.aload_n 0, 1) := by decide +kernel
theorem dX1_copyFrom_9 : decode cX1_copyFrom 9 = .ok (.aload_n 1, 1) := by decide +kernel
theorem dX1_copyFrom_10 : decode cX1_copyFrom 10 = .ok (.getfield 31, 3) := by decide +kernel
theorem dX1_copyFrom_13 : decode cX1_copyFrom 13 = .ok (.putfield 31, 3) := by decide +kernel
theorem dX1_copyFrom_16 : decode cX1_copyFrom 16 = .ok (.aload_n 0, 1) := by decide +kernel
theorem dX1_copyFrom_17 : decode cX1_copyFrom 17 = .ok (.aload_n 1, 1) := by decide +kernel
theorem dX1_copyFrom_18 : decode cX1_copyFrom 18 = .ok (.getfield 34, 3) := by decide +kernel
theorem dX1_copyFrom_21 : decode cX1_copyFrom 21 = .ok (.putfield 34, 3) := by decide +kernel
theorem dX1_copyFrom_24 : decode cX1_copyFrom 24 = .ok (.aload_n 0, 1) := by decide +kernel
theorem dX1_copyFrom_25 : decode cX1_copyFrom 25 = .ok (.aload_n 1, 1) := by decide +kernel
theorem dX1_copyFrom_26 : decode cX1_copyFrom 26 = .ok (.getfield 37, 3) := by decide +kernel
theorem dX1_copyFrom_29 : decode cX1_copyFrom 29 = .ok (.putfield 37, 3) := by decide +kernel
theorem dX1_copyFrom_32 : decode cX1_copyFrom 32 = .ok (.aload_n 1, 1) := by decide +kernel
theorem dX1_copyFrom_33 : decode cX1_copyFrom 33 = .ok (.getfield 9, 3) := by decide +kernel
theorem dX1_copyFrom_36 : decode cX1_copyFrom 36 = .ok (.iconst 0, 1) := by decide +kernel
theorem dX1_copyFrom_37 : decode cX1_copyFrom 37 = .ok (.aload_n 0, 1) := by decide +kernel
theorem dX1_copyFrom_38 : decode cX1_copyFrom 38 = .ok (.getfield 9, 3) := by decide +kernel
theorem dX1_copyFrom_41 : decode cX1_copyFrom 41 = .ok (.iconst 0, 1) := by decide +kernel
theorem dX1_copyFrom_42 : decode cX1_copyFrom 42 = .ok (.bipush 6, 2) := by decide +kernel
theorem dX1_copyFrom_44 : decode cX1_copyFrom 44 = .ok (.invokestatic 59, 3) := by decide +kernel
theorem dX1_copyFrom_47 : decode cX1_copyFrom 47 = .ok (.aload_n 1, 1) := by decide +kernel
theorem dX1_copyFrom_48 : decode cX1_copyFrom 48 = .ok (.getfield 15, 3) := by decide +kernel
theorem dX1_copyFrom_51 : decode cX1_copyFrom 51 = .ok (.iconst 0, 1) := by decide +kernel
theorem dX1_copyFrom_52 : decode cX1_copyFrom 52 = .ok (.aload_n 0, 1) := by decide +kernel
theorem dX1_copyFrom_53 : decode cX1_copyFrom 53 = .ok (.getfield 15, 3) := by decide +kernel
theorem dX1_copyFrom_56 : decode cX1_copyFrom 56 = .ok (.iconst 0, 1) := by decide +kernel
theorem dX1_copyFrom_57 : decode cX1_copyFrom 57 = .ok (.bipush 10, 2) := by decide +kernel
theorem dX1_copyFrom_59 : decode cX1_copyFrom 59 = .ok (.invokestatic 59, 3) := by decide +kernel
theorem dX1_copyFrom_62 : decode cX1_copyFrom 62 = .ok (.aload_n 1, 1) := by decide +kernel
theorem dX1_copyFrom_63 : decode cX1_copyFrom 63 = .ok (.getfield 18, 3) := by decide +kernel
theorem dX1_copyFrom_66 : decode cX1_copyFrom 66 = .ok (.iconst 0, 1) := by decide +kernel
theorem dX1_copyFrom_67 : decode cX1_copyFrom 67 = .ok (.aload_n 0, 1) := by decide +kernel
theorem dX1_copyFrom_68 : decode cX1_copyFrom 68 = .ok (.getfield 18, 3) := by decide +kernel
theorem dX1_copyFrom_71 : decode cX1_copyFrom 71 = .ok (.iconst 0, 1) := by decide +kernel
theorem dX1_copyFrom_72 : decode cX1_copyFrom 72 = .ok (.bipush 10, 2) := by decide +kernel
theorem dX1_copyFrom_74 : decode cX1_copyFrom 74 = .ok (.invokestatic 59, 3) := by decide +kernel
theorem dX1_copyFrom_77 : decode cX1_copyFrom 77 = .ok (.aload_n 1, 1) := by decide +kernel
theorem dX1_copyFrom_78 : decode cX1_copyFrom 78 = .ok (.getfield 21, 3) := by decide +kernel
theorem dX1_copyFrom_81 : decode cX1_copyFrom 81 = .ok (.iconst 0, 1) := by decide +kernel
theorem dX1_copyFrom_82 : decode cX1_copyFrom 82 = .ok (.aload_n 0, 1) := by decide +kernel
theorem dX1_copyFrom_83 : decode cX1_copyFrom 83 = .ok (.getfield 21, 3) := by decide +kernel
theorem dX1_copyFrom_86 : decode cX1_copyFrom 86 = .ok (.iconst 0, 1) := by decide +kernel
theorem dX1_copyFrom_87 : decode cX1_copyFrom 87 = .ok (.bipush 10, 2) := by decide +kernel
theorem dX1_copyFrom_89 : decode cX1_copyFrom 89 = .ok (.invokestatic 59, 3) := by decide +kernel
theorem dX1_copyFrom_92 : decode cX1_copyFrom 92 = .ok (.aload_n 1, 1) := by decide +kernel
theorem dX1_copyFrom_93 : decode cX1_copyFrom 93 = .ok (.getfield 24, 3) := by decide +kernel
theorem dX1_copyFrom_96 : decode cX1_copyFrom 96 = .ok (.iconst 0, 1) := by decide +kernel
theorem dX1_copyFrom_97 : decode cX1_copyFrom 97 = .ok (.aload_n 0, 1) := by decide +kernel
theorem dX1_copyFrom_98 : decode cX1_copyFrom 98 = .ok (.getfield 24, 3) := by decide +kernel
theorem dX1_copyFrom_101 : decode cX1_copyFrom 101 = .ok (.iconst 0, 1) := by decide +kernel
theorem dX1_copyFrom_102 : decode cX1_copyFrom 102 = .ok (.bipush 10, 2) := by decide +kernel
theorem dX1_copyFrom_104 : decode cX1_copyFrom 104 = .ok (.invokestatic 59, 3) := by decide +kernel
theorem dX1_copyFrom_107 : decode cX1_copyFrom 107 = .ok (.return_, 1) := by decide +kernel
theorem dX1_live_0 : decode cX1_live 0 = .ok (.aload_n 1, 1) := by decide +kernel
theorem dX1_live_1 : decode cX1_live 1 = .ok (.iload_n 2, 1) := by decide +kernel
theorem dX1_live_2 : decode cX1_live 2 = .ok (.invokevirtual 65, 3) := by decide +kernel
theorem dX1_live_5 : decode cX1_live 5 = .ok (.istore_n 3, 1) := by decide +kernel
theorem dX1_live_6 : decode cX1_live 6 = .ok (.aload_n 0, 1) := by decide +kernel
theorem dX1_live_7 : decode cX1_live 7 = .ok (.aload_n 1, 1) := by decide +kernel
theorem dX1_live_8 : decode cX1_live 8 = .ok (.iload_n 2, 1) := by decide +kernel
theorem dX1_live_9 : decode cX1_live 9 = .ok (.invokevirtual 69, 3) := by decide +kernel
theorem dX1_live_12 : decode cX1_live 12 = .ok (.iload_n 3, 1) := by decide +kernel
theorem dX1_live_13 : decode cX1_live 13 = .ok (.ifCond .eq 18, 3) := by decide +kernel
theorem dX1_live_16 : decode cX1_live 16 = .ok (.aload_n 0, 1) := by decide +kernel
theorem dX1_live_17 : decode cX1_live 17 = .ok (.dup, 1) := by decide +kernel
theorem dX1_live_18 : decode cX1_live 18 = .ok (.getfield 31, 3) := by decide +kernel
theorem dX1_live_21 : decode cX1_live 21 = .ok (.iconst 1, 1) := by decide +kernel
theorem dX1_live_22 : decode cX1_live 22 = .ok (.iadd, 1) := by decide +kernel
theorem dX1_live_23 : decode cX1_live 23 = .ok (.putfield 31, 3) := by decide +kernel
theorem dX1_live_26 : decode cX1_live 26 = .ok (.aload_n 0, 1) := by decide +kernel
theorem dX1_live_27 : decode cX1_live 27 = .ok (.aload_n 1, 1) := by decide +kernel
theorem dX1_live_28 : decode cX1_live 28 = .ok (.invokevirtual 73, 3) := by decide +kernel
theorem dX1_live_31 : decode cX1_live 31 = .ok (.aload_n 0, 1) := by decide +kernel
theorem dX1_live_32 : decode cX1_live 32 = .ok (.aload_n 1, 1) := by decide +kernel
theorem dX1_live_33 : decode cX1_live 33 = .ok (.invokevirtual 77, 3) := by decide +kernel
theorem dX1_live_36 : decode cX1_live 36 = .ok (.aload_n 0, 1) := by decide +kernel
theorem dX1_live_37 : decode cX1_live 37 = .ok (.aload_n 0, 1) := by decide +kernel
theorem dX1_live_38 : decode cX1_live 38 = .ok (.aload_n 1, 1) := by decide +kernel
theorem dX1_live_39 : decode cX1_live 39 = .ok (.iload_n 2, 1) := by decide +kernel
theorem dX1_live_40 : decode cX1_live 40 = .ok (.iload_n 3, 1) := by decide +kernel
theorem dX1_live_41 : decode cX1_live 41 = .ok (.invokevirtual 80, 3) := by decide +kernel
theorem dX1_live_44 : decode cX1_live 44 = .ok (.putfield 37, 3) := by decide +kernel
theorem dX1_live_47 : decode cX1_live 47 = .ok (.aload_n 0, 1) := by decide +kernel
theorem dX1_live_48 : decode cX1_live 48 = .ok (.aload_n 1, 1) := by decide +kernel
theorem dX1_live_49 : decode cX1_live 49 = .ok (.iload_n 2, 1) := by decide +kernel
theorem dX1_live_50 : decode cX1_live 50 = .ok (.ifCond .eq 7, 3) := by decide +kernel
theorem dX1_live_53 : decode cX1_live 53 = .ok (.iconst 1, 1) := by decide +kernel
theorem dX1_live_54 : decode cX1_live 54 = .ok (.goto 4, 3) := by decide +kernel
theorem dX1_live_57 : decode cX1_live 57 = .ok (.iconst 0, 1) := by decide +kernel
theorem dX1_live_58 : decode cX1_live 58 = .ok (.invokevirtual 84, 3) := by decide +kernel
theorem dX1_live_61 : decode cX1_live 61 = .ok (.aload_n 0, 1) := by decide +kernel
theorem dX1_live_62 : decode cX1_live 62 = .ok (.aload_n 1, 1) := by decide +kernel
theorem dX1_live_63 : decode cX1_live 63 = .ok (.invokevirtual 88, 3) := by decide +kernel
theorem dX1_live_66 : decode cX1_live 66 = .ok (.aload_n 0, 1) := by decide +kernel
theorem dX1_live_67 : decode cX1_live 67 = .ok (.dup, 1) := by decide +kernel
theorem dX1_live_68 : decode cX1_live 68 = .ok (.getfield 27, 3) := by decide +kernel
theorem dX1_live_71 : decode cX1_live 71 = .ok (.iconst 1, 1) := by decide +kernel
theorem dX1_live_72 : decode cX1_live 72 = .ok (.iadd, 1) := by decide +kernel
theorem dX1_live_73 : decode cX1_live 73 = .ok (.putfield 27, 3) := by decide +kernel
theorem dX1_live_76 : decode cX1_live 76 = .ok (.aload_n 0, 1) := by decide +kernel
theorem dX1_live_77 : decode cX1_live 77 = .ok (.iload_n 2, 1) := by decide +kernel
theorem dX1_live_78 : decode cX1_live 78 = .ok (.putfield 34, 3) := by decide +kernel
theorem dX1_live_81 : decode cX1_live 81 = .ok (.return_, 1) := by decide +kernel
theorem dX1_ripen_0 : decode cX1_ripen 0 = .ok (.iconst 0, 1) := by decide +kernel
theorem dX1_ripen_1 : decode cX1_ripen 1 = .ok (.istore_n 3, 1) := by decide +kernel
theorem dX1_ripen_2 : decode cX1_ripen 2 = .ok (.iload_n 3, 1) := by decide +kernel
theorem dX1_ripen_3 : decode cX1_ripen 3 = .ok (.aload_n 1, 1) := by decide +kernel
theorem dX1_ripen_4 : decode cX1_ripen 4 = .ok (.getfield 48, 3) := by decide +kernel
theorem dX1_ripen_7 : decode cX1_ripen 7 = .ok (.if_icmp .ge 90, 3) := by decide +kernel
theorem dX1_ripen_10 : decode cX1_ripen 10 = .ok (.aload_n 0, 1) := by decide +kernel
theorem dX1_ripen_11 : decode cX1_ripen 11 = .ok (.getfield 18, 3) := by decide +kernel
theorem dX1_ripen_14 : decode cX1_ripen 14 = .ok (.iload_n 3, 1) := by decide +kernel
theorem dX1_ripen_15 : decode cX1_ripen 15 = .ok (.iaload, 1) := by decide +kernel
theorem dX1_ripen_16 : decode cX1_ripen 16 = .ok (.iconst 2, 1) := by decide +kernel
theorem dX1_ripen_17 : decode cX1_ripen 17 = .ok (.if_icmp .eq 74, 3) := by decide +kernel
theorem dX1_ripen_20 : decode cX1_ripen 20 = .ok (.aload_n 1, 1) := by decide +kernel
theorem dX1_ripen_21 : decode cX1_ripen 21 = .ok (.iload_n 3, 1) := by decide +kernel
theorem dX1_ripen_22 : decode cX1_ripen 22 = .ok (.iload_n 2, 1) := by decide +kernel
theorem dX1_ripen_23 : decode cX1_ripen 23 = .ok (.invokevirtual 91, 3) := by decide +kernel
theorem dX1_ripen_26 : decode cX1_ripen 26 = .ok (.ifCond .eq 65, 3) := by decide +kernel
theorem dX1_ripen_29 : decode cX1_ripen 29 = .ok (.aload_n 0, 1) := by decide +kernel
theorem dX1_ripen_30 : decode cX1_ripen 30 = .ok (.getfield 21, 3) := by decide +kernel
theorem dX1_ripen_33 : decode cX1_ripen 33 = .ok (.iload_n 3, 1) := by decide +kernel
theorem dX1_ripen_34 : decode cX1_ripen 34 = .ok (.dup2, 1) := by decide +kernel
theorem dX1_ripen_35 : decode cX1_ripen 35 = .ok (.iaload, 1) := by decide +kernel
theorem dX1_ripen_36 : decode cX1_ripen 36 = .ok (.iconst 1, 1) := by decide +kernel
theorem dX1_ripen_37 : decode cX1_ripen 37 = .ok (.iadd, 1) := by decide +kernel
theorem dX1_ripen_38 : decode cX1_ripen 38 = .ok (.iastore, 1) := by decide +kernel
theorem dX1_ripen_39 : decode cX1_ripen 39 = .ok (.aload_n 0, 1) := by decide +kernel
theorem dX1_ripen_40 : decode cX1_ripen 40 = .ok (.getfield 15, 3) := by decide +kernel
theorem dX1_ripen_43 : decode cX1_ripen 43 = .ok (.iload_n 3, 1) := by decide +kernel
theorem dX1_ripen_44 : decode cX1_ripen 44 = .ok (.dup2, 1) := by decide +kernel
theorem dX1_ripen_45 : decode cX1_ripen 45 = .ok (.iaload, 1) := by decide +kernel
theorem dX1_ripen_46 : decode cX1_ripen 46 = .ok (.aload_n 1, 1) := by decide +kernel
theorem dX1_ripen_47 : decode cX1_ripen 47 = .ok (.getfield 51, 3) := by decide +kernel
theorem dX1_ripen_50 : decode cX1_ripen 50 = .ok (.iload_n 3, 1) := by decide +kernel
theorem dX1_ripen_51 : decode cX1_ripen 51 = .ok (.aaload, 1) := by decide +kernel
theorem dX1_ripen_52 : decode cX1_ripen 52 = .ok (.getfield 95, 3) := by decide +kernel
theorem dX1_ripen_55 : decode cX1_ripen 55 = .ok (.iadd, 1) := by decide +kernel
theorem dX1_ripen_56 : decode cX1_ripen 56 = .ok (.iastore, 1) := by decide +kernel
theorem dX1_ripen_57 : decode cX1_ripen 57 = .ok (.aload_n 0, 1) := by decide +kernel
theorem dX1_ripen_58 : decode cX1_ripen 58 = .ok (.getfield 18, 3) := by decide +kernel
theorem dX1_ripen_61 : decode cX1_ripen 61 = .ok (.iload_n 3, 1) := by decide +kernel
theorem dX1_ripen_62 : decode cX1_ripen 62 = .ok (.iaload, 1) := by decide +kernel
theorem dX1_ripen_63 : decode cX1_ripen 63 = .ok (.ifCond .ne 28, 3) := by decide +kernel
theorem dX1_ripen_66 : decode cX1_ripen 66 = .ok (.aload_n 0, 1) := by decide +kernel
theorem dX1_ripen_67 : decode cX1_ripen 67 = .ok (.getfield 21, 3) := by decide +kernel
theorem dX1_ripen_70 : decode cX1_ripen 70 = .ok (.iload_n 3, 1) := by decide +kernel
theorem dX1_ripen_71 : decode cX1_ripen 71 = .ok (.iaload, 1) := by decide +kernel
theorem dX1_ripen_72 : decode cX1_ripen 72 = .ok (.aload_n 1, 1) := by decide +kernel
theorem dX1_ripen_73 : decode cX1_ripen 73 = .ok (.getfield 51, 3) := by decide +kernel
theorem dX1_ripen_76 : decode cX1_ripen 76 = .ok (.iload_n 3, 1) := by decide +kernel
theorem dX1_ripen_77 : decode cX1_ripen 77 = .ok (.aaload, 1) := by decide +kernel
theorem dX1_ripen_78 : decode cX1_ripen 78 = .ok (.getfield 98, 3) := by decide +kernel
theorem dX1_ripen_81 : decode cX1_ripen 81 = .ok (.if_icmp .lt 10, 3) := by decide +kernel
theorem dX1_ripen_84 : decode cX1_ripen 84 = .ok (.aload_n 0, 1) := by decide +kernel
theorem dX1_ripen_85 : decode cX1_ripen 85 = .ok (.getfield 18, 3) := by decide +kernel
theorem dX1_ripen_88 : decode cX1_ripen 88 = .ok (.iload_n 3, 1) := by decide +kernel
theorem dX1_ripen_89 : decode cX1_ripen 89 = .ok (.iconst 1, 1) := by decide +kernel
theorem dX1_ripen_90 : decode cX1_ripen 90 = .ok (.iastore, 1) := by decide +kernel
theorem dX1_ripen_91 : decode cX1_ripen 91 = .ok (.iinc 3 1, 3) := by decide +kernel
theorem dX1_ripen_94 : decode cX1_ripen 94 = .ok (.goto (-92), 3) := by decide +kernel
theorem dX1_ripen_97 : decode cX1_ripen 97 = .ok (.return_, 1) := by decide +kernel
theorem dX1_callAllIn_0 : decode cX1_callAllIn 0 = .ok (.iconst 0, 1) := by decide +kernel
theorem dX1_callAllIn_1 : decode cX1_callAllIn 1 = .ok (.istore_n 2, 1) := by decide +kernel
theorem dX1_callAllIn_2 : decode cX1_callAllIn 2 = .ok (.iload_n 2, 1) := by decide +kernel
theorem dX1_callAllIn_3 : decode cX1_callAllIn 3 = .ok (.aload_n 1, 1) := by decide +kernel
theorem dX1_callAllIn_4 : decode cX1_callAllIn 4 = .ok (.getfield 48, 3) := by decide +kernel
theorem dX1_callAllIn_7 : decode cX1_callAllIn 7 = .ok (.if_icmp .ge 38, 3) := by decide +kernel
theorem dX1_callAllIn_10 : decode cX1_callAllIn 10 = .ok (.aload_n 0, 1) := by decide +kernel
theorem dX1_callAllIn_11 : decode cX1_callAllIn 11 = .ok (.getfield 18, 3) := by decide +kernel
theorem dX1_callAllIn_14 : decode cX1_callAllIn 14 = .ok (.iload_n 2, 1) := by decide +kernel
theorem dX1_callAllIn_15 : decode cX1_callAllIn 15 = .ok (.iaload, 1) := by decide +kernel
theorem dX1_callAllIn_16 : decode cX1_callAllIn 16 = .ok (.ifCond .ne 23, 3) := by decide +kernel
theorem dX1_callAllIn_19 : decode cX1_callAllIn 19 = .ok (.aload_n 1, 1) := by decide +kernel
theorem dX1_callAllIn_20 : decode cX1_callAllIn 20 = .ok (.getfield 51, 3) := by decide +kernel
theorem dX1_callAllIn_23 : decode cX1_callAllIn 23 = .ok (.iload_n 2, 1) := by decide +kernel
theorem dX1_callAllIn_24 : decode cX1_callAllIn 24 = .ok (.aaload, 1) := by decide +kernel
theorem dX1_callAllIn_25 : decode cX1_callAllIn 25 = .ok (.getfield 101, 3) := by decide +kernel
theorem dX1_callAllIn_28 : decode cX1_callAllIn 28 = .ok (.iconst 4, 1) := by decide +kernel
theorem dX1_callAllIn_29 : decode cX1_callAllIn 29 = .ok (.if_icmp .eq 10, 3) := by decide +kernel
theorem dX1_callAllIn_32 : decode cX1_callAllIn 32 = .ok (.aload_n 0, 1) := by decide +kernel
theorem dX1_callAllIn_33 : decode cX1_callAllIn 33 = .ok (.getfield 18, 3) := by decide +kernel
theorem dX1_callAllIn_36 : decode cX1_callAllIn 36 = .ok (.iload_n 2, 1) := by decide +kernel
theorem dX1_callAllIn_37 : decode cX1_callAllIn 37 = .ok (.iconst 1, 1) := by decide +kernel
theorem dX1_callAllIn_38 : decode cX1_callAllIn 38 = .ok (.iastore, 1) := by decide +kernel
theorem dX1_callAllIn_39 : decode cX1_callAllIn 39 = .ok (.iinc 2 1, 3) := by decide +kernel
theorem dX1_callAllIn_42 : decode cX1_callAllIn 42 = .ok (.goto (-40), 3) := by decide +kernel
theorem dX1_callAllIn_45 : decode cX1_callAllIn 45 = .ok (.return_, 1) := by decide +kernel
theorem dX1_joinDue_0 : decode cX1_joinDue 0 = .ok (.iconst 0, 1) := by decide +kernel
theorem dX1_joinDue_1 : decode cX1_joinDue 1 = .ok (.istore_n 2, 1) := by decide +kernel
theorem dX1_joinDue_2 : decode cX1_joinDue 2 = .ok (.iload_n 2, 1) := by decide +kernel
theorem dX1_joinDue_3 : decode cX1_joinDue 3 = .ok (.aload_n 1, 1) := by decide +kernel
theorem dX1_joinDue_4 : decode cX1_joinDue 4 = .ok (.getfield 48, 3) := by decide +kernel
theorem dX1_joinDue_7 : decode cX1_joinDue 7 = .ok (.if_icmp .ge 55, 3) := by decide +kernel
theorem dX1_joinDue_10 : decode cX1_joinDue 10 = .ok (.aload_n 0, 1) := by decide +kernel
theorem dX1_joinDue_11 : decode cX1_joinDue 11 = .ok (.getfield 18, 3) := by decide +kernel
theorem dX1_joinDue_14 : decode cX1_joinDue 14 = .ok (.iload_n 2, 1) := by decide +kernel
theorem dX1_joinDue_15 : decode cX1_joinDue 15 = .ok (.iaload, 1) := by decide +kernel
theorem dX1_joinDue_16 : decode cX1_joinDue 16 = .ok (.ifCond .ne 40, 3) := by decide +kernel
theorem dX1_joinDue_19 : decode cX1_joinDue 19 = .ok (.aload_n 1, 1) := by decide +kernel
theorem dX1_joinDue_20 : decode cX1_joinDue 20 = .ok (.getfield 51, 3) := by decide +kernel
theorem dX1_joinDue_23 : decode cX1_joinDue 23 = .ok (.iload_n 2, 1) := by decide +kernel
theorem dX1_joinDue_24 : decode cX1_joinDue 24 = .ok (.aaload, 1) := by decide +kernel
theorem dX1_joinDue_25 : decode cX1_joinDue 25 = .ok (.getfield 101, 3) := by decide +kernel
theorem dX1_joinDue_28 : decode cX1_joinDue 28 = .ok (.iconst 5, 1) := by decide +kernel
theorem dX1_joinDue_29 : decode cX1_joinDue 29 = .ok (.if_icmp .ne 27, 3) := by decide +kernel
theorem dX1_joinDue_32 : decode cX1_joinDue 32 = .ok (.aload_n 0, 1) := by decide +kernel
theorem dX1_joinDue_33 : decode cX1_joinDue 33 = .ok (.aload_n 1, 1) := by decide +kernel
theorem dX1_joinDue_34 : decode cX1_joinDue 34 = .ok (.aload_n 1, 1) := by decide +kernel
theorem dX1_joinDue_35 : decode cX1_joinDue 35 = .ok (.getfield 51, 3) := by decide +kernel
theorem dX1_joinDue_38 : decode cX1_joinDue 38 = .ok (.iload_n 2, 1) := by decide +kernel
theorem dX1_joinDue_39 : decode cX1_joinDue 39 = .ok (.aaload, 1) := by decide +kernel
theorem dX1_joinDue_40 : decode cX1_joinDue 40 = .ok (.getfield 104, 3) := by decide +kernel
theorem dX1_joinDue_43 : decode cX1_joinDue 43 = .ok (.invokevirtual 107, 3) := by decide +kernel
theorem dX1_joinDue_46 : decode cX1_joinDue 46 = .ok (.ifCond .eq 10, 3) := by decide +kernel
theorem dX1_joinDue_49 : decode cX1_joinDue 49 = .ok (.aload_n 0, 1) := by decide +kernel
theorem dX1_joinDue_50 : decode cX1_joinDue 50 = .ok (.getfield 18, 3) := by decide +kernel
theorem dX1_joinDue_53 : decode cX1_joinDue 53 = .ok (.iload_n 2, 1) := by decide +kernel
theorem dX1_joinDue_54 : decode cX1_joinDue 54 = .ok (.iconst 1, 1) := by decide +kernel
theorem dX1_joinDue_55 : decode cX1_joinDue 55 = .ok (.iastore, 1) := by decide +kernel
theorem dX1_joinDue_56 : decode cX1_joinDue 56 = .ok (.iinc 2 1, 3) := by decide +kernel
theorem dX1_joinDue_59 : decode cX1_joinDue 59 = .ok (.goto (-57), 3) := by decide +kernel
theorem dX1_joinDue_62 : decode cX1_joinDue 62 = .ok (.return_, 1) := by decide +kernel
theorem dX1_hasDueLoan_0 : decode cX1_hasDueLoan 0 = .ok (.iconst 0, 1) := by decide +kernel
theorem dX1_hasDueLoan_1 : decode cX1_hasDueLoan 1 = .ok (.istore_n 3, 1) := by decide +kernel
theorem dX1_hasDueLoan_2 : decode cX1_hasDueLoan 2 = .ok (.iload_n 3, 1) := by decide +kernel
theorem dX1_hasDueLoan_3 : decode cX1_hasDueLoan 3 = .ok (.aload_n 1, 1) := by decide +kernel
theorem dX1_hasDueLoan_4 : decode cX1_hasDueLoan 4 = .ok (.getfield 48, 3) := by decide +kernel
theorem dX1_hasDueLoan_7 : decode cX1_hasDueLoan 7 = .ok (.if_icmp .ge 34, 3) := by decide +kernel
theorem dX1_hasDueLoan_10 : decode cX1_hasDueLoan 10 = .ok (.aload_n 0, 1) := by decide +kernel
theorem dX1_hasDueLoan_11 : decode cX1_hasDueLoan 11 = .ok (.getfield 18, 3) := by decide +kernel
theorem dX1_hasDueLoan_14 : decode cX1_hasDueLoan 14 = .ok (.iload_n 3, 1) := by decide +kernel
theorem dX1_hasDueLoan_15 : decode cX1_hasDueLoan 15 = .ok (.iaload, 1) := by decide +kernel
theorem dX1_hasDueLoan_16 : decode cX1_hasDueLoan 16 = .ok (.iconst 1, 1) := by decide +kernel
theorem dX1_hasDueLoan_17 : decode cX1_hasDueLoan 17 = .ok (.if_icmp .ne 18, 3) := by decide +kernel
theorem dX1_hasDueLoan_20 : decode cX1_hasDueLoan 20 = .ok (.aload_n 1, 1) := by decide +kernel
theorem dX1_hasDueLoan_21 : decode cX1_hasDueLoan 21 = .ok (.getfield 51, 3) := by decide +kernel
theorem dX1_hasDueLoan_24 : decode cX1_hasDueLoan 24 = .ok (.iload_n 3, 1) := by decide +kernel
theorem dX1_hasDueLoan_25 : decode cX1_hasDueLoan 25 = .ok (.aaload, 1) := by decide +kernel
theorem dX1_hasDueLoan_26 : decode cX1_hasDueLoan 26 = .ok (.getfield 104, 3) := by decide +kernel
theorem dX1_hasDueLoan_29 : decode cX1_hasDueLoan 29 = .ok (.iload_n 2, 1) := by decide +kernel
theorem dX1_hasDueLoan_30 : decode cX1_hasDueLoan 30 = .ok (.if_icmp .ne 5, 3) := by decide +kernel
theorem dX1_hasDueLoan_33 : decode cX1_hasDueLoan 33 = .ok (.iconst 1, 1) := by decide +kernel
theorem dX1_hasDueLoan_34 : decode cX1_hasDueLoan 34 = .ok (.ireturn, 1) := by decide +kernel
theorem dX1_hasDueLoan_35 : decode cX1_hasDueLoan 35 = .ok (.iinc 3 1, 3) := by decide +kernel
theorem dX1_hasDueLoan_38 : decode cX1_hasDueLoan 38 = .ok (.goto (-36), 3) := by decide +kernel
theorem dX1_hasDueLoan_41 : decode cX1_hasDueLoan 41 = .ok (.iconst 0, 1) := by decide +kernel
theorem dX1_hasDueLoan_42 : decode cX1_hasDueLoan 42 = .ok (.ireturn, 1) := by decide +kernel
theorem dX1_calledOn_0 : decode cX1_calledOn 0 = .ok (.iconst 0, 1) := by decide +kernel
theorem dX1_calledOn_1 : decode cX1_calledOn 1 = .ok (.istore 4, 2) := by decide +kernel
theorem dX1_calledOn_3 : decode cX1_calledOn 3 = .ok (.iconst 0, 1) := by decide +kernel
theorem dX1_calledOn_4 : decode cX1_calledOn 4 = .ok (.istore 5, 2) := by decide +kernel
theorem dX1_calledOn_6 : decode cX1_calledOn 6 = .ok (.iload 5, 2) := by decide +kernel
theorem dX1_calledOn_8 : decode cX1_calledOn 8 = .ok (.aload_n 1, 1) := by decide +kernel
theorem dX1_calledOn_9 : decode cX1_calledOn 9 = .ok (.getfield 48, 3) := by decide +kernel
theorem dX1_calledOn_12 : decode cX1_calledOn 12 = .ok (.if_icmp .ge 69, 3) := by decide +kernel
theorem dX1_calledOn_15 : decode cX1_calledOn 15 = .ok (.iload_n 3, 1) := by decide +kernel
theorem dX1_calledOn_16 : decode cX1_calledOn 16 = .ok (.ifCond .eq 21, 3) := by decide +kernel
theorem dX1_calledOn_19 : decode cX1_calledOn 19 = .ok (.aload_n 1, 1) := by decide +kernel
theorem dX1_calledOn_20 : decode cX1_calledOn 20 = .ok (.getfield 51, 3) := by decide +kernel
theorem dX1_calledOn_23 : decode cX1_calledOn 23 = .ok (.iload 5, 2) := by decide +kernel
theorem dX1_calledOn_25 : decode cX1_calledOn 25 = .ok (.aaload, 1) := by decide +kernel
theorem dX1_calledOn_26 : decode cX1_calledOn 26 = .ok (.getfield 101, 3) := by decide +kernel
theorem dX1_calledOn_29 : decode cX1_calledOn 29 = .ok (.iconst 4, 1) := by decide +kernel
theorem dX1_calledOn_30 : decode cX1_calledOn 30 = .ok (.if_icmp .eq 7, 3) := by decide +kernel
theorem dX1_calledOn_33 : decode cX1_calledOn 33 = .ok (.iconst 1, 1) := by decide +kernel
theorem dX1_calledOn_34 : decode cX1_calledOn 34 = .ok (.goto 4, 3) := by decide +kernel
theorem dX1_calledOn_37 : decode cX1_calledOn 37 = .ok (.iconst 0, 1) := by decide +kernel
theorem dX1_calledOn_38 : decode cX1_calledOn 38 = .ok (.istore 6, 2) := by decide +kernel
theorem dX1_calledOn_40 : decode cX1_calledOn 40 = .ok (.aload_n 0, 1) := by decide +kernel
theorem dX1_calledOn_41 : decode cX1_calledOn 41 = .ok (.getfield 18, 3) := by decide +kernel
theorem dX1_calledOn_44 : decode cX1_calledOn 44 = .ok (.iload 5, 2) := by decide +kernel
theorem dX1_calledOn_46 : decode cX1_calledOn 46 = .ok (.iaload, 1) := by decide +kernel
theorem dX1_calledOn_47 : decode cX1_calledOn 47 = .ok (.iconst 1, 1) := by decide +kernel
theorem dX1_calledOn_48 : decode cX1_calledOn 48 = .ok (.if_icmp .ne 27, 3) := by decide +kernel
theorem dX1_calledOn_51 : decode cX1_calledOn 51 = .ok (.iload 6, 2) := by decide +kernel
theorem dX1_calledOn_53 : decode cX1_calledOn 53 = .ok (.ifCond .ne 13, 3) := by decide +kernel
theorem dX1_calledOn_56 : decode cX1_calledOn 56 = .ok (.aload_n 1, 1) := by decide +kernel
theorem dX1_calledOn_57 : decode cX1_calledOn 57 = .ok (.iload 5, 2) := by decide +kernel
theorem dX1_calledOn_59 : decode cX1_calledOn 59 = .ok (.iload_n 2, 1) := by decide +kernel
theorem dX1_calledOn_60 : decode cX1_calledOn 60 = .ok (.invokevirtual 91, 3) := by decide +kernel
theorem dX1_calledOn_63 : decode cX1_calledOn 63 = .ok (.ifCond .eq 12, 3) := by decide +kernel
theorem dX1_calledOn_66 : decode cX1_calledOn 66 = .ok (.iload 4, 2) := by decide +kernel
theorem dX1_calledOn_68 : decode cX1_calledOn 68 = .ok (.iconst 1, 1) := by decide +kernel
theorem dX1_calledOn_69 : decode cX1_calledOn 69 = .ok (.iload 5, 2) := by decide +kernel
theorem dX1_calledOn_71 : decode cX1_calledOn 71 = .ok (.ishl, 1) := by decide +kernel
theorem dX1_calledOn_72 : decode cX1_calledOn 72 = .ok (.ior, 1) := by decide +kernel
theorem dX1_calledOn_73 : decode cX1_calledOn 73 = .ok (.istore 4, 2) := by decide +kernel
theorem dX1_calledOn_75 : decode cX1_calledOn 75 = .ok (.iinc 5 1, 3) := by decide +kernel
theorem dX1_calledOn_78 : decode cX1_calledOn 78 = .ok (.goto (-72), 3) := by decide +kernel
theorem dX1_calledOn_81 : decode cX1_calledOn 81 = .ok (.iload 4, 2) := by decide +kernel
theorem dX1_calledOn_83 : decode cX1_calledOn 83 = .ok (.ireturn, 1) := by decide +kernel
theorem dX1_isCalled_0 : decode cX1_isCalled 0 = .ok (.aload_n 0, 1) := by decide +kernel
theorem dX1_isCalled_1 : decode cX1_isCalled 1 = .ok (.getfield 37, 3) := by decide +kernel
theorem dX1_isCalled_4 : decode cX1_isCalled 4 = .ok (.iload_n 1, 1) := by decide +kernel
theorem dX1_isCalled_5 : decode cX1_isCalled 5 = .ok (.ishr, 1) := by decide +kernel
theorem dX1_isCalled_6 : decode cX1_isCalled 6 = .ok (.iconst 1, 1) := by decide +kernel
theorem dX1_isCalled_7 : decode cX1_isCalled 7 = .ok (.iand, 1) := by decide +kernel
theorem dX1_isCalled_8 : decode cX1_isCalled 8 = .ok (.iconst 1, 1) := by decide +kernel
theorem dX1_isCalled_9 : decode cX1_isCalled 9 = .ok (.if_icmp .ne 7, 3) := by decide +kernel
theorem dX1_isCalled_12 : decode cX1_isCalled 12 = .ok (.iconst 1, 1) := by decide +kernel
theorem dX1_isCalled_13 : decode cX1_isCalled 13 = .ok (.goto 4, 3) := by decide +kernel
theorem dX1_isCalled_16 : decode cX1_isCalled 16 = .ok (.iconst 0, 1) := by decide +kernel
theorem dX1_isCalled_17 : decode cX1_isCalled 17 = .ok (.ireturn, 1) := by decide +kernel
theorem dX1_settle_0 : decode cX1_settle 0 = .ok (.aload_n 0, 1) := by decide +kernel
theorem dX1_settle_1 : decode cX1_settle 1 = .ok (.getfield 37, 3) := by decide +kernel
theorem dX1_settle_4 : decode cX1_settle 4 = .ok (.ifCond .eq 7, 3) := by decide +kernel
theorem dX1_settle_7 : decode cX1_settle 7 = .ok (.iconst 1, 1) := by decide +kernel
theorem dX1_settle_8 : decode cX1_settle 8 = .ok (.goto 4, 3) := by decide +kernel
theorem dX1_settle_11 : decode cX1_settle 11 = .ok (.iconst 0, 1) := by decide +kernel
theorem dX1_settle_12 : decode cX1_settle 12 = .ok (.istore_n 3, 1) := by decide +kernel
theorem dX1_settle_13 : decode cX1_settle 13 = .ok (.iconst 0, 1) := by decide +kernel
theorem dX1_settle_14 : decode cX1_settle 14 = .ok (.istore 4, 2) := by decide +kernel
theorem dX1_settle_16 : decode cX1_settle 16 = .ok (.iload_n 3, 1) := by decide +kernel
theorem dX1_settle_17 : decode cX1_settle 17 = .ok (.ifCond .eq 113, 3) := by decide +kernel
theorem dX1_settle_20 : decode cX1_settle 20 = .ok (.iload 4, 2) := by decide +kernel
theorem dX1_settle_22 : decode cX1_settle 22 = .ok (.ldc 111, 2) := by decide +kernel
theorem dX1_settle_24 : decode cX1_settle 24 = .ok (.if_icmp .ge 106, 3) := by decide +kernel
theorem dX1_settle_27 : decode cX1_settle 27 = .ok (.iconst 0, 1) := by decide +kernel
theorem dX1_settle_28 : decode cX1_settle 28 = .ok (.istore_n 3, 1) := by decide +kernel
theorem dX1_settle_29 : decode cX1_settle 29 = .ok (.iconst 0, 1) := by decide +kernel
theorem dX1_settle_30 : decode cX1_settle 30 = .ok (.istore 5, 2) := by decide +kernel
theorem dX1_settle_32 : decode cX1_settle 32 = .ok (.iload 5, 2) := by decide +kernel
theorem dX1_settle_34 : decode cX1_settle 34 = .ok (.aload_n 1, 1) := by decide +kernel
theorem dX1_settle_35 : decode cX1_settle 35 = .ok (.getfield 48, 3) := by decide +kernel
theorem dX1_settle_38 : decode cX1_settle 38 = .ok (.if_icmp .ge 86, 3) := by decide +kernel
theorem dX1_settle_41 : decode cX1_settle 41 = .ok (.aload_n 1, 1) := by decide +kernel
theorem dX1_settle_42 : decode cX1_settle 42 = .ok (.getfield 51, 3) := by decide +kernel
theorem dX1_settle_45 : decode cX1_settle 45 = .ok (.iload 5, 2) := by decide +kernel
theorem dX1_settle_47 : decode cX1_settle 47 = .ok (.aaload, 1) := by decide +kernel
theorem dX1_settle_48 : decode cX1_settle 48 = .ok (.astore 6, 2) := by decide +kernel
theorem dX1_settle_50 : decode cX1_settle 50 = .ok (.aload_n 0, 1) := by decide +kernel
theorem dX1_settle_51 : decode cX1_settle 51 = .ok (.iload 5, 2) := by decide +kernel
theorem dX1_settle_53 : decode cX1_settle 53 = .ok (.invokevirtual 112, 3) := by decide +kernel
theorem dX1_settle_56 : decode cX1_settle 56 = .ok (.ifCond .eq 62, 3) := by decide +kernel
theorem dX1_settle_59 : decode cX1_settle 59 = .ok (.iload_n 3, 1) := by decide +kernel
theorem dX1_settle_60 : decode cX1_settle 60 = .ok (.aload_n 0, 1) := by decide +kernel
theorem dX1_settle_61 : decode cX1_settle 61 = .ok (.iload 5, 2) := by decide +kernel
theorem dX1_settle_63 : decode cX1_settle 63 = .ok (.aload 6, 2) := by decide +kernel
theorem dX1_settle_65 : decode cX1_settle 65 = .ok (.getfield 104, 3) := by decide +kernel
theorem dX1_settle_68 : decode cX1_settle 68 = .ok (.aload 6, 2) := by decide +kernel
theorem dX1_settle_70 : decode cX1_settle 70 = .ok (.getfield 115, 3) := by decide +kernel
theorem dX1_settle_73 : decode cX1_settle 73 = .ok (.invokevirtual 118, 3) := by decide +kernel
theorem dX1_settle_76 : decode cX1_settle 76 = .ok (.ior, 1) := by decide +kernel
theorem dX1_settle_77 : decode cX1_settle 77 = .ok (.istore_n 3, 1) := by decide +kernel
theorem dX1_settle_78 : decode cX1_settle 78 = .ok (.iload_n 3, 1) := by decide +kernel
theorem dX1_settle_79 : decode cX1_settle 79 = .ok (.iload_n 2, 1) := by decide +kernel
theorem dX1_settle_80 : decode cX1_settle 80 = .ok (.ifCond .eq 35, 3) := by decide +kernel
theorem dX1_settle_83 : decode cX1_settle 83 = .ok (.aload 6, 2) := by decide +kernel
theorem dX1_settle_85 : decode cX1_settle 85 = .ok (.getfield 122, 3) := by decide +kernel
theorem dX1_settle_88 : decode cX1_settle 88 = .ok (.iconst (-1), 1) := by decide +kernel
theorem dX1_settle_89 : decode cX1_settle 89 = .ok (.if_icmp .eq 26, 3) := by decide +kernel
theorem dX1_settle_92 : decode cX1_settle 92 = .ok (.aload_n 0, 1) := by decide +kernel
theorem dX1_settle_93 : decode cX1_settle 93 = .ok (.iload 5, 2) := by decide +kernel
theorem dX1_settle_95 : decode cX1_settle 95 = .ok (.aload 6, 2) := by decide +kernel
theorem dX1_settle_97 : decode cX1_settle 97 = .ok (.getfield 122, 3) := by decide +kernel
theorem dX1_settle_100 : decode cX1_settle 100 = .ok (.aload 6, 2) := by decide +kernel
theorem dX1_settle_102 : decode cX1_settle 102 = .ok (.getfield 115, 3) := by decide +kernel
theorem dX1_settle_105 : decode cX1_settle 105 = .ok (.invokevirtual 118, 3) := by decide +kernel
theorem dX1_settle_108 : decode cX1_settle 108 = .ok (.ifCond .eq 7, 3) := by decide +kernel
theorem dX1_settle_111 : decode cX1_settle 111 = .ok (.iconst 1, 1) := by decide +kernel
theorem dX1_settle_112 : decode cX1_settle 112 = .ok (.goto 4, 3) := by decide +kernel
theorem dX1_settle_115 : decode cX1_settle 115 = .ok (.iconst 0, 1) := by decide +kernel
theorem dX1_settle_116 : decode cX1_settle 116 = .ok (.ior, 1) := by decide +kernel
theorem dX1_settle_117 : decode cX1_settle 117 = .ok (.istore_n 3, 1) := by decide +kernel
theorem dX1_settle_118 : decode cX1_settle 118 = .ok (.iinc 5 1, 3) := by decide +kernel
theorem dX1_settle_121 : decode cX1_settle 121 = .ok (.goto (-89), 3) := by decide +kernel
theorem dX1_settle_124 : decode cX1_settle 124 = .ok (.iinc 4 1, 3) := by decide +kernel
theorem dX1_settle_127 : decode cX1_settle 127 = .ok (.goto (-111), 3) := by decide +kernel
theorem dX1_settle_130 : decode cX1_settle 130 = .ok (.return_, 1) := by decide +kernel
theorem dX1_take_0 : decode cX1_take 0 = .ok (.aload_n 0, 1) := by decide +kernel
theorem dX1_take_1 : decode cX1_take 1 = .ok (.getfield 15, 3) := by decide +kernel
theorem dX1_take_4 : decode cX1_take 4 = .ok (.iload_n 1, 1) := by decide +kernel
theorem dX1_take_5 : decode cX1_take 5 = .ok (.iaload, 1) := by decide +kernel
theorem dX1_take_6 : decode cX1_take 6 = .ok (.aload_n 0, 1) := by decide +kernel
theorem dX1_take_7 : decode cX1_take 7 = .ok (.getfield 9, 3) := by decide +kernel
theorem dX1_take_10 : decode cX1_take 10 = .ok (.iload_n 2, 1) := by decide +kernel
theorem dX1_take_11 : decode cX1_take 11 = .ok (.iaload, 1) := by decide +kernel
theorem dX1_take_12 : decode cX1_take 12 = .ok (.if_icmp .ge 12, 3) := by decide +kernel
theorem dX1_take_15 : decode cX1_take 15 = .ok (.aload_n 0, 1) := by decide +kernel
theorem dX1_take_16 : decode cX1_take 16 = .ok (.getfield 15, 3) := by decide +kernel
theorem dX1_take_19 : decode cX1_take 19 = .ok (.iload_n 1, 1) := by decide +kernel
theorem dX1_take_20 : decode cX1_take 20 = .ok (.iaload, 1) := by decide +kernel
theorem dX1_take_21 : decode cX1_take 21 = .ok (.goto 9, 3) := by decide +kernel
theorem dX1_take_24 : decode cX1_take 24 = .ok (.aload_n 0, 1) := by decide +kernel
theorem dX1_take_25 : decode cX1_take 25 = .ok (.getfield 9, 3) := by decide +kernel
theorem dX1_take_28 : decode cX1_take 28 = .ok (.iload_n 2, 1) := by decide +kernel
theorem dX1_take_29 : decode cX1_take 29 = .ok (.iaload, 1) := by decide +kernel
theorem dX1_take_30 : decode cX1_take 30 = .ok (.istore 4, 2) := by decide +kernel
theorem dX1_take_32 : decode cX1_take 32 = .ok (.iload 4, 2) := by decide +kernel
theorem dX1_take_34 : decode cX1_take 34 = .ok (.ifCond .gt 5, 3) := by decide +kernel
theorem dX1_take_37 : decode cX1_take 37 = .ok (.iconst 0, 1) := by decide +kernel
theorem dX1_take_38 : decode cX1_take 38 = .ok (.ireturn, 1) := by decide +kernel
theorem dX1_take_39 : decode cX1_take 39 = .ok (.aload_n 0, 1) := by decide +kernel
theorem dX1_take_40 : decode cX1_take 40 = .ok (.getfield 9, 3) := by decide +kernel
theorem dX1_take_43 : decode cX1_take 43 = .ok (.iload_n 2, 1) := by decide +kernel
theorem dX1_take_44 : decode cX1_take 44 = .ok (.dup2, 1) := by decide +kernel
theorem dX1_take_45 : decode cX1_take 45 = .ok (.iaload, 1) := by decide +kernel
theorem dX1_take_46 : decode cX1_take 46 = .ok (.iload 4, 2) := by decide +kernel
theorem dX1_take_48 : decode cX1_take 48 = .ok (.isub, 1) := by decide +kernel
theorem dX1_take_49 : decode cX1_take 49 = .ok (.iastore, 1) := by decide +kernel
theorem dX1_take_50 : decode cX1_take 50 = .ok (.aload_n 0, 1) := by decide +kernel
theorem dX1_take_51 : decode cX1_take 51 = .ok (.getfield 9, 3) := by decide +kernel
theorem dX1_take_54 : decode cX1_take 54 = .ok (.iload_n 3, 1) := by decide +kernel
theorem dX1_take_55 : decode cX1_take 55 = .ok (.dup2, 1) := by decide +kernel
theorem dX1_take_56 : decode cX1_take 56 = .ok (.iaload, 1) := by decide +kernel
theorem dX1_take_57 : decode cX1_take 57 = .ok (.iload 4, 2) := by decide +kernel
theorem dX1_take_59 : decode cX1_take 59 = .ok (.iadd, 1) := by decide +kernel
theorem dX1_take_60 : decode cX1_take 60 = .ok (.iastore, 1) := by decide +kernel
theorem dX1_take_61 : decode cX1_take 61 = .ok (.aload_n 0, 1) := by decide +kernel
theorem dX1_take_62 : decode cX1_take 62 = .ok (.getfield 15, 3) := by decide +kernel
theorem dX1_take_65 : decode cX1_take 65 = .ok (.iload_n 1, 1) := by decide +kernel
theorem dX1_take_66 : decode cX1_take 66 = .ok (.dup2, 1) := by decide +kernel
theorem dX1_take_67 : decode cX1_take 67 = .ok (.iaload, 1) := by decide +kernel
theorem dX1_take_68 : decode cX1_take 68 = .ok (.iload 4, 2) := by decide +kernel
theorem dX1_take_70 : decode cX1_take 70 = .ok (.isub, 1) := by decide +kernel
theorem dX1_take_71 : decode cX1_take 71 = .ok (.iastore, 1) := by decide +kernel
theorem dX1_take_72 : decode cX1_take 72 = .ok (.aload_n 0, 1) := by decide +kernel
theorem dX1_take_73 : decode cX1_take 73 = .ok (.getfield 24, 3) := by decide +kernel
theorem dX1_take_76 : decode cX1_take 76 = .ok (.iload_n 1, 1) := by decide +kernel
theorem dX1_take_77 : decode cX1_take 77 = .ok (.dup2, 1) := by decide +kernel
theorem dX1_take_78 : decode cX1_take 78 = .ok (.iaload, 1) := by decide +kernel
theorem dX1_take_79 : decode cX1_take 79 = .ok (.iload 4, 2) := by decide +kernel
theorem dX1_take_81 : decode cX1_take 81 = .ok (.iadd, 1) := by decide +kernel
theorem dX1_take_82 : decode cX1_take 82 = .ok (.iastore, 1) := by decide +kernel
theorem dX1_take_83 : decode cX1_take 83 = .ok (.iconst 1, 1) := by decide +kernel
theorem dX1_take_84 : decode cX1_take 84 = .ok (.ireturn, 1) := by decide +kernel
theorem dX1_closePaid_0 : decode cX1_closePaid 0 = .ok (.iconst 0, 1) := by decide +kernel
theorem dX1_closePaid_1 : decode cX1_closePaid 1 = .ok (.istore_n 2, 1) := by decide +kernel
theorem dX1_closePaid_2 : decode cX1_closePaid 2 = .ok (.iload_n 2, 1) := by decide +kernel
theorem dX1_closePaid_3 : decode cX1_closePaid 3 = .ok (.aload_n 1, 1) := by decide +kernel
theorem dX1_closePaid_4 : decode cX1_closePaid 4 = .ok (.getfield 48, 3) := by decide +kernel
theorem dX1_closePaid_7 : decode cX1_closePaid 7 = .ok (.if_icmp .ge 25, 3) := by decide +kernel
theorem dX1_closePaid_10 : decode cX1_closePaid 10 = .ok (.aload_n 0, 1) := by decide +kernel
theorem dX1_closePaid_11 : decode cX1_closePaid 11 = .ok (.getfield 15, 3) := by decide +kernel
theorem dX1_closePaid_14 : decode cX1_closePaid 14 = .ok (.iload_n 2, 1) := by decide +kernel
theorem dX1_closePaid_15 : decode cX1_closePaid 15 = .ok (.iaload, 1) := by decide +kernel
theorem dX1_closePaid_16 : decode cX1_closePaid 16 = .ok (.ifCond .ne 10, 3) := by decide +kernel
theorem dX1_closePaid_19 : decode cX1_closePaid 19 = .ok (.aload_n 0, 1) := by decide +kernel
theorem dX1_closePaid_20 : decode cX1_closePaid 20 = .ok (.getfield 18, 3) := by decide +kernel
theorem dX1_closePaid_23 : decode cX1_closePaid 23 = .ok (.iload_n 2, 1) := by decide +kernel
theorem dX1_closePaid_24 : decode cX1_closePaid 24 = .ok (.iconst 2, 1) := by decide +kernel
theorem dX1_closePaid_25 : decode cX1_closePaid 25 = .ok (.iastore, 1) := by decide +kernel
theorem dX1_closePaid_26 : decode cX1_closePaid 26 = .ok (.iinc 2 1, 3) := by decide +kernel
theorem dX1_closePaid_29 : decode cX1_closePaid 29 = .ok (.goto (-27), 3) := by decide +kernel
theorem dX1_closePaid_32 : decode cX1_closePaid 32 = .ok (.return_, 1) := by decide +kernel
theorem dX1_brokenPersons_0 : decode cX1_brokenPersons 0 = .ok (.iconst 0, 1) := by decide +kernel
theorem dX1_brokenPersons_1 : decode cX1_brokenPersons 1 = .ok (.istore_n 2, 1) := by decide +kernel
theorem dX1_brokenPersons_2 : decode cX1_brokenPersons 2 = .ok (.iconst 0, 1) := by decide +kernel
theorem dX1_brokenPersons_3 : decode cX1_brokenPersons 3 = .ok (.istore_n 3, 1) := by decide +kernel
theorem dX1_brokenPersons_4 : decode cX1_brokenPersons 4 = .ok (.iload_n 3, 1) := by decide +kernel
theorem dX1_brokenPersons_5 : decode cX1_brokenPersons 5 = .ok (.aload_n 1, 1) := by decide +kernel
theorem dX1_brokenPersons_6 : decode cX1_brokenPersons 6 = .ok (.getfield 48, 3) := by decide +kernel
theorem dX1_brokenPersons_9 : decode cX1_brokenPersons 9 = .ok (.if_icmp .ge 41, 3) := by decide +kernel
theorem dX1_brokenPersons_12 : decode cX1_brokenPersons 12 = .ok (.aload_n 0, 1) := by decide +kernel
theorem dX1_brokenPersons_13 : decode cX1_brokenPersons 13 = .ok (.iload_n 3, 1) := by decide +kernel
theorem dX1_brokenPersons_14 : decode cX1_brokenPersons 14 = .ok (.invokevirtual 112, 3) := by decide +kernel
theorem dX1_brokenPersons_17 : decode cX1_brokenPersons 17 = .ok (.ifCond .eq 27, 3) := by decide +kernel
theorem dX1_brokenPersons_20 : decode cX1_brokenPersons 20 = .ok (.aload_n 0, 1) := by decide +kernel
theorem dX1_brokenPersons_21 : decode cX1_brokenPersons 21 = .ok (.getfield 18, 3) := by decide +kernel
theorem dX1_brokenPersons_24 : decode cX1_brokenPersons 24 = .ok (.iload_n 3, 1) := by decide +kernel
theorem dX1_brokenPersons_25 : decode cX1_brokenPersons 25 = .ok (.iaload, 1) := by decide +kernel
theorem dX1_brokenPersons_26 : decode cX1_brokenPersons 26 = .ok (.iconst 2, 1) := by decide +kernel
theorem dX1_brokenPersons_27 : decode cX1_brokenPersons 27 = .ok (.if_icmp .eq 17, 3) := by decide +kernel
theorem dX1_brokenPersons_30 : decode cX1_brokenPersons 30 = .ok (.iload_n 2, 1) := by decide +kernel
theorem dX1_brokenPersons_31 : decode cX1_brokenPersons 31 = .ok (.iconst 1, 1) := by decide +kernel
theorem dX1_brokenPersons_32 : decode cX1_brokenPersons 32 = .ok (.aload_n 1, 1) := by decide +kernel
theorem dX1_brokenPersons_33 : decode cX1_brokenPersons 33 = .ok (.getfield 51, 3) := by decide +kernel
theorem dX1_brokenPersons_36 : decode cX1_brokenPersons 36 = .ok (.iload_n 3, 1) := by decide +kernel
theorem dX1_brokenPersons_37 : decode cX1_brokenPersons 37 = .ok (.aaload, 1) := by decide +kernel
theorem dX1_brokenPersons_38 : decode cX1_brokenPersons 38 = .ok (.getfield 104, 3) := by decide +kernel
theorem dX1_brokenPersons_41 : decode cX1_brokenPersons 41 = .ok (.ishl, 1) := by decide +kernel
theorem dX1_brokenPersons_42 : decode cX1_brokenPersons 42 = .ok (.ior, 1) := by decide +kernel
theorem dX1_brokenPersons_43 : decode cX1_brokenPersons 43 = .ok (.istore_n 2, 1) := by decide +kernel
theorem dX1_brokenPersons_44 : decode cX1_brokenPersons 44 = .ok (.iinc 3 1, 3) := by decide +kernel
theorem dX1_brokenPersons_47 : decode cX1_brokenPersons 47 = .ok (.goto (-43), 3) := by decide +kernel
theorem dX1_brokenPersons_50 : decode cX1_brokenPersons 50 = .ok (.iload_n 2, 1) := by decide +kernel
theorem dX1_brokenPersons_51 : decode cX1_brokenPersons 51 = .ok (.ireturn, 1) := by decide +kernel
theorem dX1_canPayNow_0 : decode cX1_canPayNow 0 = .ok (.aload_n 0, 1) := by decide +kernel
theorem dX1_canPayNow_1 : decode cX1_canPayNow 1 = .ok (.getfield 18, 3) := by decide +kernel
theorem dX1_canPayNow_4 : decode cX1_canPayNow 4 = .ok (.iload_n 2, 1) := by decide +kernel
theorem dX1_canPayNow_5 : decode cX1_canPayNow 5 = .ok (.iaload, 1) := by decide +kernel
theorem dX1_canPayNow_6 : decode cX1_canPayNow 6 = .ok (.iconst 2, 1) := by decide +kernel
theorem dX1_canPayNow_7 : decode cX1_canPayNow 7 = .ok (.if_icmp .eq 30, 3) := by decide +kernel
theorem dX1_canPayNow_10 : decode cX1_canPayNow 10 = .ok (.aload_n 0, 1) := by decide +kernel
theorem dX1_canPayNow_11 : decode cX1_canPayNow 11 = .ok (.getfield 9, 3) := by decide +kernel
theorem dX1_canPayNow_14 : decode cX1_canPayNow 14 = .ok (.aload_n 1, 1) := by decide +kernel
theorem dX1_canPayNow_15 : decode cX1_canPayNow 15 = .ok (.getfield 51, 3) := by decide +kernel
theorem dX1_canPayNow_18 : decode cX1_canPayNow 18 = .ok (.iload_n 2, 1) := by decide +kernel
theorem dX1_canPayNow_19 : decode cX1_canPayNow 19 = .ok (.aaload, 1) := by decide +kernel
theorem dX1_canPayNow_20 : decode cX1_canPayNow 20 = .ok (.getfield 104, 3) := by decide +kernel
theorem dX1_canPayNow_23 : decode cX1_canPayNow 23 = .ok (.iaload, 1) := by decide +kernel
theorem dX1_canPayNow_24 : decode cX1_canPayNow 24 = .ok (.aload_n 0, 1) := by decide +kernel
theorem dX1_canPayNow_25 : decode cX1_canPayNow 25 = .ok (.getfield 15, 3) := by decide +kernel
theorem dX1_canPayNow_28 : decode cX1_canPayNow 28 = .ok (.iload_n 2, 1) := by decide +kernel
theorem dX1_canPayNow_29 : decode cX1_canPayNow 29 = .ok (.iaload, 1) := by decide +kernel
theorem dX1_canPayNow_30 : decode cX1_canPayNow 30 = .ok (.if_icmp .lt 7, 3) := by decide +kernel
theorem dX1_canPayNow_33 : decode cX1_canPayNow 33 = .ok (.iconst 1, 1) := by decide +kernel
theorem dX1_canPayNow_34 : decode cX1_canPayNow 34 = .ok (.goto 4, 3) := by decide +kernel
theorem dX1_canPayNow_37 : decode cX1_canPayNow 37 = .ok (.iconst 0, 1) := by decide +kernel
theorem dX1_canPayNow_38 : decode cX1_canPayNow 38 = .ok (.ireturn, 1) := by decide +kernel
theorem dX1_payNow_0 : decode cX1_payNow 0 = .ok (.aload_n 0, 1) := by decide +kernel
theorem dX1_payNow_1 : decode cX1_payNow 1 = .ok (.iload_n 2, 1) := by decide +kernel
theorem dX1_payNow_2 : decode cX1_payNow 2 = .ok (.aload_n 1, 1) := by decide +kernel
theorem dX1_payNow_3 : decode cX1_payNow 3 = .ok (.getfield 51, 3) := by decide +kernel
theorem dX1_payNow_6 : decode cX1_payNow 6 = .ok (.iload_n 2, 1) := by decide +kernel
theorem dX1_payNow_7 : decode cX1_payNow 7 = .ok (.aaload, 1) := by decide +kernel
theorem dX1_payNow_8 : decode cX1_payNow 8 = .ok (.getfield 104, 3) := by decide +kernel
theorem dX1_payNow_11 : decode cX1_payNow 11 = .ok (.aload_n 1, 1) := by decide +kernel
theorem dX1_payNow_12 : decode cX1_payNow 12 = .ok (.getfield 51, 3) := by decide +kernel
theorem dX1_payNow_15 : decode cX1_payNow 15 = .ok (.iload_n 2, 1) := by decide +kernel
theorem dX1_payNow_16 : decode cX1_payNow 16 = .ok (.aaload, 1) := by decide +kernel
theorem dX1_payNow_17 : decode cX1_payNow 17 = .ok (.getfield 115, 3) := by decide +kernel
theorem dX1_payNow_20 : decode cX1_payNow 20 = .ok (.invokevirtual 118, 3) := by decide +kernel
theorem dX1_payNow_23 : decode cX1_payNow 23 = .ok (.pop, 1) := by decide +kernel
theorem dX1_payNow_24 : decode cX1_payNow 24 = .ok (.aload_n 0, 1) := by decide +kernel
theorem dX1_payNow_25 : decode cX1_payNow 25 = .ok (.getfield 18, 3) := by decide +kernel
theorem dX1_payNow_28 : decode cX1_payNow 28 = .ok (.iload_n 2, 1) := by decide +kernel
theorem dX1_payNow_29 : decode cX1_payNow 29 = .ok (.iconst 2, 1) := by decide +kernel
theorem dX1_payNow_30 : decode cX1_payNow 30 = .ok (.iastore, 1) := by decide +kernel
theorem dX1_payNow_31 : decode cX1_payNow 31 = .ok (.return_, 1) := by decide +kernel
theorem dX1_loansAt_0 : decode cX1_loansAt 0 = .ok (.iconst 0, 1) := by decide +kernel
theorem dX1_loansAt_1 : decode cX1_loansAt 1 = .ok (.istore_n 3, 1) := by decide +kernel
theorem dX1_loansAt_2 : decode cX1_loansAt 2 = .ok (.iconst 0, 1) := by decide +kernel
theorem dX1_loansAt_3 : decode cX1_loansAt 3 = .ok (.istore 4, 2) := by decide +kernel
theorem dX1_loansAt_5 : decode cX1_loansAt 5 = .ok (.iload 4, 2) := by decide +kernel
theorem dX1_loansAt_7 : decode cX1_loansAt 7 = .ok (.aload_n 1, 1) := by decide +kernel
theorem dX1_loansAt_8 : decode cX1_loansAt 8 = .ok (.getfield 48, 3) := by decide +kernel
theorem dX1_loansAt_11 : decode cX1_loansAt 11 = .ok (.if_icmp .ge 28, 3) := by decide +kernel
theorem dX1_loansAt_14 : decode cX1_loansAt 14 = .ok (.iload_n 3, 1) := by decide +kernel
theorem dX1_loansAt_15 : decode cX1_loansAt 15 = .ok (.aload_n 0, 1) := by decide +kernel
theorem dX1_loansAt_16 : decode cX1_loansAt 16 = .ok (.getfield 18, 3) := by decide +kernel
theorem dX1_loansAt_19 : decode cX1_loansAt 19 = .ok (.iload 4, 2) := by decide +kernel
theorem dX1_loansAt_21 : decode cX1_loansAt 21 = .ok (.iaload, 1) := by decide +kernel
theorem dX1_loansAt_22 : decode cX1_loansAt 22 = .ok (.iload_n 2, 1) := by decide +kernel
theorem dX1_loansAt_23 : decode cX1_loansAt 23 = .ok (.if_icmp .ne 7, 3) := by decide +kernel
theorem dX1_loansAt_26 : decode cX1_loansAt 26 = .ok (.iconst 1, 1) := by decide +kernel
theorem dX1_loansAt_27 : decode cX1_loansAt 27 = .ok (.goto 4, 3) := by decide +kernel
theorem dX1_loansAt_30 : decode cX1_loansAt 30 = .ok (.iconst 0, 1) := by decide +kernel
theorem dX1_loansAt_31 : decode cX1_loansAt 31 = .ok (.iadd, 1) := by decide +kernel
theorem dX1_loansAt_32 : decode cX1_loansAt 32 = .ok (.istore_n 3, 1) := by decide +kernel
theorem dX1_loansAt_33 : decode cX1_loansAt 33 = .ok (.iinc 4 1, 3) := by decide +kernel
theorem dX1_loansAt_36 : decode cX1_loansAt 36 = .ok (.goto (-31), 3) := by decide +kernel
theorem dX1_loansAt_39 : decode cX1_loansAt 39 = .ok (.iload_n 3, 1) := by decide +kernel
theorem dX1_loansAt_40 : decode cX1_loansAt 40 = .ok (.ireturn, 1) := by decide +kernel
theorem dX1_coinsDue_0 : decode cX1_coinsDue 0 = .ok (.iconst 0, 1) := by decide +kernel
theorem dX1_coinsDue_1 : decode cX1_coinsDue 1 = .ok (.istore_n 2, 1) := by decide +kernel
theorem dX1_coinsDue_2 : decode cX1_coinsDue 2 = .ok (.iconst 0, 1) := by decide +kernel
theorem dX1_coinsDue_3 : decode cX1_coinsDue 3 = .ok (.istore_n 3, 1) := by decide +kernel
theorem dX1_coinsDue_4 : decode cX1_coinsDue 4 = .ok (.iload_n 3, 1) := by decide +kernel
theorem dX1_coinsDue_5 : decode cX1_coinsDue 5 = .ok (.aload_n 1, 1) := by decide +kernel
theorem dX1_coinsDue_6 : decode cX1_coinsDue 6 = .ok (.getfield 48, 3) := by decide +kernel
theorem dX1_coinsDue_9 : decode cX1_coinsDue 9 = .ok (.if_icmp .ge 32, 3) := by decide +kernel
theorem dX1_coinsDue_12 : decode cX1_coinsDue 12 = .ok (.iload_n 2, 1) := by decide +kernel
theorem dX1_coinsDue_13 : decode cX1_coinsDue 13 = .ok (.aload_n 0, 1) := by decide +kernel
theorem dX1_coinsDue_14 : decode cX1_coinsDue 14 = .ok (.getfield 18, 3) := by decide +kernel
theorem dX1_coinsDue_17 : decode cX1_coinsDue 17 = .ok (.iload_n 3, 1) := by decide +kernel
theorem dX1_coinsDue_18 : decode cX1_coinsDue 18 = .ok (.iaload, 1) := by decide +kernel
theorem dX1_coinsDue_19 : decode cX1_coinsDue 19 = .ok (.iconst 1, 1) := by decide +kernel
theorem dX1_coinsDue_20 : decode cX1_coinsDue 20 = .ok (.if_icmp .ne 12, 3) := by decide +kernel
theorem dX1_coinsDue_23 : decode cX1_coinsDue 23 = .ok (.aload_n 0, 1) := by decide +kernel
theorem dX1_coinsDue_24 : decode cX1_coinsDue 24 = .ok (.getfield 15, 3) := by decide +kernel
theorem dX1_coinsDue_27 : decode cX1_coinsDue 27 = .ok (.iload_n 3, 1) := by decide +kernel
theorem dX1_coinsDue_28 : decode cX1_coinsDue 28 = .ok (.iaload, 1) := by decide +kernel
theorem dX1_coinsDue_29 : decode cX1_coinsDue 29 = .ok (.goto 4, 3) := by decide +kernel
theorem dX1_coinsDue_32 : decode cX1_coinsDue 32 = .ok (.iconst 0, 1) := by decide +kernel
theorem dX1_coinsDue_33 : decode cX1_coinsDue 33 = .ok (.iadd, 1) := by decide +kernel
theorem dX1_coinsDue_34 : decode cX1_coinsDue 34 = .ok (.istore_n 2, 1) := by decide +kernel
theorem dX1_coinsDue_35 : decode cX1_coinsDue 35 = .ok (.iinc 3 1, 3) := by decide +kernel
theorem dX1_coinsDue_38 : decode cX1_coinsDue 38 = .ok (.goto (-34), 3) := by decide +kernel
theorem dX1_coinsDue_41 : decode cX1_coinsDue 41 = .ok (.iload_n 2, 1) := by decide +kernel
theorem dX1_coinsDue_42 : decode cX1_coinsDue 42 = .ok (.ireturn, 1) := by decide +kernel
theorem dX1_wealth_0 : decode cX1_wealth 0 = .ok (.aload_n 0, 1) := by decide +kernel
theorem dX1_wealth_1 : decode cX1_wealth 1 = .ok (.getfield 9, 3) := by decide +kernel
theorem dX1_wealth_4 : decode cX1_wealth 4 = .ok (.iload_n 2, 1) := by decide +kernel
theorem dX1_wealth_5 : decode cX1_wealth 5 = .ok (.iaload, 1) := by decide +kernel
theorem dX1_wealth_6 : decode cX1_wealth 6 = .ok (.istore_n 3, 1) := by decide +kernel
theorem dX1_wealth_7 : decode cX1_wealth 7 = .ok (.iconst 0, 1) := by decide +kernel
theorem dX1_wealth_8 : decode cX1_wealth 8 = .ok (.istore 4, 2) := by decide +kernel
theorem dX1_wealth_10 : decode cX1_wealth 10 = .ok (.iload 4, 2) := by decide +kernel
theorem dX1_wealth_12 : decode cX1_wealth 12 = .ok (.aload_n 1, 1) := by decide +kernel
theorem dX1_wealth_13 : decode cX1_wealth 13 = .ok (.getfield 48, 3) := by decide +kernel
theorem dX1_wealth_16 : decode cX1_wealth 16 = .ok (.if_icmp .ge 65, 3) := by decide +kernel
theorem dX1_wealth_19 : decode cX1_wealth 19 = .ok (.iload_n 3, 1) := by decide +kernel
theorem dX1_wealth_20 : decode cX1_wealth 20 = .ok (.aload_n 1, 1) := by decide +kernel
theorem dX1_wealth_21 : decode cX1_wealth 21 = .ok (.getfield 51, 3) := by decide +kernel
theorem dX1_wealth_24 : decode cX1_wealth 24 = .ok (.iload 4, 2) := by decide +kernel
theorem dX1_wealth_26 : decode cX1_wealth 26 = .ok (.aaload, 1) := by decide +kernel
theorem dX1_wealth_27 : decode cX1_wealth 27 = .ok (.getfield 115, 3) := by decide +kernel
theorem dX1_wealth_30 : decode cX1_wealth 30 = .ok (.iload_n 2, 1) := by decide +kernel
theorem dX1_wealth_31 : decode cX1_wealth 31 = .ok (.if_icmp .ne 13, 3) := by decide +kernel
theorem dX1_wealth_34 : decode cX1_wealth 34 = .ok (.aload_n 0, 1) := by decide +kernel
theorem dX1_wealth_35 : decode cX1_wealth 35 = .ok (.getfield 15, 3) := by decide +kernel
theorem dX1_wealth_38 : decode cX1_wealth 38 = .ok (.iload 4, 2) := by decide +kernel
theorem dX1_wealth_40 : decode cX1_wealth 40 = .ok (.iaload, 1) := by decide +kernel
theorem dX1_wealth_41 : decode cX1_wealth 41 = .ok (.goto 4, 3) := by decide +kernel
theorem dX1_wealth_44 : decode cX1_wealth 44 = .ok (.iconst 0, 1) := by decide +kernel
theorem dX1_wealth_45 : decode cX1_wealth 45 = .ok (.iadd, 1) := by decide +kernel
theorem dX1_wealth_46 : decode cX1_wealth 46 = .ok (.istore_n 3, 1) := by decide +kernel
theorem dX1_wealth_47 : decode cX1_wealth 47 = .ok (.iload_n 3, 1) := by decide +kernel
theorem dX1_wealth_48 : decode cX1_wealth 48 = .ok (.aload_n 1, 1) := by decide +kernel
theorem dX1_wealth_49 : decode cX1_wealth 49 = .ok (.getfield 51, 3) := by decide +kernel
theorem dX1_wealth_52 : decode cX1_wealth 52 = .ok (.iload 4, 2) := by decide +kernel
theorem dX1_wealth_54 : decode cX1_wealth 54 = .ok (.aaload, 1) := by decide +kernel
theorem dX1_wealth_55 : decode cX1_wealth 55 = .ok (.getfield 104, 3) := by decide +kernel
theorem dX1_wealth_58 : decode cX1_wealth 58 = .ok (.iload_n 2, 1) := by decide +kernel
theorem dX1_wealth_59 : decode cX1_wealth 59 = .ok (.if_icmp .ne 13, 3) := by decide +kernel
theorem dX1_wealth_62 : decode cX1_wealth 62 = .ok (.aload_n 0, 1) := by decide +kernel
theorem dX1_wealth_63 : decode cX1_wealth 63 = .ok (.getfield 15, 3) := by decide +kernel
theorem dX1_wealth_66 : decode cX1_wealth 66 = .ok (.iload 4, 2) := by decide +kernel
theorem dX1_wealth_68 : decode cX1_wealth 68 = .ok (.iaload, 1) := by decide +kernel
theorem dX1_wealth_69 : decode cX1_wealth 69 = .ok (.goto 4, 3) := by decide +kernel
theorem dX1_wealth_72 : decode cX1_wealth 72 = .ok (.iconst 0, 1) := by decide +kernel
theorem dX1_wealth_73 : decode cX1_wealth 73 = .ok (.isub, 1) := by decide +kernel
theorem dX1_wealth_74 : decode cX1_wealth 74 = .ok (.istore_n 3, 1) := by decide +kernel
theorem dX1_wealth_75 : decode cX1_wealth 75 = .ok (.iinc 4 1, 3) := by decide +kernel
theorem dX1_wealth_78 : decode cX1_wealth 78 = .ok (.goto (-68), 3) := by decide +kernel
theorem dX1_wealth_81 : decode cX1_wealth 81 = .ok (.iload_n 3, 1) := by decide +kernel
theorem dX1_wealth_82 : decode cX1_wealth 82 = .ok (.ireturn, 1) := by decide +kernel
theorem dX2_init_0 : decode cX2_init 0 = .ok (.aload_n 0, 1) := by decide +kernel
theorem dX2_init_1 : decode cX2_init 1 = .ok (.invokespecial 3, 3) := by decide +kernel
theorem dX2_init_4 : decode cX2_init 4 = .ok (.aload_n 0, 1) := by decide +kernel
theorem dX2_init_5 : decode cX2_init 5 = .ok (.iconst 4, 1) := by decide +kernel
theorem dX2_init_6 : decode cX2_init 6 = .ok (.newarray .int, 2) := by decide +kernel
theorem dX2_init_8 : decode cX2_init 8 = .ok (.putfield 9, 3) := by decide +kernel
theorem dX2_init_11 : decode cX2_init 11 = .ok (.aload_n 0, 1) := by decide +kernel
theorem dX2_init_12 : decode cX2_init 12 = .ok (.iconst 4, 1) := by decide +kernel
theorem dX2_init_13 : decode cX2_init 13 = .ok (.newarray .int, 2) := by decide +kernel
theorem dX2_init_15 : decode cX2_init 15 = .ok (.putfield 15, 3) := by decide +kernel
theorem dX2_init_18 : decode cX2_init 18 = .ok (.aload_n 0, 1) := by decide +kernel
theorem dX2_init_19 : decode cX2_init 19 = .ok (.bipush 6, 2) := by decide +kernel
theorem dX2_init_21 : decode cX2_init 21 = .ok (.newarray .int, 2) := by decide +kernel
theorem dX2_init_23 : decode cX2_init 23 = .ok (.putfield 18, 3) := by decide +kernel
theorem dX2_init_26 : decode cX2_init 26 = .ok (.aload_n 0, 1) := by decide +kernel
theorem dX2_init_27 : decode cX2_init 27 = .ok (.bipush 10, 2) := by decide +kernel
theorem dX2_init_29 : decode cX2_init 29 = .ok (.anewarray 21, 3) := by decide +kernel
theorem dX2_init_32 : decode cX2_init 32 = .ok (.putfield 23, 3) := by decide +kernel
theorem dX2_init_35 : decode cX2_init 35 = .ok (.iconst 0, 1) := by decide +kernel
theorem dX2_init_36 : decode cX2_init 36 = .ok (.istore_n 1, 1) := by decide +kernel
theorem dX2_init_37 : decode cX2_init 37 = .ok (.iload_n 1, 1) := by decide +kernel
theorem dX2_init_38 : decode cX2_init 38 = .ok (.bipush 10, 2) := by decide +kernel
theorem dX2_init_40 : decode cX2_init 40 = .ok (.if_icmp .ge 22, 3) := by decide +kernel
theorem dX2_init_43 : decode cX2_init 43 = .ok (.aload_n 0, 1) := by decide +kernel
theorem dX2_init_44 : decode cX2_init 44 = .ok (.getfield 23, 3) := by decide +kernel
theorem dX2_init_47 : decode cX2_init 47 = .ok (.iload_n 1, 1) := by decide +kernel
theorem dX2_init_48 : decode cX2_init 48 = .ok (.new 21, 3) := by decide +kernel
theorem dX2_init_51 : decode cX2_init 51 = .ok (.dup, 1) := by decide +kernel
theorem dX2_init_52 : decode cX2_init 52 = .ok (.invokespecial 27, 3) := by decide +kernel
theorem dX2_init_55 : decode cX2_init 55 = .ok (.aastore, 1) := by decide +kernel
theorem dX2_init_56 : decode cX2_init 56 = .ok (.iinc 1 1, 3) := by decide +kernel
theorem dX2_init_59 : decode cX2_init 59 = .ok (.goto (-22), 3) := by decide +kernel
theorem dX2_init_62 : decode cX2_init 62 = .ok (.aload_n 0, 1) := by decide +kernel
theorem dX2_init_63 : decode cX2_init 63 = .ok (.bipush 8, 2) := by decide +kernel
theorem dX2_init_65 : decode cX2_init 65 = .ok (.newarray .int, 2) := by decide +kernel
theorem dX2_init_67 : decode cX2_init 67 = .ok (.putfield 28, 3) := by decide +kernel
theorem dX2_init_70 : decode cX2_init 70 = .ok (.aload_n 0, 1) := by decide +kernel
theorem dX2_init_71 : decode cX2_init 71 = .ok (.bipush 8, 2) := by decide +kernel
theorem dX2_init_73 : decode cX2_init 73 = .ok (.newarray .int, 2) := by decide +kernel
theorem dX2_init_75 : decode cX2_init 75 = .ok (.putfield 31, 3) := by decide +kernel
theorem dX2_init_78 : decode cX2_init 78 = .ok (.aload_n 0, 1) := by decide +kernel
theorem dX2_init_79 : decode cX2_init 79 = .ok (.bipush 8, 2) := by decide +kernel
theorem dX2_init_81 : decode cX2_init 81 = .ok (.newarray .int, 2) := by decide +kernel
theorem dX2_init_83 : decode cX2_init 83 = .ok (.putfield 34, 3) := by decide +kernel
theorem dX2_init_86 : decode cX2_init 86 = .ok (.return_, 1) := by decide +kernel
theorem dX2_clear_0 : decode cX2_clear 0 = .ok (.aload_n 0, 1) := by decide +kernel
theorem dX2_clear_1 : decode cX2_clear 1 = .ok (.iconst 0, 1) := by decide +kernel
theorem dX2_clear_2 : decode cX2_clear 2 = .ok (.putfield 37, 3) := by decide +kernel
theorem dX2_clear_5 : decode cX2_clear 5 = .ok (.aload_n 0, 1) := by decide +kernel
theorem dX2_clear_6 : decode cX2_clear 6 = .ok (.iconst 0, 1) := by decide +kernel
theorem dX2_clear_7 : decode cX2_clear 7 = .ok (.putfield 41, 3) := by decide +kernel
theorem dX2_clear_10 : decode cX2_clear 10 = .ok (.aload_n 0, 1) := by decide +kernel
theorem dX2_clear_11 : decode cX2_clear 11 = .ok (.iconst 0, 1) := by decide +kernel
theorem dX2_clear_12 : decode cX2_clear 12 = .ok (.putfield 44, 3) := by decide +kernel
theorem dX2_clear_15 : decode cX2_clear 15 = .ok (.aload_n 0, 1) := by decide +kernel
theorem dX2_clear_16 : decode cX2_clear 16 = .ok (.iconst 0, 1) := by decide +kernel
theorem dX2_clear_17 : decode cX2_clear 17 = .ok (.putfield 47, 3) := by decide +kernel
theorem dX2_clear_20 : decode cX2_clear 20 = .ok (.return_, 1) := by decide +kernel
theorem dX2_copyFrom_0 : decode cX2_copyFrom 0 = .ok (.aload_n 0, 1) := by decide +kernel
theorem dX2_copyFrom_1 : decode cX2_copyFrom 1 = .ok (.aload_n 1, 1) := by decide +kernel
theorem dX2_copyFrom_2 : decode cX2_copyFrom 2 = .ok (.getfield 37, 3) := by decide +kernel
theorem dX2_copyFrom_5 : decode cX2_copyFrom 5 = .ok (.putfield 37, 3) := by decide +kernel
theorem dX2_copyFrom_8 : decode cX2_copyFrom 8 = .ok (.aload_n 0, 1) := by decide +kernel
theorem dX2_copyFrom_9 : decode cX2_copyFrom 9 = .ok (.aload_n 1, 1) := by decide +kernel
theorem dX2_copyFrom_10 : decode cX2_copyFrom 10 = .ok (.getfield 41, 3) := by decide +kernel
theorem dX2_copyFrom_13 : decode cX2_copyFrom 13 = .ok (.putfield 41, 3) := by decide +kernel
theorem dX2_copyFrom_16 : decode cX2_copyFrom 16 = .ok (.aload_n 0, 1) := by decide +kernel
theorem dX2_copyFrom_17 : decode cX2_copyFrom 17 = .ok (.aload_n 1, 1) := by decide +kernel
theorem dX2_copyFrom_18 : decode cX2_copyFrom 18 = .ok (.getfield 44, 3) := by decide +kernel
theorem dX2_copyFrom_21 : decode cX2_copyFrom 21 = .ok (.putfield 44, 3) := by decide +kernel
theorem dX2_copyFrom_24 : decode cX2_copyFrom 24 = .ok (.aload_n 0, 1) := by decide +kernel
theorem dX2_copyFrom_25 : decode cX2_copyFrom 25 = .ok (.aload_n 1, 1) := by decide +kernel
theorem dX2_copyFrom_26 : decode cX2_copyFrom 26 = .ok (.getfield 47, 3) := by decide +kernel
theorem dX2_copyFrom_29 : decode cX2_copyFrom 29 = .ok (.putfield 47, 3) := by decide +kernel
theorem dX2_copyFrom_32 : decode cX2_copyFrom 32 = .ok (.aload_n 1, 1) := by decide +kernel
theorem dX2_copyFrom_33 : decode cX2_copyFrom 33 = .ok (.getfield 9, 3) := by decide +kernel
theorem dX2_copyFrom_36 : decode cX2_copyFrom 36 = .ok (.iconst 0, 1) := by decide +kernel
theorem dX2_copyFrom_37 : decode cX2_copyFrom 37 = .ok (.aload_n 0, 1) := by decide +kernel
theorem dX2_copyFrom_38 : decode cX2_copyFrom 38 = .ok (.getfield 9, 3) := by decide +kernel
theorem dX2_copyFrom_41 : decode cX2_copyFrom 41 = .ok (.iconst 0, 1) := by decide +kernel
theorem dX2_copyFrom_42 : decode cX2_copyFrom 42 = .ok (.iconst 4, 1) := by decide +kernel
theorem dX2_copyFrom_43 : decode cX2_copyFrom 43 = .ok (.invokestatic 50, 3) := by decide +kernel
theorem dX2_copyFrom_46 : decode cX2_copyFrom 46 = .ok (.aload_n 1, 1) := by decide +kernel
theorem dX2_copyFrom_47 : decode cX2_copyFrom 47 = .ok (.getfield 15, 3) := by decide +kernel
theorem dX2_copyFrom_50 : decode cX2_copyFrom 50 = .ok (.iconst 0, 1) := by decide +kernel
theorem dX2_copyFrom_51 : decode cX2_copyFrom 51 = .ok (.aload_n 0, 1) := by decide +kernel
theorem dX2_copyFrom_52 : decode cX2_copyFrom 52 = .ok (.getfield 15, 3) := by decide +kernel
theorem dX2_copyFrom_55 : decode cX2_copyFrom 55 = .ok (.iconst 0, 1) := by decide +kernel
theorem dX2_copyFrom_56 : decode cX2_copyFrom 56 = .ok (.iconst 4, 1) := by decide +kernel
theorem dX2_copyFrom_57 : decode cX2_copyFrom 57 = .ok (.invokestatic 50, 3) := by decide +kernel
theorem dX2_copyFrom_60 : decode cX2_copyFrom 60 = .ok (.aload_n 1, 1) := by decide +kernel
theorem dX2_copyFrom_61 : decode cX2_copyFrom 61 = .ok (.getfield 18, 3) := by decide +kernel
theorem dX2_copyFrom_64 : decode cX2_copyFrom 64 = .ok (.iconst 0, 1) := by decide +kernel
theorem dX2_copyFrom_65 : decode cX2_copyFrom 65 = .ok (.aload_n 0, 1) := by decide +kernel
theorem dX2_copyFrom_66 : decode cX2_copyFrom 66 = .ok (.getfield 18, 3) := by decide +kernel
theorem dX2_copyFrom_69 : decode cX2_copyFrom 69 = .ok (.iconst 0, 1) := by decide +kernel
theorem dX2_copyFrom_70 : decode cX2_copyFrom 70 = .ok (.bipush 6, 2) := by decide +kernel
theorem dX2_copyFrom_72 : decode cX2_copyFrom 72 = .ok (.invokestatic 50, 3) := by decide +kernel
theorem dX2_copyFrom_75 : decode cX2_copyFrom 75 = .ok (.iconst 0, 1) := by decide +kernel
theorem dX2_copyFrom_76 : decode cX2_copyFrom 76 = .ok (.istore_n 2, 1) := by decide +kernel
theorem dX2_copyFrom_77 : decode cX2_copyFrom 77 = .ok (.iload_n 2, 1) := by decide +kernel
theorem dX2_copyFrom_78 : decode cX2_copyFrom 78 = .ok (.bipush 10, 2) := by decide +kernel
theorem dX2_copyFrom_80 : decode cX2_copyFrom 80 = .ok (.if_icmp .ge 24, 3) := by decide +kernel
theorem dX2_copyFrom_83 : decode cX2_copyFrom 83 = .ok (.aload_n 0, 1) := by decide +kernel
theorem dX2_copyFrom_84 : decode cX2_copyFrom 84 = .ok (.getfield 23, 3) := by decide +kernel
theorem dX2_copyFrom_87 : decode cX2_copyFrom 87 = .ok (.iload_n 2, 1) := by decide +kernel
theorem dX2_copyFrom_88 : decode cX2_copyFrom 88 = .ok (.aaload, 1) := by decide +kernel
theorem dX2_copyFrom_89 : decode cX2_copyFrom 89 = .ok (.aload_n 1, 1) := by decide +kernel
theorem dX2_copyFrom_90 : decode cX2_copyFrom 90 = .ok (.getfield 23, 3) := by decide +kernel
theorem dX2_copyFrom_93 : decode cX2_copyFrom 93 = .ok (.iload_n 2, 1) := by decide +kernel
theorem dX2_copyFrom_94 : decode cX2_copyFrom 94 = .ok (.aaload, 1) := by decide +kernel
theorem dX2_copyFrom_95 : decode cX2_copyFrom 95 = .ok (.invokevirtual 56, 3) := by decide +kernel
theorem dX2_copyFrom_98 : decode cX2_copyFrom 98 = .ok (.iinc 2 1, 3) := by decide +kernel
theorem dX2_copyFrom_101 : decode cX2_copyFrom 101 = .ok (.goto (-24), 3) := by decide +kernel
theorem dX2_copyFrom_104 : decode cX2_copyFrom 104 = .ok (.aload_n 1, 1) := by decide +kernel
theorem dX2_copyFrom_105 : decode cX2_copyFrom 105 = .ok (.getfield 28, 3) := by decide +kernel
theorem dX2_copyFrom_108 : decode cX2_copyFrom 108 = .ok (.iconst 0, 1) := by decide +kernel
theorem dX2_copyFrom_109 : decode cX2_copyFrom 109 = .ok (.aload_n 0, 1) := by decide +kernel
theorem dX2_copyFrom_110 : decode cX2_copyFrom 110 = .ok (.getfield 28, 3) := by decide +kernel
theorem dX2_copyFrom_113 : decode cX2_copyFrom 113 = .ok (.iconst 0, 1) := by decide +kernel
theorem dX2_copyFrom_114 : decode cX2_copyFrom 114 = .ok (.bipush 8, 2) := by decide +kernel
theorem dX2_copyFrom_116 : decode cX2_copyFrom 116 = .ok (.invokestatic 50, 3) := by decide +kernel
theorem dX2_copyFrom_119 : decode cX2_copyFrom 119 = .ok (.aload_n 1, 1) := by decide +kernel
theorem dX2_copyFrom_120 : decode cX2_copyFrom 120 = .ok (.getfield 31, 3) := by decide +kernel
theorem dX2_copyFrom_123 : decode cX2_copyFrom 123 = .ok (.iconst 0, 1) := by decide +kernel
theorem dX2_copyFrom_124 : decode cX2_copyFrom 124 = .ok (.aload_n 0, 1) := by decide +kernel
theorem dX2_copyFrom_125 : decode cX2_copyFrom 125 = .ok (.getfield 31, 3) := by decide +kernel
theorem dX2_copyFrom_128 : decode cX2_copyFrom 128 = .ok (.iconst 0, 1) := by decide +kernel
theorem dX2_copyFrom_129 : decode cX2_copyFrom 129 = .ok (.bipush 8, 2) := by decide +kernel
theorem dX2_copyFrom_131 : decode cX2_copyFrom 131 = .ok (.invokestatic 50, 3) := by decide +kernel
theorem dX2_copyFrom_134 : decode cX2_copyFrom 134 = .ok (.aload_n 1, 1) := by decide +kernel
theorem dX2_copyFrom_135 : decode cX2_copyFrom 135 = .ok (.getfield 34, 3) := by decide +kernel
theorem dX2_copyFrom_138 : decode cX2_copyFrom 138 = .ok (.iconst 0, 1) := by decide +kernel
theorem dX2_copyFrom_139 : decode cX2_copyFrom 139 = .ok (.aload_n 0, 1) := by decide +kernel
theorem dX2_copyFrom_140 : decode cX2_copyFrom 140 = .ok (.getfield 34, 3) := by decide +kernel
theorem dX2_copyFrom_143 : decode cX2_copyFrom 143 = .ok (.iconst 0, 1) := by decide +kernel
theorem dX2_copyFrom_144 : decode cX2_copyFrom 144 = .ok (.bipush 8, 2) := by decide +kernel
theorem dX2_copyFrom_146 : decode cX2_copyFrom 146 = .ok (.invokestatic 50, 3) := by decide +kernel
theorem dX2_copyFrom_149 : decode cX2_copyFrom 149 = .ok (.return_, 1) := by decide +kernel
theorem dX2_isHill_0 : decode cX2_isHill 0 = .ok (.iload_n 1, 1) := by decide +kernel
theorem dX2_isHill_1 : decode cX2_isHill 1 = .ok (.ifCond .lt 15, 3) := by decide +kernel
theorem dX2_isHill_4 : decode cX2_isHill 4 = .ok (.iload_n 1, 1) := by decide +kernel
theorem dX2_isHill_5 : decode cX2_isHill 5 = .ok (.aload_n 0, 1) := by decide +kernel
theorem dX2_isHill_6 : decode cX2_isHill 6 = .ok (.getfield 37, 3) := by decide +kernel
theorem dX2_isHill_9 : decode cX2_isHill 9 = .ok (.if_icmp .ge 7, 3) := by decide +kernel
theorem dX2_isHill_12 : decode cX2_isHill 12 = .ok (.iconst 1, 1) := by decide +kernel
theorem dX2_isHill_13 : decode cX2_isHill 13 = .ok (.goto 4, 3) := by decide +kernel
theorem dX2_isHill_16 : decode cX2_isHill 16 = .ok (.iconst 0, 1) := by decide +kernel
theorem dX2_isHill_17 : decode cX2_isHill 17 = .ok (.ireturn, 1) := by decide +kernel
theorem dX2_isPerson_0 : decode cX2_isPerson 0 = .ok (.iload_n 1, 1) := by decide +kernel
theorem dX2_isPerson_1 : decode cX2_isPerson 1 = .ok (.ifCond .lt 15, 3) := by decide +kernel
theorem dX2_isPerson_4 : decode cX2_isPerson 4 = .ok (.iload_n 1, 1) := by decide +kernel
theorem dX2_isPerson_5 : decode cX2_isPerson 5 = .ok (.aload_n 0, 1) := by decide +kernel
theorem dX2_isPerson_6 : decode cX2_isPerson 6 = .ok (.getfield 41, 3) := by decide +kernel
theorem dX2_isPerson_9 : decode cX2_isPerson 9 = .ok (.if_icmp .ge 7, 3) := by decide +kernel
theorem dX2_isPerson_12 : decode cX2_isPerson 12 = .ok (.iconst 1, 1) := by decide +kernel
theorem dX2_isPerson_13 : decode cX2_isPerson 13 = .ok (.goto 4, 3) := by decide +kernel
theorem dX2_isPerson_16 : decode cX2_isPerson 16 = .ok (.iconst 0, 1) := by decide +kernel
theorem dX2_isPerson_17 : decode cX2_isPerson 17 = .ok (.ireturn, 1) := by decide +kernel
theorem dX2_isLoan_0 : decode cX2_isLoan 0 = .ok (.iload_n 1, 1) := by decide +kernel
theorem dX2_isLoan_1 : decode cX2_isLoan 1 = .ok (.ifCond .lt 15, 3) := by decide +kernel
theorem dX2_isLoan_4 : decode cX2_isLoan 4 = .ok (.iload_n 1, 1) := by decide +kernel
theorem dX2_isLoan_5 : decode cX2_isLoan 5 = .ok (.aload_n 0, 1) := by decide +kernel
theorem dX2_isLoan_6 : decode cX2_isLoan 6 = .ok (.getfield 44, 3) := by decide +kernel
theorem dX2_isLoan_9 : decode cX2_isLoan 9 = .ok (.if_icmp .ge 7, 3) := by decide +kernel
theorem dX2_isLoan_12 : decode cX2_isLoan 12 = .ok (.iconst 1, 1) := by decide +kernel
theorem dX2_isLoan_13 : decode cX2_isLoan 13 = .ok (.goto 4, 3) := by decide +kernel
theorem dX2_isLoan_16 : decode cX2_isLoan 16 = .ok (.iconst 0, 1) := by decide +kernel
theorem dX2_isLoan_17 : decode cX2_isLoan 17 = .ok (.ireturn, 1) := by decide +kernel
theorem dX2_isWeather_0 : decode cX2_isWeather 0 = .ok (.iload_n 1, 1) := by decide +kernel
theorem dX2_isWeather_1 : decode cX2_isWeather 1 = .ok (.ifCond .lt 17, 3) := by decide +kernel
theorem dX2_isWeather_4 : decode cX2_isWeather 4 = .ok (.iload_n 1, 1) := by decide +kernel
theorem dX2_isWeather_5 : decode cX2_isWeather 5 = .ok (.iconst 1, 1) := by decide +kernel
theorem dX2_isWeather_6 : decode cX2_isWeather 6 = .ok (.aload_n 0, 1) := by decide +kernel
theorem dX2_isWeather_7 : decode cX2_isWeather 7 = .ok (.getfield 37, 3) := by decide +kernel
theorem dX2_isWeather_10 : decode cX2_isWeather 10 = .ok (.ishl, 1) := by decide +kernel
theorem dX2_isWeather_11 : decode cX2_isWeather 11 = .ok (.if_icmp .ge 7, 3) := by decide +kernel
theorem dX2_isWeather_14 : decode cX2_isWeather 14 = .ok (.iconst 1, 1) := by decide +kernel
theorem dX2_isWeather_15 : decode cX2_isWeather 15 = .ok (.goto 4, 3) := by decide +kernel
theorem dX2_isWeather_18 : decode cX2_isWeather 18 = .ok (.iconst 0, 1) := by decide +kernel
theorem dX2_isWeather_19 : decode cX2_isWeather 19 = .ok (.ireturn, 1) := by decide +kernel
theorem dX2_isBetSet_0 : decode cX2_isBetSet 0 = .ok (.iload_n 1, 1) := by decide +kernel
theorem dX2_isBetSet_1 : decode cX2_isBetSet 1 = .ok (.ifCond .lt 17, 3) := by decide +kernel
theorem dX2_isBetSet_4 : decode cX2_isBetSet 4 = .ok (.iload_n 1, 1) := by decide +kernel
theorem dX2_isBetSet_5 : decode cX2_isBetSet 5 = .ok (.iconst 1, 1) := by decide +kernel
theorem dX2_isBetSet_6 : decode cX2_isBetSet 6 = .ok (.aload_n 0, 1) := by decide +kernel
theorem dX2_isBetSet_7 : decode cX2_isBetSet 7 = .ok (.getfield 47, 3) := by decide +kernel
theorem dX2_isBetSet_10 : decode cX2_isBetSet 10 = .ok (.ishl, 1) := by decide +kernel
theorem dX2_isBetSet_11 : decode cX2_isBetSet 11 = .ok (.if_icmp .ge 7, 3) := by decide +kernel
theorem dX2_isBetSet_14 : decode cX2_isBetSet 14 = .ok (.iconst 1, 1) := by decide +kernel
theorem dX2_isBetSet_15 : decode cX2_isBetSet 15 = .ok (.goto 4, 3) := by decide +kernel
theorem dX2_isBetSet_18 : decode cX2_isBetSet 18 = .ok (.iconst 0, 1) := by decide +kernel
theorem dX2_isBetSet_19 : decode cX2_isBetSet 19 = .ok (.ireturn, 1) := by decide +kernel
theorem dX2_isFlood_0 : decode cX2_isFlood 0 = .ok (.aload_n 0, 1) := by decide +kernel
theorem dX2_isFlood_1 : decode cX2_isFlood 1 = .ok (.getfield 37, 3) := by decide +kernel
theorem dX2_isFlood_4 : decode cX2_isFlood 4 = .ok (.iconst 2, 1) := by decide +kernel
theorem dX2_isFlood_5 : decode cX2_isFlood 5 = .ok (.if_icmp .lt 19, 3) := by decide +kernel
theorem dX2_isFlood_8 : decode cX2_isFlood 8 = .ok (.iload_n 1, 1) := by decide +kernel
theorem dX2_isFlood_9 : decode cX2_isFlood 9 = .ok (.iconst 1, 1) := by decide +kernel
theorem dX2_isFlood_10 : decode cX2_isFlood 10 = .ok (.aload_n 0, 1) := by decide +kernel
theorem dX2_isFlood_11 : decode cX2_isFlood 11 = .ok (.getfield 37, 3) := by decide +kernel
theorem dX2_isFlood_14 : decode cX2_isFlood 14 = .ok (.ishl, 1) := by decide +kernel
theorem dX2_isFlood_15 : decode cX2_isFlood 15 = .ok (.iconst 1, 1) := by decide +kernel
theorem dX2_isFlood_16 : decode cX2_isFlood 16 = .ok (.isub, 1) := by decide +kernel
theorem dX2_isFlood_17 : decode cX2_isFlood 17 = .ok (.if_icmp .ne 7, 3) := by decide +kernel
theorem dX2_isFlood_20 : decode cX2_isFlood 20 = .ok (.iconst 1, 1) := by decide +kernel
theorem dX2_isFlood_21 : decode cX2_isFlood 21 = .ok (.goto 4, 3) := by decide +kernel
theorem dX2_isFlood_24 : decode cX2_isFlood 24 = .ok (.iconst 0, 1) := by decide +kernel
theorem dX2_isFlood_25 : decode cX2_isFlood 25 = .ok (.ireturn, 1) := by decide +kernel
theorem dX2_isRipe_0 : decode cX2_isRipe 0 = .ok (.aload_n 0, 1) := by decide +kernel
theorem dX2_isRipe_1 : decode cX2_isRipe 1 = .ok (.getfield 23, 3) := by decide +kernel
theorem dX2_isRipe_4 : decode cX2_isRipe 4 = .ok (.iload_n 1, 1) := by decide +kernel
theorem dX2_isRipe_5 : decode cX2_isRipe 5 = .ok (.aaload, 1) := by decide +kernel
theorem dX2_isRipe_6 : decode cX2_isRipe 6 = .ok (.getfield 60, 3) := by decide +kernel
theorem dX2_isRipe_9 : decode cX2_isRipe 9 = .ok (.istore_n 3, 1) := by decide +kernel
theorem dX2_isRipe_10 : decode cX2_isRipe 10 = .ok (.iload_n 3, 1) := by decide +kernel
theorem dX2_isRipe_11 : decode cX2_isRipe 11 = .ok (.iconst 1, 1) := by decide +kernel
theorem dX2_isRipe_12 : decode cX2_isRipe 12 = .ok (.iadd, 1) := by decide +kernel
theorem dX2_isRipe_13 : decode cX2_isRipe 13 = .ok (.aload_n 0, 1) := by decide +kernel
theorem dX2_isRipe_14 : decode cX2_isRipe 14 = .ok (.getfield 37, 3) := by decide +kernel
theorem dX2_isRipe_17 : decode cX2_isRipe 17 = .ok (.if_icmp .ge 9, 3) := by decide +kernel
theorem dX2_isRipe_20 : decode cX2_isRipe 20 = .ok (.iload_n 3, 1) := by decide +kernel
theorem dX2_isRipe_21 : decode cX2_isRipe 21 = .ok (.iconst 1, 1) := by decide +kernel
theorem dX2_isRipe_22 : decode cX2_isRipe 22 = .ok (.iadd, 1) := by decide +kernel
theorem dX2_isRipe_23 : decode cX2_isRipe 23 = .ok (.goto 4, 3) := by decide +kernel
theorem dX2_isRipe_26 : decode cX2_isRipe 26 = .ok (.iconst 0, 1) := by decide +kernel
theorem dX2_isRipe_27 : decode cX2_isRipe 27 = .ok (.istore 4, 2) := by decide +kernel
theorem dX2_isRipe_29 : decode cX2_isRipe 29 = .ok (.iload_n 2, 1) := by decide +kernel
theorem dX2_isRipe_30 : decode cX2_isRipe 30 = .ok (.iload_n 3, 1) := by decide +kernel
theorem dX2_isRipe_31 : decode cX2_isRipe 31 = .ok (.ishr, 1) := by decide +kernel
theorem dX2_isRipe_32 : decode cX2_isRipe 32 = .ok (.iconst 1, 1) := by decide +kernel
theorem dX2_isRipe_33 : decode cX2_isRipe 33 = .ok (.iand, 1) := by decide +kernel
theorem dX2_isRipe_34 : decode cX2_isRipe 34 = .ok (.iconst 1, 1) := by decide +kernel
theorem dX2_isRipe_35 : decode cX2_isRipe 35 = .ok (.if_icmp .ne 7, 3) := by decide +kernel
theorem dX2_isRipe_38 : decode cX2_isRipe 38 = .ok (.iconst 1, 1) := by decide +kernel
theorem dX2_isRipe_39 : decode cX2_isRipe 39 = .ok (.goto 4, 3) := by decide +kernel
theorem dX2_isRipe_42 : decode cX2_isRipe 42 = .ok (.iconst 0, 1) := by decide +kernel
theorem dX2_isRipe_43 : decode cX2_isRipe 43 = .ok (.istore 5, 2) := by decide +kernel
theorem dX2_isRipe_45 : decode cX2_isRipe 45 = .ok (.iload_n 2, 1) := by decide +kernel
theorem dX2_isRipe_46 : decode cX2_isRipe 46 = .ok (.iload 4, 2) := by decide +kernel
theorem dX2_isRipe_48 : decode cX2_isRipe 48 = .ok (.ishr, 1) := by decide +kernel
theorem dX2_isRipe_49 : decode cX2_isRipe 49 = .ok (.iconst 1, 1) := by decide +kernel
theorem dX2_isRipe_50 : decode cX2_isRipe 50 = .ok (.iand, 1) := by decide +kernel
theorem dX2_isRipe_51 : decode cX2_isRipe 51 = .ok (.iconst 1, 1) := by decide +kernel
theorem dX2_isRipe_52 : decode cX2_isRipe 52 = .ok (.if_icmp .ne 7, 3) := by decide +kernel
theorem dX2_isRipe_55 : decode cX2_isRipe 55 = .ok (.iconst 1, 1) := by decide +kernel
theorem dX2_isRipe_56 : decode cX2_isRipe 56 = .ok (.goto 4, 3) := by decide +kernel
theorem dX2_isRipe_59 : decode cX2_isRipe 59 = .ok (.iconst 0, 1) := by decide +kernel
theorem dX2_isRipe_60 : decode cX2_isRipe 60 = .ok (.istore 6, 2) := by decide +kernel
theorem dX2_isRipe_62 : decode cX2_isRipe 62 = .ok (.aload_n 0, 1) := by decide +kernel
theorem dX2_isRipe_63 : decode cX2_isRipe 63 = .ok (.getfield 23, 3) := by decide +kernel
theorem dX2_isRipe_66 : decode cX2_isRipe 66 = .ok (.iload_n 1, 1) := by decide +kernel
theorem dX2_isRipe_67 : decode cX2_isRipe 67 = .ok (.aaload, 1) := by decide +kernel
theorem dX2_isRipe_68 : decode cX2_isRipe 68 = .ok (.getfield 63, 3) := by decide +kernel
theorem dX2_isRipe_71 : decode cX2_isRipe 71 = .ok (.tableswitch 68 1 3 #[25, 36, 52], 25) := by decide +kernel
theorem dX2_isRipe_96 : decode cX2_isRipe 96 = .ok (.iload 5, 2) := by decide +kernel
theorem dX2_isRipe_98 : decode cX2_isRipe 98 = .ok (.ifCond .ne 7, 3) := by decide +kernel
theorem dX2_isRipe_101 : decode cX2_isRipe 101 = .ok (.iconst 1, 1) := by decide +kernel
theorem dX2_isRipe_102 : decode cX2_isRipe 102 = .ok (.goto 4, 3) := by decide +kernel
theorem dX2_isRipe_105 : decode cX2_isRipe 105 = .ok (.iconst 0, 1) := by decide +kernel
theorem dX2_isRipe_106 : decode cX2_isRipe 106 = .ok (.ireturn, 1) := by decide +kernel
theorem dX2_isRipe_107 : decode cX2_isRipe 107 = .ok (.iload 5, 2) := by decide +kernel
theorem dX2_isRipe_109 : decode cX2_isRipe 109 = .ok (.ifCond .eq 12, 3) := by decide +kernel
theorem dX2_isRipe_112 : decode cX2_isRipe 112 = .ok (.iload 6, 2) := by decide +kernel
theorem dX2_isRipe_114 : decode cX2_isRipe 114 = .ok (.ifCond .eq 7, 3) := by decide +kernel
theorem dX2_isRipe_117 : decode cX2_isRipe 117 = .ok (.iconst 1, 1) := by decide +kernel
theorem dX2_isRipe_118 : decode cX2_isRipe 118 = .ok (.goto 4, 3) := by decide +kernel
theorem dX2_isRipe_121 : decode cX2_isRipe 121 = .ok (.iconst 0, 1) := by decide +kernel
theorem dX2_isRipe_122 : decode cX2_isRipe 122 = .ok (.ireturn, 1) := by decide +kernel
theorem dX2_isRipe_123 : decode cX2_isRipe 123 = .ok (.iload 5, 2) := by decide +kernel
theorem dX2_isRipe_125 : decode cX2_isRipe 125 = .ok (.ifCond .ne 8, 3) := by decide +kernel
theorem dX2_isRipe_128 : decode cX2_isRipe 128 = .ok (.iload 6, 2) := by decide +kernel
theorem dX2_isRipe_130 : decode cX2_isRipe 130 = .ok (.ifCond .eq 7, 3) := by decide +kernel
theorem dX2_isRipe_133 : decode cX2_isRipe 133 = .ok (.iconst 1, 1) := by decide +kernel
theorem dX2_isRipe_134 : decode cX2_isRipe 134 = .ok (.goto 4, 3) := by decide +kernel
theorem dX2_isRipe_137 : decode cX2_isRipe 137 = .ok (.iconst 0, 1) := by decide +kernel
theorem dX2_isRipe_138 : decode cX2_isRipe 138 = .ok (.ireturn, 1) := by decide +kernel
theorem dX2_isRipe_139 : decode cX2_isRipe 139 = .ok (.iload 5, 2) := by decide +kernel
theorem dX2_isRipe_141 : decode cX2_isRipe 141 = .ok (.ireturn, 1) := by decide +kernel
theorem dX2_oddsOfRain_0 : decode cX2_oddsOfRain 0 = .ok (.iload_n 2, 1) := by decide +kernel
theorem dX2_oddsOfRain_1 : decode cX2_oddsOfRain 1 = .ok (.iload_n 1, 1) := by decide +kernel
theorem dX2_oddsOfRain_2 : decode cX2_oddsOfRain 2 = .ok (.ishr, 1) := by decide +kernel
theorem dX2_oddsOfRain_3 : decode cX2_oddsOfRain 3 = .ok (.iconst 1, 1) := by decide +kernel
theorem dX2_oddsOfRain_4 : decode cX2_oddsOfRain 4 = .ok (.iand, 1) := by decide +kernel
theorem dX2_oddsOfRain_5 : decode cX2_oddsOfRain 5 = .ok (.iconst 1, 1) := by decide +kernel
theorem dX2_oddsOfRain_6 : decode cX2_oddsOfRain 6 = .ok (.if_icmp .ne 12, 3) := by decide +kernel
theorem dX2_oddsOfRain_9 : decode cX2_oddsOfRain 9 = .ok (.aload_n 0, 1) := by decide +kernel
theorem dX2_oddsOfRain_10 : decode cX2_oddsOfRain 10 = .ok (.getfield 15, 3) := by decide +kernel
theorem dX2_oddsOfRain_13 : decode cX2_oddsOfRain 13 = .ok (.iload_n 1, 1) := by decide +kernel
theorem dX2_oddsOfRain_14 : decode cX2_oddsOfRain 14 = .ok (.iaload, 1) := by decide +kernel
theorem dX2_oddsOfRain_15 : decode cX2_oddsOfRain 15 = .ok (.goto 9, 3) := by decide +kernel
theorem dX2_oddsOfRain_18 : decode cX2_oddsOfRain 18 = .ok (.aload_n 0, 1) := by decide +kernel
theorem dX2_oddsOfRain_19 : decode cX2_oddsOfRain 19 = .ok (.getfield 9, 3) := by decide +kernel
theorem dX2_oddsOfRain_22 : decode cX2_oddsOfRain 22 = .ok (.iload_n 1, 1) := by decide +kernel
theorem dX2_oddsOfRain_23 : decode cX2_oddsOfRain 23 = .ok (.iaload, 1) := by decide +kernel
theorem dX2_oddsOfRain_24 : decode cX2_oddsOfRain 24 = .ok (.ireturn, 1) := by decide +kernel
theorem dX2_oddsOf_0 : decode cX2_oddsOf 0 = .ok (.lconst 1, 1) := by decide +kernel
theorem dX2_oddsOf_1 : decode cX2_oddsOf 1 = .ok (.lstore_n 3, 1) := by decide +kernel
theorem dX2_oddsOf_2 : decode cX2_oddsOf 2 = .ok (.iconst 0, 1) := by decide +kernel
theorem dX2_oddsOf_3 : decode cX2_oddsOf 3 = .ok (.istore 5, 2) := by decide +kernel
theorem dX2_oddsOf_5 : decode cX2_oddsOf 5 = .ok (.iload 5, 2) := by decide +kernel
theorem dX2_oddsOf_7 : decode cX2_oddsOf 7 = .ok (.aload_n 0, 1) := by decide +kernel
theorem dX2_oddsOf_8 : decode cX2_oddsOf 8 = .ok (.getfield 37, 3) := by decide +kernel
theorem dX2_oddsOf_11 : decode cX2_oddsOf 11 = .ok (.if_icmp .ge 43, 3) := by decide +kernel
theorem dX2_oddsOf_14 : decode cX2_oddsOf 14 = .ok (.aload_n 0, 1) := by decide +kernel
theorem dX2_oddsOf_15 : decode cX2_oddsOf 15 = .ok (.iload 5, 2) := by decide +kernel
theorem dX2_oddsOf_17 : decode cX2_oddsOf 17 = .ok (.iload_n 2, 1) := by decide +kernel
theorem dX2_oddsOf_18 : decode cX2_oddsOf 18 = .ok (.invokevirtual 66, 3) := by decide +kernel
theorem dX2_oddsOf_21 : decode cX2_oddsOf 21 = .ok (.istore 6, 2) := by decide +kernel
theorem dX2_oddsOf_23 : decode cX2_oddsOf 23 = .ok (.lload_n 3, 1) := by decide +kernel
theorem dX2_oddsOf_24 : decode cX2_oddsOf 24 = .ok (.iload_n 1, 1) := by decide +kernel
theorem dX2_oddsOf_25 : decode cX2_oddsOf 25 = .ok (.iload 5, 2) := by decide +kernel
theorem dX2_oddsOf_27 : decode cX2_oddsOf 27 = .ok (.ishr, 1) := by decide +kernel
theorem dX2_oddsOf_28 : decode cX2_oddsOf 28 = .ok (.iconst 1, 1) := by decide +kernel
theorem dX2_oddsOf_29 : decode cX2_oddsOf 29 = .ok (.iand, 1) := by decide +kernel
theorem dX2_oddsOf_30 : decode cX2_oddsOf 30 = .ok (.iconst 1, 1) := by decide +kernel
theorem dX2_oddsOf_31 : decode cX2_oddsOf 31 = .ok (.if_icmp .ne 9, 3) := by decide +kernel
theorem dX2_oddsOf_34 : decode cX2_oddsOf 34 = .ok (.iload 6, 2) := by decide +kernel
theorem dX2_oddsOf_36 : decode cX2_oddsOf 36 = .ok (.i2l, 1) := by decide +kernel
theorem dX2_oddsOf_37 : decode cX2_oddsOf 37 = .ok (.goto 9, 3) := by decide +kernel
theorem dX2_oddsOf_40 : decode cX2_oddsOf 40 = .ok (.bipush 8, 2) := by decide +kernel
theorem dX2_oddsOf_42 : decode cX2_oddsOf 42 = .ok (.iload 6, 2) := by decide +kernel
theorem dX2_oddsOf_44 : decode cX2_oddsOf 44 = .ok (.isub, 1) := by decide +kernel
theorem dX2_oddsOf_45 : decode cX2_oddsOf 45 = .ok (.i2l, 1) := by decide +kernel
theorem dX2_oddsOf_46 : decode cX2_oddsOf 46 = .ok (.lmul, 1) := by decide +kernel
theorem dX2_oddsOf_47 : decode cX2_oddsOf 47 = .ok (.lstore_n 3, 1) := by decide +kernel
theorem dX2_oddsOf_48 : decode cX2_oddsOf 48 = .ok (.iinc 5 1, 3) := by decide +kernel
theorem dX2_oddsOf_51 : decode cX2_oddsOf 51 = .ok (.goto (-46), 3) := by decide +kernel
theorem dX2_oddsOf_54 : decode cX2_oddsOf 54 = .ok (.lload_n 3, 1) := by decide +kernel
theorem dX2_oddsOf_55 : decode cX2_oddsOf 55 = .ok (.lreturn, 1) := by decide +kernel
theorem dX2_gainOf_0 : decode cX2_gainOf 0 = .ok (.iconst 0, 1) := by decide +kernel
theorem dX2_gainOf_1 : decode cX2_gainOf 1 = .ok (.istore_n 3, 1) := by decide +kernel
theorem dX2_gainOf_2 : decode cX2_gainOf 2 = .ok (.iconst 0, 1) := by decide +kernel
theorem dX2_gainOf_3 : decode cX2_gainOf 3 = .ok (.istore 4, 2) := by decide +kernel
theorem dX2_gainOf_5 : decode cX2_gainOf 5 = .ok (.iload 4, 2) := by decide +kernel
theorem dX2_gainOf_7 : decode cX2_gainOf 7 = .ok (.aload_n 0, 1) := by decide +kernel
theorem dX2_gainOf_8 : decode cX2_gainOf 8 = .ok (.getfield 47, 3) := by decide +kernel
theorem dX2_gainOf_11 : decode cX2_gainOf 11 = .ok (.if_icmp .ge 58, 3) := by decide +kernel
theorem dX2_gainOf_14 : decode cX2_gainOf 14 = .ok (.iload_n 1, 1) := by decide +kernel
theorem dX2_gainOf_15 : decode cX2_gainOf 15 = .ok (.iload 4, 2) := by decide +kernel
theorem dX2_gainOf_17 : decode cX2_gainOf 17 = .ok (.ishr, 1) := by decide +kernel
theorem dX2_gainOf_18 : decode cX2_gainOf 18 = .ok (.iconst 1, 1) := by decide +kernel
theorem dX2_gainOf_19 : decode cX2_gainOf 19 = .ok (.iand, 1) := by decide +kernel
theorem dX2_gainOf_20 : decode cX2_gainOf 20 = .ok (.iconst 1, 1) := by decide +kernel
theorem dX2_gainOf_21 : decode cX2_gainOf 21 = .ok (.if_icmp .ne 42, 3) := by decide +kernel
theorem dX2_gainOf_24 : decode cX2_gainOf 24 = .ok (.iload_n 3, 1) := by decide +kernel
theorem dX2_gainOf_25 : decode cX2_gainOf 25 = .ok (.aload_n 0, 1) := by decide +kernel
theorem dX2_gainOf_26 : decode cX2_gainOf 26 = .ok (.getfield 28, 3) := by decide +kernel
theorem dX2_gainOf_29 : decode cX2_gainOf 29 = .ok (.iload 4, 2) := by decide +kernel
theorem dX2_gainOf_31 : decode cX2_gainOf 31 = .ok (.iaload, 1) := by decide +kernel
theorem dX2_gainOf_32 : decode cX2_gainOf 32 = .ok (.isub, 1) := by decide +kernel
theorem dX2_gainOf_33 : decode cX2_gainOf 33 = .ok (.istore_n 3, 1) := by decide +kernel
theorem dX2_gainOf_34 : decode cX2_gainOf 34 = .ok (.iload_n 3, 1) := by decide +kernel
theorem dX2_gainOf_35 : decode cX2_gainOf 35 = .ok (.aload_n 0, 1) := by decide +kernel
theorem dX2_gainOf_36 : decode cX2_gainOf 36 = .ok (.getfield 34, 3) := by decide +kernel
theorem dX2_gainOf_39 : decode cX2_gainOf 39 = .ok (.iload 4, 2) := by decide +kernel
theorem dX2_gainOf_41 : decode cX2_gainOf 41 = .ok (.iaload, 1) := by decide +kernel
theorem dX2_gainOf_42 : decode cX2_gainOf 42 = .ok (.iload_n 2, 1) := by decide +kernel
theorem dX2_gainOf_43 : decode cX2_gainOf 43 = .ok (.ishr, 1) := by decide +kernel
theorem dX2_gainOf_44 : decode cX2_gainOf 44 = .ok (.iconst 1, 1) := by decide +kernel
theorem dX2_gainOf_45 : decode cX2_gainOf 45 = .ok (.iand, 1) := by decide +kernel
theorem dX2_gainOf_46 : decode cX2_gainOf 46 = .ok (.iconst 1, 1) := by decide +kernel
theorem dX2_gainOf_47 : decode cX2_gainOf 47 = .ok (.if_icmp .ne 13, 3) := by decide +kernel
theorem dX2_gainOf_50 : decode cX2_gainOf 50 = .ok (.aload_n 0, 1) := by decide +kernel
theorem dX2_gainOf_51 : decode cX2_gainOf 51 = .ok (.getfield 31, 3) := by decide +kernel
theorem dX2_gainOf_54 : decode cX2_gainOf 54 = .ok (.iload 4, 2) := by decide +kernel
theorem dX2_gainOf_56 : decode cX2_gainOf 56 = .ok (.iaload, 1) := by decide +kernel
theorem dX2_gainOf_57 : decode cX2_gainOf 57 = .ok (.goto 4, 3) := by decide +kernel
theorem dX2_gainOf_60 : decode cX2_gainOf 60 = .ok (.iconst 0, 1) := by decide +kernel
theorem dX2_gainOf_61 : decode cX2_gainOf 61 = .ok (.iadd, 1) := by decide +kernel
theorem dX2_gainOf_62 : decode cX2_gainOf 62 = .ok (.istore_n 3, 1) := by decide +kernel
theorem dX2_gainOf_63 : decode cX2_gainOf 63 = .ok (.iinc 4 1, 3) := by decide +kernel
theorem dX2_gainOf_66 : decode cX2_gainOf 66 = .ok (.goto (-61), 3) := by decide +kernel
theorem dX2_gainOf_69 : decode cX2_gainOf 69 = .ok (.iload_n 3, 1) := by decide +kernel
theorem dX2_gainOf_70 : decode cX2_gainOf 70 = .ok (.ireturn, 1) := by decide +kernel
theorem dX2_leastGain_0 : decode cX2_leastGain 0 = .ok (.aload_n 0, 1) := by decide +kernel
theorem dX2_leastGain_1 : decode cX2_leastGain 1 = .ok (.iload_n 1, 1) := by decide +kernel
theorem dX2_leastGain_2 : decode cX2_leastGain 2 = .ok (.iconst 0, 1) := by decide +kernel
theorem dX2_leastGain_3 : decode cX2_leastGain 3 = .ok (.invokevirtual 70, 3) := by decide +kernel
theorem dX2_leastGain_6 : decode cX2_leastGain 6 = .ok (.istore_n 2, 1) := by decide +kernel
theorem dX2_leastGain_7 : decode cX2_leastGain 7 = .ok (.iconst 1, 1) := by decide +kernel
theorem dX2_leastGain_8 : decode cX2_leastGain 8 = .ok (.istore_n 3, 1) := by decide +kernel
theorem dX2_leastGain_9 : decode cX2_leastGain 9 = .ok (.iload_n 3, 1) := by decide +kernel
theorem dX2_leastGain_10 : decode cX2_leastGain 10 = .ok (.iconst 1, 1) := by decide +kernel
theorem dX2_leastGain_11 : decode cX2_leastGain 11 = .ok (.aload_n 0, 1) := by decide +kernel
theorem dX2_leastGain_12 : decode cX2_leastGain 12 = .ok (.getfield 37, 3) := by decide +kernel
theorem dX2_leastGain_15 : decode cX2_leastGain 15 = .ok (.ishl, 1) := by decide +kernel
theorem dX2_leastGain_16 : decode cX2_leastGain 16 = .ok (.if_icmp .ge 20, 3) := by decide +kernel
theorem dX2_leastGain_19 : decode cX2_leastGain 19 = .ok (.iload_n 2, 1) := by decide +kernel
theorem dX2_leastGain_20 : decode cX2_leastGain 20 = .ok (.aload_n 0, 1) := by decide +kernel
theorem dX2_leastGain_21 : decode cX2_leastGain 21 = .ok (.iload_n 1, 1) := by decide +kernel
theorem dX2_leastGain_22 : decode cX2_leastGain 22 = .ok (.iload_n 3, 1) := by decide +kernel
theorem dX2_leastGain_23 : decode cX2_leastGain 23 = .ok (.invokevirtual 70, 3) := by decide +kernel
theorem dX2_leastGain_26 : decode cX2_leastGain 26 = .ok (.invokestatic 73, 3) := by decide +kernel
theorem dX2_leastGain_29 : decode cX2_leastGain 29 = .ok (.istore_n 2, 1) := by decide +kernel
theorem dX2_leastGain_30 : decode cX2_leastGain 30 = .ok (.iinc 3 1, 3) := by decide +kernel
theorem dX2_leastGain_33 : decode cX2_leastGain 33 = .ok (.goto (-24), 3) := by decide +kernel
theorem dX2_leastGain_36 : decode cX2_leastGain 36 = .ok (.iload_n 2, 1) := by decide +kernel
theorem dX2_leastGain_37 : decode cX2_leastGain 37 = .ok (.ireturn, 1) := by decide +kernel
theorem dX3_init_0 : decode cX3_init 0 = .ok (.aload_n 0, 1) := by decide +kernel
theorem dX3_init_1 : decode cX3_init 1 = .ok (.invokespecial 1, 3) := by decide +kernel
theorem dX3_init_4 : decode cX3_init 4 = .ok (.aload_n 0, 1) := by decide +kernel
theorem dX3_init_5 : decode cX3_init 5 = .ok (.new 7, 3) := by decide +kernel
theorem dX3_init_8 : decode cX3_init 8 = .ok (.dup, 1) := by decide +kernel
theorem dX3_init_9 : decode cX3_init 9 = .ok (.invokespecial 9, 3) := by decide +kernel
theorem dX3_init_12 : decode cX3_init 12 = .ok (.putfield 10, 3) := by decide +kernel
theorem dX3_init_15 : decode cX3_init 15 = .ok (.aload_n 0, 1) := by decide +kernel
theorem dX3_init_16 : decode cX3_init 16 = .ok (.new 16, 3) := by decide +kernel
theorem dX3_init_19 : decode cX3_init 19 = .ok (.dup, 1) := by decide +kernel
theorem dX3_init_20 : decode cX3_init 20 = .ok (.invokespecial 18, 3) := by decide +kernel
theorem dX3_init_23 : decode cX3_init 23 = .ok (.putfield 19, 3) := by decide +kernel
theorem dX3_init_26 : decode cX3_init 26 = .ok (.return_, 1) := by decide +kernel
theorem dX3_lay_0 : decode cX3_lay 0 = .ok (.aload_n 0, 1) := by decide +kernel
theorem dX3_lay_1 : decode cX3_lay 1 = .ok (.iconst 1, 1) := by decide +kernel
theorem dX3_lay_2 : decode cX3_lay 2 = .ok (.putfield 23, 3) := by decide +kernel
theorem dX3_lay_5 : decode cX3_lay 5 = .ok (.aload_n 0, 1) := by decide +kernel
theorem dX3_lay_6 : decode cX3_lay 6 = .ok (.getfield 10, 3) := by decide +kernel
theorem dX3_lay_9 : decode cX3_lay 9 = .ok (.aload_n 1, 1) := by decide +kernel
theorem dX3_lay_10 : decode cX3_lay 10 = .ok (.invokevirtual 27, 3) := by decide +kernel
theorem dX3_lay_13 : decode cX3_lay 13 = .ok (.aload_n 0, 1) := by decide +kernel
theorem dX3_lay_14 : decode cX3_lay 14 = .ok (.getfield 19, 3) := by decide +kernel
theorem dX3_lay_17 : decode cX3_lay 17 = .ok (.aload_n 2, 1) := by decide +kernel
theorem dX3_lay_18 : decode cX3_lay 18 = .ok (.invokevirtual 31, 3) := by decide +kernel
theorem dX3_lay_21 : decode cX3_lay 21 = .ok (.return_, 1) := by decide +kernel
theorem dX4_init_0 : decode cX4_init 0 = .ok (.aload_n 0, 1) := by decide +kernel
theorem dX4_init_1 : decode cX4_init 1 = .ok (.invokespecial 3, 3) := by decide +kernel
theorem dX4_init_4 : decode cX4_init 4 = .ok (.aload_n 0, 1) := by decide +kernel
theorem dX4_init_5 : decode cX4_init 5 = .ok (.bipush 30, 2) := by decide +kernel
theorem dX4_init_7 : decode cX4_init 7 = .ok (.anewarray 9, 3) := by decide +kernel
theorem dX4_init_10 : decode cX4_init 10 = .ok (.putfield 11, 3) := by decide +kernel
theorem dX4_init_13 : decode cX4_init 13 = .ok (.iconst 0, 1) := by decide +kernel
theorem dX4_init_14 : decode cX4_init 14 = .ok (.istore_n 1, 1) := by decide +kernel
theorem dX4_init_15 : decode cX4_init 15 = .ok (.iload_n 1, 1) := by decide +kernel
theorem dX4_init_16 : decode cX4_init 16 = .ok (.bipush 30, 2) := by decide +kernel
theorem dX4_init_18 : decode cX4_init 18 = .ok (.if_icmp .ge 22, 3) := by decide +kernel
theorem dX4_init_21 : decode cX4_init 21 = .ok (.aload_n 0, 1) := by decide +kernel
theorem dX4_init_22 : decode cX4_init 22 = .ok (.getfield 11, 3) := by decide +kernel
theorem dX4_init_25 : decode cX4_init 25 = .ok (.iload_n 1, 1) := by decide +kernel
theorem dX4_init_26 : decode cX4_init 26 = .ok (.new 9, 3) := by decide +kernel
theorem dX4_init_29 : decode cX4_init 29 = .ok (.dup, 1) := by decide +kernel
theorem dX4_init_30 : decode cX4_init 30 = .ok (.invokespecial 17, 3) := by decide +kernel
theorem dX4_init_33 : decode cX4_init 33 = .ok (.aastore, 1) := by decide +kernel
theorem dX4_init_34 : decode cX4_init 34 = .ok (.iinc 1 1, 3) := by decide +kernel
theorem dX4_init_37 : decode cX4_init 37 = .ok (.goto (-22), 3) := by decide +kernel
theorem dX4_init_40 : decode cX4_init 40 = .ok (.return_, 1) := by decide +kernel
theorem dX4_forget_0 : decode cX4_forget 0 = .ok (.aload_n 0, 1) := by decide +kernel
theorem dX4_forget_1 : decode cX4_forget 1 = .ok (.iconst 0, 1) := by decide +kernel
theorem dX4_forget_2 : decode cX4_forget 2 = .ok (.putfield 18, 3) := by decide +kernel
theorem dX4_forget_5 : decode cX4_forget 5 = .ok (.return_, 1) := by decide +kernel
theorem dX4_keep_0 : decode cX4_keep 0 = .ok (.aload_n 0, 1) := by decide +kernel
theorem dX4_keep_1 : decode cX4_keep 1 = .ok (.getfield 11, 3) := by decide +kernel
theorem dX4_keep_4 : decode cX4_keep 4 = .ok (.aload_n 0, 1) := by decide +kernel
theorem dX4_keep_5 : decode cX4_keep 5 = .ok (.getfield 22, 3) := by decide +kernel
theorem dX4_keep_8 : decode cX4_keep 8 = .ok (.aaload, 1) := by decide +kernel
theorem dX4_keep_9 : decode cX4_keep 9 = .ok (.aload_n 1, 1) := by decide +kernel
theorem dX4_keep_10 : decode cX4_keep 10 = .ok (.invokevirtual 25, 3) := by decide +kernel
theorem dX4_keep_13 : decode cX4_keep 13 = .ok (.aload_n 0, 1) := by decide +kernel
theorem dX4_keep_14 : decode cX4_keep 14 = .ok (.aload_n 0, 1) := by decide +kernel
theorem dX4_keep_15 : decode cX4_keep 15 = .ok (.getfield 22, 3) := by decide +kernel
theorem dX4_keep_18 : decode cX4_keep 18 = .ok (.iconst 1, 1) := by decide +kernel
theorem dX4_keep_19 : decode cX4_keep 19 = .ok (.iadd, 1) := by decide +kernel
theorem dX4_keep_20 : decode cX4_keep 20 = .ok (.bipush 30, 2) := by decide +kernel
theorem dX4_keep_22 : decode cX4_keep 22 = .ok (.if_icmp .ge 12, 3) := by decide +kernel
theorem dX4_keep_25 : decode cX4_keep 25 = .ok (.aload_n 0, 1) := by decide +kernel
theorem dX4_keep_26 : decode cX4_keep 26 = .ok (.getfield 22, 3) := by decide +kernel
theorem dX4_keep_29 : decode cX4_keep 29 = .ok (.iconst 1, 1) := by decide +kernel
theorem dX4_keep_30 : decode cX4_keep 30 = .ok (.iadd, 1) := by decide +kernel
theorem dX4_keep_31 : decode cX4_keep 31 = .ok (.goto 4, 3) := by decide +kernel
theorem dX4_keep_34 : decode cX4_keep 34 = .ok (.iconst 0, 1) := by decide +kernel
theorem dX4_keep_35 : decode cX4_keep 35 = .ok (.putfield 22, 3) := by decide +kernel
theorem dX4_keep_38 : decode cX4_keep 38 = .ok (.aload_n 0, 1) := by decide +kernel
theorem dX4_keep_39 : decode cX4_keep 39 = .ok (.aload_n 0, 1) := by decide +kernel
theorem dX4_keep_40 : decode cX4_keep 40 = .ok (.getfield 18, 3) := by decide +kernel
theorem dX4_keep_43 : decode cX4_keep 43 = .ok (.iconst 1, 1) := by decide +kernel
theorem dX4_keep_44 : decode cX4_keep 44 = .ok (.iadd, 1) := by decide +kernel
theorem dX4_keep_45 : decode cX4_keep 45 = .ok (.bipush 30, 2) := by decide +kernel
theorem dX4_keep_47 : decode cX4_keep 47 = .ok (.invokestatic 29, 3) := by decide +kernel
theorem dX4_keep_50 : decode cX4_keep 50 = .ok (.putfield 18, 3) := by decide +kernel
theorem dX4_keep_53 : decode cX4_keep 53 = .ok (.return_, 1) := by decide +kernel
theorem dX4_giveBack_0 : decode cX4_giveBack 0 = .ok (.aload_n 0, 1) := by decide +kernel
theorem dX4_giveBack_1 : decode cX4_giveBack 1 = .ok (.getfield 18, 3) := by decide +kernel
theorem dX4_giveBack_4 : decode cX4_giveBack 4 = .ok (.ifCond .ne 5, 3) := by decide +kernel
theorem dX4_giveBack_7 : decode cX4_giveBack 7 = .ok (.iconst 0, 1) := by decide +kernel
theorem dX4_giveBack_8 : decode cX4_giveBack 8 = .ok (.ireturn, 1) := by decide +kernel
theorem dX4_giveBack_9 : decode cX4_giveBack 9 = .ok (.aload_n 0, 1) := by decide +kernel
theorem dX4_giveBack_10 : decode cX4_giveBack 10 = .ok (.aload_n 0, 1) := by decide +kernel
theorem dX4_giveBack_11 : decode cX4_giveBack 11 = .ok (.getfield 22, 3) := by decide +kernel
theorem dX4_giveBack_14 : decode cX4_giveBack 14 = .ok (.ifCond .le 12, 3) := by decide +kernel
theorem dX4_giveBack_17 : decode cX4_giveBack 17 = .ok (.aload_n 0, 1) := by decide +kernel
theorem dX4_giveBack_18 : decode cX4_giveBack 18 = .ok (.getfield 22, 3) := by decide +kernel
theorem dX4_giveBack_21 : decode cX4_giveBack 21 = .ok (.iconst 1, 1) := by decide +kernel
theorem dX4_giveBack_22 : decode cX4_giveBack 22 = .ok (.isub, 1) := by decide +kernel
theorem dX4_giveBack_23 : decode cX4_giveBack 23 = .ok (.goto 5, 3) := by decide +kernel
theorem dX4_giveBack_26 : decode cX4_giveBack 26 = .ok (.bipush 29, 2) := by decide +kernel
theorem dX4_giveBack_28 : decode cX4_giveBack 28 = .ok (.putfield 22, 3) := by decide +kernel
theorem dX4_giveBack_31 : decode cX4_giveBack 31 = .ok (.aload_n 0, 1) := by decide +kernel
theorem dX4_giveBack_32 : decode cX4_giveBack 32 = .ok (.dup, 1) := by decide +kernel
theorem dX4_giveBack_33 : decode cX4_giveBack 33 = .ok (.getfield 18, 3) := by decide +kernel
theorem dX4_giveBack_36 : decode cX4_giveBack 36 = .ok (.iconst 1, 1) := by decide +kernel
theorem dX4_giveBack_37 : decode cX4_giveBack 37 = .ok (.isub, 1) := by decide +kernel
theorem dX4_giveBack_38 : decode cX4_giveBack 38 = .ok (.putfield 18, 3) := by decide +kernel
theorem dX4_giveBack_41 : decode cX4_giveBack 41 = .ok (.aload_n 1, 1) := by decide +kernel
theorem dX4_giveBack_42 : decode cX4_giveBack 42 = .ok (.aload_n 0, 1) := by decide +kernel
theorem dX4_giveBack_43 : decode cX4_giveBack 43 = .ok (.getfield 11, 3) := by decide +kernel
theorem dX4_giveBack_46 : decode cX4_giveBack 46 = .ok (.aload_n 0, 1) := by decide +kernel
theorem dX4_giveBack_47 : decode cX4_giveBack 47 = .ok (.getfield 22, 3) := by decide +kernel
theorem dX4_giveBack_50 : decode cX4_giveBack 50 = .ok (.aaload, 1) := by decide +kernel
theorem dX4_giveBack_51 : decode cX4_giveBack 51 = .ok (.invokevirtual 25, 3) := by decide +kernel
theorem dX4_giveBack_54 : decode cX4_giveBack 54 = .ok (.iconst 1, 1) := by decide +kernel
theorem dX4_giveBack_55 : decode cX4_giveBack 55 = .ok (.ireturn, 1) := by decide +kernel
theorem dX5_init_0 : decode cX5_init 0 = .ok (.aload_n 0, 1) := by decide +kernel
theorem dX5_init_1 : decode cX5_init 1 = .ok (.invokespecial 3, 3) := by decide +kernel
theorem dX5_init_4 : decode cX5_init 4 = .ok (.aload_n 0, 1) := by decide +kernel
theorem dX5_init_5 : decode cX5_init 5 = .ok (.sipush 1000, 3) := by decide +kernel
theorem dX5_init_8 : decode cX5_init 8 = .ok (.newarray .char, 2) := by decide +kernel
theorem dX5_init_10 : decode cX5_init 10 = .ok (.putfield 9, 3) := by decide +kernel
theorem dX5_init_13 : decode cX5_init 13 = .ok (.aload_n 0, 1) := by decide +kernel
theorem dX5_init_14 : decode cX5_init 14 = .ok (.sipush 1001, 3) := by decide +kernel
theorem dX5_init_17 : decode cX5_init 17 = .ok (.newarray .int, 2) := by decide +kernel
theorem dX5_init_19 : decode cX5_init 19 = .ok (.putfield 15, 3) := by decide +kernel
theorem dX5_init_22 : decode cX5_init 22 = .ok (.aload_n 0, 1) := by decide +kernel
theorem dX5_init_23 : decode cX5_init 23 = .ok (.sipush 1001, 3) := by decide +kernel
theorem dX5_init_26 : decode cX5_init 26 = .ok (.newarray .int, 2) := by decide +kernel
theorem dX5_init_28 : decode cX5_init 28 = .ok (.putfield 19, 3) := by decide +kernel
theorem dX5_init_31 : decode cX5_init 31 = .ok (.aload_n 0, 1) := by decide +kernel
theorem dX5_init_32 : decode cX5_init 32 = .ok (.sipush 1001, 3) := by decide +kernel
theorem dX5_init_35 : decode cX5_init 35 = .ok (.anewarray 22, 3) := by decide +kernel
theorem dX5_init_38 : decode cX5_init 38 = .ok (.putfield 24, 3) := by decide +kernel
theorem dX5_init_41 : decode cX5_init 41 = .ok (.iconst 0, 1) := by decide +kernel
theorem dX5_init_42 : decode cX5_init 42 = .ok (.istore_n 1, 1) := by decide +kernel
theorem dX5_init_43 : decode cX5_init 43 = .ok (.iload_n 1, 1) := by decide +kernel
theorem dX5_init_44 : decode cX5_init 44 = .ok (.sipush 1000, 3) := by decide +kernel
theorem dX5_init_47 : decode cX5_init 47 = .ok (.if_icmp .gt 18, 3) := by decide +kernel
theorem dX5_init_50 : decode cX5_init 50 = .ok (.aload_n 0, 1) := by decide +kernel
theorem dX5_init_51 : decode cX5_init 51 = .ok (.getfield 24, 3) := by decide +kernel
theorem dX5_init_54 : decode cX5_init 54 = .ok (.iload_n 1, 1) := by decide +kernel
theorem dX5_init_55 : decode cX5_init 55 = .ok (.getstatic 28, 3) := by decide +kernel
theorem dX5_init_58 : decode cX5_init 58 = .ok (.aastore, 1) := by decide +kernel
theorem dX5_init_59 : decode cX5_init 59 = .ok (.iinc 1 1, 3) := by decide +kernel
theorem dX5_init_62 : decode cX5_init 62 = .ok (.goto (-19), 3) := by decide +kernel
theorem dX5_init_65 : decode cX5_init 65 = .ok (.aload_n 0, 1) := by decide +kernel
theorem dX5_init_66 : decode cX5_init 66 = .ok (.sipush 1001, 3) := by decide +kernel
theorem dX5_init_69 : decode cX5_init 69 = .ok (.newarray .long, 2) := by decide +kernel
theorem dX5_init_71 : decode cX5_init 71 = .ok (.putfield 32, 3) := by decide +kernel
theorem dX5_init_74 : decode cX5_init 74 = .ok (.return_, 1) := by decide +kernel
theorem dX5_empty_0 : decode cX5_empty 0 = .ok (.aload_n 0, 1) := by decide +kernel
theorem dX5_empty_1 : decode cX5_empty 1 = .ok (.iconst 0, 1) := by decide +kernel
theorem dX5_empty_2 : decode cX5_empty 2 = .ok (.putfield 36, 3) := by decide +kernel
theorem dX5_empty_5 : decode cX5_empty 5 = .ok (.return_, 1) := by decide +kernel
theorem dX5_addBytes_0 : decode cX5_addBytes 0 = .ok (.bipush 56, 2) := by decide +kernel
theorem dX5_addBytes_2 : decode cX5_addBytes 2 = .ok (.istore_n 3, 1) := by decide +kernel
theorem dX5_addBytes_3 : decode cX5_addBytes 3 = .ok (.iload_n 3, 1) := by decide +kernel
theorem dX5_addBytes_4 : decode cX5_addBytes 4 = .ok (.ifCond .lt 72, 3) := by decide +kernel
theorem dX5_addBytes_7 : decode cX5_addBytes 7 = .ok (.lload_n 1, 1) := by decide +kernel
theorem dX5_addBytes_8 : decode cX5_addBytes 8 = .ok (.iload_n 3, 1) := by decide +kernel
theorem dX5_addBytes_9 : decode cX5_addBytes 9 = .ok (.lushr, 1) := by decide +kernel
theorem dX5_addBytes_10 : decode cX5_addBytes 10 = .ok (.l2i, 1) := by decide +kernel
theorem dX5_addBytes_11 : decode cX5_addBytes 11 = .ok (.sipush 255, 3) := by decide +kernel
theorem dX5_addBytes_14 : decode cX5_addBytes 14 = .ok (.iand, 1) := by decide +kernel
theorem dX5_addBytes_15 : decode cX5_addBytes 15 = .ok (.istore 4, 2) := by decide +kernel
theorem dX5_addBytes_17 : decode cX5_addBytes 17 = .ok (.aload_n 0, 1) := by decide +kernel
theorem dX5_addBytes_18 : decode cX5_addBytes 18 = .ok (.getfield 36, 3) := by decide +kernel
theorem dX5_addBytes_21 : decode cX5_addBytes 21 = .ok (.sipush 1000, 3) := by decide +kernel
theorem dX5_addBytes_24 : decode cX5_addBytes 24 = .ok (.if_icmp .ge 46, 3) := by decide +kernel
theorem dX5_addBytes_27 : decode cX5_addBytes 27 = .ok (.iload 4, 2) := by decide +kernel
theorem dX5_addBytes_29 : decode cX5_addBytes 29 = .ok (.bipush 10, 2) := by decide +kernel
theorem dX5_addBytes_31 : decode cX5_addBytes 31 = .ok (.if_icmp .eq 17, 3) := by decide +kernel
theorem dX5_addBytes_34 : decode cX5_addBytes 34 = .ok (.iload 4, 2) := by decide +kernel
theorem dX5_addBytes_36 : decode cX5_addBytes 36 = .ok (.bipush 32, 2) := by decide +kernel
theorem dX5_addBytes_38 : decode cX5_addBytes 38 = .ok (.if_icmp .lt 32, 3) := by decide +kernel
theorem dX5_addBytes_41 : decode cX5_addBytes 41 = .ok (.iload 4, 2) := by decide +kernel
theorem dX5_addBytes_43 : decode cX5_addBytes 43 = .ok (.bipush 126, 2) := by decide +kernel
theorem dX5_addBytes_45 : decode cX5_addBytes 45 = .ok (.if_icmp .gt 25, 3) := by decide +kernel
theorem dX5_addBytes_48 : decode cX5_addBytes 48 = .ok (.aload_n 0, 1) := by decide +kernel
theorem dX5_addBytes_49 : decode cX5_addBytes 49 = .ok (.getfield 9, 3) := by decide +kernel
theorem dX5_addBytes_52 : decode cX5_addBytes 52 = .ok (.aload_n 0, 1) := by decide +kernel
theorem dX5_addBytes_53 : decode cX5_addBytes 53 = .ok (.getfield 36, 3) := by decide +kernel
theorem dX5_addBytes_56 : decode cX5_addBytes 56 = .ok (.iload 4, 2) := by decide +kernel
theorem dX5_addBytes_58 : decode cX5_addBytes 58 = .ok (.i2c, 1) := by decide +kernel
theorem dX5_addBytes_59 : decode cX5_addBytes 59 = .ok (.castore, 1) := by decide +kernel
theorem dX5_addBytes_60 : decode cX5_addBytes 60 = .ok (.aload_n 0, 1) := by decide +kernel
theorem dX5_addBytes_61 : decode cX5_addBytes 61 = .ok (.dup, 1) := by decide +kernel
theorem dX5_addBytes_62 : decode cX5_addBytes 62 = .ok (.getfield 36, 3) := by decide +kernel
theorem dX5_addBytes_65 : decode cX5_addBytes 65 = .ok (.iconst 1, 1) := by decide +kernel
theorem dX5_addBytes_66 : decode cX5_addBytes 66 = .ok (.iadd, 1) := by decide +kernel
theorem dX5_addBytes_67 : decode cX5_addBytes 67 = .ok (.putfield 36, 3) := by decide +kernel
theorem dX5_addBytes_70 : decode cX5_addBytes 70 = .ok (.iinc 3 (-8), 3) := by decide +kernel
theorem dX5_addBytes_73 : decode cX5_addBytes 73 = .ok (.goto (-70), 3) := by decide +kernel
theorem dX5_addBytes_76 : decode cX5_addBytes 76 = .ok (.return_, 1) := by decide +kernel
theorem dX5_split_0 : decode cX5_split 0 = .ok (.iconst 0, 1) := by decide +kernel
theorem dX5_split_1 : decode cX5_split 1 = .ok (.istore_n 1, 1) := by decide +kernel
theorem dX5_split_2 : decode cX5_split 2 = .ok (.aload_n 0, 1) := by decide +kernel
theorem dX5_split_3 : decode cX5_split 3 = .ok (.iconst 0, 1) := by decide +kernel
theorem dX5_split_4 : decode cX5_split 4 = .ok (.putfield 40, 3) := by decide +kernel
theorem dX5_split_7 : decode cX5_split 7 = .ok (.iconst 0, 1) := by decide +kernel
theorem dX5_split_8 : decode cX5_split 8 = .ok (.istore_n 2, 1) := by decide +kernel
theorem dX5_split_9 : decode cX5_split 9 = .ok (.iload_n 2, 1) := by decide +kernel
theorem dX5_split_10 : decode cX5_split 10 = .ok (.sipush 1000, 3) := by decide +kernel
theorem dX5_split_13 : decode cX5_split 13 = .ok (.if_icmp .ge 81, 3) := by decide +kernel
theorem dX5_split_16 : decode cX5_split 16 = .ok (.iload_n 1, 1) := by decide +kernel
theorem dX5_split_17 : decode cX5_split 17 = .ok (.aload_n 0, 1) := by decide +kernel
theorem dX5_split_18 : decode cX5_split 18 = .ok (.getfield 36, 3) := by decide +kernel
theorem dX5_split_21 : decode cX5_split 21 = .ok (.if_icmp .ge 73, 3) := by decide +kernel
theorem dX5_split_24 : decode cX5_split 24 = .ok (.aload_n 0, 1) := by decide +kernel
theorem dX5_split_25 : decode cX5_split 25 = .ok (.getfield 9, 3) := by decide +kernel
theorem dX5_split_28 : decode cX5_split 28 = .ok (.iload_n 1, 1) := by decide +kernel
theorem dX5_split_29 : decode cX5_split 29 = .ok (.caload, 1) := by decide +kernel
theorem dX5_split_30 : decode cX5_split 30 = .ok (.istore_n 3, 1) := by decide +kernel
theorem dX5_split_31 : decode cX5_split 31 = .ok (.iload_n 3, 1) := by decide +kernel
theorem dX5_split_32 : decode cX5_split 32 = .ok (.bipush 10, 2) := by decide +kernel
theorem dX5_split_34 : decode cX5_split 34 = .ok (.if_icmp .eq 9, 3) := by decide +kernel
theorem dX5_split_37 : decode cX5_split 37 = .ok (.iload_n 3, 1) := by decide +kernel
theorem dX5_split_38 : decode cX5_split 38 = .ok (.bipush 32, 2) := by decide +kernel
theorem dX5_split_40 : decode cX5_split 40 = .ok (.if_icmp .ne 9, 3) := by decide +kernel
theorem dX5_split_43 : decode cX5_split 43 = .ok (.iinc 1 1, 3) := by decide +kernel
theorem dX5_split_46 : decode cX5_split 46 = .ok (.goto 42, 3) := by decide +kernel
theorem dX5_split_49 : decode cX5_split 49 = .ok (.aload_n 0, 1) := by decide +kernel
theorem dX5_split_50 : decode cX5_split 50 = .ok (.getfield 19, 3) := by decide +kernel
theorem dX5_split_53 : decode cX5_split 53 = .ok (.aload_n 0, 1) := by decide +kernel
theorem dX5_split_54 : decode cX5_split 54 = .ok (.getfield 40, 3) := by decide +kernel
theorem dX5_split_57 : decode cX5_split 57 = .ok (.iload_n 1, 1) := by decide +kernel
theorem dX5_split_58 : decode cX5_split 58 = .ok (.iastore, 1) := by decide +kernel
theorem dX5_split_59 : decode cX5_split 59 = .ok (.aload_n 0, 1) := by decide +kernel
theorem dX5_split_60 : decode cX5_split 60 = .ok (.getfield 24, 3) := by decide +kernel
theorem dX5_split_63 : decode cX5_split 63 = .ok (.aload_n 0, 1) := by decide +kernel
theorem dX5_split_64 : decode cX5_split 64 = .ok (.getfield 40, 3) := by decide +kernel
theorem dX5_split_67 : decode cX5_split 67 = .ok (.getstatic 28, 3) := by decide +kernel
theorem dX5_split_70 : decode cX5_split 70 = .ok (.aastore, 1) := by decide +kernel
theorem dX5_split_71 : decode cX5_split 71 = .ok (.aload_n 0, 1) := by decide +kernel
theorem dX5_split_72 : decode cX5_split 72 = .ok (.iload_n 3, 1) := by decide +kernel
theorem dX5_split_73 : decode cX5_split 73 = .ok (.iload_n 1, 1) := by decide +kernel
theorem dX5_split_74 : decode cX5_split 74 = .ok (.invokevirtual 43, 3) := by decide +kernel
theorem dX5_split_77 : decode cX5_split 77 = .ok (.istore_n 1, 1) := by decide +kernel
theorem dX5_split_78 : decode cX5_split 78 = .ok (.aload_n 0, 1) := by decide +kernel
theorem dX5_split_79 : decode cX5_split 79 = .ok (.dup, 1) := by decide +kernel
theorem dX5_split_80 : decode cX5_split 80 = .ok (.getfield 40, 3) := by decide +kernel
theorem dX5_split_83 : decode cX5_split 83 = .ok (.iconst 1, 1) := by decide +kernel
theorem dX5_split_84 : decode cX5_split 84 = .ok (.iadd, 1) := by decide +kernel
theorem dX5_split_85 : decode cX5_split 85 = .ok (.putfield 40, 3) := by decide +kernel
theorem dX5_split_88 : decode cX5_split 88 = .ok (.iinc 2 1, 3) := by decide +kernel
theorem dX5_split_91 : decode cX5_split 91 = .ok (.goto (-82), 3) := by decide +kernel
theorem dX5_split_94 : decode cX5_split 94 = .ok (.aload_n 0, 1) := by decide +kernel
theorem dX5_split_95 : decode cX5_split 95 = .ok (.getfield 15, 3) := by decide +kernel
theorem dX5_split_98 : decode cX5_split 98 = .ok (.aload_n 0, 1) := by decide +kernel
theorem dX5_split_99 : decode cX5_split 99 = .ok (.getfield 40, 3) := by decide +kernel
theorem dX5_split_102 : decode cX5_split 102 = .ok (.iconst 0, 1) := by decide +kernel
theorem dX5_split_103 : decode cX5_split 103 = .ok (.iastore, 1) := by decide +kernel
theorem dX5_split_104 : decode cX5_split 104 = .ok (.aload_n 0, 1) := by decide +kernel
theorem dX5_split_105 : decode cX5_split 105 = .ok (.getfield 19, 3) := by decide +kernel
theorem dX5_split_108 : decode cX5_split 108 = .ok (.aload_n 0, 1) := by decide +kernel
theorem dX5_split_109 : decode cX5_split 109 = .ok (.getfield 40, 3) := by decide +kernel
theorem dX5_split_112 : decode cX5_split 112 = .ok (.aload_n 0, 1) := by decide +kernel
theorem dX5_split_113 : decode cX5_split 113 = .ok (.getfield 36, 3) := by decide +kernel
theorem dX5_split_116 : decode cX5_split 116 = .ok (.iastore, 1) := by decide +kernel
theorem dX5_split_117 : decode cX5_split 117 = .ok (.aload_n 0, 1) := by decide +kernel
theorem dX5_split_118 : decode cX5_split 118 = .ok (.getfield 24, 3) := by decide +kernel
theorem dX5_split_121 : decode cX5_split 121 = .ok (.aload_n 0, 1) := by decide +kernel
theorem dX5_split_122 : decode cX5_split 122 = .ok (.getfield 40, 3) := by decide +kernel
theorem dX5_split_125 : decode cX5_split 125 = .ok (.getstatic 28, 3) := by decide +kernel
theorem dX5_split_128 : decode cX5_split 128 = .ok (.aastore, 1) := by decide +kernel
theorem dX5_split_129 : decode cX5_split 129 = .ok (.aload_n 0, 1) := by decide +kernel
theorem dX5_split_130 : decode cX5_split 130 = .ok (.iconst 0, 1) := by decide +kernel
theorem dX5_split_131 : decode cX5_split 131 = .ok (.putfield 40, 3) := by decide +kernel
theorem dX5_split_134 : decode cX5_split 134 = .ok (.return_, 1) := by decide +kernel
theorem dX5_splitOff_0 : decode cX5_splitOff 0 = .ok (.iload_n 1, 1) := by decide +kernel
theorem dX5_splitOff_1 : decode cX5_splitOff 1 = .ok (.invokestatic 47, 3) := by decide +kernel
theorem dX5_splitOff_4 : decode cX5_splitOff 4 = .ok (.ifCond .eq 9, 3) := by decide +kernel
theorem dX5_splitOff_7 : decode cX5_splitOff 7 = .ok (.aload_n 0, 1) := by decide +kernel
theorem dX5_splitOff_8 : decode cX5_splitOff 8 = .ok (.iload_n 2, 1) := by decide +kernel
theorem dX5_splitOff_9 : decode cX5_splitOff 9 = .ok (.invokevirtual 51, 3) := by decide +kernel
theorem dX5_splitOff_12 : decode cX5_splitOff 12 = .ok (.ireturn, 1) := by decide +kernel
theorem dX5_splitOff_13 : decode cX5_splitOff 13 = .ok (.iload_n 1, 1) := by decide +kernel
theorem dX5_splitOff_14 : decode cX5_splitOff 14 = .ok (.invokestatic 55, 3) := by decide +kernel
theorem dX5_splitOff_17 : decode cX5_splitOff 17 = .ok (.ifCond .eq 9, 3) := by decide +kernel
theorem dX5_splitOff_20 : decode cX5_splitOff 20 = .ok (.aload_n 0, 1) := by decide +kernel
theorem dX5_splitOff_21 : decode cX5_splitOff 21 = .ok (.iload_n 2, 1) := by decide +kernel
theorem dX5_splitOff_22 : decode cX5_splitOff 22 = .ok (.invokevirtual 58, 3) := by decide +kernel
theorem dX5_splitOff_25 : decode cX5_splitOff 25 = .ok (.ireturn, 1) := by decide +kernel
theorem dX5_splitOff_26 : decode cX5_splitOff 26 = .ok (.aload_n 0, 1) := by decide +kernel
theorem dX5_splitOff_27 : decode cX5_splitOff 27 = .ok (.getfield 15, 3) := by decide +kernel
theorem dX5_splitOff_30 : decode cX5_splitOff 30 = .ok (.aload_n 0, 1) := by decide +kernel
theorem dX5_splitOff_31 : decode cX5_splitOff 31 = .ok (.getfield 40, 3) := by decide +kernel
theorem dX5_splitOff_34 : decode cX5_splitOff 34 = .ok (.ldc 61, 2) := by decide +kernel
theorem dX5_splitOff_36 : decode cX5_splitOff 36 = .ok (.iload_n 1, 1) := by decide +kernel
theorem dX5_splitOff_37 : decode cX5_splitOff 37 = .ok (.invokevirtual 63, 3) := by decide +kernel
theorem dX5_splitOff_40 : decode cX5_splitOff 40 = .ok (.ifCond .lt 7, 3) := by decide +kernel
theorem dX5_splitOff_43 : decode cX5_splitOff 43 = .ok (.iconst 3, 1) := by decide +kernel
theorem dX5_splitOff_44 : decode cX5_splitOff 44 = .ok (.goto 4, 3) := by decide +kernel
theorem dX5_splitOff_47 : decode cX5_splitOff 47 = .ok (.iconst 4, 1) := by decide +kernel
theorem dX5_splitOff_48 : decode cX5_splitOff 48 = .ok (.iastore, 1) := by decide +kernel
theorem dX5_splitOff_49 : decode cX5_splitOff 49 = .ok (.aload_n 0, 1) := by decide +kernel
theorem dX5_splitOff_50 : decode cX5_splitOff 50 = .ok (.getfield 32, 3) := by decide +kernel
theorem dX5_splitOff_53 : decode cX5_splitOff 53 = .ok (.aload_n 0, 1) := by decide +kernel
theorem dX5_splitOff_54 : decode cX5_splitOff 54 = .ok (.getfield 40, 3) := by decide +kernel
theorem dX5_splitOff_57 : decode cX5_splitOff 57 = .ok (.iload_n 1, 1) := by decide +kernel
theorem dX5_splitOff_58 : decode cX5_splitOff 58 = .ok (.i2l, 1) := by decide +kernel
theorem dX5_splitOff_59 : decode cX5_splitOff 59 = .ok (.lastore, 1) := by decide +kernel
theorem dX5_splitOff_60 : decode cX5_splitOff 60 = .ok (.iload_n 2, 1) := by decide +kernel
theorem dX5_splitOff_61 : decode cX5_splitOff 61 = .ok (.iconst 1, 1) := by decide +kernel
theorem dX5_splitOff_62 : decode cX5_splitOff 62 = .ok (.iadd, 1) := by decide +kernel
theorem dX5_splitOff_63 : decode cX5_splitOff 63 = .ok (.ireturn, 1) := by decide +kernel
theorem dX5_splitWord_0 : decode cX5_splitWord 0 = .ok (.iload_n 1, 1) := by decide +kernel
theorem dX5_splitWord_1 : decode cX5_splitWord 1 = .ok (.istore_n 2, 1) := by decide +kernel
theorem dX5_splitWord_2 : decode cX5_splitWord 2 = .ok (.lconst 0, 1) := by decide +kernel
theorem dX5_splitWord_3 : decode cX5_splitWord 3 = .ok (.lstore_n 3, 1) := by decide +kernel
theorem dX5_splitWord_4 : decode cX5_splitWord 4 = .ok (.iload_n 2, 1) := by decide +kernel
theorem dX5_splitWord_5 : decode cX5_splitWord 5 = .ok (.aload_n 0, 1) := by decide +kernel
theorem dX5_splitWord_6 : decode cX5_splitWord 6 = .ok (.getfield 36, 3) := by decide +kernel
theorem dX5_splitWord_9 : decode cX5_splitWord 9 = .ok (.if_icmp .ge 40, 3) := by decide +kernel
theorem dX5_splitWord_12 : decode cX5_splitWord 12 = .ok (.aload_n 0, 1) := by decide +kernel
theorem dX5_splitWord_13 : decode cX5_splitWord 13 = .ok (.getfield 9, 3) := by decide +kernel
theorem dX5_splitWord_16 : decode cX5_splitWord 16 = .ok (.iload_n 2, 1) := by decide +kernel
theorem dX5_splitWord_17 : decode cX5_splitWord 17 = .ok (.caload, 1) := by decide +kernel
theorem dX5_splitWord_18 : decode cX5_splitWord 18 = .ok (.invokestatic 47, 3) := by decide +kernel
theorem dX5_splitWord_21 : decode cX5_splitWord 21 = .ok (.ifCond .eq 28, 3) := by decide +kernel
theorem dX5_splitWord_24 : decode cX5_splitWord 24 = .ok (.lload_n 3, 1) := by decide +kernel
theorem dX5_splitWord_25 : decode cX5_splitWord 25 = .ok (.ldc2_w 68, 3) := by decide +kernel
theorem dX5_splitWord_28 : decode cX5_splitWord 28 = .ok (.lmul, 1) := by decide +kernel
theorem dX5_splitWord_29 : decode cX5_splitWord 29 = .ok (.aload_n 0, 1) := by decide +kernel
theorem dX5_splitWord_30 : decode cX5_splitWord 30 = .ok (.getfield 9, 3) := by decide +kernel
theorem dX5_splitWord_33 : decode cX5_splitWord 33 = .ok (.iload_n 2, 1) := by decide +kernel
theorem dX5_splitWord_34 : decode cX5_splitWord 34 = .ok (.caload, 1) := by decide +kernel
theorem dX5_splitWord_35 : decode cX5_splitWord 35 = .ok (.bipush 97, 2) := by decide +kernel
theorem dX5_splitWord_37 : decode cX5_splitWord 37 = .ok (.isub, 1) := by decide +kernel
theorem dX5_splitWord_38 : decode cX5_splitWord 38 = .ok (.iconst 1, 1) := by decide +kernel
theorem dX5_splitWord_39 : decode cX5_splitWord 39 = .ok (.iadd, 1) := by decide +kernel
theorem dX5_splitWord_40 : decode cX5_splitWord 40 = .ok (.i2l, 1) := by decide +kernel
theorem dX5_splitWord_41 : decode cX5_splitWord 41 = .ok (.ladd, 1) := by decide +kernel
theorem dX5_splitWord_42 : decode cX5_splitWord 42 = .ok (.lstore_n 3, 1) := by decide +kernel
theorem dX5_splitWord_43 : decode cX5_splitWord 43 = .ok (.iinc 2 1, 3) := by decide +kernel
theorem dX5_splitWord_46 : decode cX5_splitWord 46 = .ok (.goto (-42), 3) := by decide +kernel
theorem dX5_splitWord_49 : decode cX5_splitWord 49 = .ok (.aload_n 0, 1) := by decide +kernel
theorem dX5_splitWord_50 : decode cX5_splitWord 50 = .ok (.getfield 32, 3) := by decide +kernel
theorem dX5_splitWord_53 : decode cX5_splitWord 53 = .ok (.aload_n 0, 1) := by decide +kernel
theorem dX5_splitWord_54 : decode cX5_splitWord 54 = .ok (.getfield 40, 3) := by decide +kernel
theorem dX5_splitWord_57 : decode cX5_splitWord 57 = .ok (.lload_n 3, 1) := by decide +kernel
theorem dX5_splitWord_58 : decode cX5_splitWord 58 = .ok (.lastore, 1) := by decide +kernel
theorem dX5_splitWord_59 : decode cX5_splitWord 59 = .ok (.iload_n 2, 1) := by decide +kernel
theorem dX5_splitWord_60 : decode cX5_splitWord 60 = .ok (.iload_n 1, 1) := by decide +kernel
theorem dX5_splitWord_61 : decode cX5_splitWord 61 = .ok (.isub, 1) := by decide +kernel
theorem dX5_splitWord_62 : decode cX5_splitWord 62 = .ok (.bipush 8, 2) := by decide +kernel
theorem dX5_splitWord_64 : decode cX5_splitWord 64 = .ok (.if_icmp .le 15, 3) := by decide +kernel
theorem dX5_splitWord_67 : decode cX5_splitWord 67 = .ok (.aload_n 0, 1) := by decide +kernel
theorem dX5_splitWord_68 : decode cX5_splitWord 68 = .ok (.getfield 15, 3) := by decide +kernel
theorem dX5_splitWord_71 : decode cX5_splitWord 71 = .ok (.aload_n 0, 1) := by decide +kernel
theorem dX5_splitWord_72 : decode cX5_splitWord 72 = .ok (.getfield 40, 3) := by decide +kernel
theorem dX5_splitWord_75 : decode cX5_splitWord 75 = .ok (.iconst 4, 1) := by decide +kernel
theorem dX5_splitWord_76 : decode cX5_splitWord 76 = .ok (.iastore, 1) := by decide +kernel
theorem dX5_splitWord_77 : decode cX5_splitWord 77 = .ok (.iload_n 2, 1) := by decide +kernel
theorem dX5_splitWord_78 : decode cX5_splitWord 78 = .ok (.ireturn, 1) := by decide +kernel
theorem dX5_splitWord_79 : decode cX5_splitWord 79 = .ok (.aload_n 0, 1) := by decide +kernel
theorem dX5_splitWord_80 : decode cX5_splitWord 80 = .ok (.getfield 15, 3) := by decide +kernel
theorem dX5_splitWord_83 : decode cX5_splitWord 83 = .ok (.aload_n 0, 1) := by decide +kernel
theorem dX5_splitWord_84 : decode cX5_splitWord 84 = .ok (.getfield 40, 3) := by decide +kernel
theorem dX5_splitWord_87 : decode cX5_splitWord 87 = .ok (.iconst 1, 1) := by decide +kernel
theorem dX5_splitWord_88 : decode cX5_splitWord 88 = .ok (.iastore, 1) := by decide +kernel
theorem dX5_splitWord_89 : decode cX5_splitWord 89 = .ok (.aload_n 0, 1) := by decide +kernel
theorem dX5_splitWord_90 : decode cX5_splitWord 90 = .ok (.getfield 24, 3) := by decide +kernel
theorem dX5_splitWord_93 : decode cX5_splitWord 93 = .ok (.aload_n 0, 1) := by decide +kernel
theorem dX5_splitWord_94 : decode cX5_splitWord 94 = .ok (.getfield 40, 3) := by decide +kernel
theorem dX5_splitWord_97 : decode cX5_splitWord 97 = .ok (.getstatic 70, 3) := by decide +kernel
theorem dX5_splitWord_100 : decode cX5_splitWord 100 = .ok (.aastore, 1) := by decide +kernel
theorem dX5_splitWord_101 : decode cX5_splitWord 101 = .ok (.iconst 0, 1) := by decide +kernel
theorem dX5_splitWord_102 : decode cX5_splitWord 102 = .ok (.istore 5, 2) := by decide +kernel
theorem dX5_splitWord_104 : decode cX5_splitWord 104 = .ok (.iload 5, 2) := by decide +kernel
theorem dX5_splitWord_106 : decode cX5_splitWord 106 = .ok (.getstatic 73, 3) := by decide +kernel
theorem dX5_splitWord_109 : decode cX5_splitWord 109 = .ok (.arraylength, 1) := by decide +kernel
theorem dX5_splitWord_110 : decode cX5_splitWord 110 = .ok (.if_icmp .ge 42, 3) := by decide +kernel
theorem dX5_splitWord_113 : decode cX5_splitWord 113 = .ok (.aload_n 0, 1) := by decide +kernel
theorem dX5_splitWord_114 : decode cX5_splitWord 114 = .ok (.getstatic 73, 3) := by decide +kernel
theorem dX5_splitWord_117 : decode cX5_splitWord 117 = .ok (.iload 5, 2) := by decide +kernel
theorem dX5_splitWord_119 : decode cX5_splitWord 119 = .ok (.aaload, 1) := by decide +kernel
theorem dX5_splitWord_120 : decode cX5_splitWord 120 = .ok (.getfield 76, 3) := by decide +kernel
theorem dX5_splitWord_123 : decode cX5_splitWord 123 = .ok (.iload_n 1, 1) := by decide +kernel
theorem dX5_splitWord_124 : decode cX5_splitWord 124 = .ok (.iload_n 2, 1) := by decide +kernel
theorem dX5_splitWord_125 : decode cX5_splitWord 125 = .ok (.invokevirtual 80, 3) := by decide +kernel
theorem dX5_splitWord_128 : decode cX5_splitWord 128 = .ok (.ifCond .eq 18, 3) := by decide +kernel
theorem dX5_splitWord_131 : decode cX5_splitWord 131 = .ok (.aload_n 0, 1) := by decide +kernel
theorem dX5_splitWord_132 : decode cX5_splitWord 132 = .ok (.getfield 24, 3) := by decide +kernel
theorem dX5_splitWord_135 : decode cX5_splitWord 135 = .ok (.aload_n 0, 1) := by decide +kernel
theorem dX5_splitWord_136 : decode cX5_splitWord 136 = .ok (.getfield 40, 3) := by decide +kernel
theorem dX5_splitWord_139 : decode cX5_splitWord 139 = .ok (.getstatic 73, 3) := by decide +kernel
theorem dX5_splitWord_142 : decode cX5_splitWord 142 = .ok (.iload 5, 2) := by decide +kernel
theorem dX5_splitWord_144 : decode cX5_splitWord 144 = .ok (.aaload, 1) := by decide +kernel
theorem dX5_splitWord_145 : decode cX5_splitWord 145 = .ok (.aastore, 1) := by decide +kernel
theorem dX5_splitWord_146 : decode cX5_splitWord 146 = .ok (.iinc 5 1, 3) := by decide +kernel
theorem dX5_splitWord_149 : decode cX5_splitWord 149 = .ok (.goto (-45), 3) := by decide +kernel
theorem dX5_splitWord_152 : decode cX5_splitWord 152 = .ok (.iload_n 2, 1) := by decide +kernel
theorem dX5_splitWord_153 : decode cX5_splitWord 153 = .ok (.ireturn, 1) := by decide +kernel
theorem dX5_standsAt_0 : decode cX5_standsAt 0 = .ok (.aload_n 1, 1) := by decide +kernel
theorem dX5_standsAt_1 : decode cX5_standsAt 1 = .ok (.invokevirtual 84, 3) := by decide +kernel
theorem dX5_standsAt_4 : decode cX5_standsAt 4 = .ok (.iload_n 3, 1) := by decide +kernel
theorem dX5_standsAt_5 : decode cX5_standsAt 5 = .ok (.iload_n 2, 1) := by decide +kernel
theorem dX5_standsAt_6 : decode cX5_standsAt 6 = .ok (.isub, 1) := by decide +kernel
theorem dX5_standsAt_7 : decode cX5_standsAt 7 = .ok (.if_icmp .eq 5, 3) := by decide +kernel
theorem dX5_standsAt_10 : decode cX5_standsAt 10 = .ok (.iconst 0, 1) := by decide +kernel
theorem dX5_standsAt_11 : decode cX5_standsAt 11 = .ok (.ireturn, 1) := by decide +kernel
theorem dX5_standsAt_12 : decode cX5_standsAt 12 = .ok (.iconst 0, 1) := by decide +kernel
theorem dX5_standsAt_13 : decode cX5_standsAt 13 = .ok (.istore 4, 2) := by decide +kernel
theorem dX5_standsAt_15 : decode cX5_standsAt 15 = .ok (.iload 4, 2) := by decide +kernel
theorem dX5_standsAt_17 : decode cX5_standsAt 17 = .ok (.aload_n 1, 1) := by decide +kernel
theorem dX5_standsAt_18 : decode cX5_standsAt 18 = .ok (.invokevirtual 84, 3) := by decide +kernel
theorem dX5_standsAt_21 : decode cX5_standsAt 21 = .ok (.if_icmp .ge 29, 3) := by decide +kernel
theorem dX5_standsAt_24 : decode cX5_standsAt 24 = .ok (.aload_n 1, 1) := by decide +kernel
theorem dX5_standsAt_25 : decode cX5_standsAt 25 = .ok (.iload 4, 2) := by decide +kernel
theorem dX5_standsAt_27 : decode cX5_standsAt 27 = .ok (.invokevirtual 87, 3) := by decide +kernel
theorem dX5_standsAt_30 : decode cX5_standsAt 30 = .ok (.aload_n 0, 1) := by decide +kernel
theorem dX5_standsAt_31 : decode cX5_standsAt 31 = .ok (.getfield 9, 3) := by decide +kernel
theorem dX5_standsAt_34 : decode cX5_standsAt 34 = .ok (.iload_n 2, 1) := by decide +kernel
theorem dX5_standsAt_35 : decode cX5_standsAt 35 = .ok (.iload 4, 2) := by decide +kernel
theorem dX5_standsAt_37 : decode cX5_standsAt 37 = .ok (.iadd, 1) := by decide +kernel
theorem dX5_standsAt_38 : decode cX5_standsAt 38 = .ok (.caload, 1) := by decide +kernel
theorem dX5_standsAt_39 : decode cX5_standsAt 39 = .ok (.if_icmp .eq 5, 3) := by decide +kernel
theorem dX5_standsAt_42 : decode cX5_standsAt 42 = .ok (.iconst 0, 1) := by decide +kernel
theorem dX5_standsAt_43 : decode cX5_standsAt 43 = .ok (.ireturn, 1) := by decide +kernel
theorem dX5_standsAt_44 : decode cX5_standsAt 44 = .ok (.iinc 4 1, 3) := by decide +kernel
theorem dX5_standsAt_47 : decode cX5_standsAt 47 = .ok (.goto (-32), 3) := by decide +kernel
theorem dX5_standsAt_50 : decode cX5_standsAt 50 = .ok (.iconst 1, 1) := by decide +kernel
theorem dX5_standsAt_51 : decode cX5_standsAt 51 = .ok (.ireturn, 1) := by decide +kernel
theorem dX5_splitNumber_0 : decode cX5_splitNumber 0 = .ok (.iload_n 1, 1) := by decide +kernel
theorem dX5_splitNumber_1 : decode cX5_splitNumber 1 = .ok (.istore_n 2, 1) := by decide +kernel
theorem dX5_splitNumber_2 : decode cX5_splitNumber 2 = .ok (.lconst 0, 1) := by decide +kernel
theorem dX5_splitNumber_3 : decode cX5_splitNumber 3 = .ok (.lstore_n 3, 1) := by decide +kernel
theorem dX5_splitNumber_4 : decode cX5_splitNumber 4 = .ok (.iload_n 2, 1) := by decide +kernel
theorem dX5_splitNumber_5 : decode cX5_splitNumber 5 = .ok (.aload_n 0, 1) := by decide +kernel
theorem dX5_splitNumber_6 : decode cX5_splitNumber 6 = .ok (.getfield 36, 3) := by decide +kernel
theorem dX5_splitNumber_9 : decode cX5_splitNumber 9 = .ok (.if_icmp .ge 38, 3) := by decide +kernel
theorem dX5_splitNumber_12 : decode cX5_splitNumber 12 = .ok (.aload_n 0, 1) := by decide +kernel
theorem dX5_splitNumber_13 : decode cX5_splitNumber 13 = .ok (.getfield 9, 3) := by decide +kernel
theorem dX5_splitNumber_16 : decode cX5_splitNumber 16 = .ok (.iload_n 2, 1) := by decide +kernel
theorem dX5_splitNumber_17 : decode cX5_splitNumber 17 = .ok (.caload, 1) := by decide +kernel
theorem dX5_splitNumber_18 : decode cX5_splitNumber 18 = .ok (.invokestatic 55, 3) := by decide +kernel
theorem dX5_splitNumber_21 : decode cX5_splitNumber 21 = .ok (.ifCond .eq 26, 3) := by decide +kernel
theorem dX5_splitNumber_24 : decode cX5_splitNumber 24 = .ok (.lload_n 3, 1) := by decide +kernel
theorem dX5_splitNumber_25 : decode cX5_splitNumber 25 = .ok (.ldc2_w 91, 3) := by decide +kernel
theorem dX5_splitNumber_28 : decode cX5_splitNumber 28 = .ok (.lmul, 1) := by decide +kernel
theorem dX5_splitNumber_29 : decode cX5_splitNumber 29 = .ok (.aload_n 0, 1) := by decide +kernel
theorem dX5_splitNumber_30 : decode cX5_splitNumber 30 = .ok (.getfield 9, 3) := by decide +kernel
theorem dX5_splitNumber_33 : decode cX5_splitNumber 33 = .ok (.iload_n 2, 1) := by decide +kernel
theorem dX5_splitNumber_34 : decode cX5_splitNumber 34 = .ok (.caload, 1) := by decide +kernel
theorem dX5_splitNumber_35 : decode cX5_splitNumber 35 = .ok (.bipush 48, 2) := by decide +kernel
theorem dX5_splitNumber_37 : decode cX5_splitNumber 37 = .ok (.isub, 1) := by decide +kernel
theorem dX5_splitNumber_38 : decode cX5_splitNumber 38 = .ok (.i2l, 1) := by decide +kernel
theorem dX5_splitNumber_39 : decode cX5_splitNumber 39 = .ok (.ladd, 1) := by decide +kernel
theorem dX5_splitNumber_40 : decode cX5_splitNumber 40 = .ok (.lstore_n 3, 1) := by decide +kernel
theorem dX5_splitNumber_41 : decode cX5_splitNumber 41 = .ok (.iinc 2 1, 3) := by decide +kernel
theorem dX5_splitNumber_44 : decode cX5_splitNumber 44 = .ok (.goto (-40), 3) := by decide +kernel
theorem dX5_splitNumber_47 : decode cX5_splitNumber 47 = .ok (.aload_n 0, 1) := by decide +kernel
theorem dX5_splitNumber_48 : decode cX5_splitNumber 48 = .ok (.getfield 32, 3) := by decide +kernel
theorem dX5_splitNumber_51 : decode cX5_splitNumber 51 = .ok (.aload_n 0, 1) := by decide +kernel
theorem dX5_splitNumber_52 : decode cX5_splitNumber 52 = .ok (.getfield 40, 3) := by decide +kernel
theorem dX5_splitNumber_55 : decode cX5_splitNumber 55 = .ok (.lload_n 3, 1) := by decide +kernel
theorem dX5_splitNumber_56 : decode cX5_splitNumber 56 = .ok (.lastore, 1) := by decide +kernel
theorem dX5_splitNumber_57 : decode cX5_splitNumber 57 = .ok (.aload_n 0, 1) := by decide +kernel
theorem dX5_splitNumber_58 : decode cX5_splitNumber 58 = .ok (.getfield 15, 3) := by decide +kernel
theorem dX5_splitNumber_61 : decode cX5_splitNumber 61 = .ok (.aload_n 0, 1) := by decide +kernel
theorem dX5_splitNumber_62 : decode cX5_splitNumber 62 = .ok (.getfield 40, 3) := by decide +kernel
theorem dX5_splitNumber_65 : decode cX5_splitNumber 65 = .ok (.iload_n 2, 1) := by decide +kernel
theorem dX5_splitNumber_66 : decode cX5_splitNumber 66 = .ok (.iload_n 1, 1) := by decide +kernel
theorem dX5_splitNumber_67 : decode cX5_splitNumber 67 = .ok (.isub, 1) := by decide +kernel
theorem dX5_splitNumber_68 : decode cX5_splitNumber 68 = .ok (.iconst 4, 1) := by decide +kernel
theorem dX5_splitNumber_69 : decode cX5_splitNumber 69 = .ok (.if_icmp .gt 7, 3) := by decide +kernel
theorem dX5_splitNumber_72 : decode cX5_splitNumber 72 = .ok (.iconst 2, 1) := by decide +kernel
theorem dX5_splitNumber_73 : decode cX5_splitNumber 73 = .ok (.goto 4, 3) := by decide +kernel
theorem dX5_splitNumber_76 : decode cX5_splitNumber 76 = .ok (.iconst 4, 1) := by decide +kernel
theorem dX5_splitNumber_77 : decode cX5_splitNumber 77 = .ok (.iastore, 1) := by decide +kernel
theorem dX5_splitNumber_78 : decode cX5_splitNumber 78 = .ok (.iload_n 2, 1) := by decide +kernel
theorem dX5_splitNumber_79 : decode cX5_splitNumber 79 = .ok (.ireturn, 1) := by decide +kernel
theorem dX5_isLetter_0 : decode cX5_isLetter 0 = .ok (.iload_n 0, 1) := by decide +kernel
theorem dX5_isLetter_1 : decode cX5_isLetter 1 = .ok (.bipush 97, 2) := by decide +kernel
theorem dX5_isLetter_3 : decode cX5_isLetter 3 = .ok (.if_icmp .lt 13, 3) := by decide +kernel
theorem dX5_isLetter_6 : decode cX5_isLetter 6 = .ok (.iload_n 0, 1) := by decide +kernel
theorem dX5_isLetter_7 : decode cX5_isLetter 7 = .ok (.bipush 122, 2) := by decide +kernel
theorem dX5_isLetter_9 : decode cX5_isLetter 9 = .ok (.if_icmp .gt 7, 3) := by decide +kernel
theorem dX5_isLetter_12 : decode cX5_isLetter 12 = .ok (.iconst 1, 1) := by decide +kernel
theorem dX5_isLetter_13 : decode cX5_isLetter 13 = .ok (.goto 4, 3) := by decide +kernel
theorem dX5_isLetter_16 : decode cX5_isLetter 16 = .ok (.iconst 0, 1) := by decide +kernel
theorem dX5_isLetter_17 : decode cX5_isLetter 17 = .ok (.ireturn, 1) := by decide +kernel
theorem dX5_isDigit_0 : decode cX5_isDigit 0 = .ok (.iload_n 0, 1) := by decide +kernel
theorem dX5_isDigit_1 : decode cX5_isDigit 1 = .ok (.bipush 48, 2) := by decide +kernel
theorem dX5_isDigit_3 : decode cX5_isDigit 3 = .ok (.if_icmp .lt 13, 3) := by decide +kernel
theorem dX5_isDigit_6 : decode cX5_isDigit 6 = .ok (.iload_n 0, 1) := by decide +kernel
theorem dX5_isDigit_7 : decode cX5_isDigit 7 = .ok (.bipush 57, 2) := by decide +kernel
theorem dX5_isDigit_9 : decode cX5_isDigit 9 = .ok (.if_icmp .gt 7, 3) := by decide +kernel
theorem dX5_isDigit_12 : decode cX5_isDigit 12 = .ok (.iconst 1, 1) := by decide +kernel
theorem dX5_isDigit_13 : decode cX5_isDigit 13 = .ok (.goto 4, 3) := by decide +kernel
theorem dX5_isDigit_16 : decode cX5_isDigit 16 = .ok (.iconst 0, 1) := by decide +kernel
theorem dX5_isDigit_17 : decode cX5_isDigit 17 = .ok (.ireturn, 1) := by decide +kernel
theorem dX5_readOn_0 : decode cX5_readOn 0 = .ok (.aload_n 0, 1) := by decide +kernel
theorem dX5_readOn_1 : decode cX5_readOn 1 = .ok (.getfield 15, 3) := by decide +kernel
theorem dX5_readOn_4 : decode cX5_readOn 4 = .ok (.aload_n 0, 1) := by decide +kernel
theorem dX5_readOn_5 : decode cX5_readOn 5 = .ok (.getfield 40, 3) := by decide +kernel
theorem dX5_readOn_8 : decode cX5_readOn 8 = .ok (.iaload, 1) := by decide +kernel
theorem dX5_readOn_9 : decode cX5_readOn 9 = .ok (.ifCond .eq 13, 3) := by decide +kernel
theorem dX5_readOn_12 : decode cX5_readOn 12 = .ok (.aload_n 0, 1) := by decide +kernel
theorem dX5_readOn_13 : decode cX5_readOn 13 = .ok (.dup, 1) := by decide +kernel
theorem dX5_readOn_14 : decode cX5_readOn 14 = .ok (.getfield 40, 3) := by decide +kernel
theorem dX5_readOn_17 : decode cX5_readOn 17 = .ok (.iconst 1, 1) := by decide +kernel
theorem dX5_readOn_18 : decode cX5_readOn 18 = .ok (.iadd, 1) := by decide +kernel
theorem dX5_readOn_19 : decode cX5_readOn 19 = .ok (.putfield 40, 3) := by decide +kernel
theorem dX5_readOn_22 : decode cX5_readOn 22 = .ok (.return_, 1) := by decide +kernel
theorem dX5_isAtEnd_0 : decode cX5_isAtEnd 0 = .ok (.aload_n 0, 1) := by decide +kernel
theorem dX5_isAtEnd_1 : decode cX5_isAtEnd 1 = .ok (.getfield 15, 3) := by decide +kernel
theorem dX5_isAtEnd_4 : decode cX5_isAtEnd 4 = .ok (.aload_n 0, 1) := by decide +kernel
theorem dX5_isAtEnd_5 : decode cX5_isAtEnd 5 = .ok (.getfield 40, 3) := by decide +kernel
theorem dX5_isAtEnd_8 : decode cX5_isAtEnd 8 = .ok (.iaload, 1) := by decide +kernel
theorem dX5_isAtEnd_9 : decode cX5_isAtEnd 9 = .ok (.ifCond .ne 7, 3) := by decide +kernel
theorem dX5_isAtEnd_12 : decode cX5_isAtEnd 12 = .ok (.iconst 1, 1) := by decide +kernel
theorem dX5_isAtEnd_13 : decode cX5_isAtEnd 13 = .ok (.goto 4, 3) := by decide +kernel
theorem dX5_isAtEnd_16 : decode cX5_isAtEnd 16 = .ok (.iconst 0, 1) := by decide +kernel
theorem dX5_isAtEnd_17 : decode cX5_isAtEnd 17 = .ok (.ireturn, 1) := by decide +kernel
theorem dX5_isNumber_0 : decode cX5_isNumber 0 = .ok (.aload_n 0, 1) := by decide +kernel
theorem dX5_isNumber_1 : decode cX5_isNumber 1 = .ok (.getfield 15, 3) := by decide +kernel
theorem dX5_isNumber_4 : decode cX5_isNumber 4 = .ok (.aload_n 0, 1) := by decide +kernel
theorem dX5_isNumber_5 : decode cX5_isNumber 5 = .ok (.getfield 40, 3) := by decide +kernel
theorem dX5_isNumber_8 : decode cX5_isNumber 8 = .ok (.iaload, 1) := by decide +kernel
theorem dX5_isNumber_9 : decode cX5_isNumber 9 = .ok (.iconst 2, 1) := by decide +kernel
theorem dX5_isNumber_10 : decode cX5_isNumber 10 = .ok (.if_icmp .ne 7, 3) := by decide +kernel
theorem dX5_isNumber_13 : decode cX5_isNumber 13 = .ok (.iconst 1, 1) := by decide +kernel
theorem dX5_isNumber_14 : decode cX5_isNumber 14 = .ok (.goto 4, 3) := by decide +kernel
theorem dX5_isNumber_17 : decode cX5_isNumber 17 = .ok (.iconst 0, 1) := by decide +kernel
theorem dX5_isNumber_18 : decode cX5_isNumber 18 = .ok (.ireturn, 1) := by decide +kernel
theorem dX5_isWord_0 : decode cX5_isWord 0 = .ok (.aload_n 0, 1) := by decide +kernel
theorem dX5_isWord_1 : decode cX5_isWord 1 = .ok (.getfield 24, 3) := by decide +kernel
theorem dX5_isWord_4 : decode cX5_isWord 4 = .ok (.aload_n 0, 1) := by decide +kernel
theorem dX5_isWord_5 : decode cX5_isWord 5 = .ok (.getfield 40, 3) := by decide +kernel
theorem dX5_isWord_8 : decode cX5_isWord 8 = .ok (.aaload, 1) := by decide +kernel
theorem dX5_isWord_9 : decode cX5_isWord 9 = .ok (.aload_n 1, 1) := by decide +kernel
theorem dX5_isWord_10 : decode cX5_isWord 10 = .ok (.if_acmp .ne 7, 3) := by decide +kernel
theorem dX5_isWord_13 : decode cX5_isWord 13 = .ok (.iconst 1, 1) := by decide +kernel
theorem dX5_isWord_14 : decode cX5_isWord 14 = .ok (.goto 4, 3) := by decide +kernel
theorem dX5_isWord_17 : decode cX5_isWord 17 = .ok (.iconst 0, 1) := by decide +kernel
theorem dX5_isWord_18 : decode cX5_isWord 18 = .ok (.ireturn, 1) := by decide +kernel
theorem dX5_isSign_0 : decode cX5_isSign 0 = .ok (.aload_n 0, 1) := by decide +kernel
theorem dX5_isSign_1 : decode cX5_isSign 1 = .ok (.getfield 15, 3) := by decide +kernel
theorem dX5_isSign_4 : decode cX5_isSign 4 = .ok (.aload_n 0, 1) := by decide +kernel
theorem dX5_isSign_5 : decode cX5_isSign 5 = .ok (.getfield 40, 3) := by decide +kernel
theorem dX5_isSign_8 : decode cX5_isSign 8 = .ok (.iaload, 1) := by decide +kernel
theorem dX5_isSign_9 : decode cX5_isSign 9 = .ok (.iconst 3, 1) := by decide +kernel
theorem dX5_isSign_10 : decode cX5_isSign 10 = .ok (.if_icmp .ne 22, 3) := by decide +kernel
theorem dX5_isSign_13 : decode cX5_isSign 13 = .ok (.aload_n 0, 1) := by decide +kernel
theorem dX5_isSign_14 : decode cX5_isSign 14 = .ok (.getfield 32, 3) := by decide +kernel
theorem dX5_isSign_17 : decode cX5_isSign 17 = .ok (.aload_n 0, 1) := by decide +kernel
theorem dX5_isSign_18 : decode cX5_isSign 18 = .ok (.getfield 40, 3) := by decide +kernel
theorem dX5_isSign_21 : decode cX5_isSign 21 = .ok (.laload, 1) := by decide +kernel
theorem dX5_isSign_22 : decode cX5_isSign 22 = .ok (.iload_n 1, 1) := by decide +kernel
theorem dX5_isSign_23 : decode cX5_isSign 23 = .ok (.i2l, 1) := by decide +kernel
theorem dX5_isSign_24 : decode cX5_isSign 24 = .ok (.lcmp, 1) := by decide +kernel
theorem dX5_isSign_25 : decode cX5_isSign 25 = .ok (.ifCond .ne 7, 3) := by decide +kernel
theorem dX5_isSign_28 : decode cX5_isSign 28 = .ok (.iconst 1, 1) := by decide +kernel
theorem dX5_isSign_29 : decode cX5_isSign 29 = .ok (.goto 4, 3) := by decide +kernel
theorem dX5_isSign_32 : decode cX5_isSign 32 = .ok (.iconst 0, 1) := by decide +kernel
theorem dX5_isSign_33 : decode cX5_isSign 33 = .ok (.ireturn, 1) := by decide +kernel
theorem dX5_place_0 : decode cX5_place 0 = .ok (.aload_n 0, 1) := by decide +kernel
theorem dX5_place_1 : decode cX5_place 1 = .ok (.getfield 19, 3) := by decide +kernel
theorem dX5_place_4 : decode cX5_place 4 = .ok (.aload_n 0, 1) := by decide +kernel
theorem dX5_place_5 : decode cX5_place 5 = .ok (.getfield 40, 3) := by decide +kernel
theorem dX5_place_8 : decode cX5_place 8 = .ok (.iaload, 1) := by decide +kernel
theorem dX5_place_9 : decode cX5_place 9 = .ok (.ireturn, 1) := by decide +kernel
theorem dX5_word_0 : decode cX5_word 0 = .ok (.aload_n 0, 1) := by decide +kernel
theorem dX5_word_1 : decode cX5_word 1 = .ok (.getfield 24, 3) := by decide +kernel
theorem dX5_word_4 : decode cX5_word 4 = .ok (.aload_n 0, 1) := by decide +kernel
theorem dX5_word_5 : decode cX5_word 5 = .ok (.getfield 40, 3) := by decide +kernel
theorem dX5_word_8 : decode cX5_word 8 = .ok (.aaload, 1) := by decide +kernel
theorem dX5_word_9 : decode cX5_word 9 = .ok (.areturn, 1) := by decide +kernel
theorem dX5_value_0 : decode cX5_value 0 = .ok (.aload_n 0, 1) := by decide +kernel
theorem dX5_value_1 : decode cX5_value 1 = .ok (.getfield 32, 3) := by decide +kernel
theorem dX5_value_4 : decode cX5_value 4 = .ok (.aload_n 0, 1) := by decide +kernel
theorem dX5_value_5 : decode cX5_value 5 = .ok (.getfield 40, 3) := by decide +kernel
theorem dX5_value_8 : decode cX5_value 8 = .ok (.laload, 1) := by decide +kernel
theorem dX5_value_9 : decode cX5_value 9 = .ok (.lreturn, 1) := by decide +kernel
theorem dX6_init_0 : decode cX6_init 0 = .ok (.aload_n 0, 1) := by decide +kernel
theorem dX6_init_1 : decode cX6_init 1 = .ok (.invokespecial 3, 3) := by decide +kernel
theorem dX6_init_4 : decode cX6_init 4 = .ok (.aload_n 0, 1) := by decide +kernel
theorem dX6_init_5 : decode cX6_init 5 = .ok (.new 9, 3) := by decide +kernel
theorem dX6_init_8 : decode cX6_init 8 = .ok (.dup, 1) := by decide +kernel
theorem dX6_init_9 : decode cX6_init 9 = .ok (.invokespecial 11, 3) := by decide +kernel
theorem dX6_init_12 : decode cX6_init 12 = .ok (.putfield 12, 3) := by decide +kernel
theorem dX6_init_15 : decode cX6_init 15 = .ok (.aload_n 0, 1) := by decide +kernel
theorem dX6_init_16 : decode cX6_init 16 = .ok (.new 18, 3) := by decide +kernel
theorem dX6_init_19 : decode cX6_init 19 = .ok (.dup, 1) := by decide +kernel
theorem dX6_init_20 : decode cX6_init 20 = .ok (.invokespecial 20, 3) := by decide +kernel
theorem dX6_init_23 : decode cX6_init 23 = .ok (.putfield 21, 3) := by decide +kernel
theorem dX6_init_26 : decode cX6_init 26 = .ok (.aload_n 0, 1) := by decide +kernel
theorem dX6_init_27 : decode cX6_init 27 = .ok (.iconst 4, 1) := by decide +kernel
theorem dX6_init_28 : decode cX6_init 28 = .ok (.newarray .long, 2) := by decide +kernel
theorem dX6_init_30 : decode cX6_init 30 = .ok (.putfield 25, 3) := by decide +kernel
theorem dX6_init_33 : decode cX6_init 33 = .ok (.aload_n 0, 1) := by decide +kernel
theorem dX6_init_34 : decode cX6_init 34 = .ok (.bipush 6, 2) := by decide +kernel
theorem dX6_init_36 : decode cX6_init 36 = .ok (.newarray .long, 2) := by decide +kernel
theorem dX6_init_38 : decode cX6_init 38 = .ok (.putfield 29, 3) := by decide +kernel
theorem dX6_init_41 : decode cX6_init 41 = .ok (.return_, 1) := by decide +kernel
theorem dX6_readTape_0 : decode cX6_readTape 0 = .ok (.aload_n 0, 1) := by decide +kernel
theorem dX6_readTape_1 : decode cX6_readTape 1 = .ok (.iconst 0, 1) := by decide +kernel
theorem dX6_readTape_2 : decode cX6_readTape 2 = .ok (.putfield 32, 3) := by decide +kernel
theorem dX6_readTape_5 : decode cX6_readTape 5 = .ok (.aload_n 0, 1) := by decide +kernel
theorem dX6_readTape_6 : decode cX6_readTape 6 = .ok (.getfield 21, 3) := by decide +kernel
theorem dX6_readTape_9 : decode cX6_readTape 9 = .ok (.invokevirtual 36, 3) := by decide +kernel
theorem dX6_readTape_12 : decode cX6_readTape 12 = .ok (.aload_n 0, 1) := by decide +kernel
theorem dX6_readTape_13 : decode cX6_readTape 13 = .ok (.getfield 12, 3) := by decide +kernel
theorem dX6_readTape_16 : decode cX6_readTape 16 = .ok (.invokevirtual 39, 3) := by decide +kernel
theorem dX6_readTape_19 : decode cX6_readTape 19 = .ok (.iconst 0, 1) := by decide +kernel
theorem dX6_readTape_20 : decode cX6_readTape 20 = .ok (.istore_n 1, 1) := by decide +kernel
theorem dX6_readTape_21 : decode cX6_readTape 21 = .ok (.iload_n 1, 1) := by decide +kernel
theorem dX6_readTape_22 : decode cX6_readTape 22 = .ok (.sipush 1000, 3) := by decide +kernel
theorem dX6_readTape_25 : decode cX6_readTape 25 = .ok (.if_icmp .gt 30, 3) := by decide +kernel
theorem dX6_readTape_28 : decode cX6_readTape 28 = .ok (.aload_n 0, 1) := by decide +kernel
theorem dX6_readTape_29 : decode cX6_readTape 29 = .ok (.getfield 32, 3) := by decide +kernel
theorem dX6_readTape_32 : decode cX6_readTape 32 = .ok (.ifCond .ne 23, 3) := by decide +kernel
theorem dX6_readTape_35 : decode cX6_readTape 35 = .ok (.aload_n 0, 1) := by decide +kernel
theorem dX6_readTape_36 : decode cX6_readTape 36 = .ok (.getfield 12, 3) := by decide +kernel
theorem dX6_readTape_39 : decode cX6_readTape 39 = .ok (.invokevirtual 42, 3) := by decide +kernel
theorem dX6_readTape_42 : decode cX6_readTape 42 = .ok (.ifCond .ne 13, 3) := by decide +kernel
theorem dX6_readTape_45 : decode cX6_readTape 45 = .ok (.aload_n 0, 1) := by decide +kernel
theorem dX6_readTape_46 : decode cX6_readTape 46 = .ok (.invokevirtual 46, 3) := by decide +kernel
theorem dX6_readTape_49 : decode cX6_readTape 49 = .ok (.iinc 1 1, 3) := by decide +kernel
theorem dX6_readTape_52 : decode cX6_readTape 52 = .ok (.goto (-31), 3) := by decide +kernel
theorem dX6_readTape_55 : decode cX6_readTape 55 = .ok (.aload_n 0, 1) := by decide +kernel
theorem dX6_readTape_56 : decode cX6_readTape 56 = .ok (.getfield 32, 3) := by decide +kernel
theorem dX6_readTape_59 : decode cX6_readTape 59 = .ok (.ireturn, 1) := by decide +kernel
theorem dX6_fail_0 : decode cX6_fail 0 = .ok (.aload_n 0, 1) := by decide +kernel
theorem dX6_fail_1 : decode cX6_fail 1 = .ok (.getfield 32, 3) := by decide +kernel
theorem dX6_fail_4 : decode cX6_fail 4 = .ok (.ifCond .ne 19, 3) := by decide +kernel
theorem dX6_fail_7 : decode cX6_fail 7 = .ok (.aload_n 0, 1) := by decide +kernel
theorem dX6_fail_8 : decode cX6_fail 8 = .ok (.iload_n 1, 1) := by decide +kernel
theorem dX6_fail_9 : decode cX6_fail 9 = .ok (.bipush 16, 2) := by decide +kernel
theorem dX6_fail_11 : decode cX6_fail 11 = .ok (.aload_n 0, 1) := by decide +kernel
theorem dX6_fail_12 : decode cX6_fail 12 = .ok (.getfield 12, 3) := by decide +kernel
theorem dX6_fail_15 : decode cX6_fail 15 = .ok (.invokevirtual 49, 3) := by decide +kernel
theorem dX6_fail_18 : decode cX6_fail 18 = .ok (.imul, 1) := by decide +kernel
theorem dX6_fail_19 : decode cX6_fail 19 = .ok (.iadd, 1) := by decide +kernel
theorem dX6_fail_20 : decode cX6_fail 20 = .ok (.putfield 32, 3) := by decide +kernel
theorem dX6_fail_23 : decode cX6_fail 23 = .ok (.return_, 1) := by decide +kernel
theorem dX6_readSentence_0 : decode cX6_readSentence 0 = .ok (.aload_n 0, 1) := by decide +kernel
theorem dX6_readSentence_1 : decode cX6_readSentence 1 = .ok (.getfield 12, 3) := by decide +kernel
theorem dX6_readSentence_4 : decode cX6_readSentence 4 = .ok (.getstatic 53, 3) := by decide +kernel
theorem dX6_readSentence_7 : decode cX6_readSentence 7 = .ok (.invokevirtual 59, 3) := by decide +kernel
theorem dX6_readSentence_10 : decode cX6_readSentence 10 = .ok (.ifCond .eq 10, 3) := by decide +kernel
theorem dX6_readSentence_13 : decode cX6_readSentence 13 = .ok (.aload_n 0, 1) := by decide +kernel
theorem dX6_readSentence_14 : decode cX6_readSentence 14 = .ok (.invokevirtual 63, 3) := by decide +kernel
theorem dX6_readSentence_17 : decode cX6_readSentence 17 = .ok (.goto 68, 3) := by decide +kernel
theorem dX6_readSentence_20 : decode cX6_readSentence 20 = .ok (.aload_n 0, 1) := by decide +kernel
theorem dX6_readSentence_21 : decode cX6_readSentence 21 = .ok (.getfield 12, 3) := by decide +kernel
theorem dX6_readSentence_24 : decode cX6_readSentence 24 = .ok (.getstatic 66, 3) := by decide +kernel
theorem dX6_readSentence_27 : decode cX6_readSentence 27 = .ok (.invokevirtual 59, 3) := by decide +kernel
theorem dX6_readSentence_30 : decode cX6_readSentence 30 = .ok (.ifCond .eq 10, 3) := by decide +kernel
theorem dX6_readSentence_33 : decode cX6_readSentence 33 = .ok (.aload_n 0, 1) := by decide +kernel
theorem dX6_readSentence_34 : decode cX6_readSentence 34 = .ok (.invokevirtual 69, 3) := by decide +kernel
theorem dX6_readSentence_37 : decode cX6_readSentence 37 = .ok (.goto 48, 3) := by decide +kernel
theorem dX6_readSentence_40 : decode cX6_readSentence 40 = .ok (.aload_n 0, 1) := by decide +kernel
theorem dX6_readSentence_41 : decode cX6_readSentence 41 = .ok (.getfield 12, 3) := by decide +kernel
theorem dX6_readSentence_44 : decode cX6_readSentence 44 = .ok (.getstatic 72, 3) := by decide +kernel
theorem dX6_readSentence_47 : decode cX6_readSentence 47 = .ok (.invokevirtual 59, 3) := by decide +kernel
theorem dX6_readSentence_50 : decode cX6_readSentence 50 = .ok (.ifCond .eq 10, 3) := by decide +kernel
theorem dX6_readSentence_53 : decode cX6_readSentence 53 = .ok (.aload_n 0, 1) := by decide +kernel
theorem dX6_readSentence_54 : decode cX6_readSentence 54 = .ok (.invokevirtual 75, 3) := by decide +kernel
theorem dX6_readSentence_57 : decode cX6_readSentence 57 = .ok (.goto 28, 3) := by decide +kernel
theorem dX6_readSentence_60 : decode cX6_readSentence 60 = .ok (.aload_n 0, 1) := by decide +kernel
theorem dX6_readSentence_61 : decode cX6_readSentence 61 = .ok (.getfield 12, 3) := by decide +kernel
theorem dX6_readSentence_64 : decode cX6_readSentence 64 = .ok (.getstatic 78, 3) := by decide +kernel
theorem dX6_readSentence_67 : decode cX6_readSentence 67 = .ok (.invokevirtual 59, 3) := by decide +kernel
theorem dX6_readSentence_70 : decode cX6_readSentence 70 = .ok (.ifCond .eq 10, 3) := by decide +kernel
theorem dX6_readSentence_73 : decode cX6_readSentence 73 = .ok (.aload_n 0, 1) := by decide +kernel
theorem dX6_readSentence_74 : decode cX6_readSentence 74 = .ok (.invokevirtual 81, 3) := by decide +kernel
theorem dX6_readSentence_77 : decode cX6_readSentence 77 = .ok (.goto 8, 3) := by decide +kernel
theorem dX6_readSentence_80 : decode cX6_readSentence 80 = .ok (.aload_n 0, 1) := by decide +kernel
theorem dX6_readSentence_81 : decode cX6_readSentence 81 = .ok (.iconst 1, 1) := by decide +kernel
theorem dX6_readSentence_82 : decode cX6_readSentence 82 = .ok (.invokevirtual 84, 3) := by decide +kernel
theorem dX6_readSentence_85 : decode cX6_readSentence 85 = .ok (.return_, 1) := by decide +kernel
theorem dX6_readHill_0 : decode cX6_readHill 0 = .ok (.aload_n 0, 1) := by decide +kernel
theorem dX6_readHill_1 : decode cX6_readHill 1 = .ok (.getfield 21, 3) := by decide +kernel
theorem dX6_readHill_4 : decode cX6_readHill 4 = .ok (.getfield 88, 3) := by decide +kernel
theorem dX6_readHill_7 : decode cX6_readHill 7 = .ok (.istore_n 1, 1) := by decide +kernel
theorem dX6_readHill_8 : decode cX6_readHill 8 = .ok (.iload_n 1, 1) := by decide +kernel
theorem dX6_readHill_9 : decode cX6_readHill 9 = .ok (.iconst 4, 1) := by decide +kernel
theorem dX6_readHill_10 : decode cX6_readHill 10 = .ok (.if_icmp .lt 9, 3) := by decide +kernel
theorem dX6_readHill_13 : decode cX6_readHill 13 = .ok (.aload_n 0, 1) := by decide +kernel
theorem dX6_readHill_14 : decode cX6_readHill 14 = .ok (.iconst 5, 1) := by decide +kernel
theorem dX6_readHill_15 : decode cX6_readHill 15 = .ok (.invokevirtual 84, 3) := by decide +kernel
theorem dX6_readHill_18 : decode cX6_readHill 18 = .ok (.return_, 1) := by decide +kernel
theorem dX6_readHill_19 : decode cX6_readHill 19 = .ok (.aload_n 0, 1) := by decide +kernel
theorem dX6_readHill_20 : decode cX6_readHill 20 = .ok (.getfield 12, 3) := by decide +kernel
theorem dX6_readHill_23 : decode cX6_readHill 23 = .ok (.invokevirtual 91, 3) := by decide +kernel
theorem dX6_readHill_26 : decode cX6_readHill 26 = .ok (.aload_n 0, 1) := by decide +kernel
theorem dX6_readHill_27 : decode cX6_readHill 27 = .ok (.getfield 25, 3) := by decide +kernel
theorem dX6_readHill_30 : decode cX6_readHill 30 = .ok (.iload_n 1, 1) := by decide +kernel
theorem dX6_readHill_31 : decode cX6_readHill 31 = .ok (.aload_n 0, 1) := by decide +kernel
theorem dX6_readHill_32 : decode cX6_readHill 32 = .ok (.invokevirtual 94, 3) := by decide +kernel
theorem dX6_readHill_35 : decode cX6_readHill 35 = .ok (.lastore, 1) := by decide +kernel
theorem dX6_readHill_36 : decode cX6_readHill 36 = .ok (.aload_n 0, 1) := by decide +kernel
theorem dX6_readHill_37 : decode cX6_readHill 37 = .ok (.getstatic 98, 3) := by decide +kernel
theorem dX6_readHill_40 : decode cX6_readHill 40 = .ok (.invokevirtual 101, 3) := by decide +kernel
theorem dX6_readHill_43 : decode cX6_readHill 43 = .ok (.aload_n 0, 1) := by decide +kernel
theorem dX6_readHill_44 : decode cX6_readHill 44 = .ok (.getfield 21, 3) := by decide +kernel
theorem dX6_readHill_47 : decode cX6_readHill 47 = .ok (.getfield 105, 3) := by decide +kernel
theorem dX6_readHill_50 : decode cX6_readHill 50 = .ok (.iload_n 1, 1) := by decide +kernel
theorem dX6_readHill_51 : decode cX6_readHill 51 = .ok (.aload_n 0, 1) := by decide +kernel
theorem dX6_readHill_52 : decode cX6_readHill 52 = .ok (.iconst 0, 1) := by decide +kernel
theorem dX6_readHill_53 : decode cX6_readHill 53 = .ok (.bipush 8, 2) := by decide +kernel
theorem dX6_readHill_55 : decode cX6_readHill 55 = .ok (.invokevirtual 109, 3) := by decide +kernel
theorem dX6_readHill_58 : decode cX6_readHill 58 = .ok (.iastore, 1) := by decide +kernel
theorem dX6_readHill_59 : decode cX6_readHill 59 = .ok (.aload_n 0, 1) := by decide +kernel
theorem dX6_readHill_60 : decode cX6_readHill 60 = .ok (.getstatic 113, 3) := by decide +kernel
theorem dX6_readHill_63 : decode cX6_readHill 63 = .ok (.invokevirtual 101, 3) := by decide +kernel
theorem dX6_readHill_66 : decode cX6_readHill 66 = .ok (.aload_n 0, 1) := by decide +kernel
theorem dX6_readHill_67 : decode cX6_readHill 67 = .ok (.getfield 21, 3) := by decide +kernel
theorem dX6_readHill_70 : decode cX6_readHill 70 = .ok (.getfield 116, 3) := by decide +kernel
theorem dX6_readHill_73 : decode cX6_readHill 73 = .ok (.iload_n 1, 1) := by decide +kernel
theorem dX6_readHill_74 : decode cX6_readHill 74 = .ok (.aload_n 0, 1) := by decide +kernel
theorem dX6_readHill_75 : decode cX6_readHill 75 = .ok (.iconst 0, 1) := by decide +kernel
theorem dX6_readHill_76 : decode cX6_readHill 76 = .ok (.bipush 8, 2) := by decide +kernel
theorem dX6_readHill_78 : decode cX6_readHill 78 = .ok (.invokevirtual 109, 3) := by decide +kernel
theorem dX6_readHill_81 : decode cX6_readHill 81 = .ok (.iastore, 1) := by decide +kernel
theorem dX6_readHill_82 : decode cX6_readHill 82 = .ok (.aload_n 0, 1) := by decide +kernel
theorem dX6_readHill_83 : decode cX6_readHill 83 = .ok (.bipush 59, 2) := by decide +kernel
theorem dX6_readHill_85 : decode cX6_readHill 85 = .ok (.invokevirtual 119, 3) := by decide +kernel
theorem dX6_readHill_88 : decode cX6_readHill 88 = .ok (.aload_n 0, 1) := by decide +kernel
theorem dX6_readHill_89 : decode cX6_readHill 89 = .ok (.getfield 21, 3) := by decide +kernel
theorem dX6_readHill_92 : decode cX6_readHill 92 = .ok (.dup, 1) := by decide +kernel
theorem dX6_readHill_93 : decode cX6_readHill 93 = .ok (.getfield 88, 3) := by decide +kernel
theorem dX6_readHill_96 : decode cX6_readHill 96 = .ok (.iconst 1, 1) := by decide +kernel
theorem dX6_readHill_97 : decode cX6_readHill 97 = .ok (.iadd, 1) := by decide +kernel
theorem dX6_readHill_98 : decode cX6_readHill 98 = .ok (.putfield 88, 3) := by decide +kernel
theorem dX6_readHill_101 : decode cX6_readHill 101 = .ok (.return_, 1) := by decide +kernel
theorem dX6_readPurse_0 : decode cX6_readPurse 0 = .ok (.aload_n 0, 1) := by decide +kernel
theorem dX6_readPurse_1 : decode cX6_readPurse 1 = .ok (.getfield 21, 3) := by decide +kernel
theorem dX6_readPurse_4 : decode cX6_readPurse 4 = .ok (.getfield 123, 3) := by decide +kernel
theorem dX6_readPurse_7 : decode cX6_readPurse 7 = .ok (.istore_n 1, 1) := by decide +kernel
theorem dX6_readPurse_8 : decode cX6_readPurse 8 = .ok (.iload_n 1, 1) := by decide +kernel
theorem dX6_readPurse_9 : decode cX6_readPurse 9 = .ok (.bipush 6, 2) := by decide +kernel
theorem dX6_readPurse_11 : decode cX6_readPurse 11 = .ok (.if_icmp .lt 9, 3) := by decide +kernel
theorem dX6_readPurse_14 : decode cX6_readPurse 14 = .ok (.aload_n 0, 1) := by decide +kernel
theorem dX6_readPurse_15 : decode cX6_readPurse 15 = .ok (.iconst 5, 1) := by decide +kernel
theorem dX6_readPurse_16 : decode cX6_readPurse 16 = .ok (.invokevirtual 84, 3) := by decide +kernel
theorem dX6_readPurse_19 : decode cX6_readPurse 19 = .ok (.return_, 1) := by decide +kernel
theorem dX6_readPurse_20 : decode cX6_readPurse 20 = .ok (.aload_n 0, 1) := by decide +kernel
theorem dX6_readPurse_21 : decode cX6_readPurse 21 = .ok (.getfield 12, 3) := by decide +kernel
theorem dX6_readPurse_24 : decode cX6_readPurse 24 = .ok (.invokevirtual 91, 3) := by decide +kernel
theorem dX6_readPurse_27 : decode cX6_readPurse 27 = .ok (.aload_n 0, 1) := by decide +kernel
theorem dX6_readPurse_28 : decode cX6_readPurse 28 = .ok (.getfield 29, 3) := by decide +kernel
theorem dX6_readPurse_31 : decode cX6_readPurse 31 = .ok (.iload_n 1, 1) := by decide +kernel
theorem dX6_readPurse_32 : decode cX6_readPurse 32 = .ok (.aload_n 0, 1) := by decide +kernel
theorem dX6_readPurse_33 : decode cX6_readPurse 33 = .ok (.invokevirtual 94, 3) := by decide +kernel
theorem dX6_readPurse_36 : decode cX6_readPurse 36 = .ok (.lastore, 1) := by decide +kernel
theorem dX6_readPurse_37 : decode cX6_readPurse 37 = .ok (.aload_n 0, 1) := by decide +kernel
theorem dX6_readPurse_38 : decode cX6_readPurse 38 = .ok (.getfield 21, 3) := by decide +kernel
theorem dX6_readPurse_41 : decode cX6_readPurse 41 = .ok (.getfield 126, 3) := by decide +kernel
theorem dX6_readPurse_44 : decode cX6_readPurse 44 = .ok (.iload_n 1, 1) := by decide +kernel
theorem dX6_readPurse_45 : decode cX6_readPurse 45 = .ok (.aload_n 0, 1) := by decide +kernel
theorem dX6_readPurse_46 : decode cX6_readPurse 46 = .ok (.iconst 0, 1) := by decide +kernel
theorem dX6_readPurse_47 : decode cX6_readPurse 47 = .ok (.sipush 9999, 3) := by decide +kernel
theorem dX6_readPurse_50 : decode cX6_readPurse 50 = .ok (.invokevirtual 109, 3) := by decide +kernel
theorem dX6_readPurse_53 : decode cX6_readPurse 53 = .ok (.iastore, 1) := by decide +kernel
theorem dX6_readPurse_54 : decode cX6_readPurse 54 = .ok (.aload_n 0, 1) := by decide +kernel
theorem dX6_readPurse_55 : decode cX6_readPurse 55 = .ok (.bipush 59, 2) := by decide +kernel
theorem dX6_readPurse_57 : decode cX6_readPurse 57 = .ok (.invokevirtual 119, 3) := by decide +kernel
theorem dX6_readPurse_60 : decode cX6_readPurse 60 = .ok (.aload_n 0, 1) := by decide +kernel
theorem dX6_readPurse_61 : decode cX6_readPurse 61 = .ok (.getfield 21, 3) := by decide +kernel
theorem dX6_readPurse_64 : decode cX6_readPurse 64 = .ok (.dup, 1) := by decide +kernel
theorem dX6_readPurse_65 : decode cX6_readPurse 65 = .ok (.getfield 123, 3) := by decide +kernel
theorem dX6_readPurse_68 : decode cX6_readPurse 68 = .ok (.iconst 1, 1) := by decide +kernel
theorem dX6_readPurse_69 : decode cX6_readPurse 69 = .ok (.iadd, 1) := by decide +kernel
theorem dX6_readPurse_70 : decode cX6_readPurse 70 = .ok (.putfield 123, 3) := by decide +kernel
theorem dX6_readPurse_73 : decode cX6_readPurse 73 = .ok (.return_, 1) := by decide +kernel
theorem dX6_readLoan_0 : decode cX6_readLoan 0 = .ok (.aload_n 0, 1) := by decide +kernel
theorem dX6_readLoan_1 : decode cX6_readLoan 1 = .ok (.getfield 21, 3) := by decide +kernel
theorem dX6_readLoan_4 : decode cX6_readLoan 4 = .ok (.getfield 129, 3) := by decide +kernel
theorem dX6_readLoan_7 : decode cX6_readLoan 7 = .ok (.bipush 10, 2) := by decide +kernel
theorem dX6_readLoan_9 : decode cX6_readLoan 9 = .ok (.if_icmp .lt 9, 3) := by decide +kernel
theorem dX6_readLoan_12 : decode cX6_readLoan 12 = .ok (.aload_n 0, 1) := by decide +kernel
theorem dX6_readLoan_13 : decode cX6_readLoan 13 = .ok (.iconst 5, 1) := by decide +kernel
theorem dX6_readLoan_14 : decode cX6_readLoan 14 = .ok (.invokevirtual 84, 3) := by decide +kernel
theorem dX6_readLoan_17 : decode cX6_readLoan 17 = .ok (.return_, 1) := by decide +kernel
theorem dX6_readLoan_18 : decode cX6_readLoan 18 = .ok (.aload_n 0, 1) := by decide +kernel
theorem dX6_readLoan_19 : decode cX6_readLoan 19 = .ok (.getfield 21, 3) := by decide +kernel
theorem dX6_readLoan_22 : decode cX6_readLoan 22 = .ok (.getfield 132, 3) := by decide +kernel
theorem dX6_readLoan_25 : decode cX6_readLoan 25 = .ok (.aload_n 0, 1) := by decide +kernel
theorem dX6_readLoan_26 : decode cX6_readLoan 26 = .ok (.getfield 21, 3) := by decide +kernel
theorem dX6_readLoan_29 : decode cX6_readLoan 29 = .ok (.getfield 129, 3) := by decide +kernel
theorem dX6_readLoan_32 : decode cX6_readLoan 32 = .ok (.aaload, 1) := by decide +kernel
theorem dX6_readLoan_33 : decode cX6_readLoan 33 = .ok (.astore_n 1, 1) := by decide +kernel
theorem dX6_readLoan_34 : decode cX6_readLoan 34 = .ok (.aload_n 0, 1) := by decide +kernel
theorem dX6_readLoan_35 : decode cX6_readLoan 35 = .ok (.getfield 12, 3) := by decide +kernel
theorem dX6_readLoan_38 : decode cX6_readLoan 38 = .ok (.invokevirtual 91, 3) := by decide +kernel
theorem dX6_readLoan_41 : decode cX6_readLoan 41 = .ok (.aload_n 1, 1) := by decide +kernel
theorem dX6_readLoan_42 : decode cX6_readLoan 42 = .ok (.aload_n 0, 1) := by decide +kernel
theorem dX6_readLoan_43 : decode cX6_readLoan 43 = .ok (.iconst (-1), 1) := by decide +kernel
theorem dX6_readLoan_44 : decode cX6_readLoan 44 = .ok (.iconst (-1), 1) := by decide +kernel
theorem dX6_readLoan_45 : decode cX6_readLoan 45 = .ok (.invokevirtual 136, 3) := by decide +kernel
theorem dX6_readLoan_48 : decode cX6_readLoan 48 = .ok (.putfield 139, 3) := by decide +kernel
theorem dX6_readLoan_51 : decode cX6_readLoan 51 = .ok (.aload_n 0, 1) := by decide +kernel
theorem dX6_readLoan_52 : decode cX6_readLoan 52 = .ok (.getstatic 144, 3) := by decide +kernel
theorem dX6_readLoan_55 : decode cX6_readLoan 55 = .ok (.invokevirtual 101, 3) := by decide +kernel
theorem dX6_readLoan_58 : decode cX6_readLoan 58 = .ok (.aload_n 1, 1) := by decide +kernel
theorem dX6_readLoan_59 : decode cX6_readLoan 59 = .ok (.aload_n 0, 1) := by decide +kernel
theorem dX6_readLoan_60 : decode cX6_readLoan 60 = .ok (.aload_n 1, 1) := by decide +kernel
theorem dX6_readLoan_61 : decode cX6_readLoan 61 = .ok (.getfield 139, 3) := by decide +kernel
theorem dX6_readLoan_64 : decode cX6_readLoan 64 = .ok (.iconst (-1), 1) := by decide +kernel
theorem dX6_readLoan_65 : decode cX6_readLoan 65 = .ok (.invokevirtual 136, 3) := by decide +kernel
theorem dX6_readLoan_68 : decode cX6_readLoan 68 = .ok (.putfield 147, 3) := by decide +kernel
theorem dX6_readLoan_71 : decode cX6_readLoan 71 = .ok (.aload_n 0, 1) := by decide +kernel
theorem dX6_readLoan_72 : decode cX6_readLoan 72 = .ok (.getstatic 150, 3) := by decide +kernel
theorem dX6_readLoan_75 : decode cX6_readLoan 75 = .ok (.invokevirtual 101, 3) := by decide +kernel
theorem dX6_readLoan_78 : decode cX6_readLoan 78 = .ok (.aload_n 1, 1) := by decide +kernel
theorem dX6_readLoan_79 : decode cX6_readLoan 79 = .ok (.aload_n 0, 1) := by decide +kernel
theorem dX6_readLoan_80 : decode cX6_readLoan 80 = .ok (.iconst 1, 1) := by decide +kernel
theorem dX6_readLoan_81 : decode cX6_readLoan 81 = .ok (.sipush 999, 3) := by decide +kernel
theorem dX6_readLoan_84 : decode cX6_readLoan 84 = .ok (.invokevirtual 109, 3) := by decide +kernel
theorem dX6_readLoan_87 : decode cX6_readLoan 87 = .ok (.putfield 153, 3) := by decide +kernel
theorem dX6_readLoan_90 : decode cX6_readLoan 90 = .ok (.aload_n 0, 1) := by decide +kernel
theorem dX6_readLoan_91 : decode cX6_readLoan 91 = .ok (.getstatic 155, 3) := by decide +kernel
theorem dX6_readLoan_94 : decode cX6_readLoan 94 = .ok (.invokevirtual 101, 3) := by decide +kernel
theorem dX6_readLoan_97 : decode cX6_readLoan 97 = .ok (.aload_n 1, 1) := by decide +kernel
theorem dX6_readLoan_98 : decode cX6_readLoan 98 = .ok (.aload_n 0, 1) := by decide +kernel
theorem dX6_readLoan_99 : decode cX6_readLoan 99 = .ok (.iconst 0, 1) := by decide +kernel
theorem dX6_readLoan_100 : decode cX6_readLoan 100 = .ok (.bipush 99, 2) := by decide +kernel
theorem dX6_readLoan_102 : decode cX6_readLoan 102 = .ok (.invokevirtual 109, 3) := by decide +kernel
theorem dX6_readLoan_105 : decode cX6_readLoan 105 = .ok (.putfield 158, 3) := by decide +kernel
theorem dX6_readLoan_108 : decode cX6_readLoan 108 = .ok (.aload_n 0, 1) := by decide +kernel
theorem dX6_readLoan_109 : decode cX6_readLoan 109 = .ok (.getstatic 161, 3) := by decide +kernel
theorem dX6_readLoan_112 : decode cX6_readLoan 112 = .ok (.invokevirtual 101, 3) := by decide +kernel
theorem dX6_readLoan_115 : decode cX6_readLoan 115 = .ok (.aload_n 1, 1) := by decide +kernel
theorem dX6_readLoan_116 : decode cX6_readLoan 116 = .ok (.aload_n 0, 1) := by decide +kernel
theorem dX6_readLoan_117 : decode cX6_readLoan 117 = .ok (.iconst 1, 1) := by decide +kernel
theorem dX6_readLoan_118 : decode cX6_readLoan 118 = .ok (.bipush 9, 2) := by decide +kernel
theorem dX6_readLoan_120 : decode cX6_readLoan 120 = .ok (.invokevirtual 109, 3) := by decide +kernel
theorem dX6_readLoan_123 : decode cX6_readLoan 123 = .ok (.putfield 164, 3) := by decide +kernel
theorem dX6_readLoan_126 : decode cX6_readLoan 126 = .ok (.aload_n 0, 1) := by decide +kernel
theorem dX6_readLoan_127 : decode cX6_readLoan 127 = .ok (.getstatic 167, 3) := by decide +kernel
theorem dX6_readLoan_130 : decode cX6_readLoan 130 = .ok (.invokevirtual 101, 3) := by decide +kernel
theorem dX6_readLoan_133 : decode cX6_readLoan 133 = .ok (.aload_n 1, 1) := by decide +kernel
theorem dX6_readLoan_134 : decode cX6_readLoan 134 = .ok (.aload_n 0, 1) := by decide +kernel
theorem dX6_readLoan_135 : decode cX6_readLoan 135 = .ok (.aload_n 0, 1) := by decide +kernel
theorem dX6_readLoan_136 : decode cX6_readLoan 136 = .ok (.getfield 25, 3) := by decide +kernel
theorem dX6_readLoan_139 : decode cX6_readLoan 139 = .ok (.aload_n 0, 1) := by decide +kernel
theorem dX6_readLoan_140 : decode cX6_readLoan 140 = .ok (.getfield 21, 3) := by decide +kernel
theorem dX6_readLoan_143 : decode cX6_readLoan 143 = .ok (.getfield 88, 3) := by decide +kernel
theorem dX6_readLoan_146 : decode cX6_readLoan 146 = .ok (.iconst (-1), 1) := by decide +kernel
theorem dX6_readLoan_147 : decode cX6_readLoan 147 = .ok (.iconst (-1), 1) := by decide +kernel
theorem dX6_readLoan_148 : decode cX6_readLoan 148 = .ok (.invokevirtual 170, 3) := by decide +kernel
theorem dX6_readLoan_151 : decode cX6_readLoan 151 = .ok (.putfield 174, 3) := by decide +kernel
theorem dX6_readLoan_154 : decode cX6_readLoan 154 = .ok (.aload_n 1, 1) := by decide +kernel
theorem dX6_readLoan_155 : decode cX6_readLoan 155 = .ok (.aload_n 0, 1) := by decide +kernel
theorem dX6_readLoan_156 : decode cX6_readLoan 156 = .ok (.invokevirtual 177, 3) := by decide +kernel
theorem dX6_readLoan_159 : decode cX6_readLoan 159 = .ok (.putfield 180, 3) := by decide +kernel
theorem dX6_readLoan_162 : decode cX6_readLoan 162 = .ok (.aload_n 1, 1) := by decide +kernel
theorem dX6_readLoan_163 : decode cX6_readLoan 163 = .ok (.iconst (-1), 1) := by decide +kernel
theorem dX6_readLoan_164 : decode cX6_readLoan 164 = .ok (.putfield 183, 3) := by decide +kernel
theorem dX6_readLoan_167 : decode cX6_readLoan 167 = .ok (.aload_n 0, 1) := by decide +kernel
theorem dX6_readLoan_168 : decode cX6_readLoan 168 = .ok (.getfield 12, 3) := by decide +kernel
theorem dX6_readLoan_171 : decode cX6_readLoan 171 = .ok (.getstatic 186, 3) := by decide +kernel
theorem dX6_readLoan_174 : decode cX6_readLoan 174 = .ok (.invokevirtual 59, 3) := by decide +kernel
theorem dX6_readLoan_177 : decode cX6_readLoan 177 = .ok (.ifCond .eq 26, 3) := by decide +kernel
theorem dX6_readLoan_180 : decode cX6_readLoan 180 = .ok (.aload_n 0, 1) := by decide +kernel
theorem dX6_readLoan_181 : decode cX6_readLoan 181 = .ok (.getfield 12, 3) := by decide +kernel
theorem dX6_readLoan_184 : decode cX6_readLoan 184 = .ok (.invokevirtual 91, 3) := by decide +kernel
theorem dX6_readLoan_187 : decode cX6_readLoan 187 = .ok (.aload_n 1, 1) := by decide +kernel
theorem dX6_readLoan_188 : decode cX6_readLoan 188 = .ok (.aload_n 0, 1) := by decide +kernel
theorem dX6_readLoan_189 : decode cX6_readLoan 189 = .ok (.aload_n 1, 1) := by decide +kernel
theorem dX6_readLoan_190 : decode cX6_readLoan 190 = .ok (.getfield 139, 3) := by decide +kernel
theorem dX6_readLoan_193 : decode cX6_readLoan 193 = .ok (.aload_n 1, 1) := by decide +kernel
theorem dX6_readLoan_194 : decode cX6_readLoan 194 = .ok (.getfield 147, 3) := by decide +kernel
theorem dX6_readLoan_197 : decode cX6_readLoan 197 = .ok (.invokevirtual 136, 3) := by decide +kernel
theorem dX6_readLoan_200 : decode cX6_readLoan 200 = .ok (.putfield 183, 3) := by decide +kernel
theorem dX6_readLoan_203 : decode cX6_readLoan 203 = .ok (.aload_n 0, 1) := by decide +kernel
theorem dX6_readLoan_204 : decode cX6_readLoan 204 = .ok (.bipush 59, 2) := by decide +kernel
theorem dX6_readLoan_206 : decode cX6_readLoan 206 = .ok (.invokevirtual 119, 3) := by decide +kernel
theorem dX6_readLoan_209 : decode cX6_readLoan 209 = .ok (.aload_n 0, 1) := by decide +kernel
theorem dX6_readLoan_210 : decode cX6_readLoan 210 = .ok (.getfield 21, 3) := by decide +kernel
theorem dX6_readLoan_213 : decode cX6_readLoan 213 = .ok (.dup, 1) := by decide +kernel
theorem dX6_readLoan_214 : decode cX6_readLoan 214 = .ok (.getfield 129, 3) := by decide +kernel
theorem dX6_readLoan_217 : decode cX6_readLoan 217 = .ok (.iconst 1, 1) := by decide +kernel
theorem dX6_readLoan_218 : decode cX6_readLoan 218 = .ok (.iadd, 1) := by decide +kernel
theorem dX6_readLoan_219 : decode cX6_readLoan 219 = .ok (.putfield 129, 3) := by decide +kernel
theorem dX6_readLoan_222 : decode cX6_readLoan 222 = .ok (.return_, 1) := by decide +kernel
theorem dX6_readBet_0 : decode cX6_readBet 0 = .ok (.aload_n 0, 1) := by decide +kernel
theorem dX6_readBet_1 : decode cX6_readBet 1 = .ok (.getfield 21, 3) := by decide +kernel
theorem dX6_readBet_4 : decode cX6_readBet 4 = .ok (.getfield 189, 3) := by decide +kernel
theorem dX6_readBet_7 : decode cX6_readBet 7 = .ok (.istore_n 1, 1) := by decide +kernel
theorem dX6_readBet_8 : decode cX6_readBet 8 = .ok (.iload_n 1, 1) := by decide +kernel
theorem dX6_readBet_9 : decode cX6_readBet 9 = .ok (.bipush 8, 2) := by decide +kernel
theorem dX6_readBet_11 : decode cX6_readBet 11 = .ok (.if_icmp .lt 9, 3) := by decide +kernel
theorem dX6_readBet_14 : decode cX6_readBet 14 = .ok (.aload_n 0, 1) := by decide +kernel
theorem dX6_readBet_15 : decode cX6_readBet 15 = .ok (.iconst 5, 1) := by decide +kernel
theorem dX6_readBet_16 : decode cX6_readBet 16 = .ok (.invokevirtual 84, 3) := by decide +kernel
theorem dX6_readBet_19 : decode cX6_readBet 19 = .ok (.return_, 1) := by decide +kernel
theorem dX6_readBet_20 : decode cX6_readBet 20 = .ok (.aload_n 0, 1) := by decide +kernel
theorem dX6_readBet_21 : decode cX6_readBet 21 = .ok (.getfield 12, 3) := by decide +kernel
theorem dX6_readBet_24 : decode cX6_readBet 24 = .ok (.invokevirtual 91, 3) := by decide +kernel
theorem dX6_readBet_27 : decode cX6_readBet 27 = .ok (.aload_n 0, 1) := by decide +kernel
theorem dX6_readBet_28 : decode cX6_readBet 28 = .ok (.getfield 21, 3) := by decide +kernel
theorem dX6_readBet_31 : decode cX6_readBet 31 = .ok (.getfield 192, 3) := by decide +kernel
theorem dX6_readBet_34 : decode cX6_readBet 34 = .ok (.iload_n 1, 1) := by decide +kernel
theorem dX6_readBet_35 : decode cX6_readBet 35 = .ok (.aload_n 0, 1) := by decide +kernel
theorem dX6_readBet_36 : decode cX6_readBet 36 = .ok (.iconst 0, 1) := by decide +kernel
theorem dX6_readBet_37 : decode cX6_readBet 37 = .ok (.sipush 999, 3) := by decide +kernel
theorem dX6_readBet_40 : decode cX6_readBet 40 = .ok (.invokevirtual 109, 3) := by decide +kernel
theorem dX6_readBet_43 : decode cX6_readBet 43 = .ok (.iastore, 1) := by decide +kernel
theorem dX6_readBet_44 : decode cX6_readBet 44 = .ok (.aload_n 0, 1) := by decide +kernel
theorem dX6_readBet_45 : decode cX6_readBet 45 = .ok (.getstatic 195, 3) := by decide +kernel
