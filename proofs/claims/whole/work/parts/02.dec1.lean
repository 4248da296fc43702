theorem dX6_readBet_48 : decode cX6_readBet 48 = .ok (.invokevirtual 101, 3) := by decide +kernel
theorem dX6_readBet_51 : decode cX6_readBet 51 = .ok (.aload_n 0, 1) := by decide +kernel
theorem dX6_readBet_52 : decode cX6_readBet 52 = .ok (.getfield 21, 3) := by decide +kernel
theorem dX6_readBet_55 : decode cX6_readBet 55 = .ok (.getfield 198, 3) := by decide +kernel
theorem dX6_readBet_58 : decode cX6_readBet 58 = .ok (.iload_n 1, 1) := by decide +kernel
theorem dX6_readBet_59 : decode cX6_readBet 59 = .ok (.aload_n 0, 1) := by decide +kernel
theorem dX6_readBet_60 : decode cX6_readBet 60 = .ok (.iconst 0, 1) := by decide +kernel
theorem dX6_readBet_61 : decode cX6_readBet 61 = .ok (.sipush 999, 3) := by decide +kernel
theorem dX6_readBet_64 : decode cX6_readBet 64 = .ok (.invokevirtual 109, 3) := by decide +kernel
theorem dX6_readBet_67 : decode cX6_readBet 67 = .ok (.iastore, 1) := by decide +kernel
theorem dX6_readBet_68 : decode cX6_readBet 68 = .ok (.aload_n 0, 1) := by decide +kernel
theorem dX6_readBet_69 : decode cX6_readBet 69 = .ok (.getstatic 201, 3) := by decide +kernel
theorem dX6_readBet_72 : decode cX6_readBet 72 = .ok (.invokevirtual 101, 3) := by decide +kernel
theorem dX6_readBet_75 : decode cX6_readBet 75 = .ok (.aload_n 0, 1) := by decide +kernel
theorem dX6_readBet_76 : decode cX6_readBet 76 = .ok (.getfield 21, 3) := by decide +kernel
theorem dX6_readBet_79 : decode cX6_readBet 79 = .ok (.getfield 204, 3) := by decide +kernel
theorem dX6_readBet_82 : decode cX6_readBet 82 = .ok (.iload_n 1, 1) := by decide +kernel
theorem dX6_readBet_83 : decode cX6_readBet 83 = .ok (.iconst 0, 1) := by decide +kernel
theorem dX6_readBet_84 : decode cX6_readBet 84 = .ok (.iastore, 1) := by decide +kernel
theorem dX6_readBet_85 : decode cX6_readBet 85 = .ok (.aload_n 0, 1) := by decide +kernel
theorem dX6_readBet_86 : decode cX6_readBet 86 = .ok (.getfield 12, 3) := by decide +kernel
theorem dX6_readBet_89 : decode cX6_readBet 89 = .ok (.getfield 207, 3) := by decide +kernel
theorem dX6_readBet_92 : decode cX6_readBet 92 = .ok (.istore_n 2, 1) := by decide +kernel
theorem dX6_readBet_93 : decode cX6_readBet 93 = .ok (.iconst 0, 1) := by decide +kernel
theorem dX6_readBet_94 : decode cX6_readBet 94 = .ok (.istore_n 3, 1) := by decide +kernel
theorem dX6_readBet_95 : decode cX6_readBet 95 = .ok (.iload_n 3, 1) := by decide +kernel
theorem dX6_readBet_96 : decode cX6_readBet 96 = .ok (.bipush 16, 2) := by decide +kernel
theorem dX6_readBet_98 : decode cX6_readBet 98 = .ok (.if_icmp .ge 52, 3) := by decide +kernel
theorem dX6_readBet_101 : decode cX6_readBet 101 = .ok (.aload_n 0, 1) := by decide +kernel
theorem dX6_readBet_102 : decode cX6_readBet 102 = .ok (.getfield 32, 3) := by decide +kernel
theorem dX6_readBet_105 : decode cX6_readBet 105 = .ok (.ifCond .ne 45, 3) := by decide +kernel
theorem dX6_readBet_108 : decode cX6_readBet 108 = .ok (.aload_n 0, 1) := by decide +kernel
theorem dX6_readBet_109 : decode cX6_readBet 109 = .ok (.getfield 12, 3) := by decide +kernel
theorem dX6_readBet_112 : decode cX6_readBet 112 = .ok (.iload_n 2, 1) := by decide +kernel
theorem dX6_readBet_113 : decode cX6_readBet 113 = .ok (.putfield 207, 3) := by decide +kernel
theorem dX6_readBet_116 : decode cX6_readBet 116 = .ok (.aload_n 0, 1) := by decide +kernel
theorem dX6_readBet_117 : decode cX6_readBet 117 = .ok (.iload_n 3, 1) := by decide +kernel
theorem dX6_readBet_118 : decode cX6_readBet 118 = .ok (.putfield 210, 3) := by decide +kernel
theorem dX6_readBet_121 : decode cX6_readBet 121 = .ok (.aload_n 0, 1) := by decide +kernel
theorem dX6_readBet_122 : decode cX6_readBet 122 = .ok (.iconst 0, 1) := by decide +kernel
theorem dX6_readBet_123 : decode cX6_readBet 123 = .ok (.invokevirtual 213, 3) := by decide +kernel
theorem dX6_readBet_126 : decode cX6_readBet 126 = .ok (.ifCond .eq 18, 3) := by decide +kernel
theorem dX6_readBet_129 : decode cX6_readBet 129 = .ok (.aload_n 0, 1) := by decide +kernel
theorem dX6_readBet_130 : decode cX6_readBet 130 = .ok (.getfield 21, 3) := by decide +kernel
theorem dX6_readBet_133 : decode cX6_readBet 133 = .ok (.getfield 204, 3) := by decide +kernel
theorem dX6_readBet_136 : decode cX6_readBet 136 = .ok (.iload_n 1, 1) := by decide +kernel
theorem dX6_readBet_137 : decode cX6_readBet 137 = .ok (.dup2, 1) := by decide +kernel
theorem dX6_readBet_138 : decode cX6_readBet 138 = .ok (.iaload, 1) := by decide +kernel
theorem dX6_readBet_139 : decode cX6_readBet 139 = .ok (.iconst 1, 1) := by decide +kernel
theorem dX6_readBet_140 : decode cX6_readBet 140 = .ok (.iload_n 3, 1) := by decide +kernel
theorem dX6_readBet_141 : decode cX6_readBet 141 = .ok (.ishl, 1) := by decide +kernel
theorem dX6_readBet_142 : decode cX6_readBet 142 = .ok (.ior, 1) := by decide +kernel
theorem dX6_readBet_143 : decode cX6_readBet 143 = .ok (.iastore, 1) := by decide +kernel
theorem dX6_readBet_144 : decode cX6_readBet 144 = .ok (.iinc 3 1, 3) := by decide +kernel
theorem dX6_readBet_147 : decode cX6_readBet 147 = .ok (.goto (-52), 3) := by decide +kernel
theorem dX6_readBet_150 : decode cX6_readBet 150 = .ok (.aload_n 0, 1) := by decide +kernel
theorem dX6_readBet_151 : decode cX6_readBet 151 = .ok (.bipush 59, 2) := by decide +kernel
theorem dX6_readBet_153 : decode cX6_readBet 153 = .ok (.invokevirtual 119, 3) := by decide +kernel
theorem dX6_readBet_156 : decode cX6_readBet 156 = .ok (.aload_n 0, 1) := by decide +kernel
theorem dX6_readBet_157 : decode cX6_readBet 157 = .ok (.getfield 21, 3) := by decide +kernel
theorem dX6_readBet_160 : decode cX6_readBet 160 = .ok (.dup, 1) := by decide +kernel
theorem dX6_readBet_161 : decode cX6_readBet 161 = .ok (.getfield 189, 3) := by decide +kernel
theorem dX6_readBet_164 : decode cX6_readBet 164 = .ok (.iconst 1, 1) := by decide +kernel
theorem dX6_readBet_165 : decode cX6_readBet 165 = .ok (.iadd, 1) := by decide +kernel
theorem dX6_readBet_166 : decode cX6_readBet 166 = .ok (.putfield 189, 3) := by decide +kernel
theorem dX6_readBet_169 : decode cX6_readBet 169 = .ok (.return_, 1) := by decide +kernel
theorem dX6_readWord_0 : decode cX6_readWord 0 = .ok (.aload_n 0, 1) := by decide +kernel
theorem dX6_readWord_1 : decode cX6_readWord 1 = .ok (.getfield 12, 3) := by decide +kernel
theorem dX6_readWord_4 : decode cX6_readWord 4 = .ok (.aload_n 1, 1) := by decide +kernel
theorem dX6_readWord_5 : decode cX6_readWord 5 = .ok (.invokevirtual 59, 3) := by decide +kernel
theorem dX6_readWord_8 : decode cX6_readWord 8 = .ok (.ifCond .eq 13, 3) := by decide +kernel
theorem dX6_readWord_11 : decode cX6_readWord 11 = .ok (.aload_n 0, 1) := by decide +kernel
theorem dX6_readWord_12 : decode cX6_readWord 12 = .ok (.getfield 12, 3) := by decide +kernel
theorem dX6_readWord_15 : decode cX6_readWord 15 = .ok (.invokevirtual 91, 3) := by decide +kernel
theorem dX6_readWord_18 : decode cX6_readWord 18 = .ok (.goto 8, 3) := by decide +kernel
theorem dX6_readWord_21 : decode cX6_readWord 21 = .ok (.aload_n 0, 1) := by decide +kernel
theorem dX6_readWord_22 : decode cX6_readWord 22 = .ok (.iconst 1, 1) := by decide +kernel
theorem dX6_readWord_23 : decode cX6_readWord 23 = .ok (.invokevirtual 84, 3) := by decide +kernel
theorem dX6_readWord_26 : decode cX6_readWord 26 = .ok (.return_, 1) := by decide +kernel
theorem dX6_readSign_0 : decode cX6_readSign 0 = .ok (.aload_n 0, 1) := by decide +kernel
theorem dX6_readSign_1 : decode cX6_readSign 1 = .ok (.getfield 12, 3) := by decide +kernel
theorem dX6_readSign_4 : decode cX6_readSign 4 = .ok (.iload_n 1, 1) := by decide +kernel
theorem dX6_readSign_5 : decode cX6_readSign 5 = .ok (.invokevirtual 217, 3) := by decide +kernel
theorem dX6_readSign_8 : decode cX6_readSign 8 = .ok (.ifCond .eq 13, 3) := by decide +kernel
theorem dX6_readSign_11 : decode cX6_readSign 11 = .ok (.aload_n 0, 1) := by decide +kernel
theorem dX6_readSign_12 : decode cX6_readSign 12 = .ok (.getfield 12, 3) := by decide +kernel
theorem dX6_readSign_15 : decode cX6_readSign 15 = .ok (.invokevirtual 91, 3) := by decide +kernel
theorem dX6_readSign_18 : decode cX6_readSign 18 = .ok (.goto 8, 3) := by decide +kernel
theorem dX6_readSign_21 : decode cX6_readSign 21 = .ok (.aload_n 0, 1) := by decide +kernel
theorem dX6_readSign_22 : decode cX6_readSign 22 = .ok (.iconst 1, 1) := by decide +kernel
theorem dX6_readSign_23 : decode cX6_readSign 23 = .ok (.invokevirtual 84, 3) := by decide +kernel
theorem dX6_readSign_26 : decode cX6_readSign 26 = .ok (.return_, 1) := by decide +kernel
theorem dX6_readNumber_0 : decode cX6_readNumber 0 = .ok (.aload_n 0, 1) := by decide +kernel
theorem dX6_readNumber_1 : decode cX6_readNumber 1 = .ok (.getfield 12, 3) := by decide +kernel
theorem dX6_readNumber_4 : decode cX6_readNumber 4 = .ok (.invokevirtual 221, 3) := by decide +kernel
theorem dX6_readNumber_7 : decode cX6_readNumber 7 = .ok (.ifCond .ne 10, 3) := by decide +kernel
theorem dX6_readNumber_10 : decode cX6_readNumber 10 = .ok (.aload_n 0, 1) := by decide +kernel
theorem dX6_readNumber_11 : decode cX6_readNumber 11 = .ok (.iconst 1, 1) := by decide +kernel
theorem dX6_readNumber_12 : decode cX6_readNumber 12 = .ok (.invokevirtual 84, 3) := by decide +kernel
theorem dX6_readNumber_15 : decode cX6_readNumber 15 = .ok (.iload_n 1, 1) := by decide +kernel
theorem dX6_readNumber_16 : decode cX6_readNumber 16 = .ok (.ireturn, 1) := by decide +kernel
theorem dX6_readNumber_17 : decode cX6_readNumber 17 = .ok (.aload_n 0, 1) := by decide +kernel
theorem dX6_readNumber_18 : decode cX6_readNumber 18 = .ok (.getfield 12, 3) := by decide +kernel
theorem dX6_readNumber_21 : decode cX6_readNumber 21 = .ok (.invokevirtual 224, 3) := by decide +kernel
theorem dX6_readNumber_24 : decode cX6_readNumber 24 = .ok (.l2i, 1) := by decide +kernel
theorem dX6_readNumber_25 : decode cX6_readNumber 25 = .ok (.istore_n 3, 1) := by decide +kernel
theorem dX6_readNumber_26 : decode cX6_readNumber 26 = .ok (.iload_n 3, 1) := by decide +kernel
theorem dX6_readNumber_27 : decode cX6_readNumber 27 = .ok (.iload_n 1, 1) := by decide +kernel
theorem dX6_readNumber_28 : decode cX6_readNumber 28 = .ok (.if_icmp .lt 8, 3) := by decide +kernel
theorem dX6_readNumber_31 : decode cX6_readNumber 31 = .ok (.iload_n 3, 1) := by decide +kernel
theorem dX6_readNumber_32 : decode cX6_readNumber 32 = .ok (.iload_n 2, 1) := by decide +kernel
theorem dX6_readNumber_33 : decode cX6_readNumber 33 = .ok (.if_icmp .le 10, 3) := by decide +kernel
theorem dX6_readNumber_36 : decode cX6_readNumber 36 = .ok (.aload_n 0, 1) := by decide +kernel
theorem dX6_readNumber_37 : decode cX6_readNumber 37 = .ok (.iconst 4, 1) := by decide +kernel
theorem dX6_readNumber_38 : decode cX6_readNumber 38 = .ok (.invokevirtual 84, 3) := by decide +kernel
theorem dX6_readNumber_41 : decode cX6_readNumber 41 = .ok (.iload_n 1, 1) := by decide +kernel
theorem dX6_readNumber_42 : decode cX6_readNumber 42 = .ok (.ireturn, 1) := by decide +kernel
theorem dX6_readNumber_43 : decode cX6_readNumber 43 = .ok (.aload_n 0, 1) := by decide +kernel
theorem dX6_readNumber_44 : decode cX6_readNumber 44 = .ok (.getfield 12, 3) := by decide +kernel
theorem dX6_readNumber_47 : decode cX6_readNumber 47 = .ok (.invokevirtual 91, 3) := by decide +kernel
theorem dX6_readNumber_50 : decode cX6_readNumber 50 = .ok (.iload_n 3, 1) := by decide +kernel
theorem dX6_readNumber_51 : decode cX6_readNumber 51 = .ok (.ireturn, 1) := by decide +kernel
theorem dX6_readNewName_0 : decode cX6_readNewName 0 = .ok (.aload_n 0, 1) := by decide +kernel
theorem dX6_readNewName_1 : decode cX6_readNewName 1 = .ok (.getfield 12, 3) := by decide +kernel
theorem dX6_readNewName_4 : decode cX6_readNewName 4 = .ok (.invokevirtual 224, 3) := by decide +kernel
theorem dX6_readNewName_7 : decode cX6_readNewName 7 = .ok (.lstore_n 1, 1) := by decide +kernel
theorem dX6_readNewName_8 : decode cX6_readNewName 8 = .ok (.aload_n 0, 1) := by decide +kernel
theorem dX6_readNewName_9 : decode cX6_readNewName 9 = .ok (.getfield 12, 3) := by decide +kernel
theorem dX6_readNewName_12 : decode cX6_readNewName 12 = .ok (.getstatic 227, 3) := by decide +kernel
theorem dX6_readNewName_15 : decode cX6_readNewName 15 = .ok (.invokevirtual 59, 3) := by decide +kernel
theorem dX6_readNewName_18 : decode cX6_readNewName 18 = .ok (.ifCond .ne 11, 3) := by decide +kernel
theorem dX6_readNewName_21 : decode cX6_readNewName 21 = .ok (.aload_n 0, 1) := by decide +kernel
theorem dX6_readNewName_22 : decode cX6_readNewName 22 = .ok (.iconst 1, 1) := by decide +kernel
theorem dX6_readNewName_23 : decode cX6_readNewName 23 = .ok (.invokevirtual 84, 3) := by decide +kernel
theorem dX6_readNewName_26 : decode cX6_readNewName 26 = .ok (.goto 58, 3) := by decide +kernel
theorem dX6_readNewName_29 : decode cX6_readNewName 29 = .ok (.aload_n 0, 1) := by decide +kernel
theorem dX6_readNewName_30 : decode cX6_readNewName 30 = .ok (.lload_n 1, 1) := by decide +kernel
theorem dX6_readNewName_31 : decode cX6_readNewName 31 = .ok (.aload_n 0, 1) := by decide +kernel
theorem dX6_readNewName_32 : decode cX6_readNewName 32 = .ok (.getfield 25, 3) := by decide +kernel
theorem dX6_readNewName_35 : decode cX6_readNewName 35 = .ok (.aload_n 0, 1) := by decide +kernel
theorem dX6_readNewName_36 : decode cX6_readNewName 36 = .ok (.getfield 21, 3) := by decide +kernel
theorem dX6_readNewName_39 : decode cX6_readNewName 39 = .ok (.getfield 88, 3) := by decide +kernel
theorem dX6_readNewName_42 : decode cX6_readNewName 42 = .ok (.invokevirtual 230, 3) := by decide +kernel
theorem dX6_readNewName_45 : decode cX6_readNewName 45 = .ok (.iconst (-1), 1) := by decide +kernel
theorem dX6_readNewName_46 : decode cX6_readNewName 46 = .ok (.if_icmp .ne 23, 3) := by decide +kernel
theorem dX6_readNewName_49 : decode cX6_readNewName 49 = .ok (.aload_n 0, 1) := by decide +kernel
theorem dX6_readNewName_50 : decode cX6_readNewName 50 = .ok (.lload_n 1, 1) := by decide +kernel
theorem dX6_readNewName_51 : decode cX6_readNewName 51 = .ok (.aload_n 0, 1) := by decide +kernel
theorem dX6_readNewName_52 : decode cX6_readNewName 52 = .ok (.getfield 29, 3) := by decide +kernel
theorem dX6_readNewName_55 : decode cX6_readNewName 55 = .ok (.aload_n 0, 1) := by decide +kernel
theorem dX6_readNewName_56 : decode cX6_readNewName 56 = .ok (.getfield 21, 3) := by decide +kernel
theorem dX6_readNewName_59 : decode cX6_readNewName 59 = .ok (.getfield 123, 3) := by decide +kernel
theorem dX6_readNewName_62 : decode cX6_readNewName 62 = .ok (.invokevirtual 230, 3) := by decide +kernel
theorem dX6_readNewName_65 : decode cX6_readNewName 65 = .ok (.iconst (-1), 1) := by decide +kernel
theorem dX6_readNewName_66 : decode cX6_readNewName 66 = .ok (.if_icmp .eq 11, 3) := by decide +kernel
theorem dX6_readNewName_69 : decode cX6_readNewName 69 = .ok (.aload_n 0, 1) := by decide +kernel
theorem dX6_readNewName_70 : decode cX6_readNewName 70 = .ok (.iconst 3, 1) := by decide +kernel
theorem dX6_readNewName_71 : decode cX6_readNewName 71 = .ok (.invokevirtual 84, 3) := by decide +kernel
theorem dX6_readNewName_74 : decode cX6_readNewName 74 = .ok (.goto 10, 3) := by decide +kernel
theorem dX6_readNewName_77 : decode cX6_readNewName 77 = .ok (.aload_n 0, 1) := by decide +kernel
theorem dX6_readNewName_78 : decode cX6_readNewName 78 = .ok (.getfield 12, 3) := by decide +kernel
theorem dX6_readNewName_81 : decode cX6_readNewName 81 = .ok (.invokevirtual 91, 3) := by decide +kernel
theorem dX6_readNewName_84 : decode cX6_readNewName 84 = .ok (.lload_n 1, 1) := by decide +kernel
theorem dX6_readNewName_85 : decode cX6_readNewName 85 = .ok (.lreturn, 1) := by decide +kernel
theorem dX6_findName_0 : decode cX6_findName 0 = .ok (.iconst 0, 1) := by decide +kernel
theorem dX6_findName_1 : decode cX6_findName 1 = .ok (.istore 5, 2) := by decide +kernel
theorem dX6_findName_3 : decode cX6_findName 3 = .ok (.iload 5, 2) := by decide +kernel
theorem dX6_findName_5 : decode cX6_findName 5 = .ok (.iload 4, 2) := by decide +kernel
theorem dX6_findName_7 : decode cX6_findName 7 = .ok (.if_icmp .ge 21, 3) := by decide +kernel
theorem dX6_findName_10 : decode cX6_findName 10 = .ok (.aload_n 3, 1) := by decide +kernel
theorem dX6_findName_11 : decode cX6_findName 11 = .ok (.iload 5, 2) := by decide +kernel
theorem dX6_findName_13 : decode cX6_findName 13 = .ok (.laload, 1) := by decide +kernel
theorem dX6_findName_14 : decode cX6_findName 14 = .ok (.lload_n 1, 1) := by decide +kernel
theorem dX6_findName_15 : decode cX6_findName 15 = .ok (.lcmp, 1) := by decide +kernel
theorem dX6_findName_16 : decode cX6_findName 16 = .ok (.ifCond .ne 6, 3) := by decide +kernel
theorem dX6_findName_19 : decode cX6_findName 19 = .ok (.iload 5, 2) := by decide +kernel
theorem dX6_findName_21 : decode cX6_findName 21 = .ok (.ireturn, 1) := by decide +kernel
theorem dX6_findName_22 : decode cX6_findName 22 = .ok (.iinc 5 1, 3) := by decide +kernel
theorem dX6_findName_25 : decode cX6_findName 25 = .ok (.goto (-22), 3) := by decide +kernel
theorem dX6_findName_28 : decode cX6_findName 28 = .ok (.iconst (-1), 1) := by decide +kernel
theorem dX6_findName_29 : decode cX6_findName 29 = .ok (.ireturn, 1) := by decide +kernel
theorem dX6_readPerson_0 : decode cX6_readPerson 0 = .ok (.aload_n 0, 1) := by decide +kernel
theorem dX6_readPerson_1 : decode cX6_readPerson 1 = .ok (.aload_n 0, 1) := by decide +kernel
theorem dX6_readPerson_2 : decode cX6_readPerson 2 = .ok (.getfield 29, 3) := by decide +kernel
theorem dX6_readPerson_5 : decode cX6_readPerson 5 = .ok (.aload_n 0, 1) := by decide +kernel
theorem dX6_readPerson_6 : decode cX6_readPerson 6 = .ok (.getfield 21, 3) := by decide +kernel
theorem dX6_readPerson_9 : decode cX6_readPerson 9 = .ok (.getfield 123, 3) := by decide +kernel
theorem dX6_readPerson_12 : decode cX6_readPerson 12 = .ok (.iload_n 1, 1) := by decide +kernel
theorem dX6_readPerson_13 : decode cX6_readPerson 13 = .ok (.iload_n 2, 1) := by decide +kernel
theorem dX6_readPerson_14 : decode cX6_readPerson 14 = .ok (.invokevirtual 170, 3) := by decide +kernel
theorem dX6_readPerson_17 : decode cX6_readPerson 17 = .ok (.ireturn, 1) := by decide +kernel
theorem dX6_readToldName_0 : decode cX6_readToldName 0 = .ok (.aload_n 0, 1) := by decide +kernel
theorem dX6_readToldName_1 : decode cX6_readToldName 1 = .ok (.aload_n 0, 1) := by decide +kernel
theorem dX6_readToldName_2 : decode cX6_readToldName 2 = .ok (.getfield 12, 3) := by decide +kernel
theorem dX6_readToldName_5 : decode cX6_readToldName 5 = .ok (.invokevirtual 224, 3) := by decide +kernel
theorem dX6_readToldName_8 : decode cX6_readToldName 8 = .ok (.aload_n 1, 1) := by decide +kernel
theorem dX6_readToldName_9 : decode cX6_readToldName 9 = .ok (.iload_n 2, 1) := by decide +kernel
theorem dX6_readToldName_10 : decode cX6_readToldName 10 = .ok (.invokevirtual 230, 3) := by decide +kernel
theorem dX6_readToldName_13 : decode cX6_readToldName 13 = .ok (.istore 5, 2) := by decide +kernel
theorem dX6_readToldName_15 : decode cX6_readToldName 15 = .ok (.aload_n 0, 1) := by decide +kernel
theorem dX6_readToldName_16 : decode cX6_readToldName 16 = .ok (.getfield 12, 3) := by decide +kernel
theorem dX6_readToldName_19 : decode cX6_readToldName 19 = .ok (.getstatic 227, 3) := by decide +kernel
theorem dX6_readToldName_22 : decode cX6_readToldName 22 = .ok (.invokevirtual 59, 3) := by decide +kernel
theorem dX6_readToldName_25 : decode cX6_readToldName 25 = .ok (.ifCond .ne 11, 3) := by decide +kernel
theorem dX6_readToldName_28 : decode cX6_readToldName 28 = .ok (.aload_n 0, 1) := by decide +kernel
theorem dX6_readToldName_29 : decode cX6_readToldName 29 = .ok (.iconst 1, 1) := by decide +kernel
theorem dX6_readToldName_30 : decode cX6_readToldName 30 = .ok (.invokevirtual 84, 3) := by decide +kernel
theorem dX6_readToldName_33 : decode cX6_readToldName 33 = .ok (.goto 45, 3) := by decide +kernel
theorem dX6_readToldName_36 : decode cX6_readToldName 36 = .ok (.iload 5, 2) := by decide +kernel
theorem dX6_readToldName_38 : decode cX6_readToldName 38 = .ok (.iconst (-1), 1) := by decide +kernel
theorem dX6_readToldName_39 : decode cX6_readToldName 39 = .ok (.if_icmp .ne 11, 3) := by decide +kernel
theorem dX6_readToldName_42 : decode cX6_readToldName 42 = .ok (.aload_n 0, 1) := by decide +kernel
theorem dX6_readToldName_43 : decode cX6_readToldName 43 = .ok (.iconst 2, 1) := by decide +kernel
theorem dX6_readToldName_44 : decode cX6_readToldName 44 = .ok (.invokevirtual 84, 3) := by decide +kernel
theorem dX6_readToldName_47 : decode cX6_readToldName 47 = .ok (.goto 31, 3) := by decide +kernel
theorem dX6_readToldName_50 : decode cX6_readToldName 50 = .ok (.iload 5, 2) := by decide +kernel
theorem dX6_readToldName_52 : decode cX6_readToldName 52 = .ok (.iload_n 3, 1) := by decide +kernel
theorem dX6_readToldName_53 : decode cX6_readToldName 53 = .ok (.if_icmp .eq 10, 3) := by decide +kernel
theorem dX6_readToldName_56 : decode cX6_readToldName 56 = .ok (.iload 5, 2) := by decide +kernel
theorem dX6_readToldName_58 : decode cX6_readToldName 58 = .ok (.iload 4, 2) := by decide +kernel
theorem dX6_readToldName_60 : decode cX6_readToldName 60 = .ok (.if_icmp .ne 11, 3) := by decide +kernel
theorem dX6_readToldName_63 : decode cX6_readToldName 63 = .ok (.aload_n 0, 1) := by decide +kernel
theorem dX6_readToldName_64 : decode cX6_readToldName 64 = .ok (.iconst 3, 1) := by decide +kernel
theorem dX6_readToldName_65 : decode cX6_readToldName 65 = .ok (.invokevirtual 84, 3) := by decide +kernel
theorem dX6_readToldName_68 : decode cX6_readToldName 68 = .ok (.goto 10, 3) := by decide +kernel
theorem dX6_readToldName_71 : decode cX6_readToldName 71 = .ok (.aload_n 0, 1) := by decide +kernel
theorem dX6_readToldName_72 : decode cX6_readToldName 72 = .ok (.getfield 12, 3) := by decide +kernel
theorem dX6_readToldName_75 : decode cX6_readToldName 75 = .ok (.invokevirtual 91, 3) := by decide +kernel
theorem dX6_readToldName_78 : decode cX6_readToldName 78 = .ok (.iload 5, 2) := by decide +kernel
theorem dX6_readToldName_80 : decode cX6_readToldName 80 = .ok (.ireturn, 1) := by decide +kernel
theorem dX6_readKind_0 : decode cX6_readKind 0 = .ok (.aload_n 0, 1) := by decide +kernel
theorem dX6_readKind_1 : decode cX6_readKind 1 = .ok (.getfield 12, 3) := by decide +kernel
theorem dX6_readKind_4 : decode cX6_readKind 4 = .ok (.invokevirtual 234, 3) := by decide +kernel
theorem dX6_readKind_7 : decode cX6_readKind 7 = .ok (.getfield 238, 3) := by decide +kernel
theorem dX6_readKind_10 : decode cX6_readKind 10 = .ok (.istore_n 1, 1) := by decide +kernel
theorem dX6_readKind_11 : decode cX6_readKind 11 = .ok (.iload_n 1, 1) := by decide +kernel
theorem dX6_readKind_12 : decode cX6_readKind 12 = .ok (.iconst (-1), 1) := by decide +kernel
theorem dX6_readKind_13 : decode cX6_readKind 13 = .ok (.if_icmp .ne 11, 3) := by decide +kernel
theorem dX6_readKind_16 : decode cX6_readKind 16 = .ok (.aload_n 0, 1) := by decide +kernel
theorem dX6_readKind_17 : decode cX6_readKind 17 = .ok (.iconst 1, 1) := by decide +kernel
theorem dX6_readKind_18 : decode cX6_readKind 18 = .ok (.invokevirtual 84, 3) := by decide +kernel
theorem dX6_readKind_21 : decode cX6_readKind 21 = .ok (.goto 10, 3) := by decide +kernel
theorem dX6_readKind_24 : decode cX6_readKind 24 = .ok (.aload_n 0, 1) := by decide +kernel
theorem dX6_readKind_25 : decode cX6_readKind 25 = .ok (.getfield 12, 3) := by decide +kernel
theorem dX6_readKind_28 : decode cX6_readKind 28 = .ok (.invokevirtual 91, 3) := by decide +kernel
theorem dX6_readKind_31 : decode cX6_readKind 31 = .ok (.iload_n 1, 1) := by decide +kernel
theorem dX6_readKind_32 : decode cX6_readKind 32 = .ok (.ireturn, 1) := by decide +kernel
theorem dX6_readExpression_0 : decode cX6_readExpression 0 = .ok (.aload_n 0, 1) := by decide +kernel
theorem dX6_readExpression_1 : decode cX6_readExpression 1 = .ok (.iload_n 1, 1) := by decide +kernel
theorem dX6_readExpression_2 : decode cX6_readExpression 2 = .ok (.invokevirtual 239, 3) := by decide +kernel
theorem dX6_readExpression_5 : decode cX6_readExpression 5 = .ok (.istore_n 2, 1) := by decide +kernel
theorem dX6_readExpression_6 : decode cX6_readExpression 6 = .ok (.iconst 0, 1) := by decide +kernel
theorem dX6_readExpression_7 : decode cX6_readExpression 7 = .ok (.istore_n 3, 1) := by decide +kernel
theorem dX6_readExpression_8 : decode cX6_readExpression 8 = .ok (.iload_n 3, 1) := by decide +kernel
theorem dX6_readExpression_9 : decode cX6_readExpression 9 = .ok (.sipush 1000, 3) := by decide +kernel
theorem dX6_readExpression_12 : decode cX6_readExpression 12 = .ok (.if_icmp .ge 111, 3) := by decide +kernel
theorem dX6_readExpression_15 : decode cX6_readExpression 15 = .ok (.aload_n 0, 1) := by decide +kernel
theorem dX6_readExpression_16 : decode cX6_readExpression 16 = .ok (.getfield 32, 3) := by decide +kernel
theorem dX6_readExpression_19 : decode cX6_readExpression 19 = .ok (.ifCond .ne 104, 3) := by decide +kernel
theorem dX6_readExpression_22 : decode cX6_readExpression 22 = .ok (.aload_n 0, 1) := by decide +kernel
theorem dX6_readExpression_23 : decode cX6_readExpression 23 = .ok (.getfield 12, 3) := by decide +kernel
theorem dX6_readExpression_26 : decode cX6_readExpression 26 = .ok (.getstatic 242, 3) := by decide +kernel
theorem dX6_readExpression_29 : decode cX6_readExpression 29 = .ok (.invokevirtual 59, 3) := by decide +kernel
theorem dX6_readExpression_32 : decode cX6_readExpression 32 = .ok (.istore 4, 2) := by decide +kernel
theorem dX6_readExpression_34 : decode cX6_readExpression 34 = .ok (.iload 4, 2) := by decide +kernel
theorem dX6_readExpression_36 : decode cX6_readExpression 36 = .ok (.ifCond .ne 18, 3) := by decide +kernel
theorem dX6_readExpression_39 : decode cX6_readExpression 39 = .ok (.aload_n 0, 1) := by decide +kernel
theorem dX6_readExpression_40 : decode cX6_readExpression 40 = .ok (.getfield 12, 3) := by decide +kernel
theorem dX6_readExpression_43 : decode cX6_readExpression 43 = .ok (.getstatic 245, 3) := by decide +kernel
theorem dX6_readExpression_46 : decode cX6_readExpression 46 = .ok (.invokevirtual 59, 3) := by decide +kernel
theorem dX6_readExpression_49 : decode cX6_readExpression 49 = .ok (.ifCond .ne 5, 3) := by decide +kernel
theorem dX6_readExpression_52 : decode cX6_readExpression 52 = .ok (.iload_n 2, 1) := by decide +kernel
theorem dX6_readExpression_53 : decode cX6_readExpression 53 = .ok (.ireturn, 1) := by decide +kernel
theorem dX6_readExpression_54 : decode cX6_readExpression 54 = .ok (.aload_n 0, 1) := by decide +kernel
theorem dX6_readExpression_55 : decode cX6_readExpression 55 = .ok (.getfield 12, 3) := by decide +kernel
theorem dX6_readExpression_58 : decode cX6_readExpression 58 = .ok (.invokevirtual 91, 3) := by decide +kernel
theorem dX6_readExpression_61 : decode cX6_readExpression 61 = .ok (.aload_n 0, 1) := by decide +kernel
theorem dX6_readExpression_62 : decode cX6_readExpression 62 = .ok (.iload_n 1, 1) := by decide +kernel
theorem dX6_readExpression_63 : decode cX6_readExpression 63 = .ok (.invokevirtual 239, 3) := by decide +kernel
theorem dX6_readExpression_66 : decode cX6_readExpression 66 = .ok (.istore 5, 2) := by decide +kernel
theorem dX6_readExpression_68 : decode cX6_readExpression 68 = .ok (.iload 4, 2) := by decide +kernel
theorem dX6_readExpression_70 : decode cX6_readExpression 70 = .ok (.ifCond .eq 20, 3) := by decide +kernel
theorem dX6_readExpression_73 : decode cX6_readExpression 73 = .ok (.iload_n 2, 1) := by decide +kernel
theorem dX6_readExpression_74 : decode cX6_readExpression 74 = .ok (.ifCond .eq 12, 3) := by decide +kernel
theorem dX6_readExpression_77 : decode cX6_readExpression 77 = .ok (.iload 5, 2) := by decide +kernel
theorem dX6_readExpression_79 : decode cX6_readExpression 79 = .ok (.ifCond .eq 7, 3) := by decide +kernel
theorem dX6_readExpression_82 : decode cX6_readExpression 82 = .ok (.iconst 1, 1) := by decide +kernel
theorem dX6_readExpression_83 : decode cX6_readExpression 83 = .ok (.goto 21, 3) := by decide +kernel
theorem dX6_readExpression_86 : decode cX6_readExpression 86 = .ok (.iconst 0, 1) := by decide +kernel
theorem dX6_readExpression_87 : decode cX6_readExpression 87 = .ok (.goto 17, 3) := by decide +kernel
theorem dX6_readExpression_90 : decode cX6_readExpression 90 = .ok (.iload_n 2, 1) := by decide +kernel
theorem dX6_readExpression_91 : decode cX6_readExpression 91 = .ok (.ifCond .ne 8, 3) := by decide +kernel
theorem dX6_readExpression_94 : decode cX6_readExpression 94 = .ok (.iload 5, 2) := by decide +kernel
theorem dX6_readExpression_96 : decode cX6_readExpression 96 = .ok (.ifCond .eq 7, 3) := by decide +kernel
theorem dX6_readExpression_99 : decode cX6_readExpression 99 = .ok (.iconst 1, 1) := by decide +kernel
theorem dX6_readExpression_100 : decode cX6_readExpression 100 = .ok (.goto 4, 3) := by decide +kernel
theorem dX6_readExpression_103 : decode cX6_readExpression 103 = .ok (.iconst 0, 1) := by decide +kernel
theorem dX6_readExpression_104 : decode cX6_readExpression 104 = .ok (.istore 6, 2) := by decide +kernel
theorem dX6_readExpression_106 : decode cX6_readExpression 106 = .ok (.iload 6, 2) := by decide +kernel
theorem dX6_readExpression_108 : decode cX6_readExpression 108 = .ok (.ifCond .eq 7, 3) := by decide +kernel
theorem dX6_readExpression_111 : decode cX6_readExpression 111 = .ok (.iconst 1, 1) := by decide +kernel
theorem dX6_readExpression_112 : decode cX6_readExpression 112 = .ok (.goto 4, 3) := by decide +kernel
theorem dX6_readExpression_115 : decode cX6_readExpression 115 = .ok (.iconst 0, 1) := by decide +kernel
theorem dX6_readExpression_116 : decode cX6_readExpression 116 = .ok (.istore_n 2, 1) := by decide +kernel
theorem dX6_readExpression_117 : decode cX6_readExpression 117 = .ok (.iinc 3 1, 3) := by decide +kernel
theorem dX6_readExpression_120 : decode cX6_readExpression 120 = .ok (.goto (-112), 3) := by decide +kernel
theorem dX6_readExpression_123 : decode cX6_readExpression 123 = .ok (.iload_n 2, 1) := by decide +kernel
theorem dX6_readExpression_124 : decode cX6_readExpression 124 = .ok (.ireturn, 1) := by decide +kernel
theorem dX6_readTest_0 : decode cX6_readTest 0 = .ok (.aload_n 0, 1) := by decide +kernel
theorem dX6_readTest_1 : decode cX6_readTest 1 = .ok (.iload_n 1, 1) := by decide +kernel
theorem dX6_readTest_2 : decode cX6_readTest 2 = .ok (.invokevirtual 248, 3) := by decide +kernel
theorem dX6_readTest_5 : decode cX6_readTest 5 = .ok (.istore_n 2, 1) := by decide +kernel
theorem dX6_readTest_6 : decode cX6_readTest 6 = .ok (.aload_n 0, 1) := by decide +kernel
theorem dX6_readTest_7 : decode cX6_readTest 7 = .ok (.getfield 12, 3) := by decide +kernel
theorem dX6_readTest_10 : decode cX6_readTest 10 = .ok (.bipush 60, 2) := by decide +kernel
theorem dX6_readTest_12 : decode cX6_readTest 12 = .ok (.invokevirtual 217, 3) := by decide +kernel
theorem dX6_readTest_15 : decode cX6_readTest 15 = .ok (.istore_n 3, 1) := by decide +kernel
theorem dX6_readTest_16 : decode cX6_readTest 16 = .ok (.aload_n 0, 1) := by decide +kernel
theorem dX6_readTest_17 : decode cX6_readTest 17 = .ok (.getfield 32, 3) := by decide +kernel
theorem dX6_readTest_20 : decode cX6_readTest 20 = .ok (.ifCond .ne 19, 3) := by decide +kernel
theorem dX6_readTest_23 : decode cX6_readTest 23 = .ok (.iload_n 3, 1) := by decide +kernel
theorem dX6_readTest_24 : decode cX6_readTest 24 = .ok (.ifCond .ne 17, 3) := by decide +kernel
theorem dX6_readTest_27 : decode cX6_readTest 27 = .ok (.aload_n 0, 1) := by decide +kernel
theorem dX6_readTest_28 : decode cX6_readTest 28 = .ok (.getfield 12, 3) := by decide +kernel
theorem dX6_readTest_31 : decode cX6_readTest 31 = .ok (.bipush 61, 2) := by decide +kernel
theorem dX6_readTest_33 : decode cX6_readTest 33 = .ok (.invokevirtual 217, 3) := by decide +kernel
theorem dX6_readTest_36 : decode cX6_readTest 36 = .ok (.ifCond .ne 5, 3) := by decide +kernel
theorem dX6_readTest_39 : decode cX6_readTest 39 = .ok (.iload_n 2, 1) := by decide +kernel
theorem dX6_readTest_40 : decode cX6_readTest 40 = .ok (.ireturn, 1) := by decide +kernel
theorem dX6_readTest_41 : decode cX6_readTest 41 = .ok (.aload_n 0, 1) := by decide +kernel
theorem dX6_readTest_42 : decode cX6_readTest 42 = .ok (.getfield 12, 3) := by decide +kernel
theorem dX6_readTest_45 : decode cX6_readTest 45 = .ok (.invokevirtual 91, 3) := by decide +kernel
theorem dX6_readTest_48 : decode cX6_readTest 48 = .ok (.aload_n 0, 1) := by decide +kernel
theorem dX6_readTest_49 : decode cX6_readTest 49 = .ok (.iload_n 1, 1) := by decide +kernel
theorem dX6_readTest_50 : decode cX6_readTest 50 = .ok (.invokevirtual 248, 3) := by decide +kernel
theorem dX6_readTest_53 : decode cX6_readTest 53 = .ok (.istore 4, 2) := by decide +kernel
theorem dX6_readTest_55 : decode cX6_readTest 55 = .ok (.iload_n 3, 1) := by decide +kernel
theorem dX6_readTest_56 : decode cX6_readTest 56 = .ok (.ifCond .eq 17, 3) := by decide +kernel
theorem dX6_readTest_59 : decode cX6_readTest 59 = .ok (.iload_n 2, 1) := by decide +kernel
theorem dX6_readTest_60 : decode cX6_readTest 60 = .ok (.iload 4, 2) := by decide +kernel
theorem dX6_readTest_62 : decode cX6_readTest 62 = .ok (.if_icmp .ge 7, 3) := by decide +kernel
theorem dX6_readTest_65 : decode cX6_readTest 65 = .ok (.iconst 1, 1) := by decide +kernel
theorem dX6_readTest_66 : decode cX6_readTest 66 = .ok (.goto 18, 3) := by decide +kernel
theorem dX6_readTest_69 : decode cX6_readTest 69 = .ok (.iconst 0, 1) := by decide +kernel
theorem dX6_readTest_70 : decode cX6_readTest 70 = .ok (.goto 14, 3) := by decide +kernel
theorem dX6_readTest_73 : decode cX6_readTest 73 = .ok (.iload_n 2, 1) := by decide +kernel
theorem dX6_readTest_74 : decode cX6_readTest 74 = .ok (.iload 4, 2) := by decide +kernel
theorem dX6_readTest_76 : decode cX6_readTest 76 = .ok (.if_icmp .ne 7, 3) := by decide +kernel
theorem dX6_readTest_79 : decode cX6_readTest 79 = .ok (.iconst 1, 1) := by decide +kernel
theorem dX6_readTest_80 : decode cX6_readTest 80 = .ok (.goto 4, 3) := by decide +kernel
theorem dX6_readTest_83 : decode cX6_readTest 83 = .ok (.iconst 0, 1) := by decide +kernel
theorem dX6_readTest_84 : decode cX6_readTest 84 = .ok (.istore 5, 2) := by decide +kernel
theorem dX6_readTest_86 : decode cX6_readTest 86 = .ok (.iload 5, 2) := by decide +kernel
theorem dX6_readTest_88 : decode cX6_readTest 88 = .ok (.ifCond .eq 7, 3) := by decide +kernel
theorem dX6_readTest_91 : decode cX6_readTest 91 = .ok (.iconst 1, 1) := by decide +kernel
theorem dX6_readTest_92 : decode cX6_readTest 92 = .ok (.goto 4, 3) := by decide +kernel
theorem dX6_readTest_95 : decode cX6_readTest 95 = .ok (.iconst 0, 1) := by decide +kernel
theorem dX6_readTest_96 : decode cX6_readTest 96 = .ok (.ireturn, 1) := by decide +kernel
theorem dX6_readSum_0 : decode cX6_readSum 0 = .ok (.aload_n 0, 1) := by decide +kernel
theorem dX6_readSum_1 : decode cX6_readSum 1 = .ok (.iload_n 1, 1) := by decide +kernel
theorem dX6_readSum_2 : decode cX6_readSum 2 = .ok (.invokevirtual 251, 3) := by decide +kernel
theorem dX6_readSum_5 : decode cX6_readSum 5 = .ok (.istore_n 2, 1) := by decide +kernel
theorem dX6_readSum_6 : decode cX6_readSum 6 = .ok (.iconst 0, 1) := by decide +kernel
theorem dX6_readSum_7 : decode cX6_readSum 7 = .ok (.istore_n 3, 1) := by decide +kernel
theorem dX6_readSum_8 : decode cX6_readSum 8 = .ok (.iload_n 3, 1) := by decide +kernel
theorem dX6_readSum_9 : decode cX6_readSum 9 = .ok (.sipush 1000, 3) := by decide +kernel
theorem dX6_readSum_12 : decode cX6_readSum 12 = .ok (.if_icmp .ge 77, 3) := by decide +kernel
theorem dX6_readSum_15 : decode cX6_readSum 15 = .ok (.aload_n 0, 1) := by decide +kernel
theorem dX6_readSum_16 : decode cX6_readSum 16 = .ok (.getfield 32, 3) := by decide +kernel
theorem dX6_readSum_19 : decode cX6_readSum 19 = .ok (.ifCond .ne 70, 3) := by decide +kernel
theorem dX6_readSum_22 : decode cX6_readSum 22 = .ok (.aload_n 0, 1) := by decide +kernel
theorem dX6_readSum_23 : decode cX6_readSum 23 = .ok (.getfield 12, 3) := by decide +kernel
theorem dX6_readSum_26 : decode cX6_readSum 26 = .ok (.bipush 43, 2) := by decide +kernel
theorem dX6_readSum_28 : decode cX6_readSum 28 = .ok (.invokevirtual 217, 3) := by decide +kernel
theorem dX6_readSum_31 : decode cX6_readSum 31 = .ok (.istore 4, 2) := by decide +kernel
theorem dX6_readSum_33 : decode cX6_readSum 33 = .ok (.iload 4, 2) := by decide +kernel
theorem dX6_readSum_35 : decode cX6_readSum 35 = .ok (.ifCond .ne 17, 3) := by decide +kernel
theorem dX6_readSum_38 : decode cX6_readSum 38 = .ok (.aload_n 0, 1) := by decide +kernel
theorem dX6_readSum_39 : decode cX6_readSum 39 = .ok (.getfield 12, 3) := by decide +kernel
theorem dX6_readSum_42 : decode cX6_readSum 42 = .ok (.bipush 45, 2) := by decide +kernel
theorem dX6_readSum_44 : decode cX6_readSum 44 = .ok (.invokevirtual 217, 3) := by decide +kernel
theorem dX6_readSum_47 : decode cX6_readSum 47 = .ok (.ifCond .ne 5, 3) := by decide +kernel
theorem dX6_readSum_50 : decode cX6_readSum 50 = .ok (.iload_n 2, 1) := by decide +kernel
theorem dX6_readSum_51 : decode cX6_readSum 51 = .ok (.ireturn, 1) := by decide +kernel
theorem dX6_readSum_52 : decode cX6_readSum 52 = .ok (.aload_n 0, 1) := by decide +kernel
theorem dX6_readSum_53 : decode cX6_readSum 53 = .ok (.getfield 12, 3) := by decide +kernel
theorem dX6_readSum_56 : decode cX6_readSum 56 = .ok (.invokevirtual 91, 3) := by decide +kernel
theorem dX6_readSum_59 : decode cX6_readSum 59 = .ok (.aload_n 0, 1) := by decide +kernel
theorem dX6_readSum_60 : decode cX6_readSum 60 = .ok (.iload_n 1, 1) := by decide +kernel
theorem dX6_readSum_61 : decode cX6_readSum 61 = .ok (.invokevirtual 251, 3) := by decide +kernel
theorem dX6_readSum_64 : decode cX6_readSum 64 = .ok (.istore 5, 2) := by decide +kernel
theorem dX6_readSum_66 : decode cX6_readSum 66 = .ok (.iload 4, 2) := by decide +kernel
theorem dX6_readSum_68 : decode cX6_readSum 68 = .ok (.ifCond .eq 10, 3) := by decide +kernel
theorem dX6_readSum_71 : decode cX6_readSum 71 = .ok (.iload_n 2, 1) := by decide +kernel
theorem dX6_readSum_72 : decode cX6_readSum 72 = .ok (.iload 5, 2) := by decide +kernel
theorem dX6_readSum_74 : decode cX6_readSum 74 = .ok (.iadd, 1) := by decide +kernel
theorem dX6_readSum_75 : decode cX6_readSum 75 = .ok (.goto 7, 3) := by decide +kernel
theorem dX6_readSum_78 : decode cX6_readSum 78 = .ok (.iload_n 2, 1) := by decide +kernel
theorem dX6_readSum_79 : decode cX6_readSum 79 = .ok (.iload 5, 2) := by decide +kernel
theorem dX6_readSum_81 : decode cX6_readSum 81 = .ok (.isub, 1) := by decide +kernel
theorem dX6_readSum_82 : decode cX6_readSum 82 = .ok (.istore_n 2, 1) := by decide +kernel
theorem dX6_readSum_83 : decode cX6_readSum 83 = .ok (.iinc 3 1, 3) := by decide +kernel
theorem dX6_readSum_86 : decode cX6_readSum 86 = .ok (.goto (-78), 3) := by decide +kernel
theorem dX6_readSum_89 : decode cX6_readSum 89 = .ok (.iload_n 2, 1) := by decide +kernel
theorem dX6_readSum_90 : decode cX6_readSum 90 = .ok (.ireturn, 1) := by decide +kernel
theorem dX6_readProduct_0 : decode cX6_readProduct 0 = .ok (.aload_n 0, 1) := by decide +kernel
theorem dX6_readProduct_1 : decode cX6_readProduct 1 = .ok (.iload_n 1, 1) := by decide +kernel
theorem dX6_readProduct_2 : decode cX6_readProduct 2 = .ok (.invokevirtual 254, 3) := by decide +kernel
theorem dX6_readProduct_5 : decode cX6_readProduct 5 = .ok (.istore_n 2, 1) := by decide +kernel
theorem dX6_readProduct_6 : decode cX6_readProduct 6 = .ok (.iconst 0, 1) := by decide +kernel
theorem dX6_readProduct_7 : decode cX6_readProduct 7 = .ok (.istore_n 3, 1) := by decide +kernel
theorem dX6_readProduct_8 : decode cX6_readProduct 8 = .ok (.iload_n 3, 1) := by decide +kernel
theorem dX6_readProduct_9 : decode cX6_readProduct 9 = .ok (.sipush 1000, 3) := by decide +kernel
theorem dX6_readProduct_12 : decode cX6_readProduct 12 = .ok (.if_icmp .ge 45, 3) := by decide +kernel
theorem dX6_readProduct_15 : decode cX6_readProduct 15 = .ok (.aload_n 0, 1) := by decide +kernel
theorem dX6_readProduct_16 : decode cX6_readProduct 16 = .ok (.getfield 32, 3) := by decide +kernel
theorem dX6_readProduct_19 : decode cX6_readProduct 19 = .ok (.ifCond .ne 38, 3) := by decide +kernel
theorem dX6_readProduct_22 : decode cX6_readProduct 22 = .ok (.aload_n 0, 1) := by decide +kernel
theorem dX6_readProduct_23 : decode cX6_readProduct 23 = .ok (.getfield 12, 3) := by decide +kernel
theorem dX6_readProduct_26 : decode cX6_readProduct 26 = .ok (.bipush 42, 2) := by decide +kernel
theorem dX6_readProduct_28 : decode cX6_readProduct 28 = .ok (.invokevirtual 217, 3) := by decide +kernel
theorem dX6_readProduct_31 : decode cX6_readProduct 31 = .ok (.ifCond .ne 5, 3) := by decide +kernel
theorem dX6_readProduct_34 : decode cX6_readProduct 34 = .ok (.iload_n 2, 1) := by decide +kernel
theorem dX6_readProduct_35 : decode cX6_readProduct 35 = .ok (.ireturn, 1) := by decide +kernel
theorem dX6_readProduct_36 : decode cX6_readProduct 36 = .ok (.aload_n 0, 1) := by decide +kernel
theorem dX6_readProduct_37 : decode cX6_readProduct 37 = .ok (.getfield 12, 3) := by decide +kernel
theorem dX6_readProduct_40 : decode cX6_readProduct 40 = .ok (.invokevirtual 91, 3) := by decide +kernel
theorem dX6_readProduct_43 : decode cX6_readProduct 43 = .ok (.iload_n 2, 1) := by decide +kernel
theorem dX6_readProduct_44 : decode cX6_readProduct 44 = .ok (.aload_n 0, 1) := by decide +kernel
theorem dX6_readProduct_45 : decode cX6_readProduct 45 = .ok (.iload_n 1, 1) := by decide +kernel
theorem dX6_readProduct_46 : decode cX6_readProduct 46 = .ok (.invokevirtual 254, 3) := by decide +kernel
theorem dX6_readProduct_49 : decode cX6_readProduct 49 = .ok (.imul, 1) := by decide +kernel
theorem dX6_readProduct_50 : decode cX6_readProduct 50 = .ok (.istore_n 2, 1) := by decide +kernel
theorem dX6_readProduct_51 : decode cX6_readProduct 51 = .ok (.iinc 3 1, 3) := by decide +kernel
theorem dX6_readProduct_54 : decode cX6_readProduct 54 = .ok (.goto (-46), 3) := by decide +kernel
theorem dX6_readProduct_57 : decode cX6_readProduct 57 = .ok (.iload_n 2, 1) := by decide +kernel
theorem dX6_readProduct_58 : decode cX6_readProduct 58 = .ok (.ireturn, 1) := by decide +kernel
theorem dX6_readPart_0 : decode cX6_readPart 0 = .ok (.aload_n 0, 1) := by decide +kernel
theorem dX6_readPart_1 : decode cX6_readPart 1 = .ok (.getfield 12, 3) := by decide +kernel
theorem dX6_readPart_4 : decode cX6_readPart 4 = .ok (.invokevirtual 221, 3) := by decide +kernel
theorem dX6_readPart_7 : decode cX6_readPart 7 = .ok (.istore_n 2, 1) := by decide +kernel
theorem dX6_readPart_8 : decode cX6_readPart 8 = .ok (.aload_n 0, 1) := by decide +kernel
theorem dX6_readPart_9 : decode cX6_readPart 9 = .ok (.getfield 12, 3) := by decide +kernel
theorem dX6_readPart_12 : decode cX6_readPart 12 = .ok (.getstatic 257, 3) := by decide +kernel
theorem dX6_readPart_15 : decode cX6_readPart 15 = .ok (.invokevirtual 59, 3) := by decide +kernel
theorem dX6_readPart_18 : decode cX6_readPart 18 = .ok (.istore_n 3, 1) := by decide +kernel
theorem dX6_readPart_19 : decode cX6_readPart 19 = .ok (.aload_n 0, 1) := by decide +kernel
theorem dX6_readPart_20 : decode cX6_readPart 20 = .ok (.getfield 12, 3) := by decide +kernel
theorem dX6_readPart_23 : decode cX6_readPart 23 = .ok (.invokevirtual 234, 3) := by decide +kernel
theorem dX6_readPart_26 : decode cX6_readPart 26 = .ok (.getfield 260, 3) := by decide +kernel
theorem dX6_readPart_29 : decode cX6_readPart 29 = .ok (.istore 4, 2) := by decide +kernel
theorem dX6_readPart_31 : decode cX6_readPart 31 = .ok (.iload_n 2, 1) := by decide +kernel
theorem dX6_readPart_32 : decode cX6_readPart 32 = .ok (.ifCond .ne 33, 3) := by decide +kernel
theorem dX6_readPart_35 : decode cX6_readPart 35 = .ok (.iload_n 3, 1) := by decide +kernel
theorem dX6_readPart_36 : decode cX6_readPart 36 = .ok (.ifCond .ne 29, 3) := by decide +kernel
theorem dX6_readPart_39 : decode cX6_readPart 39 = .ok (.iload 4, 2) := by decide +kernel
theorem dX6_readPart_41 : decode cX6_readPart 41 = .ok (.iconst (-1), 1) := by decide +kernel
theorem dX6_readPart_42 : decode cX6_readPart 42 = .ok (.if_icmp .ne 23, 3) := by decide +kernel
theorem dX6_readPart_45 : decode cX6_readPart 45 = .ok (.aload_n 0, 1) := by decide +kernel
theorem dX6_readPart_46 : decode cX6_readPart 46 = .ok (.getfield 12, 3) := by decide +kernel
theorem dX6_readPart_49 : decode cX6_readPart 49 = .ok (.bipush 40, 2) := by decide +kernel
theorem dX6_readPart_51 : decode cX6_readPart 51 = .ok (.invokevirtual 217, 3) := by decide +kernel
theorem dX6_readPart_54 : decode cX6_readPart 54 = .ok (.ifCond .ne 11, 3) := by decide +kernel
theorem dX6_readPart_57 : decode cX6_readPart 57 = .ok (.aload_n 0, 1) := by decide +kernel
theorem dX6_readPart_58 : decode cX6_readPart 58 = .ok (.iconst 1, 1) := by decide +kernel
theorem dX6_readPart_59 : decode cX6_readPart 59 = .ok (.invokevirtual 84, 3) := by decide +kernel
theorem dX6_readPart_62 : decode cX6_readPart 62 = .ok (.goto 13, 3) := by decide +kernel
theorem dX6_readPart_65 : decode cX6_readPart 65 = .ok (.iload_n 1, 1) := by decide +kernel
theorem dX6_readPart_66 : decode cX6_readPart 66 = .ok (.iconst 5, 1) := by decide +kernel
theorem dX6_readPart_67 : decode cX6_readPart 67 = .ok (.if_icmp .lt 8, 3) := by decide +kernel
theorem dX6_readPart_70 : decode cX6_readPart 70 = .ok (.aload_n 0, 1) := by decide +kernel
theorem dX6_readPart_71 : decode cX6_readPart 71 = .ok (.iconst 5, 1) := by decide +kernel
theorem dX6_readPart_72 : decode cX6_readPart 72 = .ok (.invokevirtual 84, 3) := by decide +kernel
theorem dX6_readPart_75 : decode cX6_readPart 75 = .ok (.aload_n 0, 1) := by decide +kernel
theorem dX6_readPart_76 : decode cX6_readPart 76 = .ok (.getfield 32, 3) := by decide +kernel
theorem dX6_readPart_79 : decode cX6_readPart 79 = .ok (.ifCond .eq 5, 3) := by decide +kernel
theorem dX6_readPart_82 : decode cX6_readPart 82 = .ok (.iconst 0, 1) := by decide +kernel
theorem dX6_readPart_83 : decode cX6_readPart 83 = .ok (.ireturn, 1) := by decide +kernel
theorem dX6_readPart_84 : decode cX6_readPart 84 = .ok (.aload_n 0, 1) := by decide +kernel
theorem dX6_readPart_85 : decode cX6_readPart 85 = .ok (.getfield 12, 3) := by decide +kernel
theorem dX6_readPart_88 : decode cX6_readPart 88 = .ok (.invokevirtual 224, 3) := by decide +kernel
theorem dX6_readPart_91 : decode cX6_readPart 91 = .ok (.lstore 5, 2) := by decide +kernel
theorem dX6_readPart_93 : decode cX6_readPart 93 = .ok (.aload_n 0, 1) := by decide +kernel
theorem dX6_readPart_94 : decode cX6_readPart 94 = .ok (.getfield 12, 3) := by decide +kernel
theorem dX6_readPart_97 : decode cX6_readPart 97 = .ok (.invokevirtual 91, 3) := by decide +kernel
theorem dX6_readPart_100 : decode cX6_readPart 100 = .ok (.iload_n 2, 1) := by decide +kernel
theorem dX6_readPart_101 : decode cX6_readPart 101 = .ok (.ifCond .eq 7, 3) := by decide +kernel
theorem dX6_readPart_104 : decode cX6_readPart 104 = .ok (.lload 5, 2) := by decide +kernel
theorem dX6_readPart_106 : decode cX6_readPart 106 = .ok (.l2i, 1) := by decide +kernel
theorem dX6_readPart_107 : decode cX6_readPart 107 = .ok (.ireturn, 1) := by decide +kernel
theorem dX6_readPart_108 : decode cX6_readPart 108 = .ok (.iload 4, 2) := by decide +kernel
theorem dX6_readPart_110 : decode cX6_readPart 110 = .ok (.iconst (-1), 1) := by decide +kernel
theorem dX6_readPart_111 : decode cX6_readPart 111 = .ok (.if_icmp .eq 10, 3) := by decide +kernel
theorem dX6_readPart_114 : decode cX6_readPart 114 = .ok (.aload_n 0, 1) := by decide +kernel
theorem dX6_readPart_115 : decode cX6_readPart 115 = .ok (.iload 4, 2) := by decide +kernel
theorem dX6_readPart_117 : decode cX6_readPart 117 = .ok (.invokevirtual 263, 3) := by decide +kernel
theorem dX6_readPart_120 : decode cX6_readPart 120 = .ok (.ireturn, 1) := by decide +kernel
theorem dX6_readPart_121 : decode cX6_readPart 121 = .ok (.iload_n 3, 1) := by decide +kernel
theorem dX6_readPart_122 : decode cX6_readPart 122 = .ok (.ifCond .eq 19, 3) := by decide +kernel
theorem dX6_readPart_125 : decode cX6_readPart 125 = .ok (.aload_n 0, 1) := by decide +kernel
theorem dX6_readPart_126 : decode cX6_readPart 126 = .ok (.iload_n 1, 1) := by decide +kernel
theorem dX6_readPart_127 : decode cX6_readPart 127 = .ok (.iconst 1, 1) := by decide +kernel
theorem dX6_readPart_128 : decode cX6_readPart 128 = .ok (.iadd, 1) := by decide +kernel
theorem dX6_readPart_129 : decode cX6_readPart 129 = .ok (.invokevirtual 254, 3) := by decide +kernel
theorem dX6_readPart_132 : decode cX6_readPart 132 = .ok (.ifCond .ne 7, 3) := by decide +kernel
theorem dX6_readPart_135 : decode cX6_readPart 135 = .ok (.iconst 1, 1) := by decide +kernel
theorem dX6_readPart_136 : decode cX6_readPart 136 = .ok (.goto 4, 3) := by decide +kernel
theorem dX6_readPart_139 : decode cX6_readPart 139 = .ok (.iconst 0, 1) := by decide +kernel
theorem dX6_readPart_140 : decode cX6_readPart 140 = .ok (.ireturn, 1) := by decide +kernel
theorem dX6_readPart_141 : decode cX6_readPart 141 = .ok (.aload_n 0, 1) := by decide +kernel
theorem dX6_readPart_142 : decode cX6_readPart 142 = .ok (.iload_n 1, 1) := by decide +kernel
theorem dX6_readPart_143 : decode cX6_readPart 143 = .ok (.iconst 1, 1) := by decide +kernel
theorem dX6_readPart_144 : decode cX6_readPart 144 = .ok (.iadd, 1) := by decide +kernel
theorem dX6_readPart_145 : decode cX6_readPart 145 = .ok (.invokevirtual 213, 3) := by decide +kernel
theorem dX6_readPart_148 : decode cX6_readPart 148 = .ok (.istore 7, 2) := by decide +kernel
theorem dX6_readPart_150 : decode cX6_readPart 150 = .ok (.aload_n 0, 1) := by decide +kernel
theorem dX6_readPart_151 : decode cX6_readPart 151 = .ok (.bipush 41, 2) := by decide +kernel
theorem dX6_readPart_153 : decode cX6_readPart 153 = .ok (.invokevirtual 119, 3) := by decide +kernel
theorem dX6_readPart_156 : decode cX6_readPart 156 = .ok (.iload 7, 2) := by decide +kernel
theorem dX6_readPart_158 : decode cX6_readPart 158 = .ok (.ireturn, 1) := by decide +kernel
theorem dX6_factNow_0 : decode cX6_factNow 0 = .ok (.iload_n 1, 1) := by decide +kernel
theorem dX6_factNow_1 : decode cX6_factNow 1 = .ok (.iconst 4, 1) := by decide +kernel
theorem dX6_factNow_2 : decode cX6_factNow 2 = .ok (.if_icmp .ne 13, 3) := by decide +kernel
theorem dX6_factNow_5 : decode cX6_factNow 5 = .ok (.aload_n 0, 1) := by decide +kernel
theorem dX6_factNow_6 : decode cX6_factNow 6 = .ok (.getfield 210, 3) := by decide +kernel
theorem dX6_factNow_9 : decode cX6_factNow 9 = .ok (.invokestatic 266, 3) := by decide +kernel
theorem dX6_factNow_12 : decode cX6_factNow 12 = .ok (.goto 11, 3) := by decide +kernel
theorem dX6_factNow_15 : decode cX6_factNow 15 = .ok (.aload_n 0, 1) := by decide +kernel
theorem dX6_factNow_16 : decode cX6_factNow 16 = .ok (.getfield 210, 3) := by decide +kernel
theorem dX6_factNow_19 : decode cX6_factNow 19 = .ok (.iload_n 1, 1) := by decide +kernel
theorem dX6_factNow_20 : decode cX6_factNow 20 = .ok (.ishr, 1) := by decide +kernel
theorem dX6_factNow_21 : decode cX6_factNow 21 = .ok (.iconst 1, 1) := by decide +kernel
theorem dX6_factNow_22 : decode cX6_factNow 22 = .ok (.iand, 1) := by decide +kernel
theorem dX6_factNow_23 : decode cX6_factNow 23 = .ok (.ireturn, 1) := by decide +kernel
theorem dX7_init_0 : decode cX7_init 0 = .ok (.aload_n 0, 1) := by decide +kernel
theorem dX7_init_1 : decode cX7_init 1 = .ok (.invokespecial 1, 3) := by decide +kernel
theorem dX7_init_4 : decode cX7_init 4 = .ok (.return_, 1) := by decide +kernel
theorem dX7_copyFrom_0 : decode cX7_copyFrom 0 = .ok (.aload_n 0, 1) := by decide +kernel
theorem dX7_copyFrom_1 : decode cX7_copyFrom 1 = .ok (.aload_n 1, 1) := by decide +kernel
theorem dX7_copyFrom_2 : decode cX7_copyFrom 2 = .ok (.getfield 7, 3) := by decide +kernel
theorem dX7_copyFrom_5 : decode cX7_copyFrom 5 = .ok (.putfield 7, 3) := by decide +kernel
theorem dX7_copyFrom_8 : decode cX7_copyFrom 8 = .ok (.aload_n 0, 1) := by decide +kernel
theorem dX7_copyFrom_9 : decode cX7_copyFrom 9 = .ok (.aload_n 1, 1) := by decide +kernel
theorem dX7_copyFrom_10 : decode cX7_copyFrom 10 = .ok (.getfield 13, 3) := by decide +kernel
theorem dX7_copyFrom_13 : decode cX7_copyFrom 13 = .ok (.putfield 13, 3) := by decide +kernel
theorem dX7_copyFrom_16 : decode cX7_copyFrom 16 = .ok (.aload_n 0, 1) := by decide +kernel
theorem dX7_copyFrom_17 : decode cX7_copyFrom 17 = .ok (.aload_n 1, 1) := by decide +kernel
theorem dX7_copyFrom_18 : decode cX7_copyFrom 18 = .ok (.getfield 16, 3) := by decide +kernel
theorem dX7_copyFrom_21 : decode cX7_copyFrom 21 = .ok (.putfield 16, 3) := by decide +kernel
theorem dX7_copyFrom_24 : decode cX7_copyFrom 24 = .ok (.aload_n 0, 1) := by decide +kernel
theorem dX7_copyFrom_25 : decode cX7_copyFrom 25 = .ok (.aload_n 1, 1) := by decide +kernel
theorem dX7_copyFrom_26 : decode cX7_copyFrom 26 = .ok (.getfield 19, 3) := by decide +kernel
theorem dX7_copyFrom_29 : decode cX7_copyFrom 29 = .ok (.putfield 19, 3) := by decide +kernel
theorem dX7_copyFrom_32 : decode cX7_copyFrom 32 = .ok (.aload_n 0, 1) := by decide +kernel
theorem dX7_copyFrom_33 : decode cX7_copyFrom 33 = .ok (.aload_n 1, 1) := by decide +kernel
theorem dX7_copyFrom_34 : decode cX7_copyFrom 34 = .ok (.getfield 22, 3) := by decide +kernel
theorem dX7_copyFrom_37 : decode cX7_copyFrom 37 = .ok (.putfield 22, 3) := by decide +kernel
theorem dX7_copyFrom_40 : decode cX7_copyFrom 40 = .ok (.aload_n 0, 1) := by decide +kernel
theorem dX7_copyFrom_41 : decode cX7_copyFrom 41 = .ok (.aload_n 1, 1) := by decide +kernel
theorem dX7_copyFrom_42 : decode cX7_copyFrom 42 = .ok (.getfield 25, 3) := by decide +kernel
theorem dX7_copyFrom_45 : decode cX7_copyFrom 45 = .ok (.putfield 25, 3) := by decide +kernel
theorem dX7_copyFrom_48 : decode cX7_copyFrom 48 = .ok (.aload_n 0, 1) := by decide +kernel
theorem dX7_copyFrom_49 : decode cX7_copyFrom 49 = .ok (.aload_n 1, 1) := by decide +kernel
theorem dX7_copyFrom_50 : decode cX7_copyFrom 50 = .ok (.getfield 28, 3) := by decide +kernel
theorem dX7_copyFrom_53 : decode cX7_copyFrom 53 = .ok (.putfield 28, 3) := by decide +kernel
theorem dX7_copyFrom_56 : decode cX7_copyFrom 56 = .ok (.aload_n 0, 1) := by decide +kernel
theorem dX7_copyFrom_57 : decode cX7_copyFrom 57 = .ok (.aload_n 1, 1) := by decide +kernel
theorem dX7_copyFrom_58 : decode cX7_copyFrom 58 = .ok (.getfield 31, 3) := by decide +kernel
theorem dX7_copyFrom_61 : decode cX7_copyFrom 61 = .ok (.putfield 31, 3) := by decide +kernel
theorem dX7_copyFrom_64 : decode cX7_copyFrom 64 = .ok (.return_, 1) := by decide +kernel
theorem dX9_init_0 : decode cX9_init 0 = .ok (.aload_n 0, 1) := by decide +kernel
theorem dX9_init_1 : decode cX9_init 1 = .ok (.invokespecial 1, 3) := by decide +kernel
theorem dX9_init_4 : decode cX9_init 4 = .ok (.aload_n 0, 1) := by decide +kernel
theorem dX9_init_5 : decode cX9_init 5 = .ok (.new 7, 3) := by decide +kernel
theorem dX9_init_8 : decode cX9_init 8 = .ok (.dup, 1) := by decide +kernel
theorem dX9_init_9 : decode cX9_init 9 = .ok (.invokespecial 9, 3) := by decide +kernel
theorem dX9_init_12 : decode cX9_init 12 = .ok (.putfield 10, 3) := by decide +kernel
theorem dX9_init_15 : decode cX9_init 15 = .ok (.return_, 1) := by decide +kernel
theorem dX9_drawAll_0 : decode cX9_drawAll 0 = .ok (.aload_n 0, 1) := by decide +kernel
theorem dX9_drawAll_1 : decode cX9_drawAll 1 = .ok (.iload_n 3, 1) := by decide +kernel
theorem dX9_drawAll_2 : decode cX9_drawAll 2 = .ok (.i2l, 1) := by decide +kernel
theorem dX9_drawAll_3 : decode cX9_drawAll 3 = .ok (.putfield 16, 3) := by decide +kernel
theorem dX9_drawAll_6 : decode cX9_drawAll 6 = .ok (.aload_n 0, 1) := by decide +kernel
theorem dX9_drawAll_7 : decode cX9_drawAll 7 = .ok (.iconst 0, 1) := by decide +kernel
theorem dX9_drawAll_8 : decode cX9_drawAll 8 = .ok (.putfield 20, 3) := by decide +kernel
theorem dX9_drawAll_11 : decode cX9_drawAll 11 = .ok (.aload_n 0, 1) := by decide +kernel
theorem dX9_drawAll_12 : decode cX9_drawAll 12 = .ok (.iconst 0, 1) := by decide +kernel
theorem dX9_drawAll_13 : decode cX9_drawAll 13 = .ok (.putfield 24, 3) := by decide +kernel
theorem dX9_drawAll_16 : decode cX9_drawAll 16 = .ok (.aload_n 0, 1) := by decide +kernel
theorem dX9_drawAll_17 : decode cX9_drawAll 17 = .ok (.iconst 0, 1) := by decide +kernel
theorem dX9_drawAll_18 : decode cX9_drawAll 18 = .ok (.putfield 27, 3) := by decide +kernel
theorem dX9_drawAll_21 : decode cX9_drawAll 21 = .ok (.aload_n 0, 1) := by decide +kernel
theorem dX9_drawAll_22 : decode cX9_drawAll 22 = .ok (.iconst 0, 1) := by decide +kernel
theorem dX9_drawAll_23 : decode cX9_drawAll 23 = .ok (.putfield 30, 3) := by decide +kernel
theorem dX9_drawAll_26 : decode cX9_drawAll 26 = .ok (.iconst 0, 1) := by decide +kernel
theorem dX9_drawAll_27 : decode cX9_drawAll 27 = .ok (.istore 5, 2) := by decide +kernel
theorem dX9_drawAll_29 : decode cX9_drawAll 29 = .ok (.iload 5, 2) := by decide +kernel
theorem dX9_drawAll_31 : decode cX9_drawAll 31 = .ok (.iload 4, 2) := by decide +kernel
theorem dX9_drawAll_33 : decode cX9_drawAll 33 = .ok (.if_icmp .ge 129, 3) := by decide +kernel
theorem dX9_drawAll_36 : decode cX9_drawAll 36 = .ok (.aload_n 0, 1) := by decide +kernel
theorem dX9_drawAll_37 : decode cX9_drawAll 37 = .ok (.getfield 10, 3) := by decide +kernel
theorem dX9_drawAll_40 : decode cX9_drawAll 40 = .ok (.aload_n 2, 1) := by decide +kernel
theorem dX9_drawAll_41 : decode cX9_drawAll 41 = .ok (.invokevirtual 33, 3) := by decide +kernel
theorem dX9_drawAll_44 : decode cX9_drawAll 44 = .ok (.iconst 0, 1) := by decide +kernel
theorem dX9_drawAll_45 : decode cX9_drawAll 45 = .ok (.istore 6, 2) := by decide +kernel
theorem dX9_drawAll_47 : decode cX9_drawAll 47 = .ok (.iload 6, 2) := by decide +kernel
theorem dX9_drawAll_49 : decode cX9_drawAll 49 = .ok (.bipush 60, 2) := by decide +kernel
theorem dX9_drawAll_51 : decode cX9_drawAll 51 = .ok (.if_icmp .ge 29, 3) := by decide +kernel
theorem dX9_drawAll_54 : decode cX9_drawAll 54 = .ok (.aload_n 0, 1) := by decide +kernel
theorem dX9_drawAll_55 : decode cX9_drawAll 55 = .ok (.getfield 10, 3) := by decide +kernel
theorem dX9_drawAll_58 : decode cX9_drawAll 58 = .ok (.aload_n 1, 1) := by decide +kernel
theorem dX9_drawAll_59 : decode cX9_drawAll 59 = .ok (.aload_n 0, 1) := by decide +kernel
theorem dX9_drawAll_60 : decode cX9_drawAll 60 = .ok (.aload_n 1, 1) := by decide +kernel
theorem dX9_drawAll_61 : decode cX9_drawAll 61 = .ok (.aload_n 0, 1) := by decide +kernel
theorem dX9_drawAll_62 : decode cX9_drawAll 62 = .ok (.getfield 10, 3) := by decide +kernel
theorem dX9_drawAll_65 : decode cX9_drawAll 65 = .ok (.getfield 37, 3) := by decide +kernel
theorem dX9_drawAll_68 : decode cX9_drawAll 68 = .ok (.invokevirtual 40, 3) := by decide +kernel
theorem dX9_drawAll_71 : decode cX9_drawAll 71 = .ok (.invokevirtual 44, 3) := by decide +kernel
theorem dX9_drawAll_74 : decode cX9_drawAll 74 = .ok (.iinc 6 1, 3) := by decide +kernel
theorem dX9_drawAll_77 : decode cX9_drawAll 77 = .ok (.goto (-30), 3) := by decide +kernel
theorem dX9_drawAll_80 : decode cX9_drawAll 80 = .ok (.aload_n 0, 1) := by decide +kernel
theorem dX9_drawAll_81 : decode cX9_drawAll 81 = .ok (.dup, 1) := by decide +kernel
theorem dX9_drawAll_82 : decode cX9_drawAll 82 = .ok (.getfield 20, 3) := by decide +kernel
theorem dX9_drawAll_85 : decode cX9_drawAll 85 = .ok (.aload_n 0, 1) := by decide +kernel
theorem dX9_drawAll_86 : decode cX9_drawAll 86 = .ok (.getfield 10, 3) := by decide +kernel
theorem dX9_drawAll_89 : decode cX9_drawAll 89 = .ok (.aload_n 1, 1) := by decide +kernel
theorem dX9_drawAll_90 : decode cX9_drawAll 90 = .ok (.iconst 2, 1) := by decide +kernel
theorem dX9_drawAll_91 : decode cX9_drawAll 91 = .ok (.invokevirtual 48, 3) := by decide +kernel
theorem dX9_drawAll_94 : decode cX9_drawAll 94 = .ok (.iadd, 1) := by decide +kernel
theorem dX9_drawAll_95 : decode cX9_drawAll 95 = .ok (.putfield 20, 3) := by decide +kernel
theorem dX9_drawAll_98 : decode cX9_drawAll 98 = .ok (.aload_n 0, 1) := by decide +kernel
theorem dX9_drawAll_99 : decode cX9_drawAll 99 = .ok (.dup, 1) := by decide +kernel
theorem dX9_drawAll_100 : decode cX9_drawAll 100 = .ok (.getfield 24, 3) := by decide +kernel
theorem dX9_drawAll_103 : decode cX9_drawAll 103 = .ok (.aload_n 0, 1) := by decide +kernel
theorem dX9_drawAll_104 : decode cX9_drawAll 104 = .ok (.getfield 10, 3) := by decide +kernel
theorem dX9_drawAll_107 : decode cX9_drawAll 107 = .ok (.aload_n 1, 1) := by decide +kernel
theorem dX9_drawAll_108 : decode cX9_drawAll 108 = .ok (.invokevirtual 51, 3) := by decide +kernel
theorem dX9_drawAll_111 : decode cX9_drawAll 111 = .ok (.iadd, 1) := by decide +kernel
theorem dX9_drawAll_112 : decode cX9_drawAll 112 = .ok (.putfield 24, 3) := by decide +kernel
theorem dX9_drawAll_115 : decode cX9_drawAll 115 = .ok (.aload_n 0, 1) := by decide +kernel
theorem dX9_drawAll_116 : decode cX9_drawAll 116 = .ok (.dup, 1) := by decide +kernel
theorem dX9_drawAll_117 : decode cX9_drawAll 117 = .ok (.getfield 27, 3) := by decide +kernel
theorem dX9_drawAll_120 : decode cX9_drawAll 120 = .ok (.aload_n 0, 1) := by decide +kernel
theorem dX9_drawAll_121 : decode cX9_drawAll 121 = .ok (.getfield 10, 3) := by decide +kernel
theorem dX9_drawAll_124 : decode cX9_drawAll 124 = .ok (.getfield 55, 3) := by decide +kernel
theorem dX9_drawAll_127 : decode cX9_drawAll 127 = .ok (.aload_n 2, 1) := by decide +kernel
theorem dX9_drawAll_128 : decode cX9_drawAll 128 = .ok (.getfield 55, 3) := by decide +kernel
theorem dX9_drawAll_131 : decode cX9_drawAll 131 = .ok (.isub, 1) := by decide +kernel
theorem dX9_drawAll_132 : decode cX9_drawAll 132 = .ok (.iadd, 1) := by decide +kernel
theorem dX9_drawAll_133 : decode cX9_drawAll 133 = .ok (.putfield 27, 3) := by decide +kernel
theorem dX9_drawAll_136 : decode cX9_drawAll 136 = .ok (.aload_n 0, 1) := by decide +kernel
theorem dX9_drawAll_137 : decode cX9_drawAll 137 = .ok (.dup, 1) := by decide +kernel
theorem dX9_drawAll_138 : decode cX9_drawAll 138 = .ok (.getfield 30, 3) := by decide +kernel
theorem dX9_drawAll_141 : decode cX9_drawAll 141 = .ok (.aload_n 0, 1) := by decide +kernel
theorem dX9_drawAll_142 : decode cX9_drawAll 142 = .ok (.getfield 10, 3) := by decide +kernel
theorem dX9_drawAll_145 : decode cX9_drawAll 145 = .ok (.aload_n 1, 1) := by decide +kernel
theorem dX9_drawAll_146 : decode cX9_drawAll 146 = .ok (.invokevirtual 56, 3) := by decide +kernel
theorem dX9_drawAll_149 : decode cX9_drawAll 149 = .ok (.invokestatic 59, 3) := by decide +kernel
theorem dX9_drawAll_152 : decode cX9_drawAll 152 = .ok (.iadd, 1) := by decide +kernel
theorem dX9_drawAll_153 : decode cX9_drawAll 153 = .ok (.putfield 30, 3) := by decide +kernel
theorem dX9_drawAll_156 : decode cX9_drawAll 156 = .ok (.iinc 5 1, 3) := by decide +kernel
theorem dX9_drawAll_159 : decode cX9_drawAll 159 = .ok (.goto (-130), 3) := by decide +kernel
theorem dX9_drawAll_162 : decode cX9_drawAll 162 = .ok (.return_, 1) := by decide +kernel
theorem dX9_drawWeather_0 : decode cX9_drawWeather 0 = .ok (.iconst 0, 1) := by decide +kernel
theorem dX9_drawWeather_1 : decode cX9_drawWeather 1 = .ok (.istore_n 3, 1) := by decide +kernel
theorem dX9_drawWeather_2 : decode cX9_drawWeather 2 = .ok (.iconst 0, 1) := by decide +kernel
theorem dX9_drawWeather_3 : decode cX9_drawWeather 3 = .ok (.istore 4, 2) := by decide +kernel
theorem dX9_drawWeather_5 : decode cX9_drawWeather 5 = .ok (.iload 4, 2) := by decide +kernel
theorem dX9_drawWeather_7 : decode cX9_drawWeather 7 = .ok (.aload_n 1, 1) := by decide +kernel
theorem dX9_drawWeather_8 : decode cX9_drawWeather 8 = .ok (.getfield 65, 3) := by decide +kernel
theorem dX9_drawWeather_11 : decode cX9_drawWeather 11 = .ok (.if_icmp .ge 30, 3) := by decide +kernel
theorem dX9_drawWeather_14 : decode cX9_drawWeather 14 = .ok (.aload_n 0, 1) := by decide +kernel
theorem dX9_drawWeather_15 : decode cX9_drawWeather 15 = .ok (.invokevirtual 70, 3) := by decide +kernel
theorem dX9_drawWeather_18 : decode cX9_drawWeather 18 = .ok (.aload_n 1, 1) := by decide +kernel
theorem dX9_drawWeather_19 : decode cX9_drawWeather 19 = .ok (.iload 4, 2) := by decide +kernel
theorem dX9_drawWeather_21 : decode cX9_drawWeather 21 = .ok (.iload_n 2, 1) := by decide +kernel
theorem dX9_drawWeather_22 : decode cX9_drawWeather 22 = .ok (.invokevirtual 74, 3) := by decide +kernel
theorem dX9_drawWeather_25 : decode cX9_drawWeather 25 = .ok (.if_icmp .ge 10, 3) := by decide +kernel
theorem dX9_drawWeather_28 : decode cX9_drawWeather 28 = .ok (.iload_n 3, 1) := by decide +kernel
theorem dX9_drawWeather_29 : decode cX9_drawWeather 29 = .ok (.iconst 1, 1) := by decide +kernel
theorem dX9_drawWeather_30 : decode cX9_drawWeather 30 = .ok (.iload 4, 2) := by decide +kernel
theorem dX9_drawWeather_32 : decode cX9_drawWeather 32 = .ok (.ishl, 1) := by decide +kernel
theorem dX9_drawWeather_33 : decode cX9_drawWeather 33 = .ok (.ior, 1) := by decide +kernel
theorem dX9_drawWeather_34 : decode cX9_drawWeather 34 = .ok (.istore_n 3, 1) := by decide +kernel
theorem dX9_drawWeather_35 : decode cX9_drawWeather 35 = .ok (.iinc 4 1, 3) := by decide +kernel
theorem dX9_drawWeather_38 : decode cX9_drawWeather 38 = .ok (.goto (-33), 3) := by decide +kernel
theorem dX9_drawWeather_41 : decode cX9_drawWeather 41 = .ok (.iload_n 3, 1) := by decide +kernel
theorem dX9_drawWeather_42 : decode cX9_drawWeather 42 = .ok (.ireturn, 1) := by decide +kernel
theorem dX9_drawBelow8_0 : decode cX9_drawBelow8 0 = .ok (.aload_n 0, 1) := by decide +kernel
theorem dX9_drawBelow8_1 : decode cX9_drawBelow8 1 = .ok (.aload_n 0, 1) := by decide +kernel
theorem dX9_drawBelow8_2 : decode cX9_drawBelow8 2 = .ok (.getfield 16, 3) := by decide +kernel
theorem dX9_drawBelow8_5 : decode cX9_drawBelow8 5 = .ok (.ldc2_w 78, 3) := by decide +kernel
theorem dX9_drawBelow8_8 : decode cX9_drawBelow8 8 = .ok (.lmul, 1) := by decide +kernel
theorem dX9_drawBelow8_9 : decode cX9_drawBelow8 9 = .ok (.ldc2_w 80, 3) := by decide +kernel
theorem dX9_drawBelow8_12 : decode cX9_drawBelow8 12 = .ok (.ladd, 1) := by decide +kernel
theorem dX9_drawBelow8_13 : decode cX9_drawBelow8 13 = .ok (.ldc2_w 82, 3) := by decide +kernel
theorem dX9_drawBelow8_16 : decode cX9_drawBelow8 16 = .ok (.lrem, 1) := by decide +kernel
theorem dX9_drawBelow8_17 : decode cX9_drawBelow8 17 = .ok (.putfield 16, 3) := by decide +kernel
theorem dX9_drawBelow8_20 : decode cX9_drawBelow8 20 = .ok (.aload_n 0, 1) := by decide +kernel
theorem dX9_drawBelow8_21 : decode cX9_drawBelow8 21 = .ok (.getfield 16, 3) := by decide +kernel
theorem dX9_drawBelow8_24 : decode cX9_drawBelow8 24 = .ok (.ldc2_w 84, 3) := by decide +kernel
theorem dX9_drawBelow8_27 : decode cX9_drawBelow8 27 = .ok (.ldiv, 1) := by decide +kernel
theorem dX9_drawBelow8_28 : decode cX9_drawBelow8 28 = .ok (.ldc2_w 86, 3) := by decide +kernel
theorem dX9_drawBelow8_31 : decode cX9_drawBelow8 31 = .ok (.lrem, 1) := by decide +kernel
theorem dX9_drawBelow8_32 : decode cX9_drawBelow8 32 = .ok (.l2i, 1) := by decide +kernel
theorem dX9_drawBelow8_33 : decode cX9_drawBelow8 33 = .ok (.ireturn, 1) := by decide +kernel
theorem dX10_init_0 : decode cX10_init 0 = .ok (.aload_n 0, 1) := by decide +kernel
theorem dX10_init_1 : decode cX10_init 1 = .ok (.invokespecial 1, 3) := by decide +kernel
theorem dX10_init_4 : decode cX10_init 4 = .ok (.aload_n 0, 1) := by decide +kernel
theorem dX10_init_5 : decode cX10_init 5 = .ok (.new 7, 3) := by decide +kernel
theorem dX10_init_8 : decode cX10_init 8 = .ok (.dup, 1) := by decide +kernel
theorem dX10_init_9 : decode cX10_init 9 = .ok (.invokespecial 9, 3) := by decide +kernel
theorem dX10_init_12 : decode cX10_init 12 = .ok (.putfield 10, 3) := by decide +kernel
theorem dX10_init_15 : decode cX10_init 15 = .ok (.aload_n 0, 1) := by decide +kernel
theorem dX10_init_16 : decode cX10_init 16 = .ok (.new 16, 3) := by decide +kernel
theorem dX10_init_19 : decode cX10_init 19 = .ok (.dup, 1) := by decide +kernel
theorem dX10_init_20 : decode cX10_init 20 = .ok (.invokespecial 18, 3) := by decide +kernel
theorem dX10_init_23 : decode cX10_init 23 = .ok (.putfield 19, 3) := by decide +kernel
theorem dX10_init_26 : decode cX10_init 26 = .ok (.aload_n 0, 1) := by decide +kernel
theorem dX10_init_27 : decode cX10_init 27 = .ok (.new 23, 3) := by decide +kernel
theorem dX10_init_30 : decode cX10_init 30 = .ok (.dup, 1) := by decide +kernel
theorem dX10_init_31 : decode cX10_init 31 = .ok (.invokespecial 25, 3) := by decide +kernel
theorem dX10_init_34 : decode cX10_init 34 = .ok (.putfield 26, 3) := by decide +kernel
theorem dX10_init_37 : decode cX10_init 37 = .ok (.aload_n 0, 1) := by decide +kernel
theorem dX10_init_38 : decode cX10_init 38 = .ok (.new 30, 3) := by decide +kernel
theorem dX10_init_41 : decode cX10_init 41 = .ok (.dup, 1) := by decide +kernel
theorem dX10_init_42 : decode cX10_init 42 = .ok (.invokespecial 32, 3) := by decide +kernel
theorem dX10_init_45 : decode cX10_init 45 = .ok (.putfield 33, 3) := by decide +kernel
theorem dX10_init_48 : decode cX10_init 48 = .ok (.aload_n 0, 1) := by decide +kernel
theorem dX10_init_49 : decode cX10_init 49 = .ok (.iconst 4, 1) := by decide +kernel
theorem dX10_init_50 : decode cX10_init 50 = .ok (.anewarray 37, 3) := by decide +kernel
theorem dX10_init_53 : decode cX10_init 53 = .ok (.putfield 39, 3) := by decide +kernel
theorem dX10_init_56 : decode cX10_init 56 = .ok (.iconst 0, 1) := by decide +kernel
theorem dX10_init_57 : decode cX10_init 57 = .ok (.istore_n 1, 1) := by decide +kernel
theorem dX10_init_58 : decode cX10_init 58 = .ok (.iload_n 1, 1) := by decide +kernel
theorem dX10_init_59 : decode cX10_init 59 = .ok (.iconst 4, 1) := by decide +kernel
theorem dX10_init_60 : decode cX10_init 60 = .ok (.if_icmp .ge 22, 3) := by decide +kernel
theorem dX10_init_63 : decode cX10_init 63 = .ok (.aload_n 0, 1) := by decide +kernel
theorem dX10_init_64 : decode cX10_init 64 = .ok (.getfield 39, 3) := by decide +kernel
theorem dX10_init_67 : decode cX10_init 67 = .ok (.iload_n 1, 1) := by decide +kernel
theorem dX10_init_68 : decode cX10_init 68 = .ok (.new 37, 3) := by decide +kernel
theorem dX10_init_71 : decode cX10_init 71 = .ok (.dup, 1) := by decide +kernel
theorem dX10_init_72 : decode cX10_init 72 = .ok (.invokespecial 43, 3) := by decide +kernel
theorem dX10_init_75 : decode cX10_init 75 = .ok (.aastore, 1) := by decide +kernel
theorem dX10_init_76 : decode cX10_init 76 = .ok (.iinc 1 1, 3) := by decide +kernel
theorem dX10_init_79 : decode cX10_init 79 = .ok (.goto (-21), 3) := by decide +kernel
theorem dX10_init_82 : decode cX10_init 82 = .ok (.aload_n 0, 1) := by decide +kernel
theorem dX10_init_83 : decode cX10_init 83 = .ok (.new 44, 3) := by decide +kernel
theorem dX10_init_86 : decode cX10_init 86 = .ok (.dup, 1) := by decide +kernel
theorem dX10_init_87 : decode cX10_init 87 = .ok (.invokespecial 46, 3) := by decide +kernel
theorem dX10_init_90 : decode cX10_init 90 = .ok (.putfield 47, 3) := by decide +kernel
theorem dX10_init_93 : decode cX10_init 93 = .ok (.aload_n 0, 1) := by decide +kernel
theorem dX10_init_94 : decode cX10_init 94 = .ok (.new 51, 3) := by decide +kernel
theorem dX10_init_97 : decode cX10_init 97 = .ok (.dup, 1) := by decide +kernel
theorem dX10_init_98 : decode cX10_init 98 = .ok (.invokespecial 53, 3) := by decide +kernel
theorem dX10_init_101 : decode cX10_init 101 = .ok (.putfield 54, 3) := by decide +kernel
theorem dX10_init_104 : decode cX10_init 104 = .ok (.return_, 1) := by decide +kernel
theorem dX10_feed_0 : decode cX10_feed 0 = .ok (.aload_n 0, 1) := by decide +kernel
theorem dX10_feed_1 : decode cX10_feed 1 = .ok (.getfield 10, 3) := by decide +kernel
theorem dX10_feed_4 : decode cX10_feed 4 = .ok (.getfield 58, 3) := by decide +kernel
theorem dX10_feed_7 : decode cX10_feed 7 = .ok (.lload_n 1, 1) := by decide +kernel
theorem dX10_feed_8 : decode cX10_feed 8 = .ok (.invokevirtual 62, 3) := by decide +kernel
theorem dX10_feed_11 : decode cX10_feed 11 = .ok (.aload_n 0, 1) := by decide +kernel
theorem dX10_feed_12 : decode cX10_feed 12 = .ok (.getfield 10, 3) := by decide +kernel
theorem dX10_feed_15 : decode cX10_feed 15 = .ok (.getfield 58, 3) := by decide +kernel
theorem dX10_feed_18 : decode cX10_feed 18 = .ok (.lload_n 3, 1) := by decide +kernel
theorem dX10_feed_19 : decode cX10_feed 19 = .ok (.invokevirtual 62, 3) := by decide +kernel
theorem dX10_feed_22 : decode cX10_feed 22 = .ok (.aload_n 0, 1) := by decide +kernel
theorem dX10_feed_23 : decode cX10_feed 23 = .ok (.getfield 10, 3) := by decide +kernel
theorem dX10_feed_26 : decode cX10_feed 26 = .ok (.getfield 58, 3) := by decide +kernel
theorem dX10_feed_29 : decode cX10_feed 29 = .ok (.lload 5, 2) := by decide +kernel
theorem dX10_feed_31 : decode cX10_feed 31 = .ok (.invokevirtual 62, 3) := by decide +kernel
theorem dX10_feed_34 : decode cX10_feed 34 = .ok (.aload_n 0, 1) := by decide +kernel
theorem dX10_feed_35 : decode cX10_feed 35 = .ok (.getfield 10, 3) := by decide +kernel
theorem dX10_feed_38 : decode cX10_feed 38 = .ok (.getfield 58, 3) := by decide +kernel
theorem dX10_feed_41 : decode cX10_feed 41 = .ok (.getfield 68, 3) := by decide +kernel
theorem dX10_feed_44 : decode cX10_feed 44 = .ok (.ireturn, 1) := by decide +kernel
theorem dX10_custom_0 : decode cX10_custom 0 = .ok (.aload_n 0, 1) := by decide +kernel
theorem dX10_custom_1 : decode cX10_custom 1 = .ok (.getfield 10, 3) := by decide +kernel
theorem dX10_custom_4 : decode cX10_custom 4 = .ok (.invokevirtual 72, 3) := by decide +kernel
theorem dX10_custom_7 : decode cX10_custom 7 = .ok (.istore_n 1, 1) := by decide +kernel
theorem dX10_custom_8 : decode cX10_custom 8 = .ok (.aload_n 0, 1) := by decide +kernel
theorem dX10_custom_9 : decode cX10_custom 9 = .ok (.getfield 10, 3) := by decide +kernel
theorem dX10_custom_12 : decode cX10_custom 12 = .ok (.getfield 58, 3) := by decide +kernel
theorem dX10_custom_15 : decode cX10_custom 15 = .ok (.invokevirtual 76, 3) := by decide +kernel
theorem dX10_custom_18 : decode cX10_custom 18 = .ok (.iload_n 1, 1) := by decide +kernel
theorem dX10_custom_19 : decode cX10_custom 19 = .ok (.ifCond .ne 35, 3) := by decide +kernel
theorem dX10_custom_22 : decode cX10_custom 22 = .ok (.aload_n 0, 1) := by decide +kernel
theorem dX10_custom_23 : decode cX10_custom 23 = .ok (.getfield 19, 3) := by decide +kernel
theorem dX10_custom_26 : decode cX10_custom 26 = .ok (.aload_n 0, 1) := by decide +kernel
theorem dX10_custom_27 : decode cX10_custom 27 = .ok (.getfield 10, 3) := by decide +kernel
theorem dX10_custom_30 : decode cX10_custom 30 = .ok (.getfield 79, 3) := by decide +kernel
theorem dX10_custom_33 : decode cX10_custom 33 = .ok (.invokevirtual 82, 3) := by decide +kernel
theorem dX10_custom_36 : decode cX10_custom 36 = .ok (.aload_n 0, 1) := by decide +kernel
theorem dX10_custom_37 : decode cX10_custom 37 = .ok (.getfield 26, 3) := by decide +kernel
theorem dX10_custom_40 : decode cX10_custom 40 = .ok (.aload_n 0, 1) := by decide +kernel
theorem dX10_custom_41 : decode cX10_custom 41 = .ok (.getfield 19, 3) := by decide +kernel
theorem dX10_custom_44 : decode cX10_custom 44 = .ok (.invokevirtual 86, 3) := by decide +kernel
theorem dX10_custom_47 : decode cX10_custom 47 = .ok (.aload_n 0, 1) := by decide +kernel
theorem dX10_custom_48 : decode cX10_custom 48 = .ok (.getfield 33, 3) := by decide +kernel
theorem dX10_custom_51 : decode cX10_custom 51 = .ok (.invokevirtual 89, 3) := by decide +kernel
theorem dX10_custom_54 : decode cX10_custom 54 = .ok (.iload_n 1, 1) := by decide +kernel
theorem dX10_custom_55 : decode cX10_custom 55 = .ok (.ireturn, 1) := by decide +kernel
theorem dX10_hill_0 : decode cX10_hill 0 = .ok (.aload_n 0, 1) := by decide +kernel
theorem dX10_hill_1 : decode cX10_hill 1 = .ok (.getfield 19, 3) := by decide +kernel
theorem dX10_hill_4 : decode cX10_hill 4 = .ok (.iload_n 1, 1) := by decide +kernel
theorem dX10_hill_5 : decode cX10_hill 5 = .ok (.invokevirtual 92, 3) := by decide +kernel
theorem dX10_hill_8 : decode cX10_hill 8 = .ok (.ifCond .ne 5, 3) := by decide +kernel
theorem dX10_hill_11 : decode cX10_hill 11 = .ok (.iconst (-1), 1) := by decide +kernel
theorem dX10_hill_12 : decode cX10_hill 12 = .ok (.ireturn, 1) := by decide +kernel
theorem dX10_hill_13 : decode cX10_hill 13 = .ok (.iload_n 2, 1) := by decide +kernel
theorem dX10_hill_14 : decode cX10_hill 14 = .ok (.tableswitch 58 0 2 #[26, 36, 46], 26) := by decide +kernel
theorem dX10_hill_40 : decode cX10_hill 40 = .ok (.aload_n 0, 1) := by decide +kernel
theorem dX10_hill_41 : decode cX10_hill 41 = .ok (.getfield 19, 3) := by decide +kernel
theorem dX10_hill_44 : decode cX10_hill 44 = .ok (.getfield 96, 3) := by decide +kernel
theorem dX10_hill_47 : decode cX10_hill 47 = .ok (.iload_n 1, 1) := by decide +kernel
theorem dX10_hill_48 : decode cX10_hill 48 = .ok (.iaload, 1) := by decide +kernel
theorem dX10_hill_49 : decode cX10_hill 49 = .ok (.ireturn, 1) := by decide +kernel
theorem dX10_hill_50 : decode cX10_hill 50 = .ok (.aload_n 0, 1) := by decide +kernel
theorem dX10_hill_51 : decode cX10_hill 51 = .ok (.getfield 19, 3) := by decide +kernel
theorem dX10_hill_54 : decode cX10_hill 54 = .ok (.getfield 100, 3) := by decide +kernel
theorem dX10_hill_57 : decode cX10_hill 57 = .ok (.iload_n 1, 1) := by decide +kernel
theorem dX10_hill_58 : decode cX10_hill 58 = .ok (.iaload, 1) := by decide +kernel
theorem dX10_hill_59 : decode cX10_hill 59 = .ok (.ireturn, 1) := by decide +kernel
theorem dX10_hill_60 : decode cX10_hill 60 = .ok (.aload_n 0, 1) := by decide +kernel
theorem dX10_hill_61 : decode cX10_hill 61 = .ok (.getfield 26, 3) := by decide +kernel
theorem dX10_hill_64 : decode cX10_hill 64 = .ok (.getfield 103, 3) := by decide +kernel
theorem dX10_hill_67 : decode cX10_hill 67 = .ok (.iload_n 1, 1) := by decide +kernel
theorem dX10_hill_68 : decode cX10_hill 68 = .ok (.ishr, 1) := by decide +kernel
theorem dX10_hill_69 : decode cX10_hill 69 = .ok (.iconst 1, 1) := by decide +kernel
theorem dX10_hill_70 : decode cX10_hill 70 = .ok (.iand, 1) := by decide +kernel
theorem dX10_hill_71 : decode cX10_hill 71 = .ok (.ireturn, 1) := by decide +kernel
theorem dX10_hill_72 : decode cX10_hill 72 = .ok (.iconst (-1), 1) := by decide +kernel
theorem dX10_hill_73 : decode cX10_hill 73 = .ok (.ireturn, 1) := by decide +kernel
theorem dX10_purse_0 : decode cX10_purse 0 = .ok (.aload_n 0, 1) := by decide +kernel
theorem dX10_purse_1 : decode cX10_purse 1 = .ok (.getfield 19, 3) := by decide +kernel
theorem dX10_purse_4 : decode cX10_purse 4 = .ok (.iload_n 1, 1) := by decide +kernel
theorem dX10_purse_5 : decode cX10_purse 5 = .ok (.invokevirtual 106, 3) := by decide +kernel
theorem dX10_purse_8 : decode cX10_purse 8 = .ok (.ifCond .ne 13, 3) := by decide +kernel
theorem dX10_purse_11 : decode cX10_purse 11 = .ok (.new 109, 3) := by decide +kernel
theorem dX10_purse_14 : decode cX10_purse 14 = .ok (.dup, 1) := by decide +kernel
theorem dX10_purse_15 : decode cX10_purse 15 = .ok (.ldc 111, 2) := by decide +kernel
theorem dX10_purse_17 : decode cX10_purse 17 = .ok (.invokespecial 113, 3) := by decide +kernel
theorem dX10_purse_20 : decode cX10_purse 20 = .ok (.athrow, 1) := by decide +kernel
theorem dX10_purse_21 : decode cX10_purse 21 = .ok (.aload_n 0, 1) := by decide +kernel
theorem dX10_purse_22 : decode cX10_purse 22 = .ok (.getfield 26, 3) := by decide +kernel
theorem dX10_purse_25 : decode cX10_purse 25 = .ok (.getfield 116, 3) := by decide +kernel
theorem dX10_purse_28 : decode cX10_purse 28 = .ok (.iload_n 1, 1) := by decide +kernel
theorem dX10_purse_29 : decode cX10_purse 29 = .ok (.iaload, 1) := by decide +kernel
theorem dX10_purse_30 : decode cX10_purse 30 = .ok (.ireturn, 1) := by decide +kernel
theorem dX10_loan_0 : decode cX10_loan 0 = .ok (.aload_n 0, 1) := by decide +kernel
theorem dX10_loan_1 : decode cX10_loan 1 = .ok (.getfield 19, 3) := by decide +kernel
theorem dX10_loan_4 : decode cX10_loan 4 = .ok (.iload_n 1, 1) := by decide +kernel
theorem dX10_loan_5 : decode cX10_loan 5 = .ok (.invokevirtual 119, 3) := by decide +kernel
theorem dX10_loan_8 : decode cX10_loan 8 = .ok (.ifCond .ne 5, 3) := by decide +kernel
theorem dX10_loan_11 : decode cX10_loan 11 = .ok (.iconst (-1), 1) := by decide +kernel
theorem dX10_loan_12 : decode cX10_loan 12 = .ok (.ireturn, 1) := by decide +kernel
theorem dX10_loan_13 : decode cX10_loan 13 = .ok (.aload_n 0, 1) := by decide +kernel
theorem dX10_loan_14 : decode cX10_loan 14 = .ok (.getfield 19, 3) := by decide +kernel
theorem dX10_loan_17 : decode cX10_loan 17 = .ok (.getfield 122, 3) := by decide +kernel
theorem dX10_loan_20 : decode cX10_loan 20 = .ok (.iload_n 1, 1) := by decide +kernel
theorem dX10_loan_21 : decode cX10_loan 21 = .ok (.aaload, 1) := by decide +kernel
theorem dX10_loan_22 : decode cX10_loan 22 = .ok (.astore_n 3, 1) := by decide +kernel
theorem dX10_loan_23 : decode cX10_loan 23 = .ok (.iload_n 2, 1) := by decide +kernel
theorem dX10_loan_24 : decode cX10_loan 24 = .ok (.tableswitch 108 0 7 #[48, 53, 58, 68, 78, 88, 93, 98], 48) := by decide +kernel
theorem dX10_loan_72 : decode cX10_loan 72 = .ok (.aload_n 3, 1) := by decide +kernel
theorem dX10_loan_73 : decode cX10_loan 73 = .ok (.getfield 126, 3) := by decide +kernel
theorem dX10_loan_76 : decode cX10_loan 76 = .ok (.ireturn, 1) := by decide +kernel
theorem dX10_loan_77 : decode cX10_loan 77 = .ok (.aload_n 3, 1) := by decide +kernel
theorem dX10_loan_78 : decode cX10_loan 78 = .ok (.getfield 131, 3) := by decide +kernel
theorem dX10_loan_81 : decode cX10_loan 81 = .ok (.ireturn, 1) := by decide +kernel
theorem dX10_loan_82 : decode cX10_loan 82 = .ok (.aload_n 0, 1) := by decide +kernel
theorem dX10_loan_83 : decode cX10_loan 83 = .ok (.getfield 26, 3) := by decide +kernel
theorem dX10_loan_86 : decode cX10_loan 86 = .ok (.getfield 134, 3) := by decide +kernel
theorem dX10_loan_89 : decode cX10_loan 89 = .ok (.iload_n 1, 1) := by decide +kernel
theorem dX10_loan_90 : decode cX10_loan 90 = .ok (.iaload, 1) := by decide +kernel
theorem dX10_loan_91 : decode cX10_loan 91 = .ok (.ireturn, 1) := by decide +kernel
theorem dX10_loan_92 : decode cX10_loan 92 = .ok (.aload_n 0, 1) := by decide +kernel
theorem dX10_loan_93 : decode cX10_loan 93 = .ok (.getfield 26, 3) := by decide +kernel
theorem dX10_loan_96 : decode cX10_loan 96 = .ok (.getfield 137, 3) := by decide +kernel
theorem dX10_loan_99 : decode cX10_loan 99 = .ok (.iload_n 1, 1) := by decide +kernel
theorem dX10_loan_100 : decode cX10_loan 100 = .ok (.iaload, 1) := by decide +kernel
theorem dX10_loan_101 : decode cX10_loan 101 = .ok (.ireturn, 1) := by decide +kernel
theorem dX10_loan_102 : decode cX10_loan 102 = .ok (.aload_n 0, 1) := by decide +kernel
theorem dX10_loan_103 : decode cX10_loan 103 = .ok (.getfield 26, 3) := by decide +kernel
theorem dX10_loan_106 : decode cX10_loan 106 = .ok (.getfield 140, 3) := by decide +kernel
theorem dX10_loan_109 : decode cX10_loan 109 = .ok (.iload_n 1, 1) := by decide +kernel
theorem dX10_loan_110 : decode cX10_loan 110 = .ok (.iaload, 1) := by decide +kernel
theorem dX10_loan_111 : decode cX10_loan 111 = .ok (.ireturn, 1) := by decide +kernel
theorem dX10_loan_112 : decode cX10_loan 112 = .ok (.aload_n 3, 1) := by decide +kernel
theorem dX10_loan_113 : decode cX10_loan 113 = .ok (.getfield 143, 3) := by decide +kernel
theorem dX10_loan_116 : decode cX10_loan 116 = .ok (.ireturn, 1) := by decide +kernel
theorem dX10_loan_117 : decode cX10_loan 117 = .ok (.aload_n 3, 1) := by decide +kernel
theorem dX10_loan_118 : decode cX10_loan 118 = .ok (.getfield 146, 3) := by decide +kernel
theorem dX10_loan_121 : decode cX10_loan 121 = .ok (.ireturn, 1) := by decide +kernel
theorem dX10_loan_122 : decode cX10_loan 122 = .ok (.aload_n 0, 1) := by decide +kernel
theorem dX10_loan_123 : decode cX10_loan 123 = .ok (.getfield 26, 3) := by decide +kernel
theorem dX10_loan_126 : decode cX10_loan 126 = .ok (.getfield 149, 3) := by decide +kernel
theorem dX10_loan_129 : decode cX10_loan 129 = .ok (.iload_n 1, 1) := by decide +kernel
theorem dX10_loan_130 : decode cX10_loan 130 = .ok (.iaload, 1) := by decide +kernel
theorem dX10_loan_131 : decode cX10_loan 131 = .ok (.ireturn, 1) := by decide +kernel
theorem dX10_loan_132 : decode cX10_loan 132 = .ok (.iconst (-1), 1) := by decide +kernel
theorem dX10_loan_133 : decode cX10_loan 133 = .ok (.ireturn, 1) := by decide +kernel
theorem dX10_day_0 : decode cX10_day 0 = .ok (.aload_n 0, 1) := by decide +kernel
theorem dX10_day_1 : decode cX10_day 1 = .ok (.getfield 19, 3) := by decide +kernel
theorem dX10_day_4 : decode cX10_day 4 = .ok (.iload_n 1, 1) := by decide +kernel
theorem dX10_day_5 : decode cX10_day 5 = .ok (.invokevirtual 152, 3) := by decide +kernel
theorem dX10_day_8 : decode cX10_day 8 = .ok (.ifCond .ne 5, 3) := by decide +kernel
theorem dX10_day_11 : decode cX10_day 11 = .ok (.iconst (-1), 1) := by decide +kernel
theorem dX10_day_12 : decode cX10_day 12 = .ok (.ireturn, 1) := by decide +kernel
theorem dX10_day_13 : decode cX10_day 13 = .ok (.aload_n 0, 1) := by decide +kernel
theorem dX10_day_14 : decode cX10_day 14 = .ok (.getfield 33, 3) := by decide +kernel
theorem dX10_day_17 : decode cX10_day 17 = .ok (.aload_n 0, 1) := by decide +kernel
theorem dX10_day_18 : decode cX10_day 18 = .ok (.getfield 26, 3) := by decide +kernel
theorem dX10_day_21 : decode cX10_day 21 = .ok (.invokevirtual 155, 3) := by decide +kernel
theorem dX10_day_24 : decode cX10_day 24 = .ok (.aload_n 0, 1) := by decide +kernel
theorem dX10_day_25 : decode cX10_day 25 = .ok (.getfield 26, 3) := by decide +kernel
theorem dX10_day_28 : decode cX10_day 28 = .ok (.aload_n 0, 1) := by decide +kernel
theorem dX10_day_29 : decode cX10_day 29 = .ok (.getfield 19, 3) := by decide +kernel
theorem dX10_day_32 : decode cX10_day 32 = .ok (.iload_n 1, 1) := by decide +kernel
theorem dX10_day_33 : decode cX10_day 33 = .ok (.invokevirtual 159, 3) := by decide +kernel
theorem dX10_day_36 : decode cX10_day 36 = .ok (.aload_n 0, 1) := by decide +kernel
theorem dX10_day_37 : decode cX10_day 37 = .ok (.getfield 26, 3) := by decide +kernel
theorem dX10_day_40 : decode cX10_day 40 = .ok (.aload_n 0, 1) := by decide +kernel
theorem dX10_day_41 : decode cX10_day 41 = .ok (.getfield 19, 3) := by decide +kernel
theorem dX10_day_44 : decode cX10_day 44 = .ok (.iconst 1, 1) := by decide +kernel
theorem dX10_day_45 : decode cX10_day 45 = .ok (.invokevirtual 163, 3) := by decide +kernel
theorem dX10_day_48 : decode cX10_day 48 = .ok (.ireturn, 1) := by decide +kernel
theorem dX10_early_0 : decode cX10_early 0 = .ok (.aload_n 0, 1) := by decide +kernel
theorem dX10_early_1 : decode cX10_early 1 = .ok (.getfield 19, 3) := by decide +kernel
theorem dX10_early_4 : decode cX10_early 4 = .ok (.iload_n 1, 1) := by decide +kernel
theorem dX10_early_5 : decode cX10_early 5 = .ok (.invokevirtual 119, 3) := by decide +kernel
theorem dX10_early_8 : decode cX10_early 8 = .ok (.ifCond .eq 18, 3) := by decide +kernel
theorem dX10_early_11 : decode cX10_early 11 = .ok (.aload_n 0, 1) := by decide +kernel
theorem dX10_early_12 : decode cX10_early 12 = .ok (.getfield 26, 3) := by decide +kernel
theorem dX10_early_15 : decode cX10_early 15 = .ok (.aload_n 0, 1) := by decide +kernel
theorem dX10_early_16 : decode cX10_early 16 = .ok (.getfield 19, 3) := by decide +kernel
theorem dX10_early_19 : decode cX10_early 19 = .ok (.iload_n 1, 1) := by decide +kernel
theorem dX10_early_20 : decode cX10_early 20 = .ok (.invokevirtual 167, 3) := by decide +kernel
theorem dX10_early_23 : decode cX10_early 23 = .ok (.ifCond .ne 5, 3) := by decide +kernel
theorem dX10_early_26 : decode cX10_early 26 = .ok (.iconst 0, 1) := by decide +kernel
theorem dX10_early_27 : decode cX10_early 27 = .ok (.ireturn, 1) := by decide +kernel
theorem dX10_early_28 : decode cX10_early 28 = .ok (.aload_n 0, 1) := by decide +kernel
theorem dX10_early_29 : decode cX10_early 29 = .ok (.getfield 33, 3) := by decide +kernel
theorem dX10_early_32 : decode cX10_early 32 = .ok (.aload_n 0, 1) := by decide +kernel
theorem dX10_early_33 : decode cX10_early 33 = .ok (.getfield 26, 3) := by decide +kernel
theorem dX10_early_36 : decode cX10_early 36 = .ok (.invokevirtual 155, 3) := by decide +kernel
theorem dX10_early_39 : decode cX10_early 39 = .ok (.aload_n 0, 1) := by decide +kernel
theorem dX10_early_40 : decode cX10_early 40 = .ok (.getfield 26, 3) := by decide +kernel
theorem dX10_early_43 : decode cX10_early 43 = .ok (.aload_n 0, 1) := by decide +kernel
theorem dX10_early_44 : decode cX10_early 44 = .ok (.getfield 19, 3) := by decide +kernel
theorem dX10_early_47 : decode cX10_early 47 = .ok (.iload_n 1, 1) := by decide +kernel
theorem dX10_early_48 : decode cX10_early 48 = .ok (.invokevirtual 171, 3) := by decide +kernel
theorem dX10_early_51 : decode cX10_early 51 = .ok (.iconst 1, 1) := by decide +kernel
theorem dX10_early_52 : decode cX10_early 52 = .ok (.ireturn, 1) := by decide +kernel
theorem dX10_undo_0 : decode cX10_undo 0 = .ok (.aload_n 0, 1) := by decide +kernel
theorem dX10_undo_1 : decode cX10_undo 1 = .ok (.getfield 33, 3) := by decide +kernel
theorem dX10_undo_4 : decode cX10_undo 4 = .ok (.aload_n 0, 1) := by decide +kernel
theorem dX10_undo_5 : decode cX10_undo 5 = .ok (.getfield 26, 3) := by decide +kernel
theorem dX10_undo_8 : decode cX10_undo 8 = .ok (.invokevirtual 174, 3) := by decide +kernel
theorem dX10_undo_11 : decode cX10_undo 11 = .ok (.ireturn, 1) := by decide +kernel
theorem dX10_ruined_0 : decode cX10_ruined 0 = .ok (.aload_n 0, 1) := by decide +kernel
theorem dX10_ruined_1 : decode cX10_ruined 1 = .ok (.getfield 26, 3) := by decide +kernel
theorem dX10_ruined_4 : decode cX10_ruined 4 = .ok (.aload_n 0, 1) := by decide +kernel
theorem dX10_ruined_5 : decode cX10_ruined 5 = .ok (.getfield 19, 3) := by decide +kernel
theorem dX10_ruined_8 : decode cX10_ruined 8 = .ok (.invokevirtual 178, 3) := by decide +kernel
theorem dX10_ruined_11 : decode cX10_ruined 11 = .ok (.ireturn, 1) := by decide +kernel
theorem dX10_has_0 : decode cX10_has 0 = .ok (.aload_n 0, 1) := by decide +kernel
theorem dX10_has_1 : decode cX10_has 1 = .ok (.getfield 19, 3) := by decide +kernel
theorem dX10_has_4 : decode cX10_has 4 = .ok (.iload_n 1, 1) := by decide +kernel
theorem dX10_has_5 : decode cX10_has 5 = .ok (.invokevirtual 106, 3) := by decide +kernel
theorem dX10_has_8 : decode cX10_has 8 = .ok (.ifCond .ne 13, 3) := by decide +kernel
theorem dX10_has_11 : decode cX10_has 11 = .ok (.new 109, 3) := by decide +kernel
theorem dX10_has_14 : decode cX10_has 14 = .ok (.dup, 1) := by decide +kernel
theorem dX10_has_15 : decode cX10_has 15 = .ok (.ldc 111, 2) := by decide +kernel
theorem dX10_has_17 : decode cX10_has 17 = .ok (.invokespecial 113, 3) := by decide +kernel
theorem dX10_has_20 : decode cX10_has 20 = .ok (.athrow, 1) := by decide +kernel
theorem dX10_has_21 : decode cX10_has 21 = .ok (.aload_n 0, 1) := by decide +kernel
theorem dX10_has_22 : decode cX10_has 22 = .ok (.getfield 26, 3) := by decide +kernel
theorem dX10_has_25 : decode cX10_has 25 = .ok (.aload_n 0, 1) := by decide +kernel
theorem dX10_has_26 : decode cX10_has 26 = .ok (.getfield 19, 3) := by decide +kernel
theorem dX10_has_29 : decode cX10_has 29 = .ok (.iload_n 1, 1) := by decide +kernel
theorem dX10_has_30 : decode cX10_has 30 = .ok (.invokevirtual 182, 3) := by decide +kernel
theorem dX10_has_33 : decode cX10_has 33 = .ok (.ireturn, 1) := by decide +kernel
theorem dX10_worth_0 : decode cX10_worth 0 = .ok (.aload_n 0, 1) := by decide +kernel
theorem dX10_worth_1 : decode cX10_worth 1 = .ok (.iconst 0, 1) := by decide +kernel
theorem dX10_worth_2 : decode cX10_worth 2 = .ok (.iload_n 1, 1) := by decide +kernel
theorem dX10_worth_3 : decode cX10_worth 3 = .ok (.iload_n 2, 1) := by decide +kernel
theorem dX10_worth_4 : decode cX10_worth 4 = .ok (.iload_n 3, 1) := by decide +kernel
theorem dX10_worth_5 : decode cX10_worth 5 = .ok (.invokevirtual 185, 3) := by decide +kernel
theorem dX10_worth_8 : decode cX10_worth 8 = .ok (.lreturn, 1) := by decide +kernel
theorem dX10_chance_0 : decode cX10_chance 0 = .ok (.aload_n 0, 1) := by decide +kernel
theorem dX10_chance_1 : decode cX10_chance 1 = .ok (.iconst 1, 1) := by decide +kernel
theorem dX10_chance_2 : decode cX10_chance 2 = .ok (.iload_n 1, 1) := by decide +kernel
theorem dX10_chance_3 : decode cX10_chance 3 = .ok (.iload_n 2, 1) := by decide +kernel
theorem dX10_chance_4 : decode cX10_chance 4 = .ok (.iload_n 3, 1) := by decide +kernel
theorem dX10_chance_5 : decode cX10_chance 5 = .ok (.invokevirtual 185, 3) := by decide +kernel
theorem dX10_chance_8 : decode cX10_chance 8 = .ok (.lreturn, 1) := by decide +kernel
theorem dX10_share_0 : decode cX10_share 0 = .ok (.iload 4, 2) := by decide +kernel
theorem dX10_share_2 : decode cX10_share 2 = .ok (.ifCond .lt 28, 3) := by decide +kernel
theorem dX10_share_5 : decode cX10_share 5 = .ok (.iload 4, 2) := by decide +kernel
theorem dX10_share_7 : decode cX10_share 7 = .ok (.iconst 1, 1) := by decide +kernel
theorem dX10_share_8 : decode cX10_share 8 = .ok (.if_icmp .gt 22, 3) := by decide +kernel
theorem dX10_share_11 : decode cX10_share 11 = .ok (.aload_n 0, 1) := by decide +kernel
theorem dX10_share_12 : decode cX10_share 12 = .ok (.getfield 19, 3) := by decide +kernel
theorem dX10_share_15 : decode cX10_share 15 = .ok (.iload_n 2, 1) := by decide +kernel
theorem dX10_share_16 : decode cX10_share 16 = .ok (.invokevirtual 119, 3) := by decide +kernel
theorem dX10_share_19 : decode cX10_share 19 = .ok (.ifCond .eq 11, 3) := by decide +kernel
theorem dX10_share_22 : decode cX10_share 22 = .ok (.aload_n 0, 1) := by decide +kernel
theorem dX10_share_23 : decode cX10_share 23 = .ok (.iload_n 3, 1) := by decide +kernel
theorem dX10_share_24 : decode cX10_share 24 = .ok (.invokevirtual 189, 3) := by decide +kernel
theorem dX10_share_27 : decode cX10_share 27 = .ok (.ifCond .ne 7, 3) := by decide +kernel
theorem dX10_share_30 : decode cX10_share 30 = .ok (.ldc2_w 192, 3) := by decide +kernel
theorem dX10_share_33 : decode cX10_share 33 = .ok (.lreturn, 1) := by decide +kernel
theorem dX10_share_34 : decode cX10_share 34 = .ok (.aload_n 0, 1) := by decide +kernel
theorem dX10_share_35 : decode cX10_share 35 = .ok (.getfield 47, 3) := by decide +kernel
theorem dX10_share_38 : decode cX10_share 38 = .ok (.aload_n 0, 1) := by decide +kernel
theorem dX10_share_39 : decode cX10_share 39 = .ok (.getfield 26, 3) := by decide +kernel
theorem dX10_share_42 : decode cX10_share 42 = .ok (.invokevirtual 194, 3) := by decide +kernel
theorem dX10_share_45 : decode cX10_share 45 = .ok (.aload_n 0, 1) := by decide +kernel
theorem dX10_share_46 : decode cX10_share 46 = .ok (.getfield 47, 3) := by decide +kernel
theorem dX10_share_49 : decode cX10_share 49 = .ok (.aload_n 0, 1) := by decide +kernel
theorem dX10_share_50 : decode cX10_share 50 = .ok (.getfield 19, 3) := by decide +kernel
theorem dX10_share_53 : decode cX10_share 53 = .ok (.iload_n 3, 1) := by decide +kernel
theorem dX10_share_54 : decode cX10_share 54 = .ok (.iload_n 1, 1) := by decide +kernel
theorem dX10_share_55 : decode cX10_share 55 = .ok (.iload_n 2, 1) := by decide +kernel
theorem dX10_share_56 : decode cX10_share 56 = .ok (.invokevirtual 197, 3) := by decide +kernel
theorem dX10_share_59 : decode cX10_share 59 = .ok (.lstore 5, 2) := by decide +kernel
theorem dX10_share_61 : decode cX10_share 61 = .ok (.lconst 1, 1) := by decide +kernel
theorem dX10_share_62 : decode cX10_share 62 = .ok (.lstore 7, 2) := by decide +kernel
theorem dX10_share_64 : decode cX10_share 64 = .ok (.iconst 0, 1) := by decide +kernel
theorem dX10_share_65 : decode cX10_share 65 = .ok (.istore 9, 2) := by decide +kernel
theorem dX10_share_67 : decode cX10_share 67 = .ok (.iload 9, 2) := by decide +kernel
theorem dX10_share_69 : decode cX10_share 69 = .ok (.aload_n 0, 1) := by decide +kernel
theorem dX10_share_70 : decode cX10_share 70 = .ok (.getfield 19, 3) := by decide +kernel
theorem dX10_share_73 : decode cX10_share 73 = .ok (.getfield 201, 3) := by decide +kernel
theorem dX10_share_76 : decode cX10_share 76 = .ok (.iload_n 3, 1) := by decide +kernel
theorem dX10_share_77 : decode cX10_share 77 = .ok (.imul, 1) := by decide +kernel
theorem dX10_share_78 : decode cX10_share 78 = .ok (.if_icmp .ge 17, 3) := by decide +kernel
theorem dX10_share_81 : decode cX10_share 81 = .ok (.lload 7, 2) := by decide +kernel
theorem dX10_share_83 : decode cX10_share 83 = .ok (.ldc2_w 204, 3) := by decide +kernel
theorem dX10_share_86 : decode cX10_share 86 = .ok (.lmul, 1) := by decide +kernel
theorem dX10_share_87 : decode cX10_share 87 = .ok (.lstore 7, 2) := by decide +kernel
theorem dX10_share_89 : decode cX10_share 89 = .ok (.iinc 9 1, 3) := by decide +kernel
theorem dX10_share_92 : decode cX10_share 92 = .ok (.goto (-25), 3) := by decide +kernel
theorem dX10_share_95 : decode cX10_share 95 = .ok (.lload 7, 2) := by decide +kernel
theorem dX10_share_97 : decode cX10_share 97 = .ok (.lconst 1, 1) := by decide +kernel
theorem dX10_share_98 : decode cX10_share 98 = .ok (.lcmp, 1) := by decide +kernel
theorem dX10_share_99 : decode cX10_share 99 = .ok (.ifCond .le 33, 3) := by decide +kernel
theorem dX10_share_102 : decode cX10_share 102 = .ok (.lload 5, 2) := by decide +kernel
theorem dX10_share_104 : decode cX10_share 104 = .ok (.ldc2_w 206, 3) := by decide +kernel
theorem dX10_share_107 : decode cX10_share 107 = .ok (.lrem, 1) := by decide +kernel
theorem dX10_share_108 : decode cX10_share 108 = .ok (.lconst 0, 1) := by decide +kernel
theorem dX10_share_109 : decode cX10_share 109 = .ok (.lcmp, 1) := by decide +kernel
theorem dX10_share_110 : decode cX10_share 110 = .ok (.ifCond .ne 22, 3) := by decide +kernel
theorem dX10_share_113 : decode cX10_share 113 = .ok (.lload 7, 2) := by decide +kernel
theorem dX10_share_115 : decode cX10_share 115 = .ok (.ldc2_w 206, 3) := by decide +kernel
theorem dX10_share_118 : decode cX10_share 118 = .ok (.ldiv, 1) := by decide +kernel
theorem dX10_share_119 : decode cX10_share 119 = .ok (.lstore 7, 2) := by decide +kernel
theorem dX10_share_121 : decode cX10_share 121 = .ok (.lload 5, 2) := by decide +kernel
theorem dX10_share_123 : decode cX10_share 123 = .ok (.ldc2_w 206, 3) := by decide +kernel
theorem dX10_share_126 : decode cX10_share 126 = .ok (.ldiv, 1) := by decide +kernel
theorem dX10_share_127 : decode cX10_share 127 = .ok (.lstore 5, 2) := by decide +kernel
theorem dX10_share_129 : decode cX10_share 129 = .ok (.goto (-34), 3) := by decide +kernel
theorem dX10_share_132 : decode cX10_share 132 = .ok (.iload 4, 2) := by decide +kernel
theorem dX10_share_134 : decode cX10_share 134 = .ok (.ifCond .ne 8, 3) := by decide +kernel
theorem dX10_share_137 : decode cX10_share 137 = .ok (.lload 5, 2) := by decide +kernel
theorem dX10_share_139 : decode cX10_share 139 = .ok (.goto 5, 3) := by decide +kernel
theorem dX10_share_142 : decode cX10_share 142 = .ok (.lload 7, 2) := by decide +kernel
theorem dX10_share_144 : decode cX10_share 144 = .ok (.lreturn, 1) := by decide +kernel
theorem dX10_canLookAhead_0 : decode cX10_canLookAhead 0 = .ok (.iload_n 1, 1) := by decide +kernel
theorem dX10_canLookAhead_1 : decode cX10_canLookAhead 1 = .ok (.iconst 1, 1) := by decide +kernel
theorem dX10_canLookAhead_2 : decode cX10_canLookAhead 2 = .ok (.if_icmp .lt 27, 3) := by decide +kernel
theorem dX10_canLookAhead_5 : decode cX10_canLookAhead 5 = .ok (.iload_n 1, 1) := by decide +kernel
theorem dX10_canLookAhead_6 : decode cX10_canLookAhead 6 = .ok (.bipush 12, 2) := by decide +kernel
theorem dX10_canLookAhead_8 : decode cX10_canLookAhead 8 = .ok (.if_icmp .gt 21, 3) := by decide +kernel
theorem dX10_canLookAhead_11 : decode cX10_canLookAhead 11 = .ok (.aload_n 0, 1) := by decide +kernel
theorem dX10_canLookAhead_12 : decode cX10_canLookAhead 12 = .ok (.getfield 19, 3) := by decide +kernel
theorem dX10_canLookAhead_15 : decode cX10_canLookAhead 15 = .ok (.getfield 201, 3) := by decide +kernel
theorem dX10_canLookAhead_18 : decode cX10_canLookAhead 18 = .ok (.iload_n 1, 1) := by decide +kernel
theorem dX10_canLookAhead_19 : decode cX10_canLookAhead 19 = .ok (.imul, 1) := by decide +kernel
theorem dX10_canLookAhead_20 : decode cX10_canLookAhead 20 = .ok (.bipush 12, 2) := by decide +kernel
theorem dX10_canLookAhead_22 : decode cX10_canLookAhead 22 = .ok (.if_icmp .gt 7, 3) := by decide +kernel
theorem dX10_canLookAhead_25 : decode cX10_canLookAhead 25 = .ok (.iconst 1, 1) := by decide +kernel
theorem dX10_canLookAhead_26 : decode cX10_canLookAhead 26 = .ok (.goto 4, 3) := by decide +kernel
theorem dX10_canLookAhead_29 : decode cX10_canLookAhead 29 = .ok (.iconst 0, 1) := by decide +kernel
theorem dX10_canLookAhead_30 : decode cX10_canLookAhead 30 = .ok (.ireturn, 1) := by decide +kernel
theorem dX10_better_0 : decode cX10_better 0 = .ok (.aload_n 0, 1) := by decide +kernel
theorem dX10_better_1 : decode cX10_better 1 = .ok (.getfield 19, 3) := by decide +kernel
theorem dX10_better_4 : decode cX10_better 4 = .ok (.iload_n 1, 1) := by decide +kernel
theorem dX10_better_5 : decode cX10_better 5 = .ok (.invokevirtual 119, 3) := by decide +kernel
theorem dX10_better_8 : decode cX10_better 8 = .ok (.ifCond .eq 26, 3) := by decide +kernel
theorem dX10_better_11 : decode cX10_better 11 = .ok (.aload_n 0, 1) := by decide +kernel
theorem dX10_better_12 : decode cX10_better 12 = .ok (.iload_n 2, 1) := by decide +kernel
theorem dX10_better_13 : decode cX10_better 13 = .ok (.invokevirtual 189, 3) := by decide +kernel
theorem dX10_better_16 : decode cX10_better 16 = .ok (.ifCond .eq 18, 3) := by decide +kernel
theorem dX10_better_19 : decode cX10_better 19 = .ok (.aload_n 0, 1) := by decide +kernel
theorem dX10_better_20 : decode cX10_better 20 = .ok (.getfield 26, 3) := by decide +kernel
theorem dX10_better_23 : decode cX10_better 23 = .ok (.aload_n 0, 1) := by decide +kernel
theorem dX10_better_24 : decode cX10_better 24 = .ok (.getfield 19, 3) := by decide +kernel
theorem dX10_better_27 : decode cX10_better 27 = .ok (.iload_n 1, 1) := by decide +kernel
theorem dX10_better_28 : decode cX10_better 28 = .ok (.invokevirtual 167, 3) := by decide +kernel
theorem dX10_better_31 : decode cX10_better 31 = .ok (.ifCond .ne 6, 3) := by decide +kernel
theorem dX10_better_34 : decode cX10_better 34 = .ok (.bipush (-2), 2) := by decide +kernel
theorem dX10_better_36 : decode cX10_better 36 = .ok (.ireturn, 1) := by decide +kernel
theorem dX10_better_37 : decode cX10_better 37 = .ok (.aload_n 0, 1) := by decide +kernel
theorem dX10_better_38 : decode cX10_better 38 = .ok (.getfield 19, 3) := by decide +kernel
theorem dX10_better_41 : decode cX10_better 41 = .ok (.getfield 122, 3) := by decide +kernel
theorem dX10_better_44 : decode cX10_better 44 = .ok (.iload_n 1, 1) := by decide +kernel
theorem dX10_better_45 : decode cX10_better 45 = .ok (.aaload, 1) := by decide +kernel
theorem dX10_better_46 : decode cX10_better 46 = .ok (.getfield 131, 3) := by decide +kernel
theorem dX10_better_49 : decode cX10_better 49 = .ok (.istore_n 3, 1) := by decide +kernel
theorem dX10_better_50 : decode cX10_better 50 = .ok (.aload_n 0, 1) := by decide +kernel
theorem dX10_better_51 : decode cX10_better 51 = .ok (.getfield 47, 3) := by decide +kernel
theorem dX10_better_54 : decode cX10_better 54 = .ok (.aload_n 0, 1) := by decide +kernel
theorem dX10_better_55 : decode cX10_better 55 = .ok (.getfield 26, 3) := by decide +kernel
theorem dX10_better_58 : decode cX10_better 58 = .ok (.invokevirtual 194, 3) := by decide +kernel
theorem dX10_better_61 : decode cX10_better 61 = .ok (.aload_n 0, 1) := by decide +kernel
theorem dX10_better_62 : decode cX10_better 62 = .ok (.getfield 47, 3) := by decide +kernel
theorem dX10_better_65 : decode cX10_better 65 = .ok (.aload_n 0, 1) := by decide +kernel
theorem dX10_better_66 : decode cX10_better 66 = .ok (.getfield 19, 3) := by decide +kernel
theorem dX10_better_69 : decode cX10_better 69 = .ok (.iload_n 2, 1) := by decide +kernel
theorem dX10_better_70 : decode cX10_better 70 = .ok (.iconst 2, 1) := by decide +kernel
theorem dX10_better_71 : decode cX10_better 71 = .ok (.iload_n 3, 1) := by decide +kernel
theorem dX10_better_72 : decode cX10_better 72 = .ok (.invokevirtual 197, 3) := by decide +kernel
theorem dX10_better_75 : decode cX10_better 75 = .ok (.lstore 4, 2) := by decide +kernel
theorem dX10_better_77 : decode cX10_better 77 = .ok (.aload_n 0, 1) := by decide +kernel
theorem dX10_better_78 : decode cX10_better 78 = .ok (.getfield 47, 3) := by decide +kernel
theorem dX10_better_81 : decode cX10_better 81 = .ok (.aload_n 0, 1) := by decide +kernel
theorem dX10_better_82 : decode cX10_better 82 = .ok (.getfield 19, 3) := by decide +kernel
theorem dX10_better_85 : decode cX10_better 85 = .ok (.iload_n 1, 1) := by decide +kernel
theorem dX10_better_86 : decode cX10_better 86 = .ok (.invokevirtual 208, 3) := by decide +kernel
theorem dX10_better_89 : decode cX10_better 89 = .ok (.aload_n 0, 1) := by decide +kernel
theorem dX10_better_90 : decode cX10_better 90 = .ok (.getfield 47, 3) := by decide +kernel
theorem dX10_better_93 : decode cX10_better 93 = .ok (.aload_n 0, 1) := by decide +kernel
theorem dX10_better_94 : decode cX10_better 94 = .ok (.getfield 19, 3) := by decide +kernel
theorem dX10_better_97 : decode cX10_better 97 = .ok (.iload_n 2, 1) := by decide +kernel
theorem dX10_better_98 : decode cX10_better 98 = .ok (.iconst 2, 1) := by decide +kernel
theorem dX10_better_99 : decode cX10_better 99 = .ok (.iload_n 3, 1) := by decide +kernel
theorem dX10_better_100 : decode cX10_better 100 = .ok (.invokevirtual 197, 3) := by decide +kernel
theorem dX10_better_103 : decode cX10_better 103 = .ok (.lstore 6, 2) := by decide +kernel
theorem dX10_better_105 : decode cX10_better 105 = .ok (.lload 6, 2) := by decide +kernel
theorem dX10_better_107 : decode cX10_better 107 = .ok (.lload 4, 2) := by decide +kernel
theorem dX10_better_109 : decode cX10_better 109 = .ok (.lcmp, 1) := by decide +kernel
theorem dX10_better_110 : decode cX10_better 110 = .ok (.ifCond .ne 5, 3) := by decide +kernel
theorem dX10_better_113 : decode cX10_better 113 = .ok (.iconst 0, 1) := by decide +kernel
theorem dX10_better_114 : decode cX10_better 114 = .ok (.ireturn, 1) := by decide +kernel
theorem dX10_better_115 : decode cX10_better 115 = .ok (.lload 6, 2) := by decide +kernel
theorem dX10_better_117 : decode cX10_better 117 = .ok (.lload 4, 2) := by decide +kernel
theorem dX10_better_119 : decode cX10_better 119 = .ok (.lcmp, 1) := by decide +kernel
theorem dX10_better_120 : decode cX10_better 120 = .ok (.ifCond .le 7, 3) := by decide +kernel
theorem dX10_better_123 : decode cX10_better 123 = .ok (.iconst 1, 1) := by decide +kernel
theorem dX10_better_124 : decode cX10_better 124 = .ok (.goto 4, 3) := by decide +kernel
theorem dX10_better_127 : decode cX10_better 127 = .ok (.iconst (-1), 1) := by decide +kernel
theorem dX10_better_128 : decode cX10_better 128 = .ok (.ireturn, 1) := by decide +kernel
theorem dX10_fits_0 : decode cX10_fits 0 = .ok (.aload_n 0, 1) := by decide +kernel
theorem dX10_fits_1 : decode cX10_fits 1 = .ok (.iload_n 1, 1) := by decide +kernel
theorem dX10_fits_2 : decode cX10_fits 2 = .ok (.iload_n 2, 1) := by decide +kernel
theorem dX10_fits_3 : decode cX10_fits 3 = .ok (.iload_n 3, 1) := by decide +kernel
theorem dX10_fits_4 : decode cX10_fits 4 = .ok (.invokevirtual 211, 3) := by decide +kernel
theorem dX10_fits_7 : decode cX10_fits 7 = .ok (.ifCond .ne 5, 3) := by decide +kernel
theorem dX10_fits_10 : decode cX10_fits 10 = .ok (.iconst (-1), 1) := by decide +kernel
theorem dX10_fits_11 : decode cX10_fits 11 = .ok (.ireturn, 1) := by decide +kernel
theorem dX10_fits_12 : decode cX10_fits 12 = .ok (.aload_n 0, 1) := by decide +kernel
theorem dX10_fits_13 : decode cX10_fits 13 = .ok (.getfield 47, 3) := by decide +kernel
theorem dX10_fits_16 : decode cX10_fits 16 = .ok (.aload_n 0, 1) := by decide +kernel
theorem dX10_fits_17 : decode cX10_fits 17 = .ok (.getfield 26, 3) := by decide +kernel
theorem dX10_fits_20 : decode cX10_fits 20 = .ok (.invokevirtual 194, 3) := by decide +kernel
theorem dX10_fits_23 : decode cX10_fits 23 = .ok (.aload_n 0, 1) := by decide +kernel
theorem dX10_fits_24 : decode cX10_fits 24 = .ok (.getfield 47, 3) := by decide +kernel
theorem dX10_fits_27 : decode cX10_fits 27 = .ok (.aload_n 0, 1) := by decide +kernel
theorem dX10_fits_28 : decode cX10_fits 28 = .ok (.getfield 19, 3) := by decide +kernel
theorem dX10_fits_31 : decode cX10_fits 31 = .ok (.iload_n 1, 1) := by decide +kernel
theorem dX10_fits_32 : decode cX10_fits 32 = .ok (.iload_n 2, 1) := by decide +kernel
theorem dX10_fits_33 : decode cX10_fits 33 = .ok (.iload_n 3, 1) := by decide +kernel
theorem dX10_fits_34 : decode cX10_fits 34 = .ok (.invokevirtual 215, 3) := by decide +kernel
theorem dX10_fits_37 : decode cX10_fits 37 = .ok (.ireturn, 1) := by decide +kernel
theorem dX10_fit_0 : decode cX10_fit 0 = .ok (.iload 4, 2) := by decide +kernel
theorem dX10_fit_2 : decode cX10_fit 2 = .ok (.ifCond .lt 13, 3) := by decide +kernel
theorem dX10_fit_5 : decode cX10_fit 5 = .ok (.aload_n 0, 1) := by decide +kernel
theorem dX10_fit_6 : decode cX10_fit 6 = .ok (.iload_n 1, 1) := by decide +kernel
theorem dX10_fit_7 : decode cX10_fit 7 = .ok (.iload_n 2, 1) := by decide +kernel
theorem dX10_fit_8 : decode cX10_fit 8 = .ok (.iload_n 3, 1) := by decide +kernel
theorem dX10_fit_9 : decode cX10_fit 9 = .ok (.invokevirtual 211, 3) := by decide +kernel
theorem dX10_fit_12 : decode cX10_fit 12 = .ok (.ifCond .ne 5, 3) := by decide +kernel
theorem dX10_fit_15 : decode cX10_fit 15 = .ok (.iconst (-1), 1) := by decide +kernel
theorem dX10_fit_16 : decode cX10_fit 16 = .ok (.ireturn, 1) := by decide +kernel
theorem dX10_fit_17 : decode cX10_fit 17 = .ok (.aload_n 0, 1) := by decide +kernel
theorem dX10_fit_18 : decode cX10_fit 18 = .ok (.getfield 47, 3) := by decide +kernel
theorem dX10_fit_21 : decode cX10_fit 21 = .ok (.aload_n 0, 1) := by decide +kernel
theorem dX10_fit_22 : decode cX10_fit 22 = .ok (.getfield 26, 3) := by decide +kernel
theorem dX10_fit_25 : decode cX10_fit 25 = .ok (.invokevirtual 194, 3) := by decide +kernel
theorem dX10_fit_28 : decode cX10_fit 28 = .ok (.aload_n 0, 1) := by decide +kernel
theorem dX10_fit_29 : decode cX10_fit 29 = .ok (.getfield 47, 3) := by decide +kernel
theorem dX10_fit_32 : decode cX10_fit 32 = .ok (.aload_n 0, 1) := by decide +kernel
theorem dX10_fit_33 : decode cX10_fit 33 = .ok (.getfield 19, 3) := by decide +kernel
theorem dX10_fit_36 : decode cX10_fit 36 = .ok (.iload_n 1, 1) := by decide +kernel
theorem dX10_fit_37 : decode cX10_fit 37 = .ok (.iload_n 2, 1) := by decide +kernel
theorem dX10_fit_38 : decode cX10_fit 38 = .ok (.iload_n 3, 1) := by decide +kernel
theorem dX10_fit_39 : decode cX10_fit 39 = .ok (.invokevirtual 215, 3) := by decide +kernel
theorem dX10_fit_42 : decode cX10_fit 42 = .ok (.istore 5, 2) := by decide +kernel
theorem dX10_fit_44 : decode cX10_fit 44 = .ok (.iload 4, 2) := by decide +kernel
theorem dX10_fit_46 : decode cX10_fit 46 = .ok (.iload 5, 2) := by decide +kernel
theorem dX10_fit_48 : decode cX10_fit 48 = .ok (.if_icmp .ge 15, 3) := by decide +kernel
theorem dX10_fit_51 : decode cX10_fit 51 = .ok (.aload_n 0, 1) := by decide +kernel
theorem dX10_fit_52 : decode cX10_fit 52 = .ok (.getfield 47, 3) := by decide +kernel
theorem dX10_fit_55 : decode cX10_fit 55 = .ok (.iload 4, 2) := by decide +kernel
theorem dX10_fit_57 : decode cX10_fit 57 = .ok (.invokevirtual 219, 3) := by decide +kernel
theorem dX10_fit_60 : decode cX10_fit 60 = .ok (.goto 4, 3) := by decide +kernel
theorem dX10_fit_63 : decode cX10_fit 63 = .ok (.iconst (-1), 1) := by decide +kernel
theorem dX10_fit_64 : decode cX10_fit 64 = .ok (.ireturn, 1) := by decide +kernel
theorem dX10_canFit_0 : decode cX10_canFit 0 = .ok (.aload_n 0, 1) := by decide +kernel
theorem dX10_canFit_1 : decode cX10_canFit 1 = .ok (.iload_n 1, 1) := by decide +kernel
theorem dX10_canFit_2 : decode cX10_canFit 2 = .ok (.invokevirtual 189, 3) := by decide +kernel
theorem dX10_canFit_5 : decode cX10_canFit 5 = .ok (.ifCond .eq 28, 3) := by decide +kernel
theorem dX10_canFit_8 : decode cX10_canFit 8 = .ok (.aload_n 0, 1) := by decide +kernel
theorem dX10_canFit_9 : decode cX10_canFit 9 = .ok (.getfield 19, 3) := by decide +kernel
theorem dX10_canFit_12 : decode cX10_canFit 12 = .ok (.iload_n 2, 1) := by decide +kernel
theorem dX10_canFit_13 : decode cX10_canFit 13 = .ok (.invokevirtual 106, 3) := by decide +kernel
theorem dX10_canFit_16 : decode cX10_canFit 16 = .ok (.ifCond .eq 17, 3) := by decide +kernel
theorem dX10_canFit_19 : decode cX10_canFit 19 = .ok (.iload_n 3, 1) := by decide +kernel
theorem dX10_canFit_20 : decode cX10_canFit 20 = .ok (.ifCond .lt 13, 3) := by decide +kernel
theorem dX10_canFit_23 : decode cX10_canFit 23 = .ok (.iload_n 3, 1) := by decide +kernel
theorem dX10_canFit_24 : decode cX10_canFit 24 = .ok (.ldc 223, 2) := by decide +kernel
theorem dX10_canFit_26 : decode cX10_canFit 26 = .ok (.if_icmp .gt 7, 3) := by decide +kernel
theorem dX10_canFit_29 : decode cX10_canFit 29 = .ok (.iconst 1, 1) := by decide +kernel
theorem dX10_canFit_30 : decode cX10_canFit 30 = .ok (.goto 4, 3) := by decide +kernel
theorem dX10_canFit_33 : decode cX10_canFit 33 = .ok (.iconst 0, 1) := by decide +kernel
theorem dX10_canFit_34 : decode cX10_canFit 34 = .ok (.ireturn, 1) := by decide +kernel
theorem dX10_gain_0 : decode cX10_gain 0 = .ok (.aload_n 0, 1) := by decide +kernel
theorem dX10_gain_1 : decode cX10_gain 1 = .ok (.getfield 19, 3) := by decide +kernel
theorem dX10_gain_4 : decode cX10_gain 4 = .ok (.iload_n 1, 1) := by decide +kernel
theorem dX10_gain_5 : decode cX10_gain 5 = .ok (.invokevirtual 224, 3) := by decide +kernel
theorem dX10_gain_8 : decode cX10_gain 8 = .ok (.ifCond .eq 14, 3) := by decide +kernel
theorem dX10_gain_11 : decode cX10_gain 11 = .ok (.aload_n 0, 1) := by decide +kernel
theorem dX10_gain_12 : decode cX10_gain 12 = .ok (.getfield 19, 3) := by decide +kernel
theorem dX10_gain_15 : decode cX10_gain 15 = .ok (.iload_n 2, 1) := by decide +kernel
theorem dX10_gain_16 : decode cX10_gain 16 = .ok (.invokevirtual 152, 3) := by decide +kernel
theorem dX10_gain_19 : decode cX10_gain 19 = .ok (.ifCond .ne 13, 3) := by decide +kernel
theorem dX10_gain_22 : decode cX10_gain 22 = .ok (.new 109, 3) := by decide +kernel
theorem dX10_gain_25 : decode cX10_gain 25 = .ok (.dup, 1) := by decide +kernel
theorem dX10_gain_26 : decode cX10_gain 26 = .ok (.ldc 227, 2) := by decide +kernel
theorem dX10_gain_28 : decode cX10_gain 28 = .ok (.invokespecial 113, 3) := by decide +kernel
theorem dX10_gain_31 : decode cX10_gain 31 = .ok (.athrow, 1) := by decide +kernel
theorem dX10_gain_32 : decode cX10_gain 32 = .ok (.aload_n 0, 1) := by decide +kernel
theorem dX10_gain_33 : decode cX10_gain 33 = .ok (.getfield 19, 3) := by decide +kernel
theorem dX10_gain_36 : decode cX10_gain 36 = .ok (.iload_n 1, 1) := by decide +kernel
theorem dX10_gain_37 : decode cX10_gain 37 = .ok (.iload_n 2, 1) := by decide +kernel
theorem dX10_gain_38 : decode cX10_gain 38 = .ok (.invokevirtual 229, 3) := by decide +kernel
theorem dX10_gain_41 : decode cX10_gain 41 = .ok (.ireturn, 1) := by decide +kernel
theorem dX10_sure_0 : decode cX10_sure 0 = .ok (.iload_n 1, 1) := by decide +kernel
theorem dX10_sure_1 : decode cX10_sure 1 = .ok (.ifCond .lt 8, 3) := by decide +kernel
theorem dX10_sure_4 : decode cX10_sure 4 = .ok (.iload_n 1, 1) := by decide +kernel
theorem dX10_sure_5 : decode cX10_sure 5 = .ok (.iconst 1, 1) := by decide +kernel
theorem dX10_sure_6 : decode cX10_sure 6 = .ok (.if_icmp .le 5, 3) := by decide +kernel
theorem dX10_sure_9 : decode cX10_sure 9 = .ok (.iconst (-1), 1) := by decide +kernel
theorem dX10_sure_10 : decode cX10_sure 10 = .ok (.ireturn, 1) := by decide +kernel
theorem dX10_sure_11 : decode cX10_sure 11 = .ok (.iconst 0, 1) := by decide +kernel
theorem dX10_sure_12 : decode cX10_sure 12 = .ok (.istore_n 2, 1) := by decide +kernel
theorem dX10_sure_13 : decode cX10_sure 13 = .ok (.iconst 0, 1) := by decide +kernel
theorem dX10_sure_14 : decode cX10_sure 14 = .ok (.istore_n 3, 1) := by decide +kernel
theorem dX10_sure_15 : decode cX10_sure 15 = .ok (.iconst 1, 1) := by decide +kernel
theorem dX10_sure_16 : decode cX10_sure 16 = .ok (.istore 4, 2) := by decide +kernel
theorem dX10_sure_18 : decode cX10_sure 18 = .ok (.iload 4, 2) := by decide +kernel
theorem dX10_sure_20 : decode cX10_sure 20 = .ok (.iconst 1, 1) := by decide +kernel
theorem dX10_sure_21 : decode cX10_sure 21 = .ok (.aload_n 0, 1) := by decide +kernel
theorem dX10_sure_22 : decode cX10_sure 22 = .ok (.getfield 19, 3) := by decide +kernel
theorem dX10_sure_25 : decode cX10_sure 25 = .ok (.getfield 233, 3) := by decide +kernel
theorem dX10_sure_28 : decode cX10_sure 28 = .ok (.ishl, 1) := by decide +kernel
theorem dX10_sure_29 : decode cX10_sure 29 = .ok (.if_icmp .ge 32, 3) := by decide +kernel
theorem dX10_sure_32 : decode cX10_sure 32 = .ok (.aload_n 0, 1) := by decide +kernel
theorem dX10_sure_33 : decode cX10_sure 33 = .ok (.getfield 19, 3) := by decide +kernel
theorem dX10_sure_36 : decode cX10_sure 36 = .ok (.iload 4, 2) := by decide +kernel
theorem dX10_sure_38 : decode cX10_sure 38 = .ok (.invokevirtual 236, 3) := by decide +kernel
theorem dX10_sure_41 : decode cX10_sure 41 = .ok (.istore 5, 2) := by decide +kernel
theorem dX10_sure_43 : decode cX10_sure 43 = .ok (.iload 5, 2) := by decide +kernel
theorem dX10_sure_45 : decode cX10_sure 45 = .ok (.iload_n 3, 1) := by decide +kernel
theorem dX10_sure_46 : decode cX10_sure 46 = .ok (.if_icmp .le 9, 3) := by decide +kernel
theorem dX10_sure_49 : decode cX10_sure 49 = .ok (.iload 5, 2) := by decide +kernel
theorem dX10_sure_51 : decode cX10_sure 51 = .ok (.istore_n 3, 1) := by decide +kernel
theorem dX10_sure_52 : decode cX10_sure 52 = .ok (.iload 4, 2) := by decide +kernel
theorem dX10_sure_54 : decode cX10_sure 54 = .ok (.istore_n 2, 1) := by decide +kernel
theorem dX10_sure_55 : decode cX10_sure 55 = .ok (.iinc 4 1, 3) := by decide +kernel
theorem dX10_sure_58 : decode cX10_sure 58 = .ok (.goto (-40), 3) := by decide +kernel
theorem dX10_sure_61 : decode cX10_sure 61 = .ok (.iload_n 1, 1) := by decide +kernel
theorem dX10_sure_62 : decode cX10_sure 62 = .ok (.ifCond .ne 7, 3) := by decide +kernel
theorem dX10_sure_65 : decode cX10_sure 65 = .ok (.iload_n 3, 1) := by decide +kernel
theorem dX10_sure_66 : decode cX10_sure 66 = .ok (.goto 4, 3) := by decide +kernel
theorem dX10_sure_69 : decode cX10_sure 69 = .ok (.iload_n 2, 1) := by decide +kernel
theorem dX10_sure_70 : decode cX10_sure 70 = .ok (.ireturn, 1) := by decide +kernel
theorem dX10_lots_0 : decode cX10_lots 0 = .ok (.iload_n 1, 1) := by decide +kernel
theorem dX10_lots_1 : decode cX10_lots 1 = .ok (.ifCond .lt 30, 3) := by decide +kernel
theorem dX10_lots_4 : decode cX10_lots 4 = .ok (.iload_n 1, 1) := by decide +kernel
theorem dX10_lots_5 : decode cX10_lots 5 = .ok (.sipush 9999, 3) := by decide +kernel
theorem dX10_lots_8 : decode cX10_lots 8 = .ok (.if_icmp .gt 23, 3) := by decide +kernel
theorem dX10_lots_11 : decode cX10_lots 11 = .ok (.iload_n 2, 1) := by decide +kernel
theorem dX10_lots_12 : decode cX10_lots 12 = .ok (.iconst 1, 1) := by decide +kernel
theorem dX10_lots_13 : decode cX10_lots 13 = .ok (.if_icmp .lt 18, 3) := by decide +kernel
theorem dX10_lots_16 : decode cX10_lots 16 = .ok (.iload_n 2, 1) := by decide +kernel
theorem dX10_lots_17 : decode cX10_lots 17 = .ok (.bipush 20, 2) := by decide +kernel
theorem dX10_lots_19 : decode cX10_lots 19 = .ok (.if_icmp .gt 12, 3) := by decide +kernel
theorem dX10_lots_22 : decode cX10_lots 22 = .ok (.iload_n 3, 1) := by decide +kernel
theorem dX10_lots_23 : decode cX10_lots 23 = .ok (.ifCond .lt 8, 3) := by decide +kernel
theorem dX10_lots_26 : decode cX10_lots 26 = .ok (.iload_n 3, 1) := by decide +kernel
theorem dX10_lots_27 : decode cX10_lots 27 = .ok (.iconst 3, 1) := by decide +kernel
theorem dX10_lots_28 : decode cX10_lots 28 = .ok (.if_icmp .le 5, 3) := by decide +kernel
theorem dX10_lots_31 : decode cX10_lots 31 = .ok (.iconst (-1), 1) := by decide +kernel
theorem dX10_lots_32 : decode cX10_lots 32 = .ok (.ireturn, 1) := by decide +kernel
theorem dX10_lots_33 : decode cX10_lots 33 = .ok (.aload_n 0, 1) := by decide +kernel
theorem dX10_lots_34 : decode cX10_lots 34 = .ok (.getfield 54, 3) := by decide +kernel
theorem dX10_lots_37 : decode cX10_lots 37 = .ok (.aload_n 0, 1) := by decide +kernel
theorem dX10_lots_38 : decode cX10_lots 38 = .ok (.getfield 19, 3) := by decide +kernel
theorem dX10_lots_41 : decode cX10_lots 41 = .ok (.aload_n 0, 1) := by decide +kernel
theorem dX10_lots_42 : decode cX10_lots 42 = .ok (.getfield 26, 3) := by decide +kernel
theorem dX10_lots_45 : decode cX10_lots 45 = .ok (.iload_n 1, 1) := by decide +kernel
theorem dX10_lots_46 : decode cX10_lots 46 = .ok (.iload_n 2, 1) := by decide +kernel
theorem dX10_lots_47 : decode cX10_lots 47 = .ok (.invokevirtual 239, 3) := by decide +kernel
theorem dX10_lots_50 : decode cX10_lots 50 = .ok (.iload_n 3, 1) := by decide +kernel
theorem dX10_lots_51 : decode cX10_lots 51 = .ok (.tableswitch 49 0 2 #[25, 33, 41], 25) := by decide +kernel
theorem dX10_lots_76 : decode cX10_lots 76 = .ok (.aload_n 0, 1) := by decide +kernel
theorem dX10_lots_77 : decode cX10_lots 77 = .ok (.getfield 54, 3) := by decide +kernel
theorem dX10_lots_80 : decode cX10_lots 80 = .ok (.getfield 243, 3) := by decide +kernel
theorem dX10_lots_83 : decode cX10_lots 83 = .ok (.ireturn, 1) := by decide +kernel
theorem dX10_lots_84 : decode cX10_lots 84 = .ok (.aload_n 0, 1) := by decide +kernel
theorem dX10_lots_85 : decode cX10_lots 85 = .ok (.getfield 54, 3) := by decide +kernel
theorem dX10_lots_88 : decode cX10_lots 88 = .ok (.getfield 246, 3) := by decide +kernel
theorem dX10_lots_91 : decode cX10_lots 91 = .ok (.ireturn, 1) := by decide +kernel
theorem dX10_lots_92 : decode cX10_lots 92 = .ok (.aload_n 0, 1) := by decide +kernel
theorem dX10_lots_93 : decode cX10_lots 93 = .ok (.getfield 54, 3) := by decide +kernel
theorem dX10_lots_96 : decode cX10_lots 96 = .ok (.getfield 249, 3) := by decide +kernel
theorem dX10_lots_99 : decode cX10_lots 99 = .ok (.ireturn, 1) := by decide +kernel
theorem dX10_lots_100 : decode cX10_lots 100 = .ok (.aload_n 0, 1) := by decide +kernel
theorem dX10_lots_101 : decode cX10_lots 101 = .ok (.getfield 54, 3) := by decide +kernel
theorem dX10_lots_104 : decode cX10_lots 104 = .ok (.getfield 252, 3) := by decide +kernel
theorem dX10_lots_107 : decode cX10_lots 107 = .ok (.ireturn, 1) := by decide +kernel
theorem dX10_mark_0 : decode cX10_mark 0 = .ok (.iload_n 1, 1) := by decide +kernel
theorem dX10_mark_1 : decode cX10_mark 1 = .ok (.ifCond .lt 8, 3) := by decide +kernel
theorem dX10_mark_4 : decode cX10_mark 4 = .ok (.iload_n 1, 1) := by decide +kernel
theorem dX10_mark_5 : decode cX10_mark 5 = .ok (.iconst 4, 1) := by decide +kernel
theorem dX10_mark_6 : decode cX10_mark 6 = .ok (.if_icmp .lt 5, 3) := by decide +kernel
theorem dX10_mark_9 : decode cX10_mark 9 = .ok (.iconst 0, 1) := by decide +kernel
theorem dX10_mark_10 : decode cX10_mark 10 = .ok (.ireturn, 1) := by decide +kernel
theorem dX10_mark_11 : decode cX10_mark 11 = .ok (.iload_n 2, 1) := by decide +kernel
theorem dX10_mark_12 : decode cX10_mark 12 = .ok (.ifCond .ne 22, 3) := by decide +kernel
theorem dX10_mark_15 : decode cX10_mark 15 = .ok (.aload_n 0, 1) := by decide +kernel
theorem dX10_mark_16 : decode cX10_mark 16 = .ok (.getfield 39, 3) := by decide +kernel
theorem dX10_mark_19 : decode cX10_mark 19 = .ok (.iload_n 1, 1) := by decide +kernel
theorem dX10_mark_20 : decode cX10_mark 20 = .ok (.aaload, 1) := by decide +kernel
theorem dX10_mark_21 : decode cX10_mark 21 = .ok (.aload_n 0, 1) := by decide +kernel
theorem dX10_mark_22 : decode cX10_mark 22 = .ok (.getfield 19, 3) := by decide +kernel
theorem dX10_mark_25 : decode cX10_mark 25 = .ok (.aload_n 0, 1) := by decide +kernel
theorem dX10_mark_26 : decode cX10_mark 26 = .ok (.getfield 26, 3) := by decide +kernel
theorem dX10_mark_29 : decode cX10_mark 29 = .ok (.invokevirtual 255, 3) := by decide +kernel
theorem dX10_mark_32 : decode cX10_mark 32 = .ok (.iconst 1, 1) := by decide +kernel
theorem dX10_mark_33 : decode cX10_mark 33 = .ok (.ireturn, 1) := by decide +kernel
theorem dX10_mark_34 : decode cX10_mark 34 = .ok (.aload_n 0, 1) := by decide +kernel
theorem dX10_mark_35 : decode cX10_mark 35 = .ok (.getfield 39, 3) := by decide +kernel
theorem dX10_mark_38 : decode cX10_mark 38 = .ok (.iload_n 1, 1) := by decide +kernel
theorem dX10_mark_39 : decode cX10_mark 39 = .ok (.aaload, 1) := by decide +kernel
theorem dX10_mark_40 : decode cX10_mark 40 = .ok (.getfield 259, 3) := by decide +kernel
theorem dX10_mark_43 : decode cX10_mark 43 = .ok (.ifCond .ne 5, 3) := by decide +kernel
theorem dX10_mark_46 : decode cX10_mark 46 = .ok (.iconst 0, 1) := by decide +kernel
theorem dX10_mark_47 : decode cX10_mark 47 = .ok (.ireturn, 1) := by decide +kernel
theorem dX10_mark_48 : decode cX10_mark 48 = .ok (.aload_n 0, 1) := by decide +kernel
theorem dX10_mark_49 : decode cX10_mark 49 = .ok (.getfield 19, 3) := by decide +kernel
theorem dX10_mark_52 : decode cX10_mark 52 = .ok (.aload_n 0, 1) := by decide +kernel
theorem dX10_mark_53 : decode cX10_mark 53 = .ok (.getfield 39, 3) := by decide +kernel
theorem dX10_mark_56 : decode cX10_mark 56 = .ok (.iload_n 1, 1) := by decide +kernel
theorem dX10_mark_57 : decode cX10_mark 57 = .ok (.aaload, 1) := by decide +kernel
theorem dX10_mark_58 : decode cX10_mark 58 = .ok (.getfield 263, 3) := by decide +kernel
theorem dX10_mark_61 : decode cX10_mark 61 = .ok (.invokevirtual 82, 3) := by decide +kernel
theorem dX10_mark_64 : decode cX10_mark 64 = .ok (.aload_n 0, 1) := by decide +kernel
theorem dX10_mark_65 : decode cX10_mark 65 = .ok (.getfield 26, 3) := by decide +kernel
theorem dX10_mark_68 : decode cX10_mark 68 = .ok (.aload_n 0, 1) := by decide +kernel
theorem dX10_mark_69 : decode cX10_mark 69 = .ok (.getfield 39, 3) := by decide +kernel
theorem dX10_mark_72 : decode cX10_mark 72 = .ok (.iload_n 1, 1) := by decide +kernel
theorem dX10_mark_73 : decode cX10_mark 73 = .ok (.aaload, 1) := by decide +kernel
theorem dX10_mark_74 : decode cX10_mark 74 = .ok (.getfield 264, 3) := by decide +kernel
theorem dX10_mark_77 : decode cX10_mark 77 = .ok (.invokevirtual 265, 3) := by decide +kernel
theorem dX10_mark_80 : decode cX10_mark 80 = .ok (.aload_n 0, 1) := by decide +kernel
theorem dX10_mark_81 : decode cX10_mark 81 = .ok (.getfield 33, 3) := by decide +kernel
theorem dX10_mark_84 : decode cX10_mark 84 = .ok (.invokevirtual 89, 3) := by decide +kernel
theorem dX10_mark_87 : decode cX10_mark 87 = .ok (.iconst 1, 1) := by decide +kernel
theorem dX10_mark_88 : decode cX10_mark 88 = .ok (.ireturn, 1) := by decide +kernel
theorem dX10_count_0 : decode cX10_count 0 = .ok (.iload_n 1, 1) := by decide +kernel
theorem dX10_count_1 : decode cX10_count 1 = .ok (.tableswitch 114 0 7 #[47, 55, 63, 71, 79, 87, 95, 103], 47) := by decide +kernel
theorem dX10_count_48 : decode cX10_count 48 = .ok (.aload_n 0, 1) := by decide +kernel
theorem dX10_count_49 : decode cX10_count 49 = .ok (.getfield 19, 3) := by decide +kernel
theorem dX10_count_52 : decode cX10_count 52 = .ok (.getfield 201, 3) := by decide +kernel
theorem dX10_count_55 : decode cX10_count 55 = .ok (.ireturn, 1) := by decide +kernel
theorem dX10_count_56 : decode cX10_count 56 = .ok (.aload_n 0, 1) := by decide +kernel
theorem dX10_count_57 : decode cX10_count 57 = .ok (.getfield 19, 3) := by decide +kernel
theorem dX10_count_60 : decode cX10_count 60 = .ok (.getfield 267, 3) := by decide +kernel
theorem dX10_count_63 : decode cX10_count 63 = .ok (.ireturn, 1) := by decide +kernel
theorem dX10_count_64 : decode cX10_count 64 = .ok (.aload_n 0, 1) := by decide +kernel
theorem dX10_count_65 : decode cX10_count 65 = .ok (.getfield 19, 3) := by decide +kernel
theorem dX10_count_68 : decode cX10_count 68 = .ok (.getfield 270, 3) := by decide +kernel
theorem dX10_count_71 : decode cX10_count 71 = .ok (.ireturn, 1) := by decide +kernel
theorem dX10_count_72 : decode cX10_count 72 = .ok (.aload_n 0, 1) := by decide +kernel
theorem dX10_count_73 : decode cX10_count 73 = .ok (.getfield 19, 3) := by decide +kernel
theorem dX10_count_76 : decode cX10_count 76 = .ok (.getfield 233, 3) := by decide +kernel
theorem dX10_count_79 : decode cX10_count 79 = .ok (.ireturn, 1) := by decide +kernel
theorem dX10_count_80 : decode cX10_count 80 = .ok (.aload_n 0, 1) := by decide +kernel
theorem dX10_count_81 : decode cX10_count 81 = .ok (.getfield 26, 3) := by decide +kernel
theorem dX10_count_84 : decode cX10_count 84 = .ok (.getfield 273, 3) := by decide +kernel
theorem dX10_count_87 : decode cX10_count 87 = .ok (.ireturn, 1) := by decide +kernel
theorem dX10_count_88 : decode cX10_count 88 = .ok (.aload_n 0, 1) := by decide +kernel
theorem dX10_count_89 : decode cX10_count 89 = .ok (.getfield 26, 3) := by decide +kernel
theorem dX10_count_92 : decode cX10_count 92 = .ok (.getfield 276, 3) := by decide +kernel
theorem dX10_count_95 : decode cX10_count 95 = .ok (.ireturn, 1) := by decide +kernel
theorem dX10_count_96 : decode cX10_count 96 = .ok (.aload_n 0, 1) := by decide +kernel
theorem dX10_count_97 : decode cX10_count 97 = .ok (.getfield 33, 3) := by decide +kernel
theorem dX10_count_100 : decode cX10_count 100 = .ok (.getfield 277, 3) := by decide +kernel
theorem dX10_count_103 : decode cX10_count 103 = .ok (.ireturn, 1) := by decide +kernel
theorem dX10_count_104 : decode cX10_count 104 = .ok (.aload_n 0, 1) := by decide +kernel
theorem dX10_count_105 : decode cX10_count 105 = .ok (.getfield 10, 3) := by decide +kernel
theorem dX10_count_108 : decode cX10_count 108 = .ok (.getfield 58, 3) := by decide +kernel
theorem dX10_count_111 : decode cX10_count 111 = .ok (.getfield 68, 3) := by decide +kernel
theorem dX10_count_114 : decode cX10_count 114 = .ok (.ireturn, 1) := by decide +kernel
theorem dX10_count_115 : decode cX10_count 115 = .ok (.iconst (-1), 1) := by decide +kernel
theorem dX10_count_116 : decode cX10_count 116 = .ok (.ireturn, 1) := by decide +kernel
theorem dX11_init_0 : decode cX11_init 0 = .ok (.aload_n 0, 1) := by decide +kernel
theorem dX11_init_1 : decode cX11_init 1 = .ok (.invokespecial 1, 3) := by decide +kernel
theorem dX11_init_4 : decode cX11_init 4 = .ok (.aload_n 0, 1) := by decide +kernel
theorem dX11_init_5 : decode cX11_init 5 = .ok (.sipush 1000, 3) := by decide +kernel
theorem dX11_init_8 : decode cX11_init 8 = .ok (.newarray .int, 2) := by decide +kernel
theorem dX11_init_10 : decode cX11_init 10 = .ok (.putfield 7, 3) := by decide +kernel
theorem dX11_init_13 : decode cX11_init 13 = .ok (.aload_n 0, 1) := by decide +kernel
theorem dX11_init_14 : decode cX11_init 14 = .ok (.bipush 6, 2) := by decide +kernel
theorem dX11_init_16 : decode cX11_init 16 = .ok (.newarray .int, 2) := by decide +kernel
theorem dX11_init_18 : decode cX11_init 18 = .ok (.putfield 13, 3) := by decide +kernel
theorem dX11_init_21 : decode cX11_init 21 = .ok (.aload_n 0, 1) := by decide +kernel
theorem dX11_init_22 : decode cX11_init 22 = .ok (.bipush 6, 2) := by decide +kernel
theorem dX11_init_24 : decode cX11_init 24 = .ok (.newarray .int, 2) := by decide +kernel
theorem dX11_init_26 : decode cX11_init 26 = .ok (.putfield 16, 3) := by decide +kernel
theorem dX11_init_29 : decode cX11_init 29 = .ok (.aload_n 0, 1) := by decide +kernel
theorem dX11_init_30 : decode cX11_init 30 = .ok (.bipush 6, 2) := by decide +kernel
theorem dX11_init_32 : decode cX11_init 32 = .ok (.newarray .int, 2) := by decide +kernel
theorem dX11_init_34 : decode cX11_init 34 = .ok (.putfield 19, 3) := by decide +kernel
theorem dX11_init_37 : decode cX11_init 37 = .ok (.aload_n 0, 1) := by decide +kernel
theorem dX11_init_38 : decode cX11_init 38 = .ok (.bipush 6, 2) := by decide +kernel
theorem dX11_init_40 : decode cX11_init 40 = .ok (.newarray .int, 2) := by decide +kernel
theorem dX11_init_42 : decode cX11_init 42 = .ok (.putfield 22, 3) := by decide +kernel
theorem dX11_init_45 : decode cX11_init 45 = .ok (.aload_n 0, 1) := by decide +kernel
theorem dX11_init_46 : decode cX11_init 46 = .ok (.iconst 4, 1) := by decide +kernel
theorem dX11_init_47 : decode cX11_init 47 = .ok (.newarray .long, 2) := by decide +kernel
theorem dX11_init_49 : decode cX11_init 49 = .ok (.putfield 25, 3) := by decide +kernel
theorem dX11_init_52 : decode cX11_init 52 = .ok (.aload_n 0, 1) := by decide +kernel
theorem dX11_init_53 : decode cX11_init 53 = .ok (.bipush 6, 2) := by decide +kernel
theorem dX11_init_55 : decode cX11_init 55 = .ok (.newarray .long, 2) := by decide +kernel
theorem dX11_init_57 : decode cX11_init 57 = .ok (.putfield 29, 3) := by decide +kernel
theorem dX11_init_60 : decode cX11_init 60 = .ok (.aload_n 0, 1) := by decide +kernel
theorem dX11_init_61 : decode cX11_init 61 = .ok (.bipush 24, 2) := by decide +kernel
theorem dX11_init_63 : decode cX11_init 63 = .ok (.newarray .int, 2) := by decide +kernel
theorem dX11_init_65 : decode cX11_init 65 = .ok (.putfield 32, 3) := by decide +kernel
theorem dX11_init_68 : decode cX11_init 68 = .ok (.aload_n 0, 1) := by decide +kernel
theorem dX11_init_69 : decode cX11_init 69 = .ok (.bipush 24, 2) := by decide +kernel
theorem dX11_init_71 : decode cX11_init 71 = .ok (.newarray .int, 2) := by decide +kernel
theorem dX11_init_73 : decode cX11_init 73 = .ok (.putfield 35, 3) := by decide +kernel
theorem dX11_init_76 : decode cX11_init 76 = .ok (.aload_n 0, 1) := by decide +kernel
theorem dX11_init_77 : decode cX11_init 77 = .ok (.bipush 36, 2) := by decide +kernel
theorem dX11_init_79 : decode cX11_init 79 = .ok (.newarray .int, 2) := by decide +kernel
theorem dX11_init_81 : decode cX11_init 81 = .ok (.putfield 38, 3) := by decide +kernel
theorem dX11_init_84 : decode cX11_init 84 = .ok (.aload_n 0, 1) := by decide +kernel
theorem dX11_init_85 : decode cX11_init 85 = .ok (.bipush 60, 2) := by decide +kernel
theorem dX11_init_87 : decode cX11_init 87 = .ok (.newarray .int, 2) := by decide +kernel
theorem dX11_init_89 : decode cX11_init 89 = .ok (.putfield 41, 3) := by decide +kernel
theorem dX11_init_92 : decode cX11_init 92 = .ok (.aload_n 0, 1) := by decide +kernel
theorem dX11_init_93 : decode cX11_init 93 = .ok (.bipush 60, 2) := by decide +kernel
theorem dX11_init_95 : decode cX11_init 95 = .ok (.newarray .int, 2) := by decide +kernel
theorem dX11_init_97 : decode cX11_init 97 = .ok (.putfield 44, 3) := by decide +kernel
theorem dX11_init_100 : decode cX11_init 100 = .ok (.aload_n 0, 1) := by decide +kernel
theorem dX11_init_101 : decode cX11_init 101 = .ok (.bipush 60, 2) := by decide +kernel
theorem dX11_init_103 : decode cX11_init 103 = .ok (.newarray .int, 2) := by decide +kernel
theorem dX11_init_105 : decode cX11_init 105 = .ok (.putfield 47, 3) := by decide +kernel
theorem dX11_init_108 : decode cX11_init 108 = .ok (.aload_n 0, 1) := by decide +kernel
theorem dX11_init_109 : decode cX11_init 109 = .ok (.bipush 60, 2) := by decide +kernel
theorem dX11_init_111 : decode cX11_init 111 = .ok (.newarray .int, 2) := by decide +kernel
theorem dX11_init_113 : decode cX11_init 113 = .ok (.putfield 50, 3) := by decide +kernel
theorem dX11_init_116 : decode cX11_init 116 = .ok (.aload_n 0, 1) := by decide +kernel
theorem dX11_init_117 : decode cX11_init 117 = .ok (.bipush 60, 2) := by decide +kernel
theorem dX11_init_119 : decode cX11_init 119 = .ok (.newarray .int, 2) := by decide +kernel
theorem dX11_init_121 : decode cX11_init 121 = .ok (.putfield 53, 3) := by decide +kernel
theorem dX11_init_124 : decode cX11_init 124 = .ok (.aload_n 0, 1) := by decide +kernel
theorem dX11_init_125 : decode cX11_init 125 = .ok (.bipush 60, 2) := by decide +kernel
theorem dX11_init_127 : decode cX11_init 127 = .ok (.newarray .int, 2) := by decide +kernel
theorem dX11_init_129 : decode cX11_init 129 = .ok (.putfield 56, 3) := by decide +kernel
theorem dX11_init_132 : decode cX11_init 132 = .ok (.aload_n 0, 1) := by decide +kernel
theorem dX11_init_133 : decode cX11_init 133 = .ok (.bipush 60, 2) := by decide +kernel
theorem dX11_init_135 : decode cX11_init 135 = .ok (.newarray .int, 2) := by decide +kernel
theorem dX11_init_137 : decode cX11_init 137 = .ok (.putfield 59, 3) := by decide +kernel
theorem dX11_init_140 : decode cX11_init 140 = .ok (.aload_n 0, 1) := by decide +kernel
theorem dX11_init_141 : decode cX11_init 141 = .ok (.bipush 60, 2) := by decide +kernel
theorem dX11_init_143 : decode cX11_init 143 = .ok (.newarray .int, 2) := by decide +kernel
theorem dX11_init_145 : decode cX11_init 145 = .ok (.putfield 62, 3) := by decide +kernel
theorem dX11_init_148 : decode cX11_init 148 = .ok (.aload_n 0, 1) := by decide +kernel
theorem dX11_init_149 : decode cX11_init 149 = .ok (.bipush 48, 2) := by decide +kernel
theorem dX11_init_151 : decode cX11_init 151 = .ok (.newarray .int, 2) := by decide +kernel
theorem dX11_init_153 : decode cX11_init 153 = .ok (.putfield 65, 3) := by decide +kernel
theorem dX11_init_156 : decode cX11_init 156 = .ok (.aload_n 0, 1) := by decide +kernel
theorem dX11_init_157 : decode cX11_init 157 = .ok (.bipush 48, 2) := by decide +kernel
theorem dX11_init_159 : decode cX11_init 159 = .ok (.newarray .int, 2) := by decide +kernel
theorem dX11_init_161 : decode cX11_init 161 = .ok (.putfield 68, 3) := by decide +kernel
theorem dX11_init_164 : decode cX11_init 164 = .ok (.aload_n 0, 1) := by decide +kernel
theorem dX11_init_165 : decode cX11_init 165 = .ok (.bipush 48, 2) := by decide +kernel
theorem dX11_init_167 : decode cX11_init 167 = .ok (.newarray .int, 2) := by decide +kernel
theorem dX11_init_169 : decode cX11_init 169 = .ok (.putfield 71, 3) := by decide +kernel
theorem dX11_init_172 : decode cX11_init 172 = .ok (.aload_n 0, 1) := by decide +kernel
theorem dX11_init_173 : decode cX11_init 173 = .ok (.bipush 48, 2) := by decide +kernel
theorem dX11_init_175 : decode cX11_init 175 = .ok (.newarray .int, 2) := by decide +kernel
theorem dX11_init_177 : decode cX11_init 177 = .ok (.putfield 74, 3) := by decide +kernel
theorem dX11_init_180 : decode cX11_init 180 = .ok (.aload_n 0, 1) := by decide +kernel
theorem dX11_init_181 : decode cX11_init 181 = .ok (.sipush 6000, 3) := by decide +kernel
theorem dX11_init_184 : decode cX11_init 184 = .ok (.newarray .int, 2) := by decide +kernel
theorem dX11_init_186 : decode cX11_init 186 = .ok (.putfield 77, 3) := by decide +kernel
theorem dX11_init_189 : decode cX11_init 189 = .ok (.aload_n 0, 1) := by decide +kernel
theorem dX11_init_190 : decode cX11_init 190 = .ok (.bipush 7, 2) := by decide +kernel
theorem dX11_init_192 : decode cX11_init 192 = .ok (.newarray .int, 2) := by decide +kernel
theorem dX11_init_194 : decode cX11_init 194 = .ok (.putfield 80, 3) := by decide +kernel
theorem dX11_init_197 : decode cX11_init 197 = .ok (.aload_n 0, 1) := by decide +kernel
theorem dX11_init_198 : decode cX11_init 198 = .ok (.bipush 7, 2) := by decide +kernel
theorem dX11_init_200 : decode cX11_init 200 = .ok (.newarray .boolean, 2) := by decide +kernel
theorem dX11_init_202 : decode cX11_init 202 = .ok (.putfield 83, 3) := by decide +kernel
theorem dX11_init_205 : decode cX11_init 205 = .ok (.aload_n 0, 1) := by decide +kernel
theorem dX11_init_206 : decode cX11_init 206 = .ok (.bipush 7, 2) := by decide +kernel
theorem dX11_init_208 : decode cX11_init 208 = .ok (.newarray .int, 2) := by decide +kernel
theorem dX11_init_210 : decode cX11_init 210 = .ok (.putfield 87, 3) := by decide +kernel
theorem dX11_init_213 : decode cX11_init 213 = .ok (.aload_n 0, 1) := by decide +kernel
theorem dX11_init_214 : decode cX11_init 214 = .ok (.bipush 7, 2) := by decide +kernel
theorem dX11_init_216 : decode cX11_init 216 = .ok (.newarray .int, 2) := by decide +kernel
theorem dX11_init_218 : decode cX11_init 218 = .ok (.putfield 90, 3) := by decide +kernel
theorem dX11_init_221 : decode cX11_init 221 = .ok (.aload_n 0, 1) := by decide +kernel
theorem dX11_init_222 : decode cX11_init 222 = .ok (.bipush 7, 2) := by decide +kernel
theorem dX11_init_224 : decode cX11_init 224 = .ok (.newarray .int, 2) := by decide +kernel
theorem dX11_init_226 : decode cX11_init 226 = .ok (.putfield 93, 3) := by decide +kernel
theorem dX11_init_229 : decode cX11_init 229 = .ok (.aload_n 0, 1) := by decide +kernel
theorem dX11_init_230 : decode cX11_init 230 = .ok (.bipush 7, 2) := by decide +kernel
theorem dX11_init_232 : decode cX11_init 232 = .ok (.newarray .int, 2) := by decide +kernel
theorem dX11_init_234 : decode cX11_init 234 = .ok (.putfield 96, 3) := by decide +kernel
theorem dX11_init_237 : decode cX11_init 237 = .ok (.aload_n 0, 1) := by decide +kernel
theorem dX11_init_238 : decode cX11_init 238 = .ok (.bipush 7, 2) := by decide +kernel
theorem dX11_init_240 : decode cX11_init 240 = .ok (.newarray .int, 2) := by decide +kernel
theorem dX11_init_242 : decode cX11_init 242 = .ok (.putfield 99, 3) := by decide +kernel
theorem dX11_init_245 : decode cX11_init 245 = .ok (.aload_n 0, 1) := by decide +kernel
theorem dX11_init_246 : decode cX11_init 246 = .ok (.bipush 7, 2) := by decide +kernel
theorem dX11_init_248 : decode cX11_init 248 = .ok (.newarray .int, 2) := by decide +kernel
theorem dX11_init_250 : decode cX11_init 250 = .ok (.putfield 102, 3) := by decide +kernel
theorem dX11_init_253 : decode cX11_init 253 = .ok (.aload_n 0, 1) := by decide +kernel
theorem dX11_init_254 : decode cX11_init 254 = .ok (.bipush 7, 2) := by decide +kernel
theorem dX11_init_256 : decode cX11_init 256 = .ok (.newarray .int, 2) := by decide +kernel
theorem dX11_init_258 : decode cX11_init 258 = .ok (.putfield 105, 3) := by decide +kernel
theorem dX11_init_261 : decode cX11_init 261 = .ok (.aload_n 0, 1) := by decide +kernel
theorem dX11_init_262 : decode cX11_init 262 = .ok (.bipush 7, 2) := by decide +kernel
theorem dX11_init_264 : decode cX11_init 264 = .ok (.newarray .int, 2) := by decide +kernel
theorem dX11_init_266 : decode cX11_init 266 = .ok (.putfield 108, 3) := by decide +kernel
theorem dX11_init_269 : decode cX11_init 269 = .ok (.aload_n 0, 1) := by decide +kernel
theorem dX11_init_270 : decode cX11_init 270 = .ok (.bipush 7, 2) := by decide +kernel
theorem dX11_init_272 : decode cX11_init 272 = .ok (.newarray .int, 2) := by decide +kernel
theorem dX11_init_274 : decode cX11_init 274 = .ok (.putfield 111, 3) := by decide +kernel
theorem dX11_init_277 : decode cX11_init 277 = .ok (.aload_n 0, 1) := by decide +kernel
theorem dX11_init_278 : decode cX11_init 278 = .ok (.bipush 20, 2) := by decide +kernel
theorem dX11_init_280 : decode cX11_init 280 = .ok (.newarray .int, 2) := by decide +kernel
theorem dX11_init_282 : decode cX11_init 282 = .ok (.putfield 114, 3) := by decide +kernel
theorem dX11_init_285 : decode cX11_init 285 = .ok (.aload_n 0, 1) := by decide +kernel
theorem dX11_init_286 : decode cX11_init 286 = .ok (.bipush 64, 2) := by decide +kernel
theorem dX11_init_288 : decode cX11_init 288 = .ok (.newarray .int, 2) := by decide +kernel
theorem dX11_init_290 : decode cX11_init 290 = .ok (.putfield 117, 3) := by decide +kernel
theorem dX11_init_293 : decode cX11_init 293 = .ok (.aload_n 0, 1) := by decide +kernel
theorem dX11_init_294 : decode cX11_init 294 = .ok (.bipush 64, 2) := by decide +kernel
theorem dX11_init_296 : decode cX11_init 296 = .ok (.newarray .int, 2) := by decide +kernel
theorem dX11_init_298 : decode cX11_init 298 = .ok (.putfield 120, 3) := by decide +kernel
theorem dX11_init_301 : decode cX11_init 301 = .ok (.aload_n 0, 1) := by decide +kernel
theorem dX11_init_302 : decode cX11_init 302 = .ok (.sipush 1920, 3) := by decide +kernel
theorem dX11_init_305 : decode cX11_init 305 = .ok (.newarray .int, 2) := by decide +kernel
theorem dX11_init_307 : decode cX11_init 307 = .ok (.putfield 123, 3) := by decide +kernel
theorem dX11_init_310 : decode cX11_init 310 = .ok (.aload_n 0, 1) := by decide +kernel
theorem dX11_init_311 : decode cX11_init 311 = .ok (.sipush 256, 3) := by decide +kernel
theorem dX11_init_314 : decode cX11_init 314 = .ok (.newarray .int, 2) := by decide +kernel
theorem dX11_init_316 : decode cX11_init 316 = .ok (.putfield 126, 3) := by decide +kernel
theorem dX11_init_319 : decode cX11_init 319 = .ok (.aload_n 0, 1) := by decide +kernel
theorem dX11_init_320 : decode cX11_init 320 = .ok (.iconst 4, 1) := by decide +kernel
theorem dX11_init_321 : decode cX11_init 321 = .ok (.newarray .boolean, 2) := by decide +kernel
theorem dX11_init_323 : decode cX11_init 323 = .ok (.putfield 129, 3) := by decide +kernel
theorem dX11_init_326 : decode cX11_init 326 = .ok (.return_, 1) := by decide +kernel
theorem dX11_thrown_0 : decode cX11_thrown 0 = .ok (.aload_n 0, 1) := by decide +kernel
theorem dX11_thrown_1 : decode cX11_thrown 1 = .ok (.getfield 132, 3) := by decide +kernel
theorem dX11_thrown_4 : decode cX11_thrown 4 = .ok (.ireturn, 1) := by decide +kernel
theorem dX11_within_0 : decode cX11_within 0 = .ok (.iload_n 0, 1) := by decide +kernel
theorem dX11_within_1 : decode cX11_within 1 = .ok (.iload_n 1, 1) := by decide +kernel
theorem dX11_within_2 : decode cX11_within 2 = .ok (.if_icmp .lt 12, 3) := by decide +kernel
theorem dX11_within_5 : decode cX11_within 5 = .ok (.iload_n 0, 1) := by decide +kernel
theorem dX11_within_6 : decode cX11_within 6 = .ok (.iload_n 2, 1) := by decide +kernel
theorem dX11_within_7 : decode cX11_within 7 = .ok (.if_icmp .gt 7, 3) := by decide +kernel
theorem dX11_within_10 : decode cX11_within 10 = .ok (.iconst 1, 1) := by decide +kernel
theorem dX11_within_11 : decode cX11_within 11 = .ok (.goto 4, 3) := by decide +kernel
theorem dX11_within_14 : decode cX11_within 14 = .ok (.iconst 0, 1) := by decide +kernel
theorem dX11_within_15 : decode cX11_within 15 = .ok (.ireturn, 1) := by decide +kernel
theorem dX11_gcd_0 : decode cX11_gcd 0 = .ok (.lload_n 0, 1) := by decide +kernel
theorem dX11_gcd_1 : decode cX11_gcd 1 = .ok (.lstore 4, 2) := by decide +kernel
theorem dX11_gcd_3 : decode cX11_gcd 3 = .ok (.lload_n 2, 1) := by decide +kernel
theorem dX11_gcd_4 : decode cX11_gcd 4 = .ok (.lstore 6, 2) := by decide +kernel
theorem dX11_gcd_6 : decode cX11_gcd 6 = .ok (.lload 6, 2) := by decide +kernel
theorem dX11_gcd_8 : decode cX11_gcd 8 = .ok (.lconst 0, 1) := by decide +kernel
theorem dX11_gcd_9 : decode cX11_gcd 9 = .ok (.lcmp, 1) := by decide +kernel
theorem dX11_gcd_10 : decode cX11_gcd 10 = .ok (.ifCond .eq 21, 3) := by decide +kernel
theorem dX11_gcd_13 : decode cX11_gcd 13 = .ok (.lload 4, 2) := by decide +kernel
theorem dX11_gcd_15 : decode cX11_gcd 15 = .ok (.lload 6, 2) := by decide +kernel
theorem dX11_gcd_17 : decode cX11_gcd 17 = .ok (.lrem, 1) := by decide +kernel
theorem dX11_gcd_18 : decode cX11_gcd 18 = .ok (.lstore 8, 2) := by decide +kernel
theorem dX11_gcd_20 : decode cX11_gcd 20 = .ok (.lload 6, 2) := by decide +kernel
theorem dX11_gcd_22 : decode cX11_gcd 22 = .ok (.lstore 4, 2) := by decide +kernel
theorem dX11_gcd_24 : decode cX11_gcd 24 = .ok (.lload 8, 2) := by decide +kernel
theorem dX11_gcd_26 : decode cX11_gcd 26 = .ok (.lstore 6, 2) := by decide +kernel
theorem dX11_gcd_28 : decode cX11_gcd 28 = .ok (.goto (-22), 3) := by decide +kernel
theorem dX11_gcd_31 : decode cX11_gcd 31 = .ok (.lload 4, 2) := by decide +kernel
theorem dX11_gcd_33 : decode cX11_gcd 33 = .ok (.lreturn, 1) := by decide +kernel
theorem dX11_feed_0 : decode cX11_feed 0 = .ok (.aload_n 0, 1) := by decide +kernel
theorem dX11_feed_1 : decode cX11_feed 1 = .ok (.iconst 0, 1) := by decide +kernel
theorem dX11_feed_2 : decode cX11_feed 2 = .ok (.putfield 132, 3) := by decide +kernel
theorem dX11_feed_5 : decode cX11_feed 5 = .ok (.iconst 0, 1) := by decide +kernel
theorem dX11_feed_6 : decode cX11_feed 6 = .ok (.istore 7, 2) := by decide +kernel
theorem dX11_feed_8 : decode cX11_feed 8 = .ok (.iload 7, 2) := by decide +kernel
theorem dX11_feed_10 : decode cX11_feed 10 = .ok (.bipush 24, 2) := by decide +kernel
theorem dX11_feed_12 : decode cX11_feed 12 = .ok (.if_icmp .ge 108, 3) := by decide +kernel
theorem dX11_feed_15 : decode cX11_feed 15 = .ok (.iload 7, 2) := by decide +kernel
theorem dX11_feed_17 : decode cX11_feed 17 = .ok (.bipush 8, 2) := by decide +kernel
theorem dX11_feed_19 : decode cX11_feed 19 = .ok (.if_icmp .ge 7, 3) := by decide +kernel
theorem dX11_feed_22 : decode cX11_feed 22 = .ok (.lload_n 1, 1) := by decide +kernel
theorem dX11_feed_23 : decode cX11_feed 23 = .ok (.goto 16, 3) := by decide +kernel
theorem dX11_feed_26 : decode cX11_feed 26 = .ok (.iload 7, 2) := by decide +kernel
theorem dX11_feed_28 : decode cX11_feed 28 = .ok (.bipush 16, 2) := by decide +kernel
theorem dX11_feed_30 : decode cX11_feed 30 = .ok (.if_icmp .ge 7, 3) := by decide +kernel
theorem dX11_feed_33 : decode cX11_feed 33 = .ok (.lload_n 3, 1) := by decide +kernel
theorem dX11_feed_34 : decode cX11_feed 34 = .ok (.goto 5, 3) := by decide +kernel
theorem dX11_feed_37 : decode cX11_feed 37 = .ok (.lload 5, 2) := by decide +kernel
theorem dX11_feed_39 : decode cX11_feed 39 = .ok (.lstore 8, 2) := by decide +kernel
theorem dX11_feed_41 : decode cX11_feed 41 = .ok (.lload 8, 2) := by decide +kernel
theorem dX11_feed_43 : decode cX11_feed 43 = .ok (.bipush 56, 2) := by decide +kernel
theorem dX11_feed_45 : decode cX11_feed 45 = .ok (.bipush 8, 2) := by decide +kernel
theorem dX11_feed_47 : decode cX11_feed 47 = .ok (.iload 7, 2) := by decide +kernel
theorem dX11_feed_49 : decode cX11_feed 49 = .ok (.bipush 7, 2) := by decide +kernel
theorem dX11_feed_51 : decode cX11_feed 51 = .ok (.iand, 1) := by decide +kernel
theorem dX11_feed_52 : decode cX11_feed 52 = .ok (.imul, 1) := by decide +kernel
theorem dX11_feed_53 : decode cX11_feed 53 = .ok (.isub, 1) := by decide +kernel
theorem dX11_feed_54 : decode cX11_feed 54 = .ok (.lushr, 1) := by decide +kernel
theorem dX11_feed_55 : decode cX11_feed 55 = .ok (.ldc2_w 136, 3) := by decide +kernel
theorem dX11_feed_58 : decode cX11_feed 58 = .ok (.land, 1) := by decide +kernel
theorem dX11_feed_59 : decode cX11_feed 59 = .ok (.l2i, 1) := by decide +kernel
theorem dX11_feed_60 : decode cX11_feed 60 = .ok (.istore 10, 2) := by decide +kernel
theorem dX11_feed_62 : decode cX11_feed 62 = .ok (.aload_n 0, 1) := by decide +kernel
theorem dX11_feed_63 : decode cX11_feed 63 = .ok (.getfield 138, 3) := by decide +kernel
theorem dX11_feed_66 : decode cX11_feed 66 = .ok (.sipush 1000, 3) := by decide +kernel
theorem dX11_feed_69 : decode cX11_feed 69 = .ok (.if_icmp .ge 45, 3) := by decide +kernel
theorem dX11_feed_72 : decode cX11_feed 72 = .ok (.iload 10, 2) := by decide +kernel
theorem dX11_feed_74 : decode cX11_feed 74 = .ok (.bipush 10, 2) := by decide +kernel
theorem dX11_feed_76 : decode cX11_feed 76 = .ok (.if_icmp .eq 17, 3) := by decide +kernel
theorem dX11_feed_79 : decode cX11_feed 79 = .ok (.iload 10, 2) := by decide +kernel
theorem dX11_feed_81 : decode cX11_feed 81 = .ok (.bipush 32, 2) := by decide +kernel
theorem dX11_feed_83 : decode cX11_feed 83 = .ok (.if_icmp .lt 31, 3) := by decide +kernel
theorem dX11_feed_86 : decode cX11_feed 86 = .ok (.iload 10, 2) := by decide +kernel
theorem dX11_feed_88 : decode cX11_feed 88 = .ok (.bipush 126, 2) := by decide +kernel
theorem dX11_feed_90 : decode cX11_feed 90 = .ok (.if_icmp .gt 24, 3) := by decide +kernel
theorem dX11_feed_93 : decode cX11_feed 93 = .ok (.aload_n 0, 1) := by decide +kernel
theorem dX11_feed_94 : decode cX11_feed 94 = .ok (.getfield 7, 3) := by decide +kernel
theorem dX11_feed_97 : decode cX11_feed 97 = .ok (.aload_n 0, 1) := by decide +kernel
theorem dX11_feed_98 : decode cX11_feed 98 = .ok (.getfield 138, 3) := by decide +kernel
theorem dX11_feed_101 : decode cX11_feed 101 = .ok (.iload 10, 2) := by decide +kernel
theorem dX11_feed_103 : decode cX11_feed 103 = .ok (.iastore, 1) := by decide +kernel
theorem dX11_feed_104 : decode cX11_feed 104 = .ok (.aload_n 0, 1) := by decide +kernel
theorem dX11_feed_105 : decode cX11_feed 105 = .ok (.dup, 1) := by decide +kernel
theorem dX11_feed_106 : decode cX11_feed 106 = .ok (.getfield 138, 3) := by decide +kernel
theorem dX11_feed_109 : decode cX11_feed 109 = .ok (.iconst 1, 1) := by decide +kernel
theorem dX11_feed_110 : decode cX11_feed 110 = .ok (.iadd, 1) := by decide +kernel
theorem dX11_feed_111 : decode cX11_feed 111 = .ok (.putfield 138, 3) := by decide +kernel
theorem dX11_feed_114 : decode cX11_feed 114 = .ok (.iinc 7 1, 3) := by decide +kernel
theorem dX11_feed_117 : decode cX11_feed 117 = .ok (.goto (-109), 3) := by decide +kernel
theorem dX11_feed_120 : decode cX11_feed 120 = .ok (.aload_n 0, 1) := by decide +kernel
theorem dX11_feed_121 : decode cX11_feed 121 = .ok (.getfield 138, 3) := by decide +kernel
theorem dX11_feed_124 : decode cX11_feed 124 = .ok (.ireturn, 1) := by decide +kernel
theorem dX11_signAt_0 : decode cX11_signAt 0 = .ok (.iload_n 1, 1) := by decide +kernel
theorem dX11_signAt_1 : decode cX11_signAt 1 = .ok (.aload_n 0, 1) := by decide +kernel
theorem dX11_signAt_2 : decode cX11_signAt 2 = .ok (.getfield 141, 3) := by decide +kernel
theorem dX11_signAt_5 : decode cX11_signAt 5 = .ok (.if_icmp .ge 12, 3) := by decide +kernel
theorem dX11_signAt_8 : decode cX11_signAt 8 = .ok (.aload_n 0, 1) := by decide +kernel
theorem dX11_signAt_9 : decode cX11_signAt 9 = .ok (.getfield 7, 3) := by decide +kernel
theorem dX11_signAt_12 : decode cX11_signAt 12 = .ok (.iload_n 1, 1) := by decide +kernel
theorem dX11_signAt_13 : decode cX11_signAt 13 = .ok (.iaload, 1) := by decide +kernel
theorem dX11_signAt_14 : decode cX11_signAt 14 = .ok (.goto 4, 3) := by decide +kernel
theorem dX11_signAt_17 : decode cX11_signAt 17 = .ok (.iconst 0, 1) := by decide +kernel
theorem dX11_signAt_18 : decode cX11_signAt 18 = .ok (.ireturn, 1) := by decide +kernel
theorem dX11_nextToken_0 : decode cX11_nextToken 0 = .ok (.aload_n 0, 1) := by decide +kernel
theorem dX11_nextToken_1 : decode cX11_nextToken 1 = .ok (.getfield 144, 3) := by decide +kernel
theorem dX11_nextToken_4 : decode cX11_nextToken 4 = .ok (.aload_n 0, 1) := by decide +kernel
theorem dX11_nextToken_5 : decode cX11_nextToken 5 = .ok (.getfield 141, 3) := by decide +kernel
theorem dX11_nextToken_8 : decode cX11_nextToken 8 = .ok (.if_icmp .ge 44, 3) := by decide +kernel
theorem dX11_nextToken_11 : decode cX11_nextToken 11 = .ok (.aload_n 0, 1) := by decide +kernel
theorem dX11_nextToken_12 : decode cX11_nextToken 12 = .ok (.getfield 7, 3) := by decide +kernel
theorem dX11_nextToken_15 : decode cX11_nextToken 15 = .ok (.aload_n 0, 1) := by decide +kernel
theorem dX11_nextToken_16 : decode cX11_nextToken 16 = .ok (.getfield 144, 3) := by decide +kernel
theorem dX11_nextToken_19 : decode cX11_nextToken 19 = .ok (.iaload, 1) := by decide +kernel
theorem dX11_nextToken_20 : decode cX11_nextToken 20 = .ok (.bipush 32, 2) := by decide +kernel
theorem dX11_nextToken_22 : decode cX11_nextToken 22 = .ok (.if_icmp .eq 17, 3) := by decide +kernel
theorem dX11_nextToken_25 : decode cX11_nextToken 25 = .ok (.aload_n 0, 1) := by decide +kernel
theorem dX11_nextToken_26 : decode cX11_nextToken 26 = .ok (.getfield 7, 3) := by decide +kernel
theorem dX11_nextToken_29 : decode cX11_nextToken 29 = .ok (.aload_n 0, 1) := by decide +kernel
theorem dX11_nextToken_30 : decode cX11_nextToken 30 = .ok (.getfield 144, 3) := by decide +kernel
theorem dX11_nextToken_33 : decode cX11_nextToken 33 = .ok (.iaload, 1) := by decide +kernel
theorem dX11_nextToken_34 : decode cX11_nextToken 34 = .ok (.bipush 10, 2) := by decide +kernel
theorem dX11_nextToken_36 : decode cX11_nextToken 36 = .ok (.if_icmp .ne 16, 3) := by decide +kernel
theorem dX11_nextToken_39 : decode cX11_nextToken 39 = .ok (.aload_n 0, 1) := by decide +kernel
theorem dX11_nextToken_40 : decode cX11_nextToken 40 = .ok (.dup, 1) := by decide +kernel
theorem dX11_nextToken_41 : decode cX11_nextToken 41 = .ok (.getfield 144, 3) := by decide +kernel
theorem dX11_nextToken_44 : decode cX11_nextToken 44 = .ok (.iconst 1, 1) := by decide +kernel
theorem dX11_nextToken_45 : decode cX11_nextToken 45 = .ok (.iadd, 1) := by decide +kernel
theorem dX11_nextToken_46 : decode cX11_nextToken 46 = .ok (.putfield 144, 3) := by decide +kernel
theorem dX11_nextToken_49 : decode cX11_nextToken 49 = .ok (.goto (-49), 3) := by decide +kernel
theorem dX11_nextToken_52 : decode cX11_nextToken 52 = .ok (.aload_n 0, 1) := by decide +kernel
theorem dX11_nextToken_53 : decode cX11_nextToken 53 = .ok (.aload_n 0, 1) := by decide +kernel
theorem dX11_nextToken_54 : decode cX11_nextToken 54 = .ok (.getfield 144, 3) := by decide +kernel
theorem dX11_nextToken_57 : decode cX11_nextToken 57 = .ok (.putfield 147, 3) := by decide +kernel
theorem dX11_nextToken_60 : decode cX11_nextToken 60 = .ok (.aload_n 0, 1) := by decide +kernel
theorem dX11_nextToken_61 : decode cX11_nextToken 61 = .ok (.lconst 0, 1) := by decide +kernel
theorem dX11_nextToken_62 : decode cX11_nextToken 62 = .ok (.putfield 150, 3) := by decide +kernel
theorem dX11_nextToken_65 : decode cX11_nextToken 65 = .ok (.aload_n 0, 1) := by decide +kernel
theorem dX11_nextToken_66 : decode cX11_nextToken 66 = .ok (.iconst 0, 1) := by decide +kernel
theorem dX11_nextToken_67 : decode cX11_nextToken 67 = .ok (.putfield 154, 3) := by decide +kernel
theorem dX11_nextToken_70 : decode cX11_nextToken 70 = .ok (.aload_n 0, 1) := by decide +kernel
theorem dX11_nextToken_71 : decode cX11_nextToken 71 = .ok (.getfield 144, 3) := by decide +kernel
theorem dX11_nextToken_74 : decode cX11_nextToken 74 = .ok (.aload_n 0, 1) := by decide +kernel
theorem dX11_nextToken_75 : decode cX11_nextToken 75 = .ok (.getfield 141, 3) := by decide +kernel
theorem dX11_nextToken_78 : decode cX11_nextToken 78 = .ok (.if_icmp .ne 9, 3) := by decide +kernel
theorem dX11_nextToken_81 : decode cX11_nextToken 81 = .ok (.aload_n 0, 1) := by decide +kernel
theorem dX11_nextToken_82 : decode cX11_nextToken 82 = .ok (.iconst 0, 1) := by decide +kernel
theorem dX11_nextToken_83 : decode cX11_nextToken 83 = .ok (.putfield 157, 3) := by decide +kernel
theorem dX11_nextToken_86 : decode cX11_nextToken 86 = .ok (.return_, 1) := by decide +kernel
theorem dX11_nextToken_87 : decode cX11_nextToken 87 = .ok (.aload_n 0, 1) := by decide +kernel
theorem dX11_nextToken_88 : decode cX11_nextToken 88 = .ok (.getfield 7, 3) := by decide +kernel
theorem dX11_nextToken_91 : decode cX11_nextToken 91 = .ok (.aload_n 0, 1) := by decide +kernel
theorem dX11_nextToken_92 : decode cX11_nextToken 92 = .ok (.getfield 144, 3) := by decide +kernel
theorem dX11_nextToken_95 : decode cX11_nextToken 95 = .ok (.iaload, 1) := by decide +kernel
theorem dX11_nextToken_96 : decode cX11_nextToken 96 = .ok (.istore_n 1, 1) := by decide +kernel
theorem dX11_nextToken_97 : decode cX11_nextToken 97 = .ok (.iload_n 1, 1) := by decide +kernel
theorem dX11_nextToken_98 : decode cX11_nextToken 98 = .ok (.bipush 97, 2) := by decide +kernel
theorem dX11_nextToken_100 : decode cX11_nextToken 100 = .ok (.if_icmp .lt 112, 3) := by decide +kernel
theorem dX11_nextToken_103 : decode cX11_nextToken 103 = .ok (.iload_n 1, 1) := by decide +kernel
theorem dX11_nextToken_104 : decode cX11_nextToken 104 = .ok (.bipush 122, 2) := by decide +kernel
theorem dX11_nextToken_106 : decode cX11_nextToken 106 = .ok (.if_icmp .gt 106, 3) := by decide +kernel
theorem dX11_nextToken_109 : decode cX11_nextToken 109 = .ok (.aload_n 0, 1) := by decide +kernel
theorem dX11_nextToken_110 : decode cX11_nextToken 110 = .ok (.aload_n 0, 1) := by decide +kernel
theorem dX11_nextToken_111 : decode cX11_nextToken 111 = .ok (.getfield 144, 3) := by decide +kernel
theorem dX11_nextToken_114 : decode cX11_nextToken 114 = .ok (.invokevirtual 160, 3) := by decide +kernel
theorem dX11_nextToken_117 : decode cX11_nextToken 117 = .ok (.bipush 97, 2) := by decide +kernel
theorem dX11_nextToken_119 : decode cX11_nextToken 119 = .ok (.if_icmp .lt 69, 3) := by decide +kernel
theorem dX11_nextToken_122 : decode cX11_nextToken 122 = .ok (.aload_n 0, 1) := by decide +kernel
theorem dX11_nextToken_123 : decode cX11_nextToken 123 = .ok (.aload_n 0, 1) := by decide +kernel
theorem dX11_nextToken_124 : decode cX11_nextToken 124 = .ok (.getfield 144, 3) := by decide +kernel
theorem dX11_nextToken_127 : decode cX11_nextToken 127 = .ok (.invokevirtual 160, 3) := by decide +kernel
theorem dX11_nextToken_130 : decode cX11_nextToken 130 = .ok (.bipush 122, 2) := by decide +kernel
theorem dX11_nextToken_132 : decode cX11_nextToken 132 = .ok (.if_icmp .gt 56, 3) := by decide +kernel
theorem dX11_nextToken_135 : decode cX11_nextToken 135 = .ok (.aload_n 0, 1) := by decide +kernel
theorem dX11_nextToken_136 : decode cX11_nextToken 136 = .ok (.getfield 144, 3) := by decide +kernel
theorem dX11_nextToken_139 : decode cX11_nextToken 139 = .ok (.aload_n 0, 1) := by decide +kernel
theorem dX11_nextToken_140 : decode cX11_nextToken 140 = .ok (.getfield 147, 3) := by decide +kernel
theorem dX11_nextToken_143 : decode cX11_nextToken 143 = .ok (.isub, 1) := by decide +kernel
theorem dX11_nextToken_144 : decode cX11_nextToken 144 = .ok (.bipush 8, 2) := by decide +kernel
theorem dX11_nextToken_146 : decode cX11_nextToken 146 = .ok (.if_icmp .ge 29, 3) := by decide +kernel
theorem dX11_nextToken_149 : decode cX11_nextToken 149 = .ok (.aload_n 0, 1) := by decide +kernel
theorem dX11_nextToken_150 : decode cX11_nextToken 150 = .ok (.aload_n 0, 1) := by decide +kernel
theorem dX11_nextToken_151 : decode cX11_nextToken 151 = .ok (.getfield 150, 3) := by decide +kernel
theorem dX11_nextToken_154 : decode cX11_nextToken 154 = .ok (.ldc2_w 164, 3) := by decide +kernel
theorem dX11_nextToken_157 : decode cX11_nextToken 157 = .ok (.lmul, 1) := by decide +kernel
theorem dX11_nextToken_158 : decode cX11_nextToken 158 = .ok (.aload_n 0, 1) := by decide +kernel
theorem dX11_nextToken_159 : decode cX11_nextToken 159 = .ok (.aload_n 0, 1) := by decide +kernel
theorem dX11_nextToken_160 : decode cX11_nextToken 160 = .ok (.getfield 144, 3) := by decide +kernel
theorem dX11_nextToken_163 : decode cX11_nextToken 163 = .ok (.invokevirtual 160, 3) := by decide +kernel
theorem dX11_nextToken_166 : decode cX11_nextToken 166 = .ok (.i2l, 1) := by decide +kernel
theorem dX11_nextToken_167 : decode cX11_nextToken 167 = .ok (.ladd, 1) := by decide +kernel
theorem dX11_nextToken_168 : decode cX11_nextToken 168 = .ok (.ldc2_w 166, 3) := by decide +kernel
theorem dX11_nextToken_171 : decode cX11_nextToken 171 = .ok (.lsub, 1) := by decide +kernel
theorem dX11_nextToken_172 : decode cX11_nextToken 172 = .ok (.putfield 150, 3) := by decide +kernel
theorem dX11_nextToken_175 : decode cX11_nextToken 175 = .ok (.aload_n 0, 1) := by decide +kernel
theorem dX11_nextToken_176 : decode cX11_nextToken 176 = .ok (.dup, 1) := by decide +kernel
theorem dX11_nextToken_177 : decode cX11_nextToken 177 = .ok (.getfield 144, 3) := by decide +kernel
theorem dX11_nextToken_180 : decode cX11_nextToken 180 = .ok (.iconst 1, 1) := by decide +kernel
theorem dX11_nextToken_181 : decode cX11_nextToken 181 = .ok (.iadd, 1) := by decide +kernel
theorem dX11_nextToken_182 : decode cX11_nextToken 182 = .ok (.putfield 144, 3) := by decide +kernel
theorem dX11_nextToken_185 : decode cX11_nextToken 185 = .ok (.goto (-76), 3) := by decide +kernel
theorem dX11_nextToken_188 : decode cX11_nextToken 188 = .ok (.aload_n 0, 1) := by decide +kernel
theorem dX11_nextToken_189 : decode cX11_nextToken 189 = .ok (.aload_n 0, 1) := by decide +kernel
theorem dX11_nextToken_190 : decode cX11_nextToken 190 = .ok (.getfield 144, 3) := by decide +kernel
theorem dX11_nextToken_193 : decode cX11_nextToken 193 = .ok (.aload_n 0, 1) := by decide +kernel
theorem dX11_nextToken_194 : decode cX11_nextToken 194 = .ok (.getfield 147, 3) := by decide +kernel
theorem dX11_nextToken_197 : decode cX11_nextToken 197 = .ok (.isub, 1) := by decide +kernel
theorem dX11_nextToken_198 : decode cX11_nextToken 198 = .ok (.bipush 8, 2) := by decide +kernel
theorem dX11_nextToken_200 : decode cX11_nextToken 200 = .ok (.if_icmp .le 7, 3) := by decide +kernel
theorem dX11_nextToken_203 : decode cX11_nextToken 203 = .ok (.iconst 4, 1) := by decide +kernel
theorem dX11_nextToken_204 : decode cX11_nextToken 204 = .ok (.goto 4, 3) := by decide +kernel
theorem dX11_nextToken_207 : decode cX11_nextToken 207 = .ok (.iconst 1, 1) := by decide +kernel
theorem dX11_nextToken_208 : decode cX11_nextToken 208 = .ok (.putfield 157, 3) := by decide +kernel
theorem dX11_nextToken_211 : decode cX11_nextToken 211 = .ok (.return_, 1) := by decide +kernel
theorem dX11_nextToken_212 : decode cX11_nextToken 212 = .ok (.iload_n 1, 1) := by decide +kernel
theorem dX11_nextToken_213 : decode cX11_nextToken 213 = .ok (.bipush 48, 2) := by decide +kernel
theorem dX11_nextToken_215 : decode cX11_nextToken 215 = .ok (.if_icmp .lt 107, 3) := by decide +kernel
theorem dX11_nextToken_218 : decode cX11_nextToken 218 = .ok (.iload_n 1, 1) := by decide +kernel
theorem dX11_nextToken_219 : decode cX11_nextToken 219 = .ok (.bipush 57, 2) := by decide +kernel
theorem dX11_nextToken_221 : decode cX11_nextToken 221 = .ok (.if_icmp .gt 101, 3) := by decide +kernel
theorem dX11_nextToken_224 : decode cX11_nextToken 224 = .ok (.aload_n 0, 1) := by decide +kernel
theorem dX11_nextToken_225 : decode cX11_nextToken 225 = .ok (.aload_n 0, 1) := by decide +kernel
theorem dX11_nextToken_226 : decode cX11_nextToken 226 = .ok (.getfield 144, 3) := by decide +kernel
theorem dX11_nextToken_229 : decode cX11_nextToken 229 = .ok (.invokevirtual 160, 3) := by decide +kernel
theorem dX11_nextToken_232 : decode cX11_nextToken 232 = .ok (.bipush 48, 2) := by decide +kernel
theorem dX11_nextToken_234 : decode cX11_nextToken 234 = .ok (.if_icmp .lt 65, 3) := by decide +kernel
theorem dX11_nextToken_237 : decode cX11_nextToken 237 = .ok (.aload_n 0, 1) := by decide +kernel
theorem dX11_nextToken_238 : decode cX11_nextToken 238 = .ok (.aload_n 0, 1) := by decide +kernel
theorem dX11_nextToken_239 : decode cX11_nextToken 239 = .ok (.getfield 144, 3) := by decide +kernel
theorem dX11_nextToken_242 : decode cX11_nextToken 242 = .ok (.invokevirtual 160, 3) := by decide +kernel
theorem dX11_nextToken_245 : decode cX11_nextToken 245 = .ok (.bipush 57, 2) := by decide +kernel
theorem dX11_nextToken_247 : decode cX11_nextToken 247 = .ok (.if_icmp .gt 52, 3) := by decide +kernel
theorem dX11_nextToken_250 : decode cX11_nextToken 250 = .ok (.aload_n 0, 1) := by decide +kernel
theorem dX11_nextToken_251 : decode cX11_nextToken 251 = .ok (.getfield 144, 3) := by decide +kernel
theorem dX11_nextToken_254 : decode cX11_nextToken 254 = .ok (.aload_n 0, 1) := by decide +kernel
theorem dX11_nextToken_255 : decode cX11_nextToken 255 = .ok (.getfield 147, 3) := by decide +kernel
theorem dX11_nextToken_258 : decode cX11_nextToken 258 = .ok (.isub, 1) := by decide +kernel
theorem dX11_nextToken_259 : decode cX11_nextToken 259 = .ok (.iconst 4, 1) := by decide +kernel
theorem dX11_nextToken_260 : decode cX11_nextToken 260 = .ok (.if_icmp .ge 26, 3) := by decide +kernel
theorem dX11_nextToken_263 : decode cX11_nextToken 263 = .ok (.aload_n 0, 1) := by decide +kernel
theorem dX11_nextToken_264 : decode cX11_nextToken 264 = .ok (.aload_n 0, 1) := by decide +kernel
theorem dX11_nextToken_265 : decode cX11_nextToken 265 = .ok (.getfield 154, 3) := by decide +kernel
theorem dX11_nextToken_268 : decode cX11_nextToken 268 = .ok (.bipush 10, 2) := by decide +kernel
theorem dX11_nextToken_270 : decode cX11_nextToken 270 = .ok (.imul, 1) := by decide +kernel
theorem dX11_nextToken_271 : decode cX11_nextToken 271 = .ok (.aload_n 0, 1) := by decide +kernel
theorem dX11_nextToken_272 : decode cX11_nextToken 272 = .ok (.aload_n 0, 1) := by decide +kernel
theorem dX11_nextToken_273 : decode cX11_nextToken 273 = .ok (.getfield 144, 3) := by decide +kernel
theorem dX11_nextToken_276 : decode cX11_nextToken 276 = .ok (.invokevirtual 160, 3) := by decide +kernel
theorem dX11_nextToken_279 : decode cX11_nextToken 279 = .ok (.iadd, 1) := by decide +kernel
theorem dX11_nextToken_280 : decode cX11_nextToken 280 = .ok (.bipush 48, 2) := by decide +kernel
theorem dX11_nextToken_282 : decode cX11_nextToken 282 = .ok (.isub, 1) := by decide +kernel
theorem dX11_nextToken_283 : decode cX11_nextToken 283 = .ok (.putfield 154, 3) := by decide +kernel
theorem dX11_nextToken_286 : decode cX11_nextToken 286 = .ok (.aload_n 0, 1) := by decide +kernel
theorem dX11_nextToken_287 : decode cX11_nextToken 287 = .ok (.dup, 1) := by decide +kernel
theorem dX11_nextToken_288 : decode cX11_nextToken 288 = .ok (.getfield 144, 3) := by decide +kernel
theorem dX11_nextToken_291 : decode cX11_nextToken 291 = .ok (.iconst 1, 1) := by decide +kernel
theorem dX11_nextToken_292 : decode cX11_nextToken 292 = .ok (.iadd, 1) := by decide +kernel
theorem dX11_nextToken_293 : decode cX11_nextToken 293 = .ok (.putfield 144, 3) := by decide +kernel
theorem dX11_nextToken_296 : decode cX11_nextToken 296 = .ok (.goto (-72), 3) := by decide +kernel
theorem dX11_nextToken_299 : decode cX11_nextToken 299 = .ok (.aload_n 0, 1) := by decide +kernel
theorem dX11_nextToken_300 : decode cX11_nextToken 300 = .ok (.aload_n 0, 1) := by decide +kernel
theorem dX11_nextToken_301 : decode cX11_nextToken 301 = .ok (.getfield 144, 3) := by decide +kernel
theorem dX11_nextToken_304 : decode cX11_nextToken 304 = .ok (.aload_n 0, 1) := by decide +kernel
theorem dX11_nextToken_305 : decode cX11_nextToken 305 = .ok (.getfield 147, 3) := by decide +kernel
theorem dX11_nextToken_308 : decode cX11_nextToken 308 = .ok (.isub, 1) := by decide +kernel
theorem dX11_nextToken_309 : decode cX11_nextToken 309 = .ok (.iconst 4, 1) := by decide +kernel
theorem dX11_nextToken_310 : decode cX11_nextToken 310 = .ok (.if_icmp .le 7, 3) := by decide +kernel
theorem dX11_nextToken_313 : decode cX11_nextToken 313 = .ok (.iconst 4, 1) := by decide +kernel
theorem dX11_nextToken_314 : decode cX11_nextToken 314 = .ok (.goto 4, 3) := by decide +kernel
theorem dX11_nextToken_317 : decode cX11_nextToken 317 = .ok (.iconst 2, 1) := by decide +kernel
theorem dX11_nextToken_318 : decode cX11_nextToken 318 = .ok (.putfield 157, 3) := by decide +kernel
theorem dX11_nextToken_321 : decode cX11_nextToken 321 = .ok (.return_, 1) := by decide +kernel
theorem dX11_nextToken_322 : decode cX11_nextToken 322 = .ok (.aload_n 0, 1) := by decide +kernel
theorem dX11_nextToken_323 : decode cX11_nextToken 323 = .ok (.dup, 1) := by decide +kernel
theorem dX11_nextToken_324 : decode cX11_nextToken 324 = .ok (.getfield 144, 3) := by decide +kernel
theorem dX11_nextToken_327 : decode cX11_nextToken 327 = .ok (.iconst 1, 1) := by decide +kernel
theorem dX11_nextToken_328 : decode cX11_nextToken 328 = .ok (.iadd, 1) := by decide +kernel
theorem dX11_nextToken_329 : decode cX11_nextToken 329 = .ok (.putfield 144, 3) := by decide +kernel
theorem dX11_nextToken_332 : decode cX11_nextToken 332 = .ok (.aload_n 0, 1) := by decide +kernel
theorem dX11_nextToken_333 : decode cX11_nextToken 333 = .ok (.iload_n 1, 1) := by decide +kernel
theorem dX11_nextToken_334 : decode cX11_nextToken 334 = .ok (.bipush 40, 2) := by decide +kernel
theorem dX11_nextToken_336 : decode cX11_nextToken 336 = .ok (.if_icmp .lt 9, 3) := by decide +kernel
theorem dX11_nextToken_339 : decode cX11_nextToken 339 = .ok (.iload_n 1, 1) := by decide +kernel
theorem dX11_nextToken_340 : decode cX11_nextToken 340 = .ok (.bipush 43, 2) := by decide +kernel
theorem dX11_nextToken_342 : decode cX11_nextToken 342 = .ok (.if_icmp .le 21, 3) := by decide +kernel
theorem dX11_nextToken_345 : decode cX11_nextToken 345 = .ok (.iload_n 1, 1) := by decide +kernel
theorem dX11_nextToken_346 : decode cX11_nextToken 346 = .ok (.bipush 45, 2) := by decide +kernel
theorem dX11_nextToken_348 : decode cX11_nextToken 348 = .ok (.if_icmp .eq 15, 3) := by decide +kernel
theorem dX11_nextToken_351 : decode cX11_nextToken 351 = .ok (.iload_n 1, 1) := by decide +kernel
theorem dX11_nextToken_352 : decode cX11_nextToken 352 = .ok (.bipush 59, 2) := by decide +kernel
theorem dX11_nextToken_354 : decode cX11_nextToken 354 = .ok (.if_icmp .lt 13, 3) := by decide +kernel
theorem dX11_nextToken_357 : decode cX11_nextToken 357 = .ok (.iload_n 1, 1) := by decide +kernel
theorem dX11_nextToken_358 : decode cX11_nextToken 358 = .ok (.bipush 61, 2) := by decide +kernel
theorem dX11_nextToken_360 : decode cX11_nextToken 360 = .ok (.if_icmp .gt 7, 3) := by decide +kernel
theorem dX11_nextToken_363 : decode cX11_nextToken 363 = .ok (.iconst 3, 1) := by decide +kernel
theorem dX11_nextToken_364 : decode cX11_nextToken 364 = .ok (.goto 4, 3) := by decide +kernel
theorem dX11_nextToken_367 : decode cX11_nextToken 367 = .ok (.iconst 4, 1) := by decide +kernel
theorem dX11_nextToken_368 : decode cX11_nextToken 368 = .ok (.putfield 157, 3) := by decide +kernel
theorem dX11_nextToken_371 : decode cX11_nextToken 371 = .ok (.return_, 1) := by decide +kernel
theorem dX11_isWord_0 : decode cX11_isWord 0 = .ok (.aload_n 0, 1) := by decide +kernel
theorem dX11_isWord_1 : decode cX11_isWord 1 = .ok (.getfield 157, 3) := by decide +kernel
theorem dX11_isWord_4 : decode cX11_isWord 4 = .ok (.iconst 1, 1) := by decide +kernel
theorem dX11_isWord_5 : decode cX11_isWord 5 = .ok (.if_icmp .ne 16, 3) := by decide +kernel
theorem dX11_isWord_8 : decode cX11_isWord 8 = .ok (.aload_n 0, 1) := by decide +kernel
theorem dX11_isWord_9 : decode cX11_isWord 9 = .ok (.getfield 150, 3) := by decide +kernel
theorem dX11_isWord_12 : decode cX11_isWord 12 = .ok (.lload_n 1, 1) := by decide +kernel
theorem dX11_isWord_13 : decode cX11_isWord 13 = .ok (.lcmp, 1) := by decide +kernel
theorem dX11_isWord_14 : decode cX11_isWord 14 = .ok (.ifCond .ne 7, 3) := by decide +kernel
theorem dX11_isWord_17 : decode cX11_isWord 17 = .ok (.iconst 1, 1) := by decide +kernel
theorem dX11_isWord_18 : decode cX11_isWord 18 = .ok (.goto 4, 3) := by decide +kernel
theorem dX11_isWord_21 : decode cX11_isWord 21 = .ok (.iconst 0, 1) := by decide +kernel
theorem dX11_isWord_22 : decode cX11_isWord 22 = .ok (.ireturn, 1) := by decide +kernel
theorem dX11_isSign_0 : decode cX11_isSign 0 = .ok (.aload_n 0, 1) := by decide +kernel
theorem dX11_isSign_1 : decode cX11_isSign 1 = .ok (.getfield 157, 3) := by decide +kernel
theorem dX11_isSign_4 : decode cX11_isSign 4 = .ok (.iconst 3, 1) := by decide +kernel
theorem dX11_isSign_5 : decode cX11_isSign 5 = .ok (.if_icmp .ne 20, 3) := by decide +kernel
theorem dX11_isSign_8 : decode cX11_isSign 8 = .ok (.aload_n 0, 1) := by decide +kernel
theorem dX11_isSign_9 : decode cX11_isSign 9 = .ok (.getfield 7, 3) := by decide +kernel
theorem dX11_isSign_12 : decode cX11_isSign 12 = .ok (.aload_n 0, 1) := by decide +kernel
theorem dX11_isSign_13 : decode cX11_isSign 13 = .ok (.getfield 147, 3) := by decide +kernel
theorem dX11_isSign_16 : decode cX11_isSign 16 = .ok (.iaload, 1) := by decide +kernel
theorem dX11_isSign_17 : decode cX11_isSign 17 = .ok (.iload_n 1, 1) := by decide +kernel
theorem dX11_isSign_18 : decode cX11_isSign 18 = .ok (.if_icmp .ne 7, 3) := by decide +kernel
theorem dX11_isSign_21 : decode cX11_isSign 21 = .ok (.iconst 1, 1) := by decide +kernel
theorem dX11_isSign_22 : decode cX11_isSign 22 = .ok (.goto 4, 3) := by decide +kernel
theorem dX11_isSign_25 : decode cX11_isSign 25 = .ok (.iconst 0, 1) := by decide +kernel
theorem dX11_isSign_26 : decode cX11_isSign 26 = .ok (.ireturn, 1) := by decide +kernel
theorem dX11_fails_0 : decode cX11_fails 0 = .ok (.aload_n 0, 1) := by decide +kernel
theorem dX11_fails_1 : decode cX11_fails 1 = .ok (.iload_n 1, 1) := by decide +kernel
theorem dX11_fails_2 : decode cX11_fails 2 = .ok (.bipush 16, 2) := by decide +kernel
theorem dX11_fails_4 : decode cX11_fails 4 = .ok (.aload_n 0, 1) := by decide +kernel
theorem dX11_fails_5 : decode cX11_fails 5 = .ok (.getfield 147, 3) := by decide +kernel
theorem dX11_fails_8 : decode cX11_fails 8 = .ok (.imul, 1) := by decide +kernel
theorem dX11_fails_9 : decode cX11_fails 9 = .ok (.iadd, 1) := by decide +kernel
theorem dX11_fails_10 : decode cX11_fails 10 = .ok (.putfield 168, 3) := by decide +kernel
theorem dX11_fails_13 : decode cX11_fails 13 = .ok (.iconst 0, 1) := by decide +kernel
theorem dX11_fails_14 : decode cX11_fails 14 = .ok (.ireturn, 1) := by decide +kernel
theorem dX11_puts_0 : decode cX11_puts 0 = .ok (.aload_n 0, 1) := by decide +kernel
theorem dX11_puts_1 : decode cX11_puts 1 = .ok (.getfield 77, 3) := by decide +kernel
theorem dX11_puts_4 : decode cX11_puts 4 = .ok (.aload_n 0, 1) := by decide +kernel
theorem dX11_puts_5 : decode cX11_puts 5 = .ok (.getfield 171, 3) := by decide +kernel
theorem dX11_puts_8 : decode cX11_puts 8 = .ok (.iload_n 1, 1) := by decide +kernel
theorem dX11_puts_9 : decode cX11_puts 9 = .ok (.iastore, 1) := by decide +kernel
theorem dX11_puts_10 : decode cX11_puts 10 = .ok (.aload_n 0, 1) := by decide +kernel
theorem dX11_puts_11 : decode cX11_puts 11 = .ok (.dup, 1) := by decide +kernel
theorem dX11_puts_12 : decode cX11_puts 12 = .ok (.getfield 171, 3) := by decide +kernel
theorem dX11_puts_15 : decode cX11_puts 15 = .ok (.iconst 1, 1) := by decide +kernel
theorem dX11_puts_16 : decode cX11_puts 16 = .ok (.iadd, 1) := by decide +kernel
theorem dX11_puts_17 : decode cX11_puts 17 = .ok (.putfield 171, 3) := by decide +kernel
theorem dX11_puts_20 : decode cX11_puts 20 = .ok (.return_, 1) := by decide +kernel
theorem dX11_fact_0 : decode cX11_fact 0 = .ok (.aload_n 0, 1) := by decide +kernel
theorem dX11_fact_1 : decode cX11_fact 1 = .ok (.getfield 157, 3) := by decide +kernel
theorem dX11_fact_4 : decode cX11_fact 4 = .ok (.iconst 1, 1) := by decide +kernel
theorem dX11_fact_5 : decode cX11_fact 5 = .ok (.if_icmp .eq 5, 3) := by decide +kernel
theorem dX11_fact_8 : decode cX11_fact 8 = .ok (.iconst 0, 1) := by decide +kernel
theorem dX11_fact_9 : decode cX11_fact 9 = .ok (.ireturn, 1) := by decide +kernel
theorem dX11_fact_10 : decode cX11_fact 10 = .ok (.aload_n 0, 1) := by decide +kernel
theorem dX11_fact_11 : decode cX11_fact 11 = .ok (.getfield 150, 3) := by decide +kernel
theorem dX11_fact_14 : decode cX11_fact 14 = .ok (.ldc2_w 174, 3) := by decide +kernel
theorem dX11_fact_17 : decode cX11_fact 17 = .ok (.lcmp, 1) := by decide +kernel
theorem dX11_fact_18 : decode cX11_fact 18 = .ok (.ifCond .ne 5, 3) := by decide +kernel
theorem dX11_fact_21 : decode cX11_fact 21 = .ok (.iconst 1, 1) := by decide +kernel
theorem dX11_fact_22 : decode cX11_fact 22 = .ok (.ireturn, 1) := by decide +kernel
theorem dX11_fact_23 : decode cX11_fact 23 = .ok (.aload_n 0, 1) := by decide +kernel
theorem dX11_fact_24 : decode cX11_fact 24 = .ok (.getfield 150, 3) := by decide +kernel
theorem dX11_fact_27 : decode cX11_fact 27 = .ok (.ldc2_w 176, 3) := by decide +kernel
theorem dX11_fact_30 : decode cX11_fact 30 = .ok (.lcmp, 1) := by decide +kernel
theorem dX11_fact_31 : decode cX11_fact 31 = .ok (.ifCond .ne 5, 3) := by decide +kernel
theorem dX11_fact_34 : decode cX11_fact 34 = .ok (.iconst 2, 1) := by decide +kernel
theorem dX11_fact_35 : decode cX11_fact 35 = .ok (.ireturn, 1) := by decide +kernel
theorem dX11_fact_36 : decode cX11_fact 36 = .ok (.aload_n 0, 1) := by decide +kernel
theorem dX11_fact_37 : decode cX11_fact 37 = .ok (.getfield 150, 3) := by decide +kernel
theorem dX11_fact_40 : decode cX11_fact 40 = .ok (.ldc2_w 178, 3) := by decide +kernel
theorem dX11_fact_43 : decode cX11_fact 43 = .ok (.lcmp, 1) := by decide +kernel
theorem dX11_fact_44 : decode cX11_fact 44 = .ok (.ifCond .ne 5, 3) := by decide +kernel
theorem dX11_fact_47 : decode cX11_fact 47 = .ok (.iconst 3, 1) := by decide +kernel
theorem dX11_fact_48 : decode cX11_fact 48 = .ok (.ireturn, 1) := by decide +kernel
theorem dX11_fact_49 : decode cX11_fact 49 = .ok (.aload_n 0, 1) := by decide +kernel
theorem dX11_fact_50 : decode cX11_fact 50 = .ok (.getfield 150, 3) := by decide +kernel
theorem dX11_fact_53 : decode cX11_fact 53 = .ok (.ldc2_w 180, 3) := by decide +kernel
theorem dX11_fact_56 : decode cX11_fact 56 = .ok (.lcmp, 1) := by decide +kernel
theorem dX11_fact_57 : decode cX11_fact 57 = .ok (.ifCond .ne 5, 3) := by decide +kernel
theorem dX11_fact_60 : decode cX11_fact 60 = .ok (.iconst 4, 1) := by decide +kernel
theorem dX11_fact_61 : decode cX11_fact 61 = .ok (.ireturn, 1) := by decide +kernel
theorem dX11_fact_62 : decode cX11_fact 62 = .ok (.aload_n 0, 1) := by decide +kernel
theorem dX11_fact_63 : decode cX11_fact 63 = .ok (.getfield 150, 3) := by decide +kernel
theorem dX11_fact_66 : decode cX11_fact 66 = .ok (.ldc2_w 182, 3) := by decide +kernel
theorem dX11_fact_69 : decode cX11_fact 69 = .ok (.lcmp, 1) := by decide +kernel
theorem dX11_fact_70 : decode cX11_fact 70 = .ok (.ifCond .ne 5, 3) := by decide +kernel
theorem dX11_fact_73 : decode cX11_fact 73 = .ok (.iconst 5, 1) := by decide +kernel
theorem dX11_fact_74 : decode cX11_fact 74 = .ok (.ireturn, 1) := by decide +kernel
theorem dX11_fact_75 : decode cX11_fact 75 = .ok (.iconst 0, 1) := by decide +kernel
theorem dX11_fact_76 : decode cX11_fact 76 = .ok (.ireturn, 1) := by decide +kernel
theorem dX11_reads_0 : decode cX11_reads 0 = .ok (.iconst 0, 1) := by decide +kernel
theorem dX11_reads_1 : decode cX11_reads 1 = .ok (.istore_n 1, 1) := by decide +kernel
theorem dX11_reads_2 : decode cX11_reads 2 = .ok (.iconst 1, 1) := by decide +kernel
theorem dX11_reads_3 : decode cX11_reads 3 = .ok (.istore_n 2, 1) := by decide +kernel
theorem dX11_reads_4 : decode cX11_reads 4 = .ok (.aload_n 0, 1) := by decide +kernel
theorem dX11_reads_5 : decode cX11_reads 5 = .ok (.getfield 83, 3) := by decide +kernel
theorem dX11_reads_8 : decode cX11_reads 8 = .ok (.iconst 0, 1) := by decide +kernel
theorem dX11_reads_9 : decode cX11_reads 9 = .ok (.iconst 0, 1) := by decide +kernel
theorem dX11_reads_10 : decode cX11_reads 10 = .ok (.bastore, 1) := by decide +kernel
theorem dX11_reads_11 : decode cX11_reads 11 = .ok (.iload_n 2, 1) := by decide +kernel
theorem dX11_reads_12 : decode cX11_reads 12 = .ok (.ifCond .eq 167, 3) := by decide +kernel
theorem dX11_reads_15 : decode cX11_reads 15 = .ok (.aload_n 0, 1) := by decide +kernel
theorem dX11_reads_16 : decode cX11_reads 16 = .ok (.invokevirtual 184, 3) := by decide +kernel
theorem dX11_reads_19 : decode cX11_reads 19 = .ok (.istore_n 3, 1) := by decide +kernel
theorem dX11_reads_20 : decode cX11_reads 20 = .ok (.aload_n 0, 1) := by decide +kernel
theorem dX11_reads_21 : decode cX11_reads 21 = .ok (.ldc2_w 188, 3) := by decide +kernel
theorem dX11_reads_24 : decode cX11_reads 24 = .ok (.invokevirtual 190, 3) := by decide +kernel
theorem dX11_reads_27 : decode cX11_reads 27 = .ok (.istore 4, 2) := by decide +kernel
theorem dX11_reads_29 : decode cX11_reads 29 = .ok (.aload_n 0, 1) := by decide +kernel
theorem dX11_reads_30 : decode cX11_reads 30 = .ok (.bipush 40, 2) := by decide +kernel
theorem dX11_reads_32 : decode cX11_reads 32 = .ok (.invokevirtual 194, 3) := by decide +kernel
theorem dX11_reads_35 : decode cX11_reads 35 = .ok (.istore 5, 2) := by decide +kernel
theorem dX11_reads_37 : decode cX11_reads 37 = .ok (.iload_n 3, 1) := by decide +kernel
theorem dX11_reads_38 : decode cX11_reads 38 = .ok (.ifCond .ne 27, 3) := by decide +kernel
theorem dX11_reads_41 : decode cX11_reads 41 = .ok (.iload 4, 2) := by decide +kernel
theorem dX11_reads_43 : decode cX11_reads 43 = .ok (.ifCond .ne 22, 3) := by decide +kernel
theorem dX11_reads_46 : decode cX11_reads 46 = .ok (.iload 5, 2) := by decide +kernel
theorem dX11_reads_48 : decode cX11_reads 48 = .ok (.ifCond .ne 17, 3) := by decide +kernel
theorem dX11_reads_51 : decode cX11_reads 51 = .ok (.aload_n 0, 1) := by decide +kernel
theorem dX11_reads_52 : decode cX11_reads 52 = .ok (.getfield 157, 3) := by decide +kernel
theorem dX11_reads_55 : decode cX11_reads 55 = .ok (.iconst 2, 1) := by decide +kernel
theorem dX11_reads_56 : decode cX11_reads 56 = .ok (.if_icmp .eq 9, 3) := by decide +kernel
theorem dX11_reads_59 : decode cX11_reads 59 = .ok (.aload_n 0, 1) := by decide +kernel
theorem dX11_reads_60 : decode cX11_reads 60 = .ok (.iconst 1, 1) := by decide +kernel
theorem dX11_reads_61 : decode cX11_reads 61 = .ok (.invokevirtual 198, 3) := by decide +kernel
theorem dX11_reads_64 : decode cX11_reads 64 = .ok (.ireturn, 1) := by decide +kernel
theorem dX11_reads_65 : decode cX11_reads 65 = .ok (.iload_n 1, 1) := by decide +kernel
theorem dX11_reads_66 : decode cX11_reads 66 = .ok (.iconst 5, 1) := by decide +kernel
theorem dX11_reads_67 : decode cX11_reads 67 = .ok (.if_icmp .ne 9, 3) := by decide +kernel
theorem dX11_reads_70 : decode cX11_reads 70 = .ok (.aload_n 0, 1) := by decide +kernel
theorem dX11_reads_71 : decode cX11_reads 71 = .ok (.iconst 5, 1) := by decide +kernel
theorem dX11_reads_72 : decode cX11_reads 72 = .ok (.invokevirtual 198, 3) := by decide +kernel
theorem dX11_reads_75 : decode cX11_reads 75 = .ok (.ireturn, 1) := by decide +kernel
theorem dX11_reads_76 : decode cX11_reads 76 = .ok (.iload 4, 2) := by decide +kernel
theorem dX11_reads_78 : decode cX11_reads 78 = .ok (.ifCond .ne 8, 3) := by decide +kernel
theorem dX11_reads_81 : decode cX11_reads 81 = .ok (.iload 5, 2) := by decide +kernel
theorem dX11_reads_83 : decode cX11_reads 83 = .ok (.ifCond .eq 48, 3) := by decide +kernel
theorem dX11_reads_86 : decode cX11_reads 86 = .ok (.aload_n 0, 1) := by decide +kernel
theorem dX11_reads_87 : decode cX11_reads 87 = .ok (.iload 4, 2) := by decide +kernel
theorem dX11_reads_89 : decode cX11_reads 89 = .ok (.ifCond .eq 8, 3) := by decide +kernel
theorem dX11_reads_92 : decode cX11_reads 92 = .ok (.bipush 30, 2) := by decide +kernel
theorem dX11_reads_94 : decode cX11_reads 94 = .ok (.goto 5, 3) := by decide +kernel
theorem dX11_reads_97 : decode cX11_reads 97 = .ok (.bipush 28, 2) := by decide +kernel
theorem dX11_reads_99 : decode cX11_reads 99 = .ok (.invokevirtual 201, 3) := by decide +kernel
theorem dX11_reads_102 : decode cX11_reads 102 = .ok (.iinc 1 1, 3) := by decide +kernel
theorem dX11_reads_105 : decode cX11_reads 105 = .ok (.aload_n 0, 1) := by decide +kernel
theorem dX11_reads_106 : decode cX11_reads 106 = .ok (.getfield 80, 3) := by decide +kernel
theorem dX11_reads_109 : decode cX11_reads 109 = .ok (.iload_n 1, 1) := by decide +kernel
theorem dX11_reads_110 : decode cX11_reads 110 = .ok (.iload 4, 2) := by decide +kernel
theorem dX11_reads_112 : decode cX11_reads 112 = .ok (.ifCond .eq 7, 3) := by decide +kernel
theorem dX11_reads_115 : decode cX11_reads 115 = .ok (.iconst 1, 1) := by decide +kernel
theorem dX11_reads_116 : decode cX11_reads 116 = .ok (.goto 4, 3) := by decide +kernel
theorem dX11_reads_119 : decode cX11_reads 119 = .ok (.iconst 2, 1) := by decide +kernel
theorem dX11_reads_120 : decode cX11_reads 120 = .ok (.iastore, 1) := by decide +kernel
theorem dX11_reads_121 : decode cX11_reads 121 = .ok (.aload_n 0, 1) := by decide +kernel
theorem dX11_reads_122 : decode cX11_reads 122 = .ok (.getfield 83, 3) := by decide +kernel
theorem dX11_reads_125 : decode cX11_reads 125 = .ok (.iload_n 1, 1) := by decide +kernel
theorem dX11_reads_126 : decode cX11_reads 126 = .ok (.iconst 0, 1) := by decide +kernel
theorem dX11_reads_127 : decode cX11_reads 127 = .ok (.bastore, 1) := by decide +kernel
theorem dX11_reads_128 : decode cX11_reads 128 = .ok (.goto 44, 3) := by decide +kernel
theorem dX11_reads_131 : decode cX11_reads 131 = .ok (.aload_n 0, 1) := by decide +kernel
theorem dX11_reads_132 : decode cX11_reads 132 = .ok (.iload_n 3, 1) := by decide +kernel
theorem dX11_reads_133 : decode cX11_reads 133 = .ok (.ifCond .le 7, 3) := by decide +kernel
theorem dX11_reads_136 : decode cX11_reads 136 = .ok (.iload_n 3, 1) := by decide +kernel
theorem dX11_reads_137 : decode cX11_reads 137 = .ok (.goto 10, 3) := by decide +kernel
theorem dX11_reads_140 : decode cX11_reads 140 = .ok (.bipush 100, 2) := by decide +kernel
theorem dX11_reads_142 : decode cX11_reads 142 = .ok (.aload_n 0, 1) := by decide +kernel
theorem dX11_reads_143 : decode cX11_reads 143 = .ok (.getfield 154, 3) := by decide +kernel
theorem dX11_reads_146 : decode cX11_reads 146 = .ok (.iadd, 1) := by decide +kernel
theorem dX11_reads_147 : decode cX11_reads 147 = .ok (.invokevirtual 201, 3) := by decide +kernel
theorem dX11_reads_150 : decode cX11_reads 150 = .ok (.iconst 0, 1) := by decide +kernel
theorem dX11_reads_151 : decode cX11_reads 151 = .ok (.istore_n 2, 1) := by decide +kernel
theorem dX11_reads_152 : decode cX11_reads 152 = .ok (.iload_n 1, 1) := by decide +kernel
theorem dX11_reads_153 : decode cX11_reads 153 = .ok (.ifCond .le 19, 3) := by decide +kernel
theorem dX11_reads_156 : decode cX11_reads 156 = .ok (.aload_n 0, 1) := by decide +kernel
theorem dX11_reads_157 : decode cX11_reads 157 = .ok (.getfield 80, 3) := by decide +kernel
theorem dX11_reads_160 : decode cX11_reads 160 = .ok (.iload_n 1, 1) := by decide +kernel
theorem dX11_reads_161 : decode cX11_reads 161 = .ok (.iaload, 1) := by decide +kernel
theorem dX11_reads_162 : decode cX11_reads 162 = .ok (.iconst 1, 1) := by decide +kernel
theorem dX11_reads_163 : decode cX11_reads 163 = .ok (.if_icmp .ne 9, 3) := by decide +kernel
theorem dX11_reads_166 : decode cX11_reads 166 = .ok (.iinc 1 (-1), 3) := by decide +kernel
theorem dX11_reads_169 : decode cX11_reads 169 = .ok (.goto (-17), 3) := by decide +kernel
theorem dX11_reads_172 : decode cX11_reads 172 = .ok (.aload_n 0, 1) := by decide +kernel
theorem dX11_reads_173 : decode cX11_reads 173 = .ok (.invokevirtual 205, 3) := by decide +kernel
theorem dX11_reads_176 : decode cX11_reads 176 = .ok (.goto (-165), 3) := by decide +kernel
theorem dX11_reads_179 : decode cX11_reads 179 = .ok (.aload_n 0, 1) := by decide +kernel
theorem dX11_reads_180 : decode cX11_reads 180 = .ok (.bipush 43, 2) := by decide +kernel
theorem dX11_reads_182 : decode cX11_reads 182 = .ok (.invokevirtual 194, 3) := by decide +kernel
theorem dX11_reads_185 : decode cX11_reads 185 = .ok (.ifCond .ne 21, 3) := by decide +kernel
theorem dX11_reads_188 : decode cX11_reads 188 = .ok (.aload_n 0, 1) := by decide +kernel
theorem dX11_reads_189 : decode cX11_reads 189 = .ok (.bipush 45, 2) := by decide +kernel
theorem dX11_reads_191 : decode cX11_reads 191 = .ok (.invokevirtual 194, 3) := by decide +kernel
theorem dX11_reads_194 : decode cX11_reads 194 = .ok (.ifCond .ne 12, 3) := by decide +kernel
theorem dX11_reads_197 : decode cX11_reads 197 = .ok (.aload_n 0, 1) := by decide +kernel
theorem dX11_reads_198 : decode cX11_reads 198 = .ok (.bipush 42, 2) := by decide +kernel
theorem dX11_reads_200 : decode cX11_reads 200 = .ok (.invokevirtual 194, 3) := by decide +kernel
theorem dX11_reads_203 : decode cX11_reads 203 = .ok (.ifCond .eq 42, 3) := by decide +kernel
theorem dX11_reads_206 : decode cX11_reads 206 = .ok (.aload_n 0, 1) := by decide +kernel
theorem dX11_reads_207 : decode cX11_reads 207 = .ok (.aload_n 0, 1) := by decide +kernel
theorem dX11_reads_208 : decode cX11_reads 208 = .ok (.bipush 43, 2) := by decide +kernel
theorem dX11_reads_210 : decode cX11_reads 210 = .ok (.invokevirtual 194, 3) := by decide +kernel
theorem dX11_reads_213 : decode cX11_reads 213 = .ok (.ifCond .eq 8, 3) := by decide +kernel
theorem dX11_reads_216 : decode cX11_reads 216 = .ok (.bipush 20, 2) := by decide +kernel
theorem dX11_reads_218 : decode cX11_reads 218 = .ok (.goto 19, 3) := by decide +kernel
theorem dX11_reads_221 : decode cX11_reads 221 = .ok (.aload_n 0, 1) := by decide +kernel
theorem dX11_reads_222 : decode cX11_reads 222 = .ok (.bipush 45, 2) := by decide +kernel
theorem dX11_reads_224 : decode cX11_reads 224 = .ok (.invokevirtual 194, 3) := by decide +kernel
theorem dX11_reads_227 : decode cX11_reads 227 = .ok (.ifCond .eq 8, 3) := by decide +kernel
theorem dX11_reads_230 : decode cX11_reads 230 = .ok (.bipush 21, 2) := by decide +kernel
theorem dX11_reads_232 : decode cX11_reads 232 = .ok (.goto 5, 3) := by decide +kernel
theorem dX11_reads_235 : decode cX11_reads 235 = .ok (.bipush 22, 2) := by decide +kernel
theorem dX11_reads_237 : decode cX11_reads 237 = .ok (.invokevirtual 201, 3) := by decide +kernel
theorem dX11_reads_240 : decode cX11_reads 240 = .ok (.iconst 1, 1) := by decide +kernel
theorem dX11_reads_241 : decode cX11_reads 241 = .ok (.istore_n 2, 1) := by decide +kernel
theorem dX11_reads_242 : decode cX11_reads 242 = .ok (.goto 182, 3) := by decide +kernel
theorem dX11_reads_245 : decode cX11_reads 245 = .ok (.aload_n 0, 1) := by decide +kernel
theorem dX11_reads_246 : decode cX11_reads 246 = .ok (.bipush 60, 2) := by decide +kernel
theorem dX11_reads_248 : decode cX11_reads 248 = .ok (.invokevirtual 194, 3) := by decide +kernel
theorem dX11_reads_251 : decode cX11_reads 251 = .ok (.ifCond .ne 12, 3) := by decide +kernel
theorem dX11_reads_254 : decode cX11_reads 254 = .ok (.aload_n 0, 1) := by decide +kernel
theorem dX11_reads_255 : decode cX11_reads 255 = .ok (.bipush 61, 2) := by decide +kernel
theorem dX11_reads_257 : decode cX11_reads 257 = .ok (.invokevirtual 194, 3) := by decide +kernel
theorem dX11_reads_260 : decode cX11_reads 260 = .ok (.ifCond .eq 44, 3) := by decide +kernel
theorem dX11_reads_263 : decode cX11_reads 263 = .ok (.aload_n 0, 1) := by decide +kernel
theorem dX11_reads_264 : decode cX11_reads 264 = .ok (.getfield 83, 3) := by decide +kernel
theorem dX11_reads_267 : decode cX11_reads 267 = .ok (.iload_n 1, 1) := by decide +kernel
theorem dX11_reads_268 : decode cX11_reads 268 = .ok (.baload, 1) := by decide +kernel
theorem dX11_reads_269 : decode cX11_reads 269 = .ok (.ifCond .ne 35, 3) := by decide +kernel
theorem dX11_reads_272 : decode cX11_reads 272 = .ok (.aload_n 0, 1) := by decide +kernel
theorem dX11_reads_273 : decode cX11_reads 273 = .ok (.aload_n 0, 1) := by decide +kernel
theorem dX11_reads_274 : decode cX11_reads 274 = .ok (.bipush 60, 2) := by decide +kernel
theorem dX11_reads_276 : decode cX11_reads 276 = .ok (.invokevirtual 194, 3) := by decide +kernel
theorem dX11_reads_279 : decode cX11_reads 279 = .ok (.ifCond .eq 8, 3) := by decide +kernel
theorem dX11_reads_282 : decode cX11_reads 282 = .ok (.bipush 24, 2) := by decide +kernel
theorem dX11_reads_284 : decode cX11_reads 284 = .ok (.goto 5, 3) := by decide +kernel
theorem dX11_reads_287 : decode cX11_reads 287 = .ok (.bipush 25, 2) := by decide +kernel
theorem dX11_reads_289 : decode cX11_reads 289 = .ok (.invokevirtual 201, 3) := by decide +kernel
theorem dX11_reads_292 : decode cX11_reads 292 = .ok (.aload_n 0, 1) := by decide +kernel
theorem dX11_reads_293 : decode cX11_reads 293 = .ok (.getfield 83, 3) := by decide +kernel
theorem dX11_reads_296 : decode cX11_reads 296 = .ok (.iload_n 1, 1) := by decide +kernel
theorem dX11_reads_297 : decode cX11_reads 297 = .ok (.iconst 1, 1) := by decide +kernel
theorem dX11_reads_298 : decode cX11_reads 298 = .ok (.bastore, 1) := by decide +kernel
theorem dX11_reads_299 : decode cX11_reads 299 = .ok (.iconst 1, 1) := by decide +kernel
theorem dX11_reads_300 : decode cX11_reads 300 = .ok (.istore_n 2, 1) := by decide +kernel
theorem dX11_reads_301 : decode cX11_reads 301 = .ok (.goto 123, 3) := by decide +kernel
theorem dX11_reads_304 : decode cX11_reads 304 = .ok (.aload_n 0, 1) := by decide +kernel
theorem dX11_reads_305 : decode cX11_reads 305 = .ok (.ldc2_w 208, 3) := by decide +kernel
theorem dX11_reads_308 : decode cX11_reads 308 = .ok (.invokevirtual 190, 3) := by decide +kernel
theorem dX11_reads_311 : decode cX11_reads 311 = .ok (.ifCond .ne 13, 3) := by decide +kernel
theorem dX11_reads_314 : decode cX11_reads 314 = .ok (.aload_n 0, 1) := by decide +kernel
theorem dX11_reads_315 : decode cX11_reads 315 = .ok (.ldc2_w 210, 3) := by decide +kernel
theorem dX11_reads_318 : decode cX11_reads 318 = .ok (.invokevirtual 190, 3) := by decide +kernel
theorem dX11_reads_321 : decode cX11_reads 321 = .ok (.ifCond .eq 36, 3) := by decide +kernel
theorem dX11_reads_324 : decode cX11_reads 324 = .ok (.aload_n 0, 1) := by decide +kernel
theorem dX11_reads_325 : decode cX11_reads 325 = .ok (.aload_n 0, 1) := by decide +kernel
theorem dX11_reads_326 : decode cX11_reads 326 = .ok (.ldc2_w 208, 3) := by decide +kernel
theorem dX11_reads_329 : decode cX11_reads 329 = .ok (.invokevirtual 190, 3) := by decide +kernel
theorem dX11_reads_332 : decode cX11_reads 332 = .ok (.ifCond .eq 8, 3) := by decide +kernel
theorem dX11_reads_335 : decode cX11_reads 335 = .ok (.bipush 26, 2) := by decide +kernel
theorem dX11_reads_337 : decode cX11_reads 337 = .ok (.goto 5, 3) := by decide +kernel
theorem dX11_reads_340 : decode cX11_reads 340 = .ok (.bipush 27, 2) := by decide +kernel
theorem dX11_reads_342 : decode cX11_reads 342 = .ok (.invokevirtual 201, 3) := by decide +kernel
theorem dX11_reads_345 : decode cX11_reads 345 = .ok (.aload_n 0, 1) := by decide +kernel
theorem dX11_reads_346 : decode cX11_reads 346 = .ok (.getfield 83, 3) := by decide +kernel
theorem dX11_reads_349 : decode cX11_reads 349 = .ok (.iload_n 1, 1) := by decide +kernel
theorem dX11_reads_350 : decode cX11_reads 350 = .ok (.iconst 0, 1) := by decide +kernel
theorem dX11_reads_351 : decode cX11_reads 351 = .ok (.bastore, 1) := by decide +kernel
theorem dX11_reads_352 : decode cX11_reads 352 = .ok (.iconst 1, 1) := by decide +kernel
theorem dX11_reads_353 : decode cX11_reads 353 = .ok (.istore_n 2, 1) := by decide +kernel
theorem dX11_reads_354 : decode cX11_reads 354 = .ok (.goto 70, 3) := by decide +kernel
theorem dX11_reads_357 : decode cX11_reads 357 = .ok (.aload_n 0, 1) := by decide +kernel
theorem dX11_reads_358 : decode cX11_reads 358 = .ok (.bipush 41, 2) := by decide +kernel
theorem dX11_reads_360 : decode cX11_reads 360 = .ok (.invokevirtual 194, 3) := by decide +kernel
theorem dX11_reads_363 : decode cX11_reads 363 = .ok (.ifCond .eq 36, 3) := by decide +kernel
theorem dX11_reads_366 : decode cX11_reads 366 = .ok (.iload_n 1, 1) := by decide +kernel
theorem dX11_reads_367 : decode cX11_reads 367 = .ok (.ifCond .le 32, 3) := by decide +kernel
theorem dX11_reads_370 : decode cX11_reads 370 = .ok (.aload_n 0, 1) := by decide +kernel
theorem dX11_reads_371 : decode cX11_reads 371 = .ok (.bipush 29, 2) := by decide +kernel
theorem dX11_reads_373 : decode cX11_reads 373 = .ok (.invokevirtual 201, 3) := by decide +kernel
theorem dX11_reads_376 : decode cX11_reads 376 = .ok (.iinc 1 (-1), 3) := by decide +kernel
theorem dX11_reads_379 : decode cX11_reads 379 = .ok (.iload_n 1, 1) := by decide +kernel
theorem dX11_reads_380 : decode cX11_reads 380 = .ok (.ifCond .le 44, 3) := by decide +kernel
theorem dX11_reads_383 : decode cX11_reads 383 = .ok (.aload_n 0, 1) := by decide +kernel
theorem dX11_reads_384 : decode cX11_reads 384 = .ok (.getfield 80, 3) := by decide +kernel
theorem dX11_reads_387 : decode cX11_reads 387 = .ok (.iload_n 1, 1) := by decide +kernel
theorem dX11_reads_388 : decode cX11_reads 388 = .ok (.iaload, 1) := by decide +kernel
theorem dX11_reads_389 : decode cX11_reads 389 = .ok (.iconst 1, 1) := by decide +kernel
theorem dX11_reads_390 : decode cX11_reads 390 = .ok (.if_icmp .ne 34, 3) := by decide +kernel
theorem dX11_reads_393 : decode cX11_reads 393 = .ok (.iinc 1 (-1), 3) := by decide +kernel
theorem dX11_reads_396 : decode cX11_reads 396 = .ok (.goto (-17), 3) := by decide +kernel
theorem dX11_reads_399 : decode cX11_reads 399 = .ok (.iload_n 1, 1) := by decide +kernel
theorem dX11_reads_400 : decode cX11_reads 400 = .ok (.ifCond .ne 18, 3) := by decide +kernel
theorem dX11_reads_403 : decode cX11_reads 403 = .ok (.aload_n 0, 1) := by decide +kernel
theorem dX11_reads_404 : decode cX11_reads 404 = .ok (.bipush 59, 2) := by decide +kernel
theorem dX11_reads_406 : decode cX11_reads 406 = .ok (.invokevirtual 194, 3) := by decide +kernel
theorem dX11_reads_409 : decode cX11_reads 409 = .ok (.ifCond .eq 9, 3) := by decide +kernel
theorem dX11_reads_412 : decode cX11_reads 412 = .ok (.aload_n 0, 1) := by decide +kernel
theorem dX11_reads_413 : decode cX11_reads 413 = .ok (.invokevirtual 205, 3) := by decide +kernel
theorem dX11_reads_416 : decode cX11_reads 416 = .ok (.iconst 1, 1) := by decide +kernel
theorem dX11_reads_417 : decode cX11_reads 417 = .ok (.ireturn, 1) := by decide +kernel
theorem dX11_reads_418 : decode cX11_reads 418 = .ok (.aload_n 0, 1) := by decide +kernel
theorem dX11_reads_419 : decode cX11_reads 419 = .ok (.iconst 1, 1) := by decide +kernel
theorem dX11_reads_420 : decode cX11_reads 420 = .ok (.invokevirtual 198, 3) := by decide +kernel
theorem dX11_reads_423 : decode cX11_reads 423 = .ok (.ireturn, 1) := by decide +kernel
theorem dX11_reads_424 : decode cX11_reads 424 = .ok (.aload_n 0, 1) := by decide +kernel
theorem dX11_reads_425 : decode cX11_reads 425 = .ok (.invokevirtual 205, 3) := by decide +kernel
theorem dX11_reads_428 : decode cX11_reads 428 = .ok (.goto (-417), 3) := by decide +kernel
theorem dX11_opens_0 : decode cX11_opens 0 = .ok (.aload_n 0, 1) := by decide +kernel
theorem dX11_opens_1 : decode cX11_opens 1 = .ok (.getfield 90, 3) := by decide +kernel
theorem dX11_opens_4 : decode cX11_opens 4 = .ok (.iload_n 1, 1) := by decide +kernel
theorem dX11_opens_5 : decode cX11_opens 5 = .ok (.iconst 0, 1) := by decide +kernel
theorem dX11_opens_6 : decode cX11_opens 6 = .ok (.iastore, 1) := by decide +kernel
theorem dX11_opens_7 : decode cX11_opens 7 = .ok (.aload_n 0, 1) := by decide +kernel
theorem dX11_opens_8 : decode cX11_opens 8 = .ok (.getfield 96, 3) := by decide +kernel
theorem dX11_opens_11 : decode cX11_opens 11 = .ok (.iload_n 1, 1) := by decide +kernel
theorem dX11_opens_12 : decode cX11_opens 12 = .ok (.iconst 0, 1) := by decide +kernel
theorem dX11_opens_13 : decode cX11_opens 13 = .ok (.iastore, 1) := by decide +kernel
theorem dX11_opens_14 : decode cX11_opens 14 = .ok (.aload_n 0, 1) := by decide +kernel
theorem dX11_opens_15 : decode cX11_opens 15 = .ok (.getfield 99, 3) := by decide +kernel
theorem dX11_opens_18 : decode cX11_opens 18 = .ok (.iload_n 1, 1) := by decide +kernel
theorem dX11_opens_19 : decode cX11_opens 19 = .ok (.iconst 0, 1) := by decide +kernel
theorem dX11_opens_20 : decode cX11_opens 20 = .ok (.iastore, 1) := by decide +kernel
theorem dX11_opens_21 : decode cX11_opens 21 = .ok (.aload_n 0, 1) := by decide +kernel
theorem dX11_opens_22 : decode cX11_opens 22 = .ok (.getfield 102, 3) := by decide +kernel
theorem dX11_opens_25 : decode cX11_opens 25 = .ok (.iload_n 1, 1) := by decide +kernel
theorem dX11_opens_26 : decode cX11_opens 26 = .ok (.bipush 20, 2) := by decide +kernel
theorem dX11_opens_28 : decode cX11_opens 28 = .ok (.iastore, 1) := by decide +kernel
theorem dX11_opens_29 : decode cX11_opens 29 = .ok (.aload_n 0, 1) := by decide +kernel
theorem dX11_opens_30 : decode cX11_opens 30 = .ok (.getfield 108, 3) := by decide +kernel
theorem dX11_opens_33 : decode cX11_opens 33 = .ok (.iload_n 1, 1) := by decide +kernel
theorem dX11_opens_34 : decode cX11_opens 34 = .ok (.iconst 0, 1) := by decide +kernel
theorem dX11_opens_35 : decode cX11_opens 35 = .ok (.iastore, 1) := by decide +kernel
theorem dX11_opens_36 : decode cX11_opens 36 = .ok (.return_, 1) := by decide +kernel
theorem dX11_sums_0 : decode cX11_sums 0 = .ok (.aload_n 0, 1) := by decide +kernel
theorem dX11_sums_1 : decode cX11_sums 1 = .ok (.getfield 99, 3) := by decide +kernel
theorem dX11_sums_4 : decode cX11_sums 4 = .ok (.iload_n 1, 1) := by decide +kernel
theorem dX11_sums_5 : decode cX11_sums 5 = .ok (.aload_n 0, 1) := by decide +kernel
theorem dX11_sums_6 : decode cX11_sums 6 = .ok (.getfield 102, 3) := by decide +kernel
theorem dX11_sums_9 : decode cX11_sums 9 = .ok (.iload_n 1, 1) := by decide +kernel
theorem dX11_sums_10 : decode cX11_sums 10 = .ok (.iaload, 1) := by decide +kernel
theorem dX11_sums_11 : decode cX11_sums 11 = .ok (.bipush 21, 2) := by decide +kernel
theorem dX11_sums_13 : decode cX11_sums 13 = .ok (.if_icmp .ne 19, 3) := by decide +kernel
theorem dX11_sums_16 : decode cX11_sums 16 = .ok (.aload_n 0, 1) := by decide +kernel
theorem dX11_sums_17 : decode cX11_sums 17 = .ok (.getfield 99, 3) := by decide +kernel
theorem dX11_sums_20 : decode cX11_sums 20 = .ok (.iload_n 1, 1) := by decide +kernel
theorem dX11_sums_21 : decode cX11_sums 21 = .ok (.iaload, 1) := by decide +kernel
theorem dX11_sums_22 : decode cX11_sums 22 = .ok (.aload_n 0, 1) := by decide +kernel
theorem dX11_sums_23 : decode cX11_sums 23 = .ok (.getfield 105, 3) := by decide +kernel
theorem dX11_sums_26 : decode cX11_sums 26 = .ok (.iload_n 1, 1) := by decide +kernel
theorem dX11_sums_27 : decode cX11_sums 27 = .ok (.iaload, 1) := by decide +kernel
theorem dX11_sums_28 : decode cX11_sums 28 = .ok (.isub, 1) := by decide +kernel
theorem dX11_sums_29 : decode cX11_sums 29 = .ok (.goto 16, 3) := by decide +kernel
theorem dX11_sums_32 : decode cX11_sums 32 = .ok (.aload_n 0, 1) := by decide +kernel
theorem dX11_sums_33 : decode cX11_sums 33 = .ok (.getfield 99, 3) := by decide +kernel
theorem dX11_sums_36 : decode cX11_sums 36 = .ok (.iload_n 1, 1) := by decide +kernel
theorem dX11_sums_37 : decode cX11_sums 37 = .ok (.iaload, 1) := by decide +kernel
theorem dX11_sums_38 : decode cX11_sums 38 = .ok (.aload_n 0, 1) := by decide +kernel
theorem dX11_sums_39 : decode cX11_sums 39 = .ok (.getfield 105, 3) := by decide +kernel
theorem dX11_sums_42 : decode cX11_sums 42 = .ok (.iload_n 1, 1) := by decide +kernel
theorem dX11_sums_43 : decode cX11_sums 43 = .ok (.iaload, 1) := by decide +kernel
theorem dX11_sums_44 : decode cX11_sums 44 = .ok (.iadd, 1) := by decide +kernel
theorem dX11_sums_45 : decode cX11_sums 45 = .ok (.iastore, 1) := by decide +kernel
theorem dX11_sums_46 : decode cX11_sums 46 = .ok (.aload_n 0, 1) := by decide +kernel
theorem dX11_sums_47 : decode cX11_sums 47 = .ok (.getfield 108, 3) := by decide +kernel
theorem dX11_sums_50 : decode cX11_sums 50 = .ok (.iload_n 1, 1) := by decide +kernel
theorem dX11_sums_51 : decode cX11_sums 51 = .ok (.iconst 0, 1) := by decide +kernel
theorem dX11_sums_52 : decode cX11_sums 52 = .ok (.iastore, 1) := by decide +kernel
theorem dX11_sums_53 : decode cX11_sums 53 = .ok (.return_, 1) := by decide +kernel
theorem dX11_tests_0 : decode cX11_tests 0 = .ok (.aload_n 0, 1) := by decide +kernel
theorem dX11_tests_1 : decode cX11_tests 1 = .ok (.iload_n 1, 1) := by decide +kernel
theorem dX11_tests_2 : decode cX11_tests 2 = .ok (.invokevirtual 212, 3) := by decide +kernel
theorem dX11_tests_5 : decode cX11_tests 5 = .ok (.aload_n 0, 1) := by decide +kernel
theorem dX11_tests_6 : decode cX11_tests 6 = .ok (.getfield 99, 3) := by decide +kernel
theorem dX11_tests_9 : decode cX11_tests 9 = .ok (.iload_n 1, 1) := by decide +kernel
theorem dX11_tests_10 : decode cX11_tests 10 = .ok (.iaload, 1) := by decide +kernel
theorem dX11_tests_11 : decode cX11_tests 11 = .ok (.istore_n 2, 1) := by decide +kernel
theorem dX11_tests_12 : decode cX11_tests 12 = .ok (.aload_n 0, 1) := by decide +kernel
theorem dX11_tests_13 : decode cX11_tests 13 = .ok (.getfield 96, 3) := by decide +kernel
theorem dX11_tests_16 : decode cX11_tests 16 = .ok (.iload_n 1, 1) := by decide +kernel
theorem dX11_tests_17 : decode cX11_tests 17 = .ok (.iaload, 1) := by decide +kernel
theorem dX11_tests_18 : decode cX11_tests 18 = .ok (.bipush 24, 2) := by decide +kernel
theorem dX11_tests_20 : decode cX11_tests 20 = .ok (.if_icmp .ne 24, 3) := by decide +kernel
theorem dX11_tests_23 : decode cX11_tests 23 = .ok (.aload_n 0, 1) := by decide +kernel
theorem dX11_tests_24 : decode cX11_tests 24 = .ok (.getfield 93, 3) := by decide +kernel
theorem dX11_tests_27 : decode cX11_tests 27 = .ok (.iload_n 1, 1) := by decide +kernel
theorem dX11_tests_28 : decode cX11_tests 28 = .ok (.iaload, 1) := by decide +kernel
theorem dX11_tests_29 : decode cX11_tests 29 = .ok (.aload_n 0, 1) := by decide +kernel
theorem dX11_tests_30 : decode cX11_tests 30 = .ok (.getfield 99, 3) := by decide +kernel
theorem dX11_tests_33 : decode cX11_tests 33 = .ok (.iload_n 1, 1) := by decide +kernel
theorem dX11_tests_34 : decode cX11_tests 34 = .ok (.iaload, 1) := by decide +kernel
theorem dX11_tests_35 : decode cX11_tests 35 = .ok (.if_icmp .ge 7, 3) := by decide +kernel
theorem dX11_tests_38 : decode cX11_tests 38 = .ok (.iconst 1, 1) := by decide +kernel
theorem dX11_tests_39 : decode cX11_tests 39 = .ok (.goto 4, 3) := by decide +kernel
theorem dX11_tests_42 : decode cX11_tests 42 = .ok (.iconst 0, 1) := by decide +kernel
theorem dX11_tests_43 : decode cX11_tests 43 = .ok (.istore_n 2, 1) := by decide +kernel
theorem dX11_tests_44 : decode cX11_tests 44 = .ok (.aload_n 0, 1) := by decide +kernel
theorem dX11_tests_45 : decode cX11_tests 45 = .ok (.getfield 96, 3) := by decide +kernel
theorem dX11_tests_48 : decode cX11_tests 48 = .ok (.iload_n 1, 1) := by decide +kernel
theorem dX11_tests_49 : decode cX11_tests 49 = .ok (.iaload, 1) := by decide +kernel
theorem dX11_tests_50 : decode cX11_tests 50 = .ok (.bipush 25, 2) := by decide +kernel
theorem dX11_tests_52 : decode cX11_tests 52 = .ok (.if_icmp .ne 24, 3) := by decide +kernel
theorem dX11_tests_55 : decode cX11_tests 55 = .ok (.aload_n 0, 1) := by decide +kernel
theorem dX11_tests_56 : decode cX11_tests 56 = .ok (.getfield 93, 3) := by decide +kernel
theorem dX11_tests_59 : decode cX11_tests 59 = .ok (.iload_n 1, 1) := by decide +kernel
theorem dX11_tests_60 : decode cX11_tests 60 = .ok (.iaload, 1) := by decide +kernel
theorem dX11_tests_61 : decode cX11_tests 61 = .ok (.aload_n 0, 1) := by decide +kernel
theorem dX11_tests_62 : decode cX11_tests 62 = .ok (.getfield 99, 3) := by decide +kernel
theorem dX11_tests_65 : decode cX11_tests 65 = .ok (.iload_n 1, 1) := by decide +kernel
theorem dX11_tests_66 : decode cX11_tests 66 = .ok (.iaload, 1) := by decide +kernel
theorem dX11_tests_67 : decode cX11_tests 67 = .ok (.if_icmp .ne 7, 3) := by decide +kernel
theorem dX11_tests_70 : decode cX11_tests 70 = .ok (.iconst 1, 1) := by decide +kernel
