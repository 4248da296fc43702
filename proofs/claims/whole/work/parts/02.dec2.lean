theorem dX11_tests_71 : decode cX11_tests 71 = .ok (.goto 4, 3) := by decide +kernel
theorem dX11_tests_74 : decode cX11_tests 74 = .ok (.iconst 0, 1) := by decide +kernel
theorem dX11_tests_75 : decode cX11_tests 75 = .ok (.istore_n 2, 1) := by decide +kernel
theorem dX11_tests_76 : decode cX11_tests 76 = .ok (.aload_n 0, 1) := by decide +kernel
theorem dX11_tests_77 : decode cX11_tests 77 = .ok (.getfield 90, 3) := by decide +kernel
theorem dX11_tests_80 : decode cX11_tests 80 = .ok (.iload_n 1, 1) := by decide +kernel
theorem dX11_tests_81 : decode cX11_tests 81 = .ok (.iaload, 1) := by decide +kernel
theorem dX11_tests_82 : decode cX11_tests 82 = .ok (.bipush 26, 2) := by decide +kernel
theorem dX11_tests_84 : decode cX11_tests 84 = .ok (.if_icmp .ne 22, 3) := by decide +kernel
theorem dX11_tests_87 : decode cX11_tests 87 = .ok (.aload_n 0, 1) := by decide +kernel
theorem dX11_tests_88 : decode cX11_tests 88 = .ok (.getfield 87, 3) := by decide +kernel
theorem dX11_tests_91 : decode cX11_tests 91 = .ok (.iload_n 1, 1) := by decide +kernel
theorem dX11_tests_92 : decode cX11_tests 92 = .ok (.iaload, 1) := by decide +kernel
theorem dX11_tests_93 : decode cX11_tests 93 = .ok (.ifCond .eq 11, 3) := by decide +kernel
theorem dX11_tests_96 : decode cX11_tests 96 = .ok (.iload_n 2, 1) := by decide +kernel
theorem dX11_tests_97 : decode cX11_tests 97 = .ok (.ifCond .eq 7, 3) := by decide +kernel
theorem dX11_tests_100 : decode cX11_tests 100 = .ok (.iconst 1, 1) := by decide +kernel
theorem dX11_tests_101 : decode cX11_tests 101 = .ok (.goto 4, 3) := by decide +kernel
theorem dX11_tests_104 : decode cX11_tests 104 = .ok (.iconst 0, 1) := by decide +kernel
theorem dX11_tests_105 : decode cX11_tests 105 = .ok (.istore_n 2, 1) := by decide +kernel
theorem dX11_tests_106 : decode cX11_tests 106 = .ok (.aload_n 0, 1) := by decide +kernel
theorem dX11_tests_107 : decode cX11_tests 107 = .ok (.getfield 90, 3) := by decide +kernel
theorem dX11_tests_110 : decode cX11_tests 110 = .ok (.iload_n 1, 1) := by decide +kernel
theorem dX11_tests_111 : decode cX11_tests 111 = .ok (.iaload, 1) := by decide +kernel
theorem dX11_tests_112 : decode cX11_tests 112 = .ok (.bipush 27, 2) := by decide +kernel
theorem dX11_tests_114 : decode cX11_tests 114 = .ok (.if_icmp .ne 22, 3) := by decide +kernel
theorem dX11_tests_117 : decode cX11_tests 117 = .ok (.aload_n 0, 1) := by decide +kernel
theorem dX11_tests_118 : decode cX11_tests 118 = .ok (.getfield 87, 3) := by decide +kernel
theorem dX11_tests_121 : decode cX11_tests 121 = .ok (.iload_n 1, 1) := by decide +kernel
theorem dX11_tests_122 : decode cX11_tests 122 = .ok (.iaload, 1) := by decide +kernel
theorem dX11_tests_123 : decode cX11_tests 123 = .ok (.ifCond .ne 7, 3) := by decide +kernel
theorem dX11_tests_126 : decode cX11_tests 126 = .ok (.iload_n 2, 1) := by decide +kernel
theorem dX11_tests_127 : decode cX11_tests 127 = .ok (.ifCond .eq 7, 3) := by decide +kernel
theorem dX11_tests_130 : decode cX11_tests 130 = .ok (.iconst 1, 1) := by decide +kernel
theorem dX11_tests_131 : decode cX11_tests 131 = .ok (.goto 4, 3) := by decide +kernel
theorem dX11_tests_134 : decode cX11_tests 134 = .ok (.iconst 0, 1) := by decide +kernel
theorem dX11_tests_135 : decode cX11_tests 135 = .ok (.istore_n 2, 1) := by decide +kernel
theorem dX11_tests_136 : decode cX11_tests 136 = .ok (.aload_n 0, 1) := by decide +kernel
theorem dX11_tests_137 : decode cX11_tests 137 = .ok (.getfield 87, 3) := by decide +kernel
theorem dX11_tests_140 : decode cX11_tests 140 = .ok (.iload_n 1, 1) := by decide +kernel
theorem dX11_tests_141 : decode cX11_tests 141 = .ok (.iload_n 2, 1) := by decide +kernel
theorem dX11_tests_142 : decode cX11_tests 142 = .ok (.iastore, 1) := by decide +kernel
theorem dX11_tests_143 : decode cX11_tests 143 = .ok (.aload_n 0, 1) := by decide +kernel
theorem dX11_tests_144 : decode cX11_tests 144 = .ok (.getfield 96, 3) := by decide +kernel
theorem dX11_tests_147 : decode cX11_tests 147 = .ok (.iload_n 1, 1) := by decide +kernel
theorem dX11_tests_148 : decode cX11_tests 148 = .ok (.iconst 0, 1) := by decide +kernel
theorem dX11_tests_149 : decode cX11_tests 149 = .ok (.iastore, 1) := by decide +kernel
theorem dX11_tests_150 : decode cX11_tests 150 = .ok (.aload_n 0, 1) := by decide +kernel
theorem dX11_tests_151 : decode cX11_tests 151 = .ok (.getfield 99, 3) := by decide +kernel
theorem dX11_tests_154 : decode cX11_tests 154 = .ok (.iload_n 1, 1) := by decide +kernel
theorem dX11_tests_155 : decode cX11_tests 155 = .ok (.iconst 0, 1) := by decide +kernel
theorem dX11_tests_156 : decode cX11_tests 156 = .ok (.iastore, 1) := by decide +kernel
theorem dX11_tests_157 : decode cX11_tests 157 = .ok (.aload_n 0, 1) := by decide +kernel
theorem dX11_tests_158 : decode cX11_tests 158 = .ok (.getfield 102, 3) := by decide +kernel
theorem dX11_tests_161 : decode cX11_tests 161 = .ok (.iload_n 1, 1) := by decide +kernel
theorem dX11_tests_162 : decode cX11_tests 162 = .ok (.bipush 20, 2) := by decide +kernel
theorem dX11_tests_164 : decode cX11_tests 164 = .ok (.iastore, 1) := by decide +kernel
theorem dX11_tests_165 : decode cX11_tests 165 = .ok (.return_, 1) := by decide +kernel
theorem dX11_worked_0 : decode cX11_worked 0 = .ok (.iconst 0, 1) := by decide +kernel
theorem dX11_worked_1 : decode cX11_worked 1 = .ok (.istore_n 2, 1) := by decide +kernel
theorem dX11_worked_2 : decode cX11_worked 2 = .ok (.aload_n 0, 1) := by decide +kernel
theorem dX11_worked_3 : decode cX11_worked 3 = .ok (.iconst 0, 1) := by decide +kernel
theorem dX11_worked_4 : decode cX11_worked 4 = .ok (.invokevirtual 215, 3) := by decide +kernel
theorem dX11_worked_7 : decode cX11_worked 7 = .ok (.aload_n 0, 1) := by decide +kernel
theorem dX11_worked_8 : decode cX11_worked 8 = .ok (.getfield 71, 3) := by decide +kernel
theorem dX11_worked_11 : decode cX11_worked 11 = .ok (.iload_n 1, 1) := by decide +kernel
theorem dX11_worked_12 : decode cX11_worked 12 = .ok (.iaload, 1) := by decide +kernel
theorem dX11_worked_13 : decode cX11_worked 13 = .ok (.istore_n 3, 1) := by decide +kernel
theorem dX11_worked_14 : decode cX11_worked 14 = .ok (.iload_n 3, 1) := by decide +kernel
theorem dX11_worked_15 : decode cX11_worked 15 = .ok (.aload_n 0, 1) := by decide +kernel
theorem dX11_worked_16 : decode cX11_worked 16 = .ok (.getfield 74, 3) := by decide +kernel
theorem dX11_worked_19 : decode cX11_worked 19 = .ok (.iload_n 1, 1) := by decide +kernel
theorem dX11_worked_20 : decode cX11_worked 20 = .ok (.iaload, 1) := by decide +kernel
theorem dX11_worked_21 : decode cX11_worked 21 = .ok (.if_icmp .ge 314, 3) := by decide +kernel
theorem dX11_worked_24 : decode cX11_worked 24 = .ok (.aload_n 0, 1) := by decide +kernel
theorem dX11_worked_25 : decode cX11_worked 25 = .ok (.getfield 77, 3) := by decide +kernel
theorem dX11_worked_28 : decode cX11_worked 28 = .ok (.iload_n 3, 1) := by decide +kernel
theorem dX11_worked_29 : decode cX11_worked 29 = .ok (.iaload, 1) := by decide +kernel
theorem dX11_worked_30 : decode cX11_worked 30 = .ok (.istore 4, 2) := by decide +kernel
theorem dX11_worked_32 : decode cX11_worked 32 = .ok (.iload 4, 2) := by decide +kernel
theorem dX11_worked_34 : decode cX11_worked 34 = .ok (.bipush 28, 2) := by decide +kernel
theorem dX11_worked_36 : decode cX11_worked 36 = .ok (.if_icmp .eq 10, 3) := by decide +kernel
theorem dX11_worked_39 : decode cX11_worked 39 = .ok (.iload 4, 2) := by decide +kernel
theorem dX11_worked_41 : decode cX11_worked 41 = .ok (.bipush 30, 2) := by decide +kernel
theorem dX11_worked_43 : decode cX11_worked 43 = .ok (.if_icmp .ne 32, 3) := by decide +kernel
theorem dX11_worked_46 : decode cX11_worked 46 = .ok (.iinc 2 1, 3) := by decide +kernel
theorem dX11_worked_49 : decode cX11_worked 49 = .ok (.aload_n 0, 1) := by decide +kernel
theorem dX11_worked_50 : decode cX11_worked 50 = .ok (.getfield 111, 3) := by decide +kernel
theorem dX11_worked_53 : decode cX11_worked 53 = .ok (.iload_n 2, 1) := by decide +kernel
theorem dX11_worked_54 : decode cX11_worked 54 = .ok (.iload 4, 2) := by decide +kernel
theorem dX11_worked_56 : decode cX11_worked 56 = .ok (.bipush 30, 2) := by decide +kernel
theorem dX11_worked_58 : decode cX11_worked 58 = .ok (.if_icmp .ne 7, 3) := by decide +kernel
theorem dX11_worked_61 : decode cX11_worked 61 = .ok (.iconst 1, 1) := by decide +kernel
theorem dX11_worked_62 : decode cX11_worked 62 = .ok (.goto 4, 3) := by decide +kernel
theorem dX11_worked_65 : decode cX11_worked 65 = .ok (.iconst 0, 1) := by decide +kernel
theorem dX11_worked_66 : decode cX11_worked 66 = .ok (.iastore, 1) := by decide +kernel
theorem dX11_worked_67 : decode cX11_worked 67 = .ok (.aload_n 0, 1) := by decide +kernel
theorem dX11_worked_68 : decode cX11_worked 68 = .ok (.iload_n 2, 1) := by decide +kernel
theorem dX11_worked_69 : decode cX11_worked 69 = .ok (.invokevirtual 215, 3) := by decide +kernel
theorem dX11_worked_72 : decode cX11_worked 72 = .ok (.goto 257, 3) := by decide +kernel
theorem dX11_worked_75 : decode cX11_worked 75 = .ok (.iload 4, 2) := by decide +kernel
theorem dX11_worked_77 : decode cX11_worked 77 = .ok (.bipush 20, 2) := by decide +kernel
theorem dX11_worked_79 : decode cX11_worked 79 = .ok (.if_icmp .eq 10, 3) := by decide +kernel
theorem dX11_worked_82 : decode cX11_worked 82 = .ok (.iload 4, 2) := by decide +kernel
theorem dX11_worked_84 : decode cX11_worked 84 = .ok (.bipush 21, 2) := by decide +kernel
theorem dX11_worked_86 : decode cX11_worked 86 = .ok (.if_icmp .ne 19, 3) := by decide +kernel
theorem dX11_worked_89 : decode cX11_worked 89 = .ok (.aload_n 0, 1) := by decide +kernel
theorem dX11_worked_90 : decode cX11_worked 90 = .ok (.iload_n 2, 1) := by decide +kernel
theorem dX11_worked_91 : decode cX11_worked 91 = .ok (.invokevirtual 212, 3) := by decide +kernel
theorem dX11_worked_94 : decode cX11_worked 94 = .ok (.aload_n 0, 1) := by decide +kernel
theorem dX11_worked_95 : decode cX11_worked 95 = .ok (.getfield 102, 3) := by decide +kernel
theorem dX11_worked_98 : decode cX11_worked 98 = .ok (.iload_n 2, 1) := by decide +kernel
theorem dX11_worked_99 : decode cX11_worked 99 = .ok (.iload 4, 2) := by decide +kernel
theorem dX11_worked_101 : decode cX11_worked 101 = .ok (.iastore, 1) := by decide +kernel
theorem dX11_worked_102 : decode cX11_worked 102 = .ok (.goto 227, 3) := by decide +kernel
theorem dX11_worked_105 : decode cX11_worked 105 = .ok (.iload 4, 2) := by decide +kernel
theorem dX11_worked_107 : decode cX11_worked 107 = .ok (.bipush 22, 2) := by decide +kernel
theorem dX11_worked_109 : decode cX11_worked 109 = .ok (.if_icmp .ne 14, 3) := by decide +kernel
theorem dX11_worked_112 : decode cX11_worked 112 = .ok (.aload_n 0, 1) := by decide +kernel
theorem dX11_worked_113 : decode cX11_worked 113 = .ok (.getfield 108, 3) := by decide +kernel
theorem dX11_worked_116 : decode cX11_worked 116 = .ok (.iload_n 2, 1) := by decide +kernel
theorem dX11_worked_117 : decode cX11_worked 117 = .ok (.iload 4, 2) := by decide +kernel
theorem dX11_worked_119 : decode cX11_worked 119 = .ok (.iastore, 1) := by decide +kernel
theorem dX11_worked_120 : decode cX11_worked 120 = .ok (.goto 209, 3) := by decide +kernel
theorem dX11_worked_123 : decode cX11_worked 123 = .ok (.iload 4, 2) := by decide +kernel
theorem dX11_worked_125 : decode cX11_worked 125 = .ok (.bipush 24, 2) := by decide +kernel
theorem dX11_worked_127 : decode cX11_worked 127 = .ok (.if_icmp .eq 10, 3) := by decide +kernel
theorem dX11_worked_130 : decode cX11_worked 130 = .ok (.iload 4, 2) := by decide +kernel
theorem dX11_worked_132 : decode cX11_worked 132 = .ok (.bipush 25, 2) := by decide +kernel
theorem dX11_worked_134 : decode cX11_worked 134 = .ok (.if_icmp .ne 46, 3) := by decide +kernel
theorem dX11_worked_137 : decode cX11_worked 137 = .ok (.aload_n 0, 1) := by decide +kernel
theorem dX11_worked_138 : decode cX11_worked 138 = .ok (.iload_n 2, 1) := by decide +kernel
theorem dX11_worked_139 : decode cX11_worked 139 = .ok (.invokevirtual 212, 3) := by decide +kernel
theorem dX11_worked_142 : decode cX11_worked 142 = .ok (.aload_n 0, 1) := by decide +kernel
theorem dX11_worked_143 : decode cX11_worked 143 = .ok (.getfield 93, 3) := by decide +kernel
theorem dX11_worked_146 : decode cX11_worked 146 = .ok (.iload_n 2, 1) := by decide +kernel
theorem dX11_worked_147 : decode cX11_worked 147 = .ok (.aload_n 0, 1) := by decide +kernel
theorem dX11_worked_148 : decode cX11_worked 148 = .ok (.getfield 99, 3) := by decide +kernel
theorem dX11_worked_151 : decode cX11_worked 151 = .ok (.iload_n 2, 1) := by decide +kernel
theorem dX11_worked_152 : decode cX11_worked 152 = .ok (.iaload, 1) := by decide +kernel
theorem dX11_worked_153 : decode cX11_worked 153 = .ok (.iastore, 1) := by decide +kernel
theorem dX11_worked_154 : decode cX11_worked 154 = .ok (.aload_n 0, 1) := by decide +kernel
theorem dX11_worked_155 : decode cX11_worked 155 = .ok (.getfield 96, 3) := by decide +kernel
theorem dX11_worked_158 : decode cX11_worked 158 = .ok (.iload_n 2, 1) := by decide +kernel
theorem dX11_worked_159 : decode cX11_worked 159 = .ok (.iload 4, 2) := by decide +kernel
theorem dX11_worked_161 : decode cX11_worked 161 = .ok (.iastore, 1) := by decide +kernel
theorem dX11_worked_162 : decode cX11_worked 162 = .ok (.aload_n 0, 1) := by decide +kernel
theorem dX11_worked_163 : decode cX11_worked 163 = .ok (.getfield 99, 3) := by decide +kernel
theorem dX11_worked_166 : decode cX11_worked 166 = .ok (.iload_n 2, 1) := by decide +kernel
theorem dX11_worked_167 : decode cX11_worked 167 = .ok (.iconst 0, 1) := by decide +kernel
theorem dX11_worked_168 : decode cX11_worked 168 = .ok (.iastore, 1) := by decide +kernel
theorem dX11_worked_169 : decode cX11_worked 169 = .ok (.aload_n 0, 1) := by decide +kernel
theorem dX11_worked_170 : decode cX11_worked 170 = .ok (.getfield 102, 3) := by decide +kernel
theorem dX11_worked_173 : decode cX11_worked 173 = .ok (.iload_n 2, 1) := by decide +kernel
theorem dX11_worked_174 : decode cX11_worked 174 = .ok (.bipush 20, 2) := by decide +kernel
theorem dX11_worked_176 : decode cX11_worked 176 = .ok (.iastore, 1) := by decide +kernel
theorem dX11_worked_177 : decode cX11_worked 177 = .ok (.goto 152, 3) := by decide +kernel
theorem dX11_worked_180 : decode cX11_worked 180 = .ok (.iload 4, 2) := by decide +kernel
theorem dX11_worked_182 : decode cX11_worked 182 = .ok (.bipush 26, 2) := by decide +kernel
theorem dX11_worked_184 : decode cX11_worked 184 = .ok (.if_icmp .eq 10, 3) := by decide +kernel
theorem dX11_worked_187 : decode cX11_worked 187 = .ok (.iload 4, 2) := by decide +kernel
theorem dX11_worked_189 : decode cX11_worked 189 = .ok (.bipush 27, 2) := by decide +kernel
theorem dX11_worked_191 : decode cX11_worked 191 = .ok (.if_icmp .ne 19, 3) := by decide +kernel
theorem dX11_worked_194 : decode cX11_worked 194 = .ok (.aload_n 0, 1) := by decide +kernel
theorem dX11_worked_195 : decode cX11_worked 195 = .ok (.iload_n 2, 1) := by decide +kernel
theorem dX11_worked_196 : decode cX11_worked 196 = .ok (.invokevirtual 218, 3) := by decide +kernel
theorem dX11_worked_199 : decode cX11_worked 199 = .ok (.aload_n 0, 1) := by decide +kernel
theorem dX11_worked_200 : decode cX11_worked 200 = .ok (.getfield 90, 3) := by decide +kernel
theorem dX11_worked_203 : decode cX11_worked 203 = .ok (.iload_n 2, 1) := by decide +kernel
theorem dX11_worked_204 : decode cX11_worked 204 = .ok (.iload 4, 2) := by decide +kernel
theorem dX11_worked_206 : decode cX11_worked 206 = .ok (.iastore, 1) := by decide +kernel
theorem dX11_worked_207 : decode cX11_worked 207 = .ok (.goto 122, 3) := by decide +kernel
theorem dX11_worked_210 : decode cX11_worked 210 = .ok (.iload 4, 2) := by decide +kernel
theorem dX11_worked_212 : decode cX11_worked 212 = .ok (.bipush 100, 2) := by decide +kernel
theorem dX11_worked_214 : decode cX11_worked 214 = .ok (.if_icmp .lt 11, 3) := by decide +kernel
theorem dX11_worked_217 : decode cX11_worked 217 = .ok (.iload 4, 2) := by decide +kernel
theorem dX11_worked_219 : decode cX11_worked 219 = .ok (.bipush 100, 2) := by decide +kernel
theorem dX11_worked_221 : decode cX11_worked 221 = .ok (.isub, 1) := by decide +kernel
theorem dX11_worked_222 : decode cX11_worked 222 = .ok (.goto 21, 3) := by decide +kernel
theorem dX11_worked_225 : decode cX11_worked 225 = .ok (.iload 4, 2) := by decide +kernel
theorem dX11_worked_227 : decode cX11_worked 227 = .ok (.bipush 20, 2) := by decide +kernel
theorem dX11_worked_229 : decode cX11_worked 229 = .ok (.if_icmp .ge 13, 3) := by decide +kernel
theorem dX11_worked_232 : decode cX11_worked 232 = .ok (.aload_n 0, 1) := by decide +kernel
theorem dX11_worked_233 : decode cX11_worked 233 = .ok (.getfield 114, 3) := by decide +kernel
theorem dX11_worked_236 : decode cX11_worked 236 = .ok (.iload 4, 2) := by decide +kernel
theorem dX11_worked_238 : decode cX11_worked 238 = .ok (.iaload, 1) := by decide +kernel
theorem dX11_worked_239 : decode cX11_worked 239 = .ok (.goto 4, 3) := by decide +kernel
theorem dX11_worked_242 : decode cX11_worked 242 = .ok (.iconst 0, 1) := by decide +kernel
theorem dX11_worked_243 : decode cX11_worked 243 = .ok (.istore 5, 2) := by decide +kernel
theorem dX11_worked_245 : decode cX11_worked 245 = .ok (.iload 4, 2) := by decide +kernel
theorem dX11_worked_247 : decode cX11_worked 247 = .ok (.bipush 29, 2) := by decide +kernel
theorem dX11_worked_249 : decode cX11_worked 249 = .ok (.if_icmp .ne 19, 3) := by decide +kernel
theorem dX11_worked_252 : decode cX11_worked 252 = .ok (.aload_n 0, 1) := by decide +kernel
theorem dX11_worked_253 : decode cX11_worked 253 = .ok (.iload_n 2, 1) := by decide +kernel
theorem dX11_worked_254 : decode cX11_worked 254 = .ok (.invokevirtual 218, 3) := by decide +kernel
theorem dX11_worked_257 : decode cX11_worked 257 = .ok (.aload_n 0, 1) := by decide +kernel
theorem dX11_worked_258 : decode cX11_worked 258 = .ok (.getfield 87, 3) := by decide +kernel
theorem dX11_worked_261 : decode cX11_worked 261 = .ok (.iload_n 2, 1) := by decide +kernel
theorem dX11_worked_262 : decode cX11_worked 262 = .ok (.iaload, 1) := by decide +kernel
theorem dX11_worked_263 : decode cX11_worked 263 = .ok (.istore 5, 2) := by decide +kernel
theorem dX11_worked_265 : decode cX11_worked 265 = .ok (.iinc 2 (-1), 3) := by decide +kernel
theorem dX11_worked_268 : decode cX11_worked 268 = .ok (.iload_n 2, 1) := by decide +kernel
theorem dX11_worked_269 : decode cX11_worked 269 = .ok (.ifCond .le 31, 3) := by decide +kernel
theorem dX11_worked_272 : decode cX11_worked 272 = .ok (.aload_n 0, 1) := by decide +kernel
theorem dX11_worked_273 : decode cX11_worked 273 = .ok (.getfield 111, 3) := by decide +kernel
theorem dX11_worked_276 : decode cX11_worked 276 = .ok (.iload_n 2, 1) := by decide +kernel
theorem dX11_worked_277 : decode cX11_worked 277 = .ok (.iaload, 1) := by decide +kernel
theorem dX11_worked_278 : decode cX11_worked 278 = .ok (.iconst 1, 1) := by decide +kernel
theorem dX11_worked_279 : decode cX11_worked 279 = .ok (.if_icmp .ne 21, 3) := by decide +kernel
theorem dX11_worked_282 : decode cX11_worked 282 = .ok (.iload 5, 2) := by decide +kernel
theorem dX11_worked_284 : decode cX11_worked 284 = .ok (.ifCond .ne 7, 3) := by decide +kernel
theorem dX11_worked_287 : decode cX11_worked 287 = .ok (.iconst 1, 1) := by decide +kernel
theorem dX11_worked_288 : decode cX11_worked 288 = .ok (.goto 4, 3) := by decide +kernel
theorem dX11_worked_291 : decode cX11_worked 291 = .ok (.iconst 0, 1) := by decide +kernel
theorem dX11_worked_292 : decode cX11_worked 292 = .ok (.istore 5, 2) := by decide +kernel
theorem dX11_worked_294 : decode cX11_worked 294 = .ok (.iinc 2 (-1), 3) := by decide +kernel
theorem dX11_worked_297 : decode cX11_worked 297 = .ok (.goto (-29), 3) := by decide +kernel
theorem dX11_worked_300 : decode cX11_worked 300 = .ok (.aload_n 0, 1) := by decide +kernel
theorem dX11_worked_301 : decode cX11_worked 301 = .ok (.getfield 105, 3) := by decide +kernel
theorem dX11_worked_304 : decode cX11_worked 304 = .ok (.iload_n 2, 1) := by decide +kernel
theorem dX11_worked_305 : decode cX11_worked 305 = .ok (.aload_n 0, 1) := by decide +kernel
theorem dX11_worked_306 : decode cX11_worked 306 = .ok (.getfield 108, 3) := by decide +kernel
theorem dX11_worked_309 : decode cX11_worked 309 = .ok (.iload_n 2, 1) := by decide +kernel
theorem dX11_worked_310 : decode cX11_worked 310 = .ok (.iaload, 1) := by decide +kernel
theorem dX11_worked_311 : decode cX11_worked 311 = .ok (.ifCond .ne 8, 3) := by decide +kernel
theorem dX11_worked_314 : decode cX11_worked 314 = .ok (.iload 5, 2) := by decide +kernel
theorem dX11_worked_316 : decode cX11_worked 316 = .ok (.goto 12, 3) := by decide +kernel
theorem dX11_worked_319 : decode cX11_worked 319 = .ok (.aload_n 0, 1) := by decide +kernel
theorem dX11_worked_320 : decode cX11_worked 320 = .ok (.getfield 105, 3) := by decide +kernel
theorem dX11_worked_323 : decode cX11_worked 323 = .ok (.iload_n 2, 1) := by decide +kernel
theorem dX11_worked_324 : decode cX11_worked 324 = .ok (.iaload, 1) := by decide +kernel
theorem dX11_worked_325 : decode cX11_worked 325 = .ok (.iload 5, 2) := by decide +kernel
theorem dX11_worked_327 : decode cX11_worked 327 = .ok (.imul, 1) := by decide +kernel
theorem dX11_worked_328 : decode cX11_worked 328 = .ok (.iastore, 1) := by decide +kernel
theorem dX11_worked_329 : decode cX11_worked 329 = .ok (.iinc 3 1, 3) := by decide +kernel
theorem dX11_worked_332 : decode cX11_worked 332 = .ok (.goto (-318), 3) := by decide +kernel
theorem dX11_worked_335 : decode cX11_worked 335 = .ok (.aload_n 0, 1) := by decide +kernel
theorem dX11_worked_336 : decode cX11_worked 336 = .ok (.iconst 0, 1) := by decide +kernel
theorem dX11_worked_337 : decode cX11_worked 337 = .ok (.invokevirtual 218, 3) := by decide +kernel
theorem dX11_worked_340 : decode cX11_worked 340 = .ok (.aload_n 0, 1) := by decide +kernel
theorem dX11_worked_341 : decode cX11_worked 341 = .ok (.getfield 87, 3) := by decide +kernel
theorem dX11_worked_344 : decode cX11_worked 344 = .ok (.iconst 0, 1) := by decide +kernel
theorem dX11_worked_345 : decode cX11_worked 345 = .ok (.iaload, 1) := by decide +kernel
theorem dX11_worked_346 : decode cX11_worked 346 = .ok (.ireturn, 1) := by decide +kernel
theorem dX11_isKept_0 : decode cX11_isKept 0 = .ok (.aload_n 0, 1) := by decide +kernel
theorem dX11_isKept_1 : decode cX11_isKept 1 = .ok (.getfield 157, 3) := by decide +kernel
theorem dX11_isKept_4 : decode cX11_isKept 4 = .ok (.iconst 1, 1) := by decide +kernel
theorem dX11_isKept_5 : decode cX11_isKept 5 = .ok (.if_icmp .eq 5, 3) := by decide +kernel
theorem dX11_isKept_8 : decode cX11_isKept 8 = .ok (.iconst 1, 1) := by decide +kernel
theorem dX11_isKept_9 : decode cX11_isKept 9 = .ok (.ireturn, 1) := by decide +kernel
theorem dX11_isKept_10 : decode cX11_isKept 10 = .ok (.aload_n 0, 1) := by decide +kernel
theorem dX11_isKept_11 : decode cX11_isKept 11 = .ok (.getfield 150, 3) := by decide +kernel
theorem dX11_isKept_14 : decode cX11_isKept 14 = .ok (.ldc2_w 221, 3) := by decide +kernel
theorem dX11_isKept_17 : decode cX11_isKept 17 = .ok (.lcmp, 1) := by decide +kernel
theorem dX11_isKept_18 : decode cX11_isKept 18 = .ok (.ifCond .eq 278, 3) := by decide +kernel
theorem dX11_isKept_21 : decode cX11_isKept 21 = .ok (.aload_n 0, 1) := by decide +kernel
theorem dX11_isKept_22 : decode cX11_isKept 22 = .ok (.getfield 150, 3) := by decide +kernel
theorem dX11_isKept_25 : decode cX11_isKept 25 = .ok (.ldc2_w 223, 3) := by decide +kernel
theorem dX11_isKept_28 : decode cX11_isKept 28 = .ok (.lcmp, 1) := by decide +kernel
theorem dX11_isKept_29 : decode cX11_isKept 29 = .ok (.ifCond .eq 267, 3) := by decide +kernel
theorem dX11_isKept_32 : decode cX11_isKept 32 = .ok (.aload_n 0, 1) := by decide +kernel
theorem dX11_isKept_33 : decode cX11_isKept 33 = .ok (.getfield 150, 3) := by decide +kernel
theorem dX11_isKept_36 : decode cX11_isKept 36 = .ok (.ldc2_w 182, 3) := by decide +kernel
theorem dX11_isKept_39 : decode cX11_isKept 39 = .ok (.lcmp, 1) := by decide +kernel
theorem dX11_isKept_40 : decode cX11_isKept 40 = .ok (.ifCond .eq 256, 3) := by decide +kernel
theorem dX11_isKept_43 : decode cX11_isKept 43 = .ok (.aload_n 0, 1) := by decide +kernel
theorem dX11_isKept_44 : decode cX11_isKept 44 = .ok (.getfield 150, 3) := by decide +kernel
theorem dX11_isKept_47 : decode cX11_isKept 47 = .ok (.ldc2_w 225, 3) := by decide +kernel
theorem dX11_isKept_50 : decode cX11_isKept 50 = .ok (.lcmp, 1) := by decide +kernel
theorem dX11_isKept_51 : decode cX11_isKept 51 = .ok (.ifCond .eq 245, 3) := by decide +kernel
theorem dX11_isKept_54 : decode cX11_isKept 54 = .ok (.aload_n 0, 1) := by decide +kernel
theorem dX11_isKept_55 : decode cX11_isKept 55 = .ok (.getfield 150, 3) := by decide +kernel
theorem dX11_isKept_58 : decode cX11_isKept 58 = .ok (.ldc2_w 227, 3) := by decide +kernel
theorem dX11_isKept_61 : decode cX11_isKept 61 = .ok (.lcmp, 1) := by decide +kernel
theorem dX11_isKept_62 : decode cX11_isKept 62 = .ok (.ifCond .eq 234, 3) := by decide +kernel
theorem dX11_isKept_65 : decode cX11_isKept 65 = .ok (.aload_n 0, 1) := by decide +kernel
theorem dX11_isKept_66 : decode cX11_isKept 66 = .ok (.getfield 150, 3) := by decide +kernel
theorem dX11_isKept_69 : decode cX11_isKept 69 = .ok (.ldc2_w 229, 3) := by decide +kernel
theorem dX11_isKept_72 : decode cX11_isKept 72 = .ok (.lcmp, 1) := by decide +kernel
theorem dX11_isKept_73 : decode cX11_isKept 73 = .ok (.ifCond .eq 223, 3) := by decide +kernel
theorem dX11_isKept_76 : decode cX11_isKept 76 = .ok (.aload_n 0, 1) := by decide +kernel
theorem dX11_isKept_77 : decode cX11_isKept 77 = .ok (.getfield 150, 3) := by decide +kernel
theorem dX11_isKept_80 : decode cX11_isKept 80 = .ok (.ldc2_w 231, 3) := by decide +kernel
theorem dX11_isKept_83 : decode cX11_isKept 83 = .ok (.lcmp, 1) := by decide +kernel
theorem dX11_isKept_84 : decode cX11_isKept 84 = .ok (.ifCond .eq 212, 3) := by decide +kernel
theorem dX11_isKept_87 : decode cX11_isKept 87 = .ok (.aload_n 0, 1) := by decide +kernel
theorem dX11_isKept_88 : decode cX11_isKept 88 = .ok (.getfield 150, 3) := by decide +kernel
theorem dX11_isKept_91 : decode cX11_isKept 91 = .ok (.ldc2_w 233, 3) := by decide +kernel
theorem dX11_isKept_94 : decode cX11_isKept 94 = .ok (.lcmp, 1) := by decide +kernel
theorem dX11_isKept_95 : decode cX11_isKept 95 = .ok (.ifCond .eq 201, 3) := by decide +kernel
theorem dX11_isKept_98 : decode cX11_isKept 98 = .ok (.aload_n 0, 1) := by decide +kernel
theorem dX11_isKept_99 : decode cX11_isKept 99 = .ok (.getfield 150, 3) := by decide +kernel
theorem dX11_isKept_102 : decode cX11_isKept 102 = .ok (.ldc2_w 235, 3) := by decide +kernel
theorem dX11_isKept_105 : decode cX11_isKept 105 = .ok (.lcmp, 1) := by decide +kernel
theorem dX11_isKept_106 : decode cX11_isKept 106 = .ok (.ifCond .eq 190, 3) := by decide +kernel
theorem dX11_isKept_109 : decode cX11_isKept 109 = .ok (.aload_n 0, 1) := by decide +kernel
theorem dX11_isKept_110 : decode cX11_isKept 110 = .ok (.getfield 150, 3) := by decide +kernel
theorem dX11_isKept_113 : decode cX11_isKept 113 = .ok (.ldc2_w 237, 3) := by decide +kernel
theorem dX11_isKept_116 : decode cX11_isKept 116 = .ok (.lcmp, 1) := by decide +kernel
theorem dX11_isKept_117 : decode cX11_isKept 117 = .ok (.ifCond .eq 179, 3) := by decide +kernel
theorem dX11_isKept_120 : decode cX11_isKept 120 = .ok (.aload_n 0, 1) := by decide +kernel
theorem dX11_isKept_121 : decode cX11_isKept 121 = .ok (.getfield 150, 3) := by decide +kernel
theorem dX11_isKept_124 : decode cX11_isKept 124 = .ok (.ldc2_w 239, 3) := by decide +kernel
theorem dX11_isKept_127 : decode cX11_isKept 127 = .ok (.lcmp, 1) := by decide +kernel
theorem dX11_isKept_128 : decode cX11_isKept 128 = .ok (.ifCond .eq 168, 3) := by decide +kernel
theorem dX11_isKept_131 : decode cX11_isKept 131 = .ok (.aload_n 0, 1) := by decide +kernel
theorem dX11_isKept_132 : decode cX11_isKept 132 = .ok (.getfield 150, 3) := by decide +kernel
theorem dX11_isKept_135 : decode cX11_isKept 135 = .ok (.ldc2_w 241, 3) := by decide +kernel
theorem dX11_isKept_138 : decode cX11_isKept 138 = .ok (.lcmp, 1) := by decide +kernel
theorem dX11_isKept_139 : decode cX11_isKept 139 = .ok (.ifCond .eq 157, 3) := by decide +kernel
theorem dX11_isKept_142 : decode cX11_isKept 142 = .ok (.aload_n 0, 1) := by decide +kernel
theorem dX11_isKept_143 : decode cX11_isKept 143 = .ok (.getfield 150, 3) := by decide +kernel
theorem dX11_isKept_146 : decode cX11_isKept 146 = .ok (.ldc2_w 243, 3) := by decide +kernel
theorem dX11_isKept_149 : decode cX11_isKept 149 = .ok (.lcmp, 1) := by decide +kernel
theorem dX11_isKept_150 : decode cX11_isKept 150 = .ok (.ifCond .eq 146, 3) := by decide +kernel
theorem dX11_isKept_153 : decode cX11_isKept 153 = .ok (.aload_n 0, 1) := by decide +kernel
theorem dX11_isKept_154 : decode cX11_isKept 154 = .ok (.getfield 150, 3) := by decide +kernel
theorem dX11_isKept_157 : decode cX11_isKept 157 = .ok (.ldc2_w 245, 3) := by decide +kernel
theorem dX11_isKept_160 : decode cX11_isKept 160 = .ok (.lcmp, 1) := by decide +kernel
theorem dX11_isKept_161 : decode cX11_isKept 161 = .ok (.ifCond .eq 135, 3) := by decide +kernel
theorem dX11_isKept_164 : decode cX11_isKept 164 = .ok (.aload_n 0, 1) := by decide +kernel
theorem dX11_isKept_165 : decode cX11_isKept 165 = .ok (.getfield 150, 3) := by decide +kernel
theorem dX11_isKept_168 : decode cX11_isKept 168 = .ok (.ldc2_w 247, 3) := by decide +kernel
theorem dX11_isKept_171 : decode cX11_isKept 171 = .ok (.lcmp, 1) := by decide +kernel
theorem dX11_isKept_172 : decode cX11_isKept 172 = .ok (.ifCond .eq 124, 3) := by decide +kernel
theorem dX11_isKept_175 : decode cX11_isKept 175 = .ok (.aload_n 0, 1) := by decide +kernel
theorem dX11_isKept_176 : decode cX11_isKept 176 = .ok (.getfield 150, 3) := by decide +kernel
theorem dX11_isKept_179 : decode cX11_isKept 179 = .ok (.ldc2_w 249, 3) := by decide +kernel
theorem dX11_isKept_182 : decode cX11_isKept 182 = .ok (.lcmp, 1) := by decide +kernel
theorem dX11_isKept_183 : decode cX11_isKept 183 = .ok (.ifCond .eq 113, 3) := by decide +kernel
theorem dX11_isKept_186 : decode cX11_isKept 186 = .ok (.aload_n 0, 1) := by decide +kernel
theorem dX11_isKept_187 : decode cX11_isKept 187 = .ok (.getfield 150, 3) := by decide +kernel
theorem dX11_isKept_190 : decode cX11_isKept 190 = .ok (.ldc2_w 251, 3) := by decide +kernel
theorem dX11_isKept_193 : decode cX11_isKept 193 = .ok (.lcmp, 1) := by decide +kernel
theorem dX11_isKept_194 : decode cX11_isKept 194 = .ok (.ifCond .eq 102, 3) := by decide +kernel
theorem dX11_isKept_197 : decode cX11_isKept 197 = .ok (.aload_n 0, 1) := by decide +kernel
theorem dX11_isKept_198 : decode cX11_isKept 198 = .ok (.getfield 150, 3) := by decide +kernel
theorem dX11_isKept_201 : decode cX11_isKept 201 = .ok (.ldc2_w 253, 3) := by decide +kernel
theorem dX11_isKept_204 : decode cX11_isKept 204 = .ok (.lcmp, 1) := by decide +kernel
theorem dX11_isKept_205 : decode cX11_isKept 205 = .ok (.ifCond .eq 91, 3) := by decide +kernel
theorem dX11_isKept_208 : decode cX11_isKept 208 = .ok (.aload_n 0, 1) := by decide +kernel
theorem dX11_isKept_209 : decode cX11_isKept 209 = .ok (.getfield 150, 3) := by decide +kernel
theorem dX11_isKept_212 : decode cX11_isKept 212 = .ok (.ldc2_w 255, 3) := by decide +kernel
theorem dX11_isKept_215 : decode cX11_isKept 215 = .ok (.lcmp, 1) := by decide +kernel
theorem dX11_isKept_216 : decode cX11_isKept 216 = .ok (.ifCond .eq 80, 3) := by decide +kernel
theorem dX11_isKept_219 : decode cX11_isKept 219 = .ok (.aload_n 0, 1) := by decide +kernel
theorem dX11_isKept_220 : decode cX11_isKept 220 = .ok (.getfield 150, 3) := by decide +kernel
theorem dX11_isKept_223 : decode cX11_isKept 223 = .ok (.ldc2_w 174, 3) := by decide +kernel
theorem dX11_isKept_226 : decode cX11_isKept 226 = .ok (.lcmp, 1) := by decide +kernel
theorem dX11_isKept_227 : decode cX11_isKept 227 = .ok (.ifCond .eq 69, 3) := by decide +kernel
theorem dX11_isKept_230 : decode cX11_isKept 230 = .ok (.aload_n 0, 1) := by decide +kernel
theorem dX11_isKept_231 : decode cX11_isKept 231 = .ok (.getfield 150, 3) := by decide +kernel
theorem dX11_isKept_234 : decode cX11_isKept 234 = .ok (.ldc2_w 176, 3) := by decide +kernel
theorem dX11_isKept_237 : decode cX11_isKept 237 = .ok (.lcmp, 1) := by decide +kernel
theorem dX11_isKept_238 : decode cX11_isKept 238 = .ok (.ifCond .eq 58, 3) := by decide +kernel
theorem dX11_isKept_241 : decode cX11_isKept 241 = .ok (.aload_n 0, 1) := by decide +kernel
theorem dX11_isKept_242 : decode cX11_isKept 242 = .ok (.getfield 150, 3) := by decide +kernel
theorem dX11_isKept_245 : decode cX11_isKept 245 = .ok (.ldc2_w 178, 3) := by decide +kernel
theorem dX11_isKept_248 : decode cX11_isKept 248 = .ok (.lcmp, 1) := by decide +kernel
theorem dX11_isKept_249 : decode cX11_isKept 249 = .ok (.ifCond .eq 47, 3) := by decide +kernel
theorem dX11_isKept_252 : decode cX11_isKept 252 = .ok (.aload_n 0, 1) := by decide +kernel
theorem dX11_isKept_253 : decode cX11_isKept 253 = .ok (.getfield 150, 3) := by decide +kernel
theorem dX11_isKept_256 : decode cX11_isKept 256 = .ok (.ldc2_w 180, 3) := by decide +kernel
theorem dX11_isKept_259 : decode cX11_isKept 259 = .ok (.lcmp, 1) := by decide +kernel
theorem dX11_isKept_260 : decode cX11_isKept 260 = .ok (.ifCond .eq 36, 3) := by decide +kernel
theorem dX11_isKept_263 : decode cX11_isKept 263 = .ok (.aload_n 0, 1) := by decide +kernel
theorem dX11_isKept_264 : decode cX11_isKept 264 = .ok (.getfield 150, 3) := by decide +kernel
theorem dX11_isKept_267 : decode cX11_isKept 267 = .ok (.ldc2_w 188, 3) := by decide +kernel
theorem dX11_isKept_270 : decode cX11_isKept 270 = .ok (.lcmp, 1) := by decide +kernel
theorem dX11_isKept_271 : decode cX11_isKept 271 = .ok (.ifCond .eq 25, 3) := by decide +kernel
theorem dX11_isKept_274 : decode cX11_isKept 274 = .ok (.aload_n 0, 1) := by decide +kernel
theorem dX11_isKept_275 : decode cX11_isKept 275 = .ok (.getfield 150, 3) := by decide +kernel
theorem dX11_isKept_278 : decode cX11_isKept 278 = .ok (.ldc2_w 208, 3) := by decide +kernel
theorem dX11_isKept_281 : decode cX11_isKept 281 = .ok (.lcmp, 1) := by decide +kernel
theorem dX11_isKept_282 : decode cX11_isKept 282 = .ok (.ifCond .eq 14, 3) := by decide +kernel
theorem dX11_isKept_285 : decode cX11_isKept 285 = .ok (.aload_n 0, 1) := by decide +kernel
theorem dX11_isKept_286 : decode cX11_isKept 286 = .ok (.getfield 150, 3) := by decide +kernel
theorem dX11_isKept_289 : decode cX11_isKept 289 = .ok (.ldc2_w 210, 3) := by decide +kernel
theorem dX11_isKept_292 : decode cX11_isKept 292 = .ok (.lcmp, 1) := by decide +kernel
theorem dX11_isKept_293 : decode cX11_isKept 293 = .ok (.ifCond .ne 7, 3) := by decide +kernel
theorem dX11_isKept_296 : decode cX11_isKept 296 = .ok (.iconst 1, 1) := by decide +kernel
theorem dX11_isKept_297 : decode cX11_isKept 297 = .ok (.goto 4, 3) := by decide +kernel
theorem dX11_isKept_300 : decode cX11_isKept 300 = .ok (.iconst 0, 1) := by decide +kernel
theorem dX11_isKept_301 : decode cX11_isKept 301 = .ok (.ireturn, 1) := by decide +kernel
theorem dX11_personNamed_0 : decode cX11_personNamed 0 = .ok (.iconst 0, 1) := by decide +kernel
theorem dX11_personNamed_1 : decode cX11_personNamed 1 = .ok (.istore_n 1, 1) := by decide +kernel
theorem dX11_personNamed_2 : decode cX11_personNamed 2 = .ok (.iload_n 1, 1) := by decide +kernel
theorem dX11_personNamed_3 : decode cX11_personNamed 3 = .ok (.aload_n 0, 1) := by decide +kernel
theorem dX11_personNamed_4 : decode cX11_personNamed 4 = .ok (.getfield 16, 3) := by decide +kernel
theorem dX11_personNamed_7 : decode cX11_personNamed 7 = .ok (.iconst 1, 1) := by decide +kernel
theorem dX11_personNamed_8 : decode cX11_personNamed 8 = .ok (.iaload, 1) := by decide +kernel
theorem dX11_personNamed_9 : decode cX11_personNamed 9 = .ok (.if_icmp .ge 25, 3) := by decide +kernel
theorem dX11_personNamed_12 : decode cX11_personNamed 12 = .ok (.aload_n 0, 1) := by decide +kernel
theorem dX11_personNamed_13 : decode cX11_personNamed 13 = .ok (.getfield 29, 3) := by decide +kernel
theorem dX11_personNamed_16 : decode cX11_personNamed 16 = .ok (.iload_n 1, 1) := by decide +kernel
theorem dX11_personNamed_17 : decode cX11_personNamed 17 = .ok (.laload, 1) := by decide +kernel
theorem dX11_personNamed_18 : decode cX11_personNamed 18 = .ok (.aload_n 0, 1) := by decide +kernel
theorem dX11_personNamed_19 : decode cX11_personNamed 19 = .ok (.getfield 150, 3) := by decide +kernel
theorem dX11_personNamed_22 : decode cX11_personNamed 22 = .ok (.lcmp, 1) := by decide +kernel
theorem dX11_personNamed_23 : decode cX11_personNamed 23 = .ok (.ifCond .ne 5, 3) := by decide +kernel
theorem dX11_personNamed_26 : decode cX11_personNamed 26 = .ok (.iload_n 1, 1) := by decide +kernel
theorem dX11_personNamed_27 : decode cX11_personNamed 27 = .ok (.ireturn, 1) := by decide +kernel
theorem dX11_personNamed_28 : decode cX11_personNamed 28 = .ok (.iinc 1 1, 3) := by decide +kernel
theorem dX11_personNamed_31 : decode cX11_personNamed 31 = .ok (.goto (-29), 3) := by decide +kernel
theorem dX11_personNamed_34 : decode cX11_personNamed 34 = .ok (.iconst (-1), 1) := by decide +kernel
theorem dX11_personNamed_35 : decode cX11_personNamed 35 = .ok (.ireturn, 1) := by decide +kernel
theorem dX11_hillNamed_0 : decode cX11_hillNamed 0 = .ok (.iconst 0, 1) := by decide +kernel
theorem dX11_hillNamed_1 : decode cX11_hillNamed 1 = .ok (.istore_n 1, 1) := by decide +kernel
theorem dX11_hillNamed_2 : decode cX11_hillNamed 2 = .ok (.iload_n 1, 1) := by decide +kernel
theorem dX11_hillNamed_3 : decode cX11_hillNamed 3 = .ok (.aload_n 0, 1) := by decide +kernel
theorem dX11_hillNamed_4 : decode cX11_hillNamed 4 = .ok (.getfield 13, 3) := by decide +kernel
theorem dX11_hillNamed_7 : decode cX11_hillNamed 7 = .ok (.iconst 1, 1) := by decide +kernel
theorem dX11_hillNamed_8 : decode cX11_hillNamed 8 = .ok (.iaload, 1) := by decide +kernel
theorem dX11_hillNamed_9 : decode cX11_hillNamed 9 = .ok (.if_icmp .ge 25, 3) := by decide +kernel
theorem dX11_hillNamed_12 : decode cX11_hillNamed 12 = .ok (.aload_n 0, 1) := by decide +kernel
theorem dX11_hillNamed_13 : decode cX11_hillNamed 13 = .ok (.getfield 25, 3) := by decide +kernel
theorem dX11_hillNamed_16 : decode cX11_hillNamed 16 = .ok (.iload_n 1, 1) := by decide +kernel
theorem dX11_hillNamed_17 : decode cX11_hillNamed 17 = .ok (.laload, 1) := by decide +kernel
theorem dX11_hillNamed_18 : decode cX11_hillNamed 18 = .ok (.aload_n 0, 1) := by decide +kernel
theorem dX11_hillNamed_19 : decode cX11_hillNamed 19 = .ok (.getfield 150, 3) := by decide +kernel
theorem dX11_hillNamed_22 : decode cX11_hillNamed 22 = .ok (.lcmp, 1) := by decide +kernel
theorem dX11_hillNamed_23 : decode cX11_hillNamed 23 = .ok (.ifCond .ne 5, 3) := by decide +kernel
theorem dX11_hillNamed_26 : decode cX11_hillNamed 26 = .ok (.iload_n 1, 1) := by decide +kernel
theorem dX11_hillNamed_27 : decode cX11_hillNamed 27 = .ok (.ireturn, 1) := by decide +kernel
theorem dX11_hillNamed_28 : decode cX11_hillNamed 28 = .ok (.iinc 1 1, 3) := by decide +kernel
theorem dX11_hillNamed_31 : decode cX11_hillNamed 31 = .ok (.goto (-29), 3) := by decide +kernel
theorem dX11_hillNamed_34 : decode cX11_hillNamed 34 = .ok (.iconst (-1), 1) := by decide +kernel
theorem dX11_hillNamed_35 : decode cX11_hillNamed 35 = .ok (.ireturn, 1) := by decide +kernel
theorem dX11_needsNumber_0 : decode cX11_needsNumber 0 = .ok (.aload_n 0, 1) := by decide +kernel
theorem dX11_needsNumber_1 : decode cX11_needsNumber 1 = .ok (.getfield 157, 3) := by decide +kernel
theorem dX11_needsNumber_4 : decode cX11_needsNumber 4 = .ok (.iconst 2, 1) := by decide +kernel
theorem dX11_needsNumber_5 : decode cX11_needsNumber 5 = .ok (.if_icmp .eq 9, 3) := by decide +kernel
theorem dX11_needsNumber_8 : decode cX11_needsNumber 8 = .ok (.aload_n 0, 1) := by decide +kernel
theorem dX11_needsNumber_9 : decode cX11_needsNumber 9 = .ok (.iconst 1, 1) := by decide +kernel
theorem dX11_needsNumber_10 : decode cX11_needsNumber 10 = .ok (.invokevirtual 198, 3) := by decide +kernel
theorem dX11_needsNumber_13 : decode cX11_needsNumber 13 = .ok (.ireturn, 1) := by decide +kernel
theorem dX11_needsNumber_14 : decode cX11_needsNumber 14 = .ok (.aload_n 0, 1) := by decide +kernel
theorem dX11_needsNumber_15 : decode cX11_needsNumber 15 = .ok (.getfield 154, 3) := by decide +kernel
theorem dX11_needsNumber_18 : decode cX11_needsNumber 18 = .ok (.iload_n 1, 1) := by decide +kernel
theorem dX11_needsNumber_19 : decode cX11_needsNumber 19 = .ok (.iload_n 2, 1) := by decide +kernel
theorem dX11_needsNumber_20 : decode cX11_needsNumber 20 = .ok (.invokestatic 257, 3) := by decide +kernel
theorem dX11_needsNumber_23 : decode cX11_needsNumber 23 = .ok (.ifCond .ne 9, 3) := by decide +kernel
theorem dX11_needsNumber_26 : decode cX11_needsNumber 26 = .ok (.aload_n 0, 1) := by decide +kernel
theorem dX11_needsNumber_27 : decode cX11_needsNumber 27 = .ok (.iconst 4, 1) := by decide +kernel
theorem dX11_needsNumber_28 : decode cX11_needsNumber 28 = .ok (.invokevirtual 198, 3) := by decide +kernel
theorem dX11_needsNumber_31 : decode cX11_needsNumber 31 = .ok (.ireturn, 1) := by decide +kernel
theorem dX11_needsNumber_32 : decode cX11_needsNumber 32 = .ok (.aload_n 0, 1) := by decide +kernel
theorem dX11_needsNumber_33 : decode cX11_needsNumber 33 = .ok (.aload_n 0, 1) := by decide +kernel
theorem dX11_needsNumber_34 : decode cX11_needsNumber 34 = .ok (.getfield 154, 3) := by decide +kernel
theorem dX11_needsNumber_37 : decode cX11_needsNumber 37 = .ok (.putfield 261, 3) := by decide +kernel
theorem dX11_needsNumber_40 : decode cX11_needsNumber 40 = .ok (.aload_n 0, 1) := by decide +kernel
theorem dX11_needsNumber_41 : decode cX11_needsNumber 41 = .ok (.invokevirtual 205, 3) := by decide +kernel
theorem dX11_needsNumber_44 : decode cX11_needsNumber 44 = .ok (.iconst 1, 1) := by decide +kernel
theorem dX11_needsNumber_45 : decode cX11_needsNumber 45 = .ok (.ireturn, 1) := by decide +kernel
theorem dX11_needsWord_0 : decode cX11_needsWord 0 = .ok (.aload_n 0, 1) := by decide +kernel
theorem dX11_needsWord_1 : decode cX11_needsWord 1 = .ok (.lload_n 1, 1) := by decide +kernel
theorem dX11_needsWord_2 : decode cX11_needsWord 2 = .ok (.invokevirtual 190, 3) := by decide +kernel
theorem dX11_needsWord_5 : decode cX11_needsWord 5 = .ok (.ifCond .ne 9, 3) := by decide +kernel
theorem dX11_needsWord_8 : decode cX11_needsWord 8 = .ok (.aload_n 0, 1) := by decide +kernel
theorem dX11_needsWord_9 : decode cX11_needsWord 9 = .ok (.iconst 1, 1) := by decide +kernel
theorem dX11_needsWord_10 : decode cX11_needsWord 10 = .ok (.invokevirtual 198, 3) := by decide +kernel
theorem dX11_needsWord_13 : decode cX11_needsWord 13 = .ok (.ireturn, 1) := by decide +kernel
theorem dX11_needsWord_14 : decode cX11_needsWord 14 = .ok (.aload_n 0, 1) := by decide +kernel
theorem dX11_needsWord_15 : decode cX11_needsWord 15 = .ok (.invokevirtual 205, 3) := by decide +kernel
theorem dX11_needsWord_18 : decode cX11_needsWord 18 = .ok (.iconst 1, 1) := by decide +kernel
theorem dX11_needsWord_19 : decode cX11_needsWord 19 = .ok (.ireturn, 1) := by decide +kernel
theorem dX11_ends_0 : decode cX11_ends 0 = .ok (.aload_n 0, 1) := by decide +kernel
theorem dX11_ends_1 : decode cX11_ends 1 = .ok (.bipush 59, 2) := by decide +kernel
theorem dX11_ends_3 : decode cX11_ends 3 = .ok (.invokevirtual 194, 3) := by decide +kernel
theorem dX11_ends_6 : decode cX11_ends 6 = .ok (.ifCond .ne 9, 3) := by decide +kernel
theorem dX11_ends_9 : decode cX11_ends 9 = .ok (.aload_n 0, 1) := by decide +kernel
theorem dX11_ends_10 : decode cX11_ends 10 = .ok (.iconst 1, 1) := by decide +kernel
theorem dX11_ends_11 : decode cX11_ends 11 = .ok (.invokevirtual 198, 3) := by decide +kernel
theorem dX11_ends_14 : decode cX11_ends 14 = .ok (.ireturn, 1) := by decide +kernel
theorem dX11_ends_15 : decode cX11_ends 15 = .ok (.aload_n 0, 1) := by decide +kernel
theorem dX11_ends_16 : decode cX11_ends 16 = .ok (.invokevirtual 205, 3) := by decide +kernel
theorem dX11_ends_19 : decode cX11_ends 19 = .ok (.iconst 1, 1) := by decide +kernel
theorem dX11_ends_20 : decode cX11_ends 20 = .ok (.ireturn, 1) := by decide +kernel
theorem dX11_isNew_0 : decode cX11_isNew 0 = .ok (.aload_n 0, 1) := by decide +kernel
theorem dX11_isNew_1 : decode cX11_isNew 1 = .ok (.invokevirtual 264, 3) := by decide +kernel
theorem dX11_isNew_4 : decode cX11_isNew 4 = .ok (.ifCond .eq 9, 3) := by decide +kernel
theorem dX11_isNew_7 : decode cX11_isNew 7 = .ok (.aload_n 0, 1) := by decide +kernel
theorem dX11_isNew_8 : decode cX11_isNew 8 = .ok (.iconst 1, 1) := by decide +kernel
theorem dX11_isNew_9 : decode cX11_isNew 9 = .ok (.invokevirtual 198, 3) := by decide +kernel
theorem dX11_isNew_12 : decode cX11_isNew 12 = .ok (.ireturn, 1) := by decide +kernel
theorem dX11_isNew_13 : decode cX11_isNew 13 = .ok (.aload_n 0, 1) := by decide +kernel
theorem dX11_isNew_14 : decode cX11_isNew 14 = .ok (.invokevirtual 268, 3) := by decide +kernel
theorem dX11_isNew_17 : decode cX11_isNew 17 = .ok (.ifCond .ge 10, 3) := by decide +kernel
theorem dX11_isNew_20 : decode cX11_isNew 20 = .ok (.aload_n 0, 1) := by decide +kernel
theorem dX11_isNew_21 : decode cX11_isNew 21 = .ok (.invokevirtual 271, 3) := by decide +kernel
theorem dX11_isNew_24 : decode cX11_isNew 24 = .ok (.ifCond .lt 11, 3) := by decide +kernel
theorem dX11_isNew_27 : decode cX11_isNew 27 = .ok (.aload_n 0, 1) := by decide +kernel
theorem dX11_isNew_28 : decode cX11_isNew 28 = .ok (.iconst 3, 1) := by decide +kernel
theorem dX11_isNew_29 : decode cX11_isNew 29 = .ok (.invokevirtual 198, 3) := by decide +kernel
theorem dX11_isNew_32 : decode cX11_isNew 32 = .ok (.ifCond .eq 7, 3) := by decide +kernel
theorem dX11_isNew_35 : decode cX11_isNew 35 = .ok (.iconst 1, 1) := by decide +kernel
theorem dX11_isNew_36 : decode cX11_isNew 36 = .ok (.goto 4, 3) := by decide +kernel
theorem dX11_isNew_39 : decode cX11_isNew 39 = .ok (.iconst 0, 1) := by decide +kernel
theorem dX11_isNew_40 : decode cX11_isNew 40 = .ok (.ireturn, 1) := by decide +kernel
theorem dX11_readsHill_0 : decode cX11_readsHill 0 = .ok (.aload_n 0, 1) := by decide +kernel
theorem dX11_readsHill_1 : decode cX11_readsHill 1 = .ok (.getfield 13, 3) := by decide +kernel
theorem dX11_readsHill_4 : decode cX11_readsHill 4 = .ok (.iconst 1, 1) := by decide +kernel
theorem dX11_readsHill_5 : decode cX11_readsHill 5 = .ok (.iaload, 1) := by decide +kernel
theorem dX11_readsHill_6 : decode cX11_readsHill 6 = .ok (.istore_n 1, 1) := by decide +kernel
theorem dX11_readsHill_7 : decode cX11_readsHill 7 = .ok (.iload_n 1, 1) := by decide +kernel
theorem dX11_readsHill_8 : decode cX11_readsHill 8 = .ok (.iconst 4, 1) := by decide +kernel
theorem dX11_readsHill_9 : decode cX11_readsHill 9 = .ok (.if_icmp .ne 9, 3) := by decide +kernel
theorem dX11_readsHill_12 : decode cX11_readsHill 12 = .ok (.aload_n 0, 1) := by decide +kernel
theorem dX11_readsHill_13 : decode cX11_readsHill 13 = .ok (.iconst 5, 1) := by decide +kernel
theorem dX11_readsHill_14 : decode cX11_readsHill 14 = .ok (.invokevirtual 198, 3) := by decide +kernel
theorem dX11_readsHill_17 : decode cX11_readsHill 17 = .ok (.ireturn, 1) := by decide +kernel
theorem dX11_readsHill_18 : decode cX11_readsHill 18 = .ok (.aload_n 0, 1) := by decide +kernel
theorem dX11_readsHill_19 : decode cX11_readsHill 19 = .ok (.invokevirtual 205, 3) := by decide +kernel
theorem dX11_readsHill_22 : decode cX11_readsHill 22 = .ok (.aload_n 0, 1) := by decide +kernel
theorem dX11_readsHill_23 : decode cX11_readsHill 23 = .ok (.invokevirtual 274, 3) := by decide +kernel
theorem dX11_readsHill_26 : decode cX11_readsHill 26 = .ok (.ifCond .ne 5, 3) := by decide +kernel
theorem dX11_readsHill_29 : decode cX11_readsHill 29 = .ok (.iconst 0, 1) := by decide +kernel
theorem dX11_readsHill_30 : decode cX11_readsHill 30 = .ok (.ireturn, 1) := by decide +kernel
theorem dX11_readsHill_31 : decode cX11_readsHill 31 = .ok (.aload_n 0, 1) := by decide +kernel
theorem dX11_readsHill_32 : decode cX11_readsHill 32 = .ok (.getfield 25, 3) := by decide +kernel
theorem dX11_readsHill_35 : decode cX11_readsHill 35 = .ok (.iload_n 1, 1) := by decide +kernel
theorem dX11_readsHill_36 : decode cX11_readsHill 36 = .ok (.aload_n 0, 1) := by decide +kernel
theorem dX11_readsHill_37 : decode cX11_readsHill 37 = .ok (.getfield 150, 3) := by decide +kernel
theorem dX11_readsHill_40 : decode cX11_readsHill 40 = .ok (.lastore, 1) := by decide +kernel
theorem dX11_readsHill_41 : decode cX11_readsHill 41 = .ok (.aload_n 0, 1) := by decide +kernel
theorem dX11_readsHill_42 : decode cX11_readsHill 42 = .ok (.invokevirtual 205, 3) := by decide +kernel
theorem dX11_readsHill_45 : decode cX11_readsHill 45 = .ok (.aload_n 0, 1) := by decide +kernel
theorem dX11_readsHill_46 : decode cX11_readsHill 46 = .ok (.ldc2_w 223, 3) := by decide +kernel
theorem dX11_readsHill_49 : decode cX11_readsHill 49 = .ok (.invokevirtual 277, 3) := by decide +kernel
theorem dX11_readsHill_52 : decode cX11_readsHill 52 = .ok (.ifCond .eq 13, 3) := by decide +kernel
theorem dX11_readsHill_55 : decode cX11_readsHill 55 = .ok (.aload_n 0, 1) := by decide +kernel
theorem dX11_readsHill_56 : decode cX11_readsHill 56 = .ok (.iconst 0, 1) := by decide +kernel
theorem dX11_readsHill_57 : decode cX11_readsHill 57 = .ok (.bipush 8, 2) := by decide +kernel
theorem dX11_readsHill_59 : decode cX11_readsHill 59 = .ok (.invokevirtual 280, 3) := by decide +kernel
theorem dX11_readsHill_62 : decode cX11_readsHill 62 = .ok (.ifCond .ne 5, 3) := by decide +kernel
theorem dX11_readsHill_65 : decode cX11_readsHill 65 = .ok (.iconst 0, 1) := by decide +kernel
theorem dX11_readsHill_66 : decode cX11_readsHill 66 = .ok (.ireturn, 1) := by decide +kernel
theorem dX11_readsHill_67 : decode cX11_readsHill 67 = .ok (.aload_n 0, 1) := by decide +kernel
theorem dX11_readsHill_68 : decode cX11_readsHill 68 = .ok (.getfield 32, 3) := by decide +kernel
theorem dX11_readsHill_71 : decode cX11_readsHill 71 = .ok (.iconst 4, 1) := by decide +kernel
theorem dX11_readsHill_72 : decode cX11_readsHill 72 = .ok (.iload_n 1, 1) := by decide +kernel
theorem dX11_readsHill_73 : decode cX11_readsHill 73 = .ok (.iadd, 1) := by decide +kernel
theorem dX11_readsHill_74 : decode cX11_readsHill 74 = .ok (.aload_n 0, 1) := by decide +kernel
theorem dX11_readsHill_75 : decode cX11_readsHill 75 = .ok (.getfield 261, 3) := by decide +kernel
theorem dX11_readsHill_78 : decode cX11_readsHill 78 = .ok (.iastore, 1) := by decide +kernel
theorem dX11_readsHill_79 : decode cX11_readsHill 79 = .ok (.aload_n 0, 1) := by decide +kernel
theorem dX11_readsHill_80 : decode cX11_readsHill 80 = .ok (.ldc2_w 182, 3) := by decide +kernel
theorem dX11_readsHill_83 : decode cX11_readsHill 83 = .ok (.invokevirtual 277, 3) := by decide +kernel
theorem dX11_readsHill_86 : decode cX11_readsHill 86 = .ok (.ifCond .eq 13, 3) := by decide +kernel
theorem dX11_readsHill_89 : decode cX11_readsHill 89 = .ok (.aload_n 0, 1) := by decide +kernel
theorem dX11_readsHill_90 : decode cX11_readsHill 90 = .ok (.iconst 0, 1) := by decide +kernel
theorem dX11_readsHill_91 : decode cX11_readsHill 91 = .ok (.bipush 8, 2) := by decide +kernel
theorem dX11_readsHill_93 : decode cX11_readsHill 93 = .ok (.invokevirtual 280, 3) := by decide +kernel
theorem dX11_readsHill_96 : decode cX11_readsHill 96 = .ok (.ifCond .ne 5, 3) := by decide +kernel
theorem dX11_readsHill_99 : decode cX11_readsHill 99 = .ok (.iconst 0, 1) := by decide +kernel
theorem dX11_readsHill_100 : decode cX11_readsHill 100 = .ok (.ireturn, 1) := by decide +kernel
theorem dX11_readsHill_101 : decode cX11_readsHill 101 = .ok (.aload_n 0, 1) := by decide +kernel
theorem dX11_readsHill_102 : decode cX11_readsHill 102 = .ok (.getfield 35, 3) := by decide +kernel
theorem dX11_readsHill_105 : decode cX11_readsHill 105 = .ok (.iconst 4, 1) := by decide +kernel
theorem dX11_readsHill_106 : decode cX11_readsHill 106 = .ok (.iload_n 1, 1) := by decide +kernel
theorem dX11_readsHill_107 : decode cX11_readsHill 107 = .ok (.iadd, 1) := by decide +kernel
theorem dX11_readsHill_108 : decode cX11_readsHill 108 = .ok (.aload_n 0, 1) := by decide +kernel
theorem dX11_readsHill_109 : decode cX11_readsHill 109 = .ok (.getfield 261, 3) := by decide +kernel
theorem dX11_readsHill_112 : decode cX11_readsHill 112 = .ok (.iastore, 1) := by decide +kernel
theorem dX11_readsHill_113 : decode cX11_readsHill 113 = .ok (.aload_n 0, 1) := by decide +kernel
theorem dX11_readsHill_114 : decode cX11_readsHill 114 = .ok (.getfield 13, 3) := by decide +kernel
theorem dX11_readsHill_117 : decode cX11_readsHill 117 = .ok (.iconst 1, 1) := by decide +kernel
theorem dX11_readsHill_118 : decode cX11_readsHill 118 = .ok (.dup2, 1) := by decide +kernel
theorem dX11_readsHill_119 : decode cX11_readsHill 119 = .ok (.iaload, 1) := by decide +kernel
theorem dX11_readsHill_120 : decode cX11_readsHill 120 = .ok (.iconst 1, 1) := by decide +kernel
theorem dX11_readsHill_121 : decode cX11_readsHill 121 = .ok (.iadd, 1) := by decide +kernel
theorem dX11_readsHill_122 : decode cX11_readsHill 122 = .ok (.iastore, 1) := by decide +kernel
theorem dX11_readsHill_123 : decode cX11_readsHill 123 = .ok (.aload_n 0, 1) := by decide +kernel
theorem dX11_readsHill_124 : decode cX11_readsHill 124 = .ok (.invokevirtual 284, 3) := by decide +kernel
theorem dX11_readsHill_127 : decode cX11_readsHill 127 = .ok (.ireturn, 1) := by decide +kernel
theorem dX11_readsPurse_0 : decode cX11_readsPurse 0 = .ok (.aload_n 0, 1) := by decide +kernel
theorem dX11_readsPurse_1 : decode cX11_readsPurse 1 = .ok (.getfield 16, 3) := by decide +kernel
theorem dX11_readsPurse_4 : decode cX11_readsPurse 4 = .ok (.iconst 1, 1) := by decide +kernel
theorem dX11_readsPurse_5 : decode cX11_readsPurse 5 = .ok (.iaload, 1) := by decide +kernel
theorem dX11_readsPurse_6 : decode cX11_readsPurse 6 = .ok (.istore_n 1, 1) := by decide +kernel
theorem dX11_readsPurse_7 : decode cX11_readsPurse 7 = .ok (.iload_n 1, 1) := by decide +kernel
theorem dX11_readsPurse_8 : decode cX11_readsPurse 8 = .ok (.bipush 6, 2) := by decide +kernel
theorem dX11_readsPurse_10 : decode cX11_readsPurse 10 = .ok (.if_icmp .ne 9, 3) := by decide +kernel
theorem dX11_readsPurse_13 : decode cX11_readsPurse 13 = .ok (.aload_n 0, 1) := by decide +kernel
theorem dX11_readsPurse_14 : decode cX11_readsPurse 14 = .ok (.iconst 5, 1) := by decide +kernel
theorem dX11_readsPurse_15 : decode cX11_readsPurse 15 = .ok (.invokevirtual 198, 3) := by decide +kernel
theorem dX11_readsPurse_18 : decode cX11_readsPurse 18 = .ok (.ireturn, 1) := by decide +kernel
theorem dX11_readsPurse_19 : decode cX11_readsPurse 19 = .ok (.aload_n 0, 1) := by decide +kernel
theorem dX11_readsPurse_20 : decode cX11_readsPurse 20 = .ok (.invokevirtual 205, 3) := by decide +kernel
theorem dX11_readsPurse_23 : decode cX11_readsPurse 23 = .ok (.aload_n 0, 1) := by decide +kernel
theorem dX11_readsPurse_24 : decode cX11_readsPurse 24 = .ok (.invokevirtual 274, 3) := by decide +kernel
theorem dX11_readsPurse_27 : decode cX11_readsPurse 27 = .ok (.ifCond .ne 5, 3) := by decide +kernel
theorem dX11_readsPurse_30 : decode cX11_readsPurse 30 = .ok (.iconst 0, 1) := by decide +kernel
theorem dX11_readsPurse_31 : decode cX11_readsPurse 31 = .ok (.ireturn, 1) := by decide +kernel
theorem dX11_readsPurse_32 : decode cX11_readsPurse 32 = .ok (.aload_n 0, 1) := by decide +kernel
theorem dX11_readsPurse_33 : decode cX11_readsPurse 33 = .ok (.getfield 29, 3) := by decide +kernel
theorem dX11_readsPurse_36 : decode cX11_readsPurse 36 = .ok (.iload_n 1, 1) := by decide +kernel
theorem dX11_readsPurse_37 : decode cX11_readsPurse 37 = .ok (.aload_n 0, 1) := by decide +kernel
theorem dX11_readsPurse_38 : decode cX11_readsPurse 38 = .ok (.getfield 150, 3) := by decide +kernel
theorem dX11_readsPurse_41 : decode cX11_readsPurse 41 = .ok (.lastore, 1) := by decide +kernel
theorem dX11_readsPurse_42 : decode cX11_readsPurse 42 = .ok (.aload_n 0, 1) := by decide +kernel
theorem dX11_readsPurse_43 : decode cX11_readsPurse 43 = .ok (.invokevirtual 205, 3) := by decide +kernel
theorem dX11_readsPurse_46 : decode cX11_readsPurse 46 = .ok (.aload_n 0, 1) := by decide +kernel
theorem dX11_readsPurse_47 : decode cX11_readsPurse 47 = .ok (.iconst 0, 1) := by decide +kernel
theorem dX11_readsPurse_48 : decode cX11_readsPurse 48 = .ok (.sipush 9999, 3) := by decide +kernel
theorem dX11_readsPurse_51 : decode cX11_readsPurse 51 = .ok (.invokevirtual 280, 3) := by decide +kernel
theorem dX11_readsPurse_54 : decode cX11_readsPurse 54 = .ok (.ifCond .ne 5, 3) := by decide +kernel
theorem dX11_readsPurse_57 : decode cX11_readsPurse 57 = .ok (.iconst 0, 1) := by decide +kernel
theorem dX11_readsPurse_58 : decode cX11_readsPurse 58 = .ok (.ireturn, 1) := by decide +kernel
theorem dX11_readsPurse_59 : decode cX11_readsPurse 59 = .ok (.aload_n 0, 1) := by decide +kernel
theorem dX11_readsPurse_60 : decode cX11_readsPurse 60 = .ok (.getfield 38, 3) := by decide +kernel
theorem dX11_readsPurse_63 : decode cX11_readsPurse 63 = .ok (.bipush 6, 2) := by decide +kernel
theorem dX11_readsPurse_65 : decode cX11_readsPurse 65 = .ok (.iload_n 1, 1) := by decide +kernel
theorem dX11_readsPurse_66 : decode cX11_readsPurse 66 = .ok (.iadd, 1) := by decide +kernel
theorem dX11_readsPurse_67 : decode cX11_readsPurse 67 = .ok (.aload_n 0, 1) := by decide +kernel
theorem dX11_readsPurse_68 : decode cX11_readsPurse 68 = .ok (.getfield 261, 3) := by decide +kernel
theorem dX11_readsPurse_71 : decode cX11_readsPurse 71 = .ok (.iastore, 1) := by decide +kernel
theorem dX11_readsPurse_72 : decode cX11_readsPurse 72 = .ok (.aload_n 0, 1) := by decide +kernel
theorem dX11_readsPurse_73 : decode cX11_readsPurse 73 = .ok (.getfield 16, 3) := by decide +kernel
theorem dX11_readsPurse_76 : decode cX11_readsPurse 76 = .ok (.iconst 1, 1) := by decide +kernel
theorem dX11_readsPurse_77 : decode cX11_readsPurse 77 = .ok (.dup2, 1) := by decide +kernel
theorem dX11_readsPurse_78 : decode cX11_readsPurse 78 = .ok (.iaload, 1) := by decide +kernel
theorem dX11_readsPurse_79 : decode cX11_readsPurse 79 = .ok (.iconst 1, 1) := by decide +kernel
theorem dX11_readsPurse_80 : decode cX11_readsPurse 80 = .ok (.iadd, 1) := by decide +kernel
theorem dX11_readsPurse_81 : decode cX11_readsPurse 81 = .ok (.iastore, 1) := by decide +kernel
theorem dX11_readsPurse_82 : decode cX11_readsPurse 82 = .ok (.aload_n 0, 1) := by decide +kernel
theorem dX11_readsPurse_83 : decode cX11_readsPurse 83 = .ok (.invokevirtual 284, 3) := by decide +kernel
theorem dX11_readsPurse_86 : decode cX11_readsPurse 86 = .ok (.ireturn, 1) := by decide +kernel
theorem dX11_needsPerson_0 : decode cX11_needsPerson 0 = .ok (.aload_n 0, 1) := by decide +kernel
theorem dX11_needsPerson_1 : decode cX11_needsPerson 1 = .ok (.invokevirtual 264, 3) := by decide +kernel
theorem dX11_needsPerson_4 : decode cX11_needsPerson 4 = .ok (.ifCond .eq 9, 3) := by decide +kernel
theorem dX11_needsPerson_7 : decode cX11_needsPerson 7 = .ok (.aload_n 0, 1) := by decide +kernel
theorem dX11_needsPerson_8 : decode cX11_needsPerson 8 = .ok (.iconst 1, 1) := by decide +kernel
theorem dX11_needsPerson_9 : decode cX11_needsPerson 9 = .ok (.invokevirtual 198, 3) := by decide +kernel
theorem dX11_needsPerson_12 : decode cX11_needsPerson 12 = .ok (.ireturn, 1) := by decide +kernel
theorem dX11_needsPerson_13 : decode cX11_needsPerson 13 = .ok (.aload_n 0, 1) := by decide +kernel
theorem dX11_needsPerson_14 : decode cX11_needsPerson 14 = .ok (.aload_n 0, 1) := by decide +kernel
theorem dX11_needsPerson_15 : decode cX11_needsPerson 15 = .ok (.invokevirtual 268, 3) := by decide +kernel
theorem dX11_needsPerson_18 : decode cX11_needsPerson 18 = .ok (.putfield 261, 3) := by decide +kernel
theorem dX11_needsPerson_21 : decode cX11_needsPerson 21 = .ok (.aload_n 0, 1) := by decide +kernel
theorem dX11_needsPerson_22 : decode cX11_needsPerson 22 = .ok (.getfield 261, 3) := by decide +kernel
theorem dX11_needsPerson_25 : decode cX11_needsPerson 25 = .ok (.ifCond .ge 9, 3) := by decide +kernel
theorem dX11_needsPerson_28 : decode cX11_needsPerson 28 = .ok (.aload_n 0, 1) := by decide +kernel
theorem dX11_needsPerson_29 : decode cX11_needsPerson 29 = .ok (.iconst 2, 1) := by decide +kernel
theorem dX11_needsPerson_30 : decode cX11_needsPerson 30 = .ok (.invokevirtual 198, 3) := by decide +kernel
theorem dX11_needsPerson_33 : decode cX11_needsPerson 33 = .ok (.ireturn, 1) := by decide +kernel
theorem dX11_needsPerson_34 : decode cX11_needsPerson 34 = .ok (.aload_n 0, 1) := by decide +kernel
theorem dX11_needsPerson_35 : decode cX11_needsPerson 35 = .ok (.getfield 261, 3) := by decide +kernel
theorem dX11_needsPerson_38 : decode cX11_needsPerson 38 = .ok (.iload_n 1, 1) := by decide +kernel
theorem dX11_needsPerson_39 : decode cX11_needsPerson 39 = .ok (.if_icmp .eq 11, 3) := by decide +kernel
theorem dX11_needsPerson_42 : decode cX11_needsPerson 42 = .ok (.aload_n 0, 1) := by decide +kernel
theorem dX11_needsPerson_43 : decode cX11_needsPerson 43 = .ok (.getfield 261, 3) := by decide +kernel
theorem dX11_needsPerson_46 : decode cX11_needsPerson 46 = .ok (.iload_n 2, 1) := by decide +kernel
theorem dX11_needsPerson_47 : decode cX11_needsPerson 47 = .ok (.if_icmp .ne 9, 3) := by decide +kernel
theorem dX11_needsPerson_50 : decode cX11_needsPerson 50 = .ok (.aload_n 0, 1) := by decide +kernel
theorem dX11_needsPerson_51 : decode cX11_needsPerson 51 = .ok (.iconst 3, 1) := by decide +kernel
theorem dX11_needsPerson_52 : decode cX11_needsPerson 52 = .ok (.invokevirtual 198, 3) := by decide +kernel
theorem dX11_needsPerson_55 : decode cX11_needsPerson 55 = .ok (.ireturn, 1) := by decide +kernel
theorem dX11_needsPerson_56 : decode cX11_needsPerson 56 = .ok (.aload_n 0, 1) := by decide +kernel
theorem dX11_needsPerson_57 : decode cX11_needsPerson 57 = .ok (.invokevirtual 205, 3) := by decide +kernel
theorem dX11_needsPerson_60 : decode cX11_needsPerson 60 = .ok (.iconst 1, 1) := by decide +kernel
theorem dX11_needsPerson_61 : decode cX11_needsPerson 61 = .ok (.ireturn, 1) := by decide +kernel
theorem dX11_kindAt_0 : decode cX11_kindAt 0 = .ok (.aload_n 0, 1) := by decide +kernel
theorem dX11_kindAt_1 : decode cX11_kindAt 1 = .ok (.ldc2_w 247, 3) := by decide +kernel
theorem dX11_kindAt_4 : decode cX11_kindAt 4 = .ok (.invokevirtual 190, 3) := by decide +kernel
theorem dX11_kindAt_7 : decode cX11_kindAt 7 = .ok (.ifCond .eq 7, 3) := by decide +kernel
theorem dX11_kindAt_10 : decode cX11_kindAt 10 = .ok (.iconst 0, 1) := by decide +kernel
theorem dX11_kindAt_11 : decode cX11_kindAt 11 = .ok (.goto 74, 3) := by decide +kernel
theorem dX11_kindAt_14 : decode cX11_kindAt 14 = .ok (.aload_n 0, 1) := by decide +kernel
theorem dX11_kindAt_15 : decode cX11_kindAt 15 = .ok (.ldc2_w 223, 3) := by decide +kernel
theorem dX11_kindAt_18 : decode cX11_kindAt 18 = .ok (.invokevirtual 190, 3) := by decide +kernel
theorem dX11_kindAt_21 : decode cX11_kindAt 21 = .ok (.ifCond .eq 7, 3) := by decide +kernel
theorem dX11_kindAt_24 : decode cX11_kindAt 24 = .ok (.iconst 1, 1) := by decide +kernel
theorem dX11_kindAt_25 : decode cX11_kindAt 25 = .ok (.goto 60, 3) := by decide +kernel
theorem dX11_kindAt_28 : decode cX11_kindAt 28 = .ok (.aload_n 0, 1) := by decide +kernel
theorem dX11_kindAt_29 : decode cX11_kindAt 29 = .ok (.ldc2_w 249, 3) := by decide +kernel
theorem dX11_kindAt_32 : decode cX11_kindAt 32 = .ok (.invokevirtual 190, 3) := by decide +kernel
theorem dX11_kindAt_35 : decode cX11_kindAt 35 = .ok (.ifCond .eq 7, 3) := by decide +kernel
theorem dX11_kindAt_38 : decode cX11_kindAt 38 = .ok (.iconst 2, 1) := by decide +kernel
theorem dX11_kindAt_39 : decode cX11_kindAt 39 = .ok (.goto 46, 3) := by decide +kernel
theorem dX11_kindAt_42 : decode cX11_kindAt 42 = .ok (.aload_n 0, 1) := by decide +kernel
theorem dX11_kindAt_43 : decode cX11_kindAt 43 = .ok (.ldc2_w 251, 3) := by decide +kernel
theorem dX11_kindAt_46 : decode cX11_kindAt 46 = .ok (.invokevirtual 190, 3) := by decide +kernel
theorem dX11_kindAt_49 : decode cX11_kindAt 49 = .ok (.ifCond .eq 7, 3) := by decide +kernel
theorem dX11_kindAt_52 : decode cX11_kindAt 52 = .ok (.iconst 3, 1) := by decide +kernel
theorem dX11_kindAt_53 : decode cX11_kindAt 53 = .ok (.goto 32, 3) := by decide +kernel
theorem dX11_kindAt_56 : decode cX11_kindAt 56 = .ok (.aload_n 0, 1) := by decide +kernel
theorem dX11_kindAt_57 : decode cX11_kindAt 57 = .ok (.ldc2_w 253, 3) := by decide +kernel
theorem dX11_kindAt_60 : decode cX11_kindAt 60 = .ok (.invokevirtual 190, 3) := by decide +kernel
theorem dX11_kindAt_63 : decode cX11_kindAt 63 = .ok (.ifCond .eq 7, 3) := by decide +kernel
theorem dX11_kindAt_66 : decode cX11_kindAt 66 = .ok (.iconst 4, 1) := by decide +kernel
theorem dX11_kindAt_67 : decode cX11_kindAt 67 = .ok (.goto 18, 3) := by decide +kernel
theorem dX11_kindAt_70 : decode cX11_kindAt 70 = .ok (.aload_n 0, 1) := by decide +kernel
theorem dX11_kindAt_71 : decode cX11_kindAt 71 = .ok (.ldc2_w 255, 3) := by decide +kernel
theorem dX11_kindAt_74 : decode cX11_kindAt 74 = .ok (.invokevirtual 190, 3) := by decide +kernel
theorem dX11_kindAt_77 : decode cX11_kindAt 77 = .ok (.ifCond .eq 7, 3) := by decide +kernel
theorem dX11_kindAt_80 : decode cX11_kindAt 80 = .ok (.iconst 5, 1) := by decide +kernel
theorem dX11_kindAt_81 : decode cX11_kindAt 81 = .ok (.goto 4, 3) := by decide +kernel
theorem dX11_kindAt_84 : decode cX11_kindAt 84 = .ok (.iconst (-1), 1) := by decide +kernel
theorem dX11_kindAt_85 : decode cX11_kindAt 85 = .ok (.ireturn, 1) := by decide +kernel
theorem dX11_readsLoan_0 : decode cX11_readsLoan 0 = .ok (.aload_n 0, 1) := by decide +kernel
theorem dX11_readsLoan_1 : decode cX11_readsLoan 1 = .ok (.getfield 19, 3) := by decide +kernel
theorem dX11_readsLoan_4 : decode cX11_readsLoan 4 = .ok (.iconst 1, 1) := by decide +kernel
theorem dX11_readsLoan_5 : decode cX11_readsLoan 5 = .ok (.iaload, 1) := by decide +kernel
theorem dX11_readsLoan_6 : decode cX11_readsLoan 6 = .ok (.bipush 10, 2) := by decide +kernel
theorem dX11_readsLoan_8 : decode cX11_readsLoan 8 = .ok (.if_icmp .ne 9, 3) := by decide +kernel
theorem dX11_readsLoan_11 : decode cX11_readsLoan 11 = .ok (.aload_n 0, 1) := by decide +kernel
theorem dX11_readsLoan_12 : decode cX11_readsLoan 12 = .ok (.iconst 5, 1) := by decide +kernel
theorem dX11_readsLoan_13 : decode cX11_readsLoan 13 = .ok (.invokevirtual 198, 3) := by decide +kernel
theorem dX11_readsLoan_16 : decode cX11_readsLoan 16 = .ok (.ireturn, 1) := by decide +kernel
theorem dX11_readsLoan_17 : decode cX11_readsLoan 17 = .ok (.bipush 10, 2) := by decide +kernel
theorem dX11_readsLoan_19 : decode cX11_readsLoan 19 = .ok (.aload_n 0, 1) := by decide +kernel
theorem dX11_readsLoan_20 : decode cX11_readsLoan 20 = .ok (.getfield 19, 3) := by decide +kernel
theorem dX11_readsLoan_23 : decode cX11_readsLoan 23 = .ok (.iconst 1, 1) := by decide +kernel
theorem dX11_readsLoan_24 : decode cX11_readsLoan 24 = .ok (.iaload, 1) := by decide +kernel
theorem dX11_readsLoan_25 : decode cX11_readsLoan 25 = .ok (.iadd, 1) := by decide +kernel
theorem dX11_readsLoan_26 : decode cX11_readsLoan 26 = .ok (.istore_n 1, 1) := by decide +kernel
theorem dX11_readsLoan_27 : decode cX11_readsLoan 27 = .ok (.aload_n 0, 1) := by decide +kernel
theorem dX11_readsLoan_28 : decode cX11_readsLoan 28 = .ok (.invokevirtual 205, 3) := by decide +kernel
theorem dX11_readsLoan_31 : decode cX11_readsLoan 31 = .ok (.aload_n 0, 1) := by decide +kernel
theorem dX11_readsLoan_32 : decode cX11_readsLoan 32 = .ok (.iconst (-1), 1) := by decide +kernel
theorem dX11_readsLoan_33 : decode cX11_readsLoan 33 = .ok (.iconst (-1), 1) := by decide +kernel
theorem dX11_readsLoan_34 : decode cX11_readsLoan 34 = .ok (.invokevirtual 287, 3) := by decide +kernel
theorem dX11_readsLoan_37 : decode cX11_readsLoan 37 = .ok (.ifCond .ne 5, 3) := by decide +kernel
theorem dX11_readsLoan_40 : decode cX11_readsLoan 40 = .ok (.iconst 0, 1) := by decide +kernel
theorem dX11_readsLoan_41 : decode cX11_readsLoan 41 = .ok (.ireturn, 1) := by decide +kernel
theorem dX11_readsLoan_42 : decode cX11_readsLoan 42 = .ok (.aload_n 0, 1) := by decide +kernel
theorem dX11_readsLoan_43 : decode cX11_readsLoan 43 = .ok (.getfield 41, 3) := by decide +kernel
theorem dX11_readsLoan_46 : decode cX11_readsLoan 46 = .ok (.iload_n 1, 1) := by decide +kernel
theorem dX11_readsLoan_47 : decode cX11_readsLoan 47 = .ok (.aload_n 0, 1) := by decide +kernel
theorem dX11_readsLoan_48 : decode cX11_readsLoan 48 = .ok (.getfield 261, 3) := by decide +kernel
theorem dX11_readsLoan_51 : decode cX11_readsLoan 51 = .ok (.iastore, 1) := by decide +kernel
theorem dX11_readsLoan_52 : decode cX11_readsLoan 52 = .ok (.aload_n 0, 1) := by decide +kernel
theorem dX11_readsLoan_53 : decode cX11_readsLoan 53 = .ok (.ldc2_w 229, 3) := by decide +kernel
theorem dX11_readsLoan_56 : decode cX11_readsLoan 56 = .ok (.invokevirtual 277, 3) := by decide +kernel
theorem dX11_readsLoan_59 : decode cX11_readsLoan 59 = .ok (.ifCond .eq 17, 3) := by decide +kernel
theorem dX11_readsLoan_62 : decode cX11_readsLoan 62 = .ok (.aload_n 0, 1) := by decide +kernel
theorem dX11_readsLoan_63 : decode cX11_readsLoan 63 = .ok (.aload_n 0, 1) := by decide +kernel
theorem dX11_readsLoan_64 : decode cX11_readsLoan 64 = .ok (.getfield 41, 3) := by decide +kernel
theorem dX11_readsLoan_67 : decode cX11_readsLoan 67 = .ok (.iload_n 1, 1) := by decide +kernel
theorem dX11_readsLoan_68 : decode cX11_readsLoan 68 = .ok (.iaload, 1) := by decide +kernel
theorem dX11_readsLoan_69 : decode cX11_readsLoan 69 = .ok (.iconst (-1), 1) := by decide +kernel
theorem dX11_readsLoan_70 : decode cX11_readsLoan 70 = .ok (.invokevirtual 287, 3) := by decide +kernel
theorem dX11_readsLoan_73 : decode cX11_readsLoan 73 = .ok (.ifCond .ne 5, 3) := by decide +kernel
theorem dX11_readsLoan_76 : decode cX11_readsLoan 76 = .ok (.iconst 0, 1) := by decide +kernel
theorem dX11_readsLoan_77 : decode cX11_readsLoan 77 = .ok (.ireturn, 1) := by decide +kernel
theorem dX11_readsLoan_78 : decode cX11_readsLoan 78 = .ok (.aload_n 0, 1) := by decide +kernel
theorem dX11_readsLoan_79 : decode cX11_readsLoan 79 = .ok (.getfield 44, 3) := by decide +kernel
theorem dX11_readsLoan_82 : decode cX11_readsLoan 82 = .ok (.iload_n 1, 1) := by decide +kernel
theorem dX11_readsLoan_83 : decode cX11_readsLoan 83 = .ok (.aload_n 0, 1) := by decide +kernel
theorem dX11_readsLoan_84 : decode cX11_readsLoan 84 = .ok (.getfield 261, 3) := by decide +kernel
theorem dX11_readsLoan_87 : decode cX11_readsLoan 87 = .ok (.iastore, 1) := by decide +kernel
theorem dX11_readsLoan_88 : decode cX11_readsLoan 88 = .ok (.aload_n 0, 1) := by decide +kernel
theorem dX11_readsLoan_89 : decode cX11_readsLoan 89 = .ok (.ldc2_w 231, 3) := by decide +kernel
theorem dX11_readsLoan_92 : decode cX11_readsLoan 92 = .ok (.invokevirtual 277, 3) := by decide +kernel
theorem dX11_readsLoan_95 : decode cX11_readsLoan 95 = .ok (.ifCond .eq 14, 3) := by decide +kernel
theorem dX11_readsLoan_98 : decode cX11_readsLoan 98 = .ok (.aload_n 0, 1) := by decide +kernel
theorem dX11_readsLoan_99 : decode cX11_readsLoan 99 = .ok (.iconst 1, 1) := by decide +kernel
theorem dX11_readsLoan_100 : decode cX11_readsLoan 100 = .ok (.sipush 999, 3) := by decide +kernel
theorem dX11_readsLoan_103 : decode cX11_readsLoan 103 = .ok (.invokevirtual 280, 3) := by decide +kernel
theorem dX11_readsLoan_106 : decode cX11_readsLoan 106 = .ok (.ifCond .ne 5, 3) := by decide +kernel
theorem dX11_readsLoan_109 : decode cX11_readsLoan 109 = .ok (.iconst 0, 1) := by decide +kernel
theorem dX11_readsLoan_110 : decode cX11_readsLoan 110 = .ok (.ireturn, 1) := by decide +kernel
theorem dX11_readsLoan_111 : decode cX11_readsLoan 111 = .ok (.aload_n 0, 1) := by decide +kernel
theorem dX11_readsLoan_112 : decode cX11_readsLoan 112 = .ok (.getfield 47, 3) := by decide +kernel
theorem dX11_readsLoan_115 : decode cX11_readsLoan 115 = .ok (.iload_n 1, 1) := by decide +kernel
theorem dX11_readsLoan_116 : decode cX11_readsLoan 116 = .ok (.aload_n 0, 1) := by decide +kernel
theorem dX11_readsLoan_117 : decode cX11_readsLoan 117 = .ok (.getfield 261, 3) := by decide +kernel
theorem dX11_readsLoan_120 : decode cX11_readsLoan 120 = .ok (.iastore, 1) := by decide +kernel
theorem dX11_readsLoan_121 : decode cX11_readsLoan 121 = .ok (.aload_n 0, 1) := by decide +kernel
theorem dX11_readsLoan_122 : decode cX11_readsLoan 122 = .ok (.ldc2_w 233, 3) := by decide +kernel
theorem dX11_readsLoan_125 : decode cX11_readsLoan 125 = .ok (.invokevirtual 277, 3) := by decide +kernel
theorem dX11_readsLoan_128 : decode cX11_readsLoan 128 = .ok (.ifCond .eq 13, 3) := by decide +kernel
theorem dX11_readsLoan_131 : decode cX11_readsLoan 131 = .ok (.aload_n 0, 1) := by decide +kernel
theorem dX11_readsLoan_132 : decode cX11_readsLoan 132 = .ok (.iconst 0, 1) := by decide +kernel
theorem dX11_readsLoan_133 : decode cX11_readsLoan 133 = .ok (.bipush 99, 2) := by decide +kernel
theorem dX11_readsLoan_135 : decode cX11_readsLoan 135 = .ok (.invokevirtual 280, 3) := by decide +kernel
theorem dX11_readsLoan_138 : decode cX11_readsLoan 138 = .ok (.ifCond .ne 5, 3) := by decide +kernel
theorem dX11_readsLoan_141 : decode cX11_readsLoan 141 = .ok (.iconst 0, 1) := by decide +kernel
theorem dX11_readsLoan_142 : decode cX11_readsLoan 142 = .ok (.ireturn, 1) := by decide +kernel
theorem dX11_readsLoan_143 : decode cX11_readsLoan 143 = .ok (.aload_n 0, 1) := by decide +kernel
theorem dX11_readsLoan_144 : decode cX11_readsLoan 144 = .ok (.getfield 50, 3) := by decide +kernel
theorem dX11_readsLoan_147 : decode cX11_readsLoan 147 = .ok (.iload_n 1, 1) := by decide +kernel
theorem dX11_readsLoan_148 : decode cX11_readsLoan 148 = .ok (.aload_n 0, 1) := by decide +kernel
theorem dX11_readsLoan_149 : decode cX11_readsLoan 149 = .ok (.getfield 261, 3) := by decide +kernel
theorem dX11_readsLoan_152 : decode cX11_readsLoan 152 = .ok (.iastore, 1) := by decide +kernel
theorem dX11_readsLoan_153 : decode cX11_readsLoan 153 = .ok (.aload_n 0, 1) := by decide +kernel
theorem dX11_readsLoan_154 : decode cX11_readsLoan 154 = .ok (.ldc2_w 235, 3) := by decide +kernel
theorem dX11_readsLoan_157 : decode cX11_readsLoan 157 = .ok (.invokevirtual 277, 3) := by decide +kernel
theorem dX11_readsLoan_160 : decode cX11_readsLoan 160 = .ok (.ifCond .eq 13, 3) := by decide +kernel
theorem dX11_readsLoan_163 : decode cX11_readsLoan 163 = .ok (.aload_n 0, 1) := by decide +kernel
theorem dX11_readsLoan_164 : decode cX11_readsLoan 164 = .ok (.iconst 1, 1) := by decide +kernel
theorem dX11_readsLoan_165 : decode cX11_readsLoan 165 = .ok (.bipush 9, 2) := by decide +kernel
theorem dX11_readsLoan_167 : decode cX11_readsLoan 167 = .ok (.invokevirtual 280, 3) := by decide +kernel
theorem dX11_readsLoan_170 : decode cX11_readsLoan 170 = .ok (.ifCond .ne 5, 3) := by decide +kernel
theorem dX11_readsLoan_173 : decode cX11_readsLoan 173 = .ok (.iconst 0, 1) := by decide +kernel
theorem dX11_readsLoan_174 : decode cX11_readsLoan 174 = .ok (.ireturn, 1) := by decide +kernel
theorem dX11_readsLoan_175 : decode cX11_readsLoan 175 = .ok (.aload_n 0, 1) := by decide +kernel
theorem dX11_readsLoan_176 : decode cX11_readsLoan 176 = .ok (.getfield 53, 3) := by decide +kernel
theorem dX11_readsLoan_179 : decode cX11_readsLoan 179 = .ok (.iload_n 1, 1) := by decide +kernel
theorem dX11_readsLoan_180 : decode cX11_readsLoan 180 = .ok (.aload_n 0, 1) := by decide +kernel
theorem dX11_readsLoan_181 : decode cX11_readsLoan 181 = .ok (.getfield 261, 3) := by decide +kernel
theorem dX11_readsLoan_184 : decode cX11_readsLoan 184 = .ok (.iastore, 1) := by decide +kernel
theorem dX11_readsLoan_185 : decode cX11_readsLoan 185 = .ok (.aload_n 0, 1) := by decide +kernel
theorem dX11_readsLoan_186 : decode cX11_readsLoan 186 = .ok (.ldc2_w 237, 3) := by decide +kernel
theorem dX11_readsLoan_189 : decode cX11_readsLoan 189 = .ok (.invokevirtual 277, 3) := by decide +kernel
theorem dX11_readsLoan_192 : decode cX11_readsLoan 192 = .ok (.ifCond .ne 5, 3) := by decide +kernel
theorem dX11_readsLoan_195 : decode cX11_readsLoan 195 = .ok (.iconst 0, 1) := by decide +kernel
theorem dX11_readsLoan_196 : decode cX11_readsLoan 196 = .ok (.ireturn, 1) := by decide +kernel
theorem dX11_readsLoan_197 : decode cX11_readsLoan 197 = .ok (.aload_n 0, 1) := by decide +kernel
theorem dX11_readsLoan_198 : decode cX11_readsLoan 198 = .ok (.invokevirtual 264, 3) := by decide +kernel
theorem dX11_readsLoan_201 : decode cX11_readsLoan 201 = .ok (.ifCond .eq 9, 3) := by decide +kernel
theorem dX11_readsLoan_204 : decode cX11_readsLoan 204 = .ok (.aload_n 0, 1) := by decide +kernel
theorem dX11_readsLoan_205 : decode cX11_readsLoan 205 = .ok (.iconst 1, 1) := by decide +kernel
theorem dX11_readsLoan_206 : decode cX11_readsLoan 206 = .ok (.invokevirtual 198, 3) := by decide +kernel
theorem dX11_readsLoan_209 : decode cX11_readsLoan 209 = .ok (.ireturn, 1) := by decide +kernel
theorem dX11_readsLoan_210 : decode cX11_readsLoan 210 = .ok (.aload_n 0, 1) := by decide +kernel
theorem dX11_readsLoan_211 : decode cX11_readsLoan 211 = .ok (.getfield 56, 3) := by decide +kernel
theorem dX11_readsLoan_214 : decode cX11_readsLoan 214 = .ok (.iload_n 1, 1) := by decide +kernel
theorem dX11_readsLoan_215 : decode cX11_readsLoan 215 = .ok (.aload_n 0, 1) := by decide +kernel
theorem dX11_readsLoan_216 : decode cX11_readsLoan 216 = .ok (.invokevirtual 271, 3) := by decide +kernel
theorem dX11_readsLoan_219 : decode cX11_readsLoan 219 = .ok (.iastore, 1) := by decide +kernel
theorem dX11_readsLoan_220 : decode cX11_readsLoan 220 = .ok (.aload_n 0, 1) := by decide +kernel
theorem dX11_readsLoan_221 : decode cX11_readsLoan 221 = .ok (.getfield 56, 3) := by decide +kernel
theorem dX11_readsLoan_224 : decode cX11_readsLoan 224 = .ok (.iload_n 1, 1) := by decide +kernel
theorem dX11_readsLoan_225 : decode cX11_readsLoan 225 = .ok (.iaload, 1) := by decide +kernel
theorem dX11_readsLoan_226 : decode cX11_readsLoan 226 = .ok (.ifCond .ge 9, 3) := by decide +kernel
theorem dX11_readsLoan_229 : decode cX11_readsLoan 229 = .ok (.aload_n 0, 1) := by decide +kernel
theorem dX11_readsLoan_230 : decode cX11_readsLoan 230 = .ok (.iconst 2, 1) := by decide +kernel
theorem dX11_readsLoan_231 : decode cX11_readsLoan 231 = .ok (.invokevirtual 198, 3) := by decide +kernel
theorem dX11_readsLoan_234 : decode cX11_readsLoan 234 = .ok (.ireturn, 1) := by decide +kernel
theorem dX11_readsLoan_235 : decode cX11_readsLoan 235 = .ok (.aload_n 0, 1) := by decide +kernel
theorem dX11_readsLoan_236 : decode cX11_readsLoan 236 = .ok (.invokevirtual 205, 3) := by decide +kernel
theorem dX11_readsLoan_239 : decode cX11_readsLoan 239 = .ok (.aload_n 0, 1) := by decide +kernel
theorem dX11_readsLoan_240 : decode cX11_readsLoan 240 = .ok (.getfield 59, 3) := by decide +kernel
theorem dX11_readsLoan_243 : decode cX11_readsLoan 243 = .ok (.iload_n 1, 1) := by decide +kernel
theorem dX11_readsLoan_244 : decode cX11_readsLoan 244 = .ok (.aload_n 0, 1) := by decide +kernel
theorem dX11_readsLoan_245 : decode cX11_readsLoan 245 = .ok (.invokevirtual 290, 3) := by decide +kernel
theorem dX11_readsLoan_248 : decode cX11_readsLoan 248 = .ok (.iastore, 1) := by decide +kernel
theorem dX11_readsLoan_249 : decode cX11_readsLoan 249 = .ok (.aload_n 0, 1) := by decide +kernel
theorem dX11_readsLoan_250 : decode cX11_readsLoan 250 = .ok (.getfield 59, 3) := by decide +kernel
theorem dX11_readsLoan_253 : decode cX11_readsLoan 253 = .ok (.iload_n 1, 1) := by decide +kernel
theorem dX11_readsLoan_254 : decode cX11_readsLoan 254 = .ok (.iaload, 1) := by decide +kernel
theorem dX11_readsLoan_255 : decode cX11_readsLoan 255 = .ok (.ifCond .ge 9, 3) := by decide +kernel
theorem dX11_readsLoan_258 : decode cX11_readsLoan 258 = .ok (.aload_n 0, 1) := by decide +kernel
theorem dX11_readsLoan_259 : decode cX11_readsLoan 259 = .ok (.iconst 1, 1) := by decide +kernel
theorem dX11_readsLoan_260 : decode cX11_readsLoan 260 = .ok (.invokevirtual 198, 3) := by decide +kernel
theorem dX11_readsLoan_263 : decode cX11_readsLoan 263 = .ok (.ireturn, 1) := by decide +kernel
theorem dX11_readsLoan_264 : decode cX11_readsLoan 264 = .ok (.aload_n 0, 1) := by decide +kernel
theorem dX11_readsLoan_265 : decode cX11_readsLoan 265 = .ok (.invokevirtual 205, 3) := by decide +kernel
theorem dX11_readsLoan_268 : decode cX11_readsLoan 268 = .ok (.aload_n 0, 1) := by decide +kernel
theorem dX11_readsLoan_269 : decode cX11_readsLoan 269 = .ok (.getfield 62, 3) := by decide +kernel
theorem dX11_readsLoan_272 : decode cX11_readsLoan 272 = .ok (.iload_n 1, 1) := by decide +kernel
theorem dX11_readsLoan_273 : decode cX11_readsLoan 273 = .ok (.iconst (-1), 1) := by decide +kernel
theorem dX11_readsLoan_274 : decode cX11_readsLoan 274 = .ok (.iastore, 1) := by decide +kernel
theorem dX11_readsLoan_275 : decode cX11_readsLoan 275 = .ok (.aload_n 0, 1) := by decide +kernel
theorem dX11_readsLoan_276 : decode cX11_readsLoan 276 = .ok (.ldc2_w 239, 3) := by decide +kernel
theorem dX11_readsLoan_279 : decode cX11_readsLoan 279 = .ok (.invokevirtual 190, 3) := by decide +kernel
theorem dX11_readsLoan_282 : decode cX11_readsLoan 282 = .ok (.ifCond .eq 38, 3) := by decide +kernel
theorem dX11_readsLoan_285 : decode cX11_readsLoan 285 = .ok (.aload_n 0, 1) := by decide +kernel
theorem dX11_readsLoan_286 : decode cX11_readsLoan 286 = .ok (.invokevirtual 205, 3) := by decide +kernel
theorem dX11_readsLoan_289 : decode cX11_readsLoan 289 = .ok (.aload_n 0, 1) := by decide +kernel
theorem dX11_readsLoan_290 : decode cX11_readsLoan 290 = .ok (.aload_n 0, 1) := by decide +kernel
theorem dX11_readsLoan_291 : decode cX11_readsLoan 291 = .ok (.getfield 41, 3) := by decide +kernel
theorem dX11_readsLoan_294 : decode cX11_readsLoan 294 = .ok (.iload_n 1, 1) := by decide +kernel
theorem dX11_readsLoan_295 : decode cX11_readsLoan 295 = .ok (.iaload, 1) := by decide +kernel
theorem dX11_readsLoan_296 : decode cX11_readsLoan 296 = .ok (.aload_n 0, 1) := by decide +kernel
theorem dX11_readsLoan_297 : decode cX11_readsLoan 297 = .ok (.getfield 44, 3) := by decide +kernel
theorem dX11_readsLoan_300 : decode cX11_readsLoan 300 = .ok (.iload_n 1, 1) := by decide +kernel
theorem dX11_readsLoan_301 : decode cX11_readsLoan 301 = .ok (.iaload, 1) := by decide +kernel
theorem dX11_readsLoan_302 : decode cX11_readsLoan 302 = .ok (.invokevirtual 287, 3) := by decide +kernel
theorem dX11_readsLoan_305 : decode cX11_readsLoan 305 = .ok (.ifCond .ne 5, 3) := by decide +kernel
theorem dX11_readsLoan_308 : decode cX11_readsLoan 308 = .ok (.iconst 0, 1) := by decide +kernel
theorem dX11_readsLoan_309 : decode cX11_readsLoan 309 = .ok (.ireturn, 1) := by decide +kernel
theorem dX11_readsLoan_310 : decode cX11_readsLoan 310 = .ok (.aload_n 0, 1) := by decide +kernel
theorem dX11_readsLoan_311 : decode cX11_readsLoan 311 = .ok (.getfield 62, 3) := by decide +kernel
theorem dX11_readsLoan_314 : decode cX11_readsLoan 314 = .ok (.iload_n 1, 1) := by decide +kernel
theorem dX11_readsLoan_315 : decode cX11_readsLoan 315 = .ok (.aload_n 0, 1) := by decide +kernel
theorem dX11_readsLoan_316 : decode cX11_readsLoan 316 = .ok (.getfield 261, 3) := by decide +kernel
theorem dX11_readsLoan_319 : decode cX11_readsLoan 319 = .ok (.iastore, 1) := by decide +kernel
theorem dX11_readsLoan_320 : decode cX11_readsLoan 320 = .ok (.aload_n 0, 1) := by decide +kernel
theorem dX11_readsLoan_321 : decode cX11_readsLoan 321 = .ok (.getfield 19, 3) := by decide +kernel
theorem dX11_readsLoan_324 : decode cX11_readsLoan 324 = .ok (.iconst 1, 1) := by decide +kernel
theorem dX11_readsLoan_325 : decode cX11_readsLoan 325 = .ok (.dup2, 1) := by decide +kernel
theorem dX11_readsLoan_326 : decode cX11_readsLoan 326 = .ok (.iaload, 1) := by decide +kernel
theorem dX11_readsLoan_327 : decode cX11_readsLoan 327 = .ok (.iconst 1, 1) := by decide +kernel
theorem dX11_readsLoan_328 : decode cX11_readsLoan 328 = .ok (.iadd, 1) := by decide +kernel
theorem dX11_readsLoan_329 : decode cX11_readsLoan 329 = .ok (.iastore, 1) := by decide +kernel
theorem dX11_readsLoan_330 : decode cX11_readsLoan 330 = .ok (.aload_n 0, 1) := by decide +kernel
theorem dX11_readsLoan_331 : decode cX11_readsLoan 331 = .ok (.invokevirtual 284, 3) := by decide +kernel
theorem dX11_readsLoan_334 : decode cX11_readsLoan 334 = .ok (.ireturn, 1) := by decide +kernel
theorem dX11_readsBet_0 : decode cX11_readsBet 0 = .ok (.aload_n 0, 1) := by decide +kernel
theorem dX11_readsBet_1 : decode cX11_readsBet 1 = .ok (.getfield 22, 3) := by decide +kernel
theorem dX11_readsBet_4 : decode cX11_readsBet 4 = .ok (.iconst 1, 1) := by decide +kernel
theorem dX11_readsBet_5 : decode cX11_readsBet 5 = .ok (.iaload, 1) := by decide +kernel
theorem dX11_readsBet_6 : decode cX11_readsBet 6 = .ok (.bipush 8, 2) := by decide +kernel
theorem dX11_readsBet_8 : decode cX11_readsBet 8 = .ok (.if_icmp .ne 9, 3) := by decide +kernel
theorem dX11_readsBet_11 : decode cX11_readsBet 11 = .ok (.aload_n 0, 1) := by decide +kernel
theorem dX11_readsBet_12 : decode cX11_readsBet 12 = .ok (.iconst 5, 1) := by decide +kernel
theorem dX11_readsBet_13 : decode cX11_readsBet 13 = .ok (.invokevirtual 198, 3) := by decide +kernel
theorem dX11_readsBet_16 : decode cX11_readsBet 16 = .ok (.ireturn, 1) := by decide +kernel
theorem dX11_readsBet_17 : decode cX11_readsBet 17 = .ok (.bipush 8, 2) := by decide +kernel
theorem dX11_readsBet_19 : decode cX11_readsBet 19 = .ok (.aload_n 0, 1) := by decide +kernel
theorem dX11_readsBet_20 : decode cX11_readsBet 20 = .ok (.getfield 22, 3) := by decide +kernel
theorem dX11_readsBet_23 : decode cX11_readsBet 23 = .ok (.iconst 1, 1) := by decide +kernel
theorem dX11_readsBet_24 : decode cX11_readsBet 24 = .ok (.iaload, 1) := by decide +kernel
theorem dX11_readsBet_25 : decode cX11_readsBet 25 = .ok (.iadd, 1) := by decide +kernel
theorem dX11_readsBet_26 : decode cX11_readsBet 26 = .ok (.istore_n 1, 1) := by decide +kernel
theorem dX11_readsBet_27 : decode cX11_readsBet 27 = .ok (.aload_n 0, 1) := by decide +kernel
theorem dX11_readsBet_28 : decode cX11_readsBet 28 = .ok (.invokevirtual 205, 3) := by decide +kernel
theorem dX11_readsBet_31 : decode cX11_readsBet 31 = .ok (.aload_n 0, 1) := by decide +kernel
theorem dX11_readsBet_32 : decode cX11_readsBet 32 = .ok (.iconst 0, 1) := by decide +kernel
theorem dX11_readsBet_33 : decode cX11_readsBet 33 = .ok (.sipush 999, 3) := by decide +kernel
theorem dX11_readsBet_36 : decode cX11_readsBet 36 = .ok (.invokevirtual 280, 3) := by decide +kernel
theorem dX11_readsBet_39 : decode cX11_readsBet 39 = .ok (.ifCond .ne 5, 3) := by decide +kernel
theorem dX11_readsBet_42 : decode cX11_readsBet 42 = .ok (.iconst 0, 1) := by decide +kernel
theorem dX11_readsBet_43 : decode cX11_readsBet 43 = .ok (.ireturn, 1) := by decide +kernel
theorem dX11_readsBet_44 : decode cX11_readsBet 44 = .ok (.aload_n 0, 1) := by decide +kernel
theorem dX11_readsBet_45 : decode cX11_readsBet 45 = .ok (.getfield 65, 3) := by decide +kernel
theorem dX11_readsBet_48 : decode cX11_readsBet 48 = .ok (.iload_n 1, 1) := by decide +kernel
theorem dX11_readsBet_49 : decode cX11_readsBet 49 = .ok (.aload_n 0, 1) := by decide +kernel
theorem dX11_readsBet_50 : decode cX11_readsBet 50 = .ok (.getfield 261, 3) := by decide +kernel
theorem dX11_readsBet_53 : decode cX11_readsBet 53 = .ok (.iastore, 1) := by decide +kernel
theorem dX11_readsBet_54 : decode cX11_readsBet 54 = .ok (.aload_n 0, 1) := by decide +kernel
theorem dX11_readsBet_55 : decode cX11_readsBet 55 = .ok (.ldc2_w 243, 3) := by decide +kernel
theorem dX11_readsBet_58 : decode cX11_readsBet 58 = .ok (.invokevirtual 277, 3) := by decide +kernel
theorem dX11_readsBet_61 : decode cX11_readsBet 61 = .ok (.ifCond .eq 14, 3) := by decide +kernel
theorem dX11_readsBet_64 : decode cX11_readsBet 64 = .ok (.aload_n 0, 1) := by decide +kernel
theorem dX11_readsBet_65 : decode cX11_readsBet 65 = .ok (.iconst 0, 1) := by decide +kernel
theorem dX11_readsBet_66 : decode cX11_readsBet 66 = .ok (.sipush 999, 3) := by decide +kernel
theorem dX11_readsBet_69 : decode cX11_readsBet 69 = .ok (.invokevirtual 280, 3) := by decide +kernel
theorem dX11_readsBet_72 : decode cX11_readsBet 72 = .ok (.ifCond .ne 5, 3) := by decide +kernel
theorem dX11_readsBet_75 : decode cX11_readsBet 75 = .ok (.iconst 0, 1) := by decide +kernel
theorem dX11_readsBet_76 : decode cX11_readsBet 76 = .ok (.ireturn, 1) := by decide +kernel
theorem dX11_readsBet_77 : decode cX11_readsBet 77 = .ok (.aload_n 0, 1) := by decide +kernel
theorem dX11_readsBet_78 : decode cX11_readsBet 78 = .ok (.getfield 68, 3) := by decide +kernel
theorem dX11_readsBet_81 : decode cX11_readsBet 81 = .ok (.iload_n 1, 1) := by decide +kernel
theorem dX11_readsBet_82 : decode cX11_readsBet 82 = .ok (.aload_n 0, 1) := by decide +kernel
theorem dX11_readsBet_83 : decode cX11_readsBet 83 = .ok (.getfield 261, 3) := by decide +kernel
theorem dX11_readsBet_86 : decode cX11_readsBet 86 = .ok (.iastore, 1) := by decide +kernel
theorem dX11_readsBet_87 : decode cX11_readsBet 87 = .ok (.aload_n 0, 1) := by decide +kernel
theorem dX11_readsBet_88 : decode cX11_readsBet 88 = .ok (.ldc2_w 245, 3) := by decide +kernel
theorem dX11_readsBet_91 : decode cX11_readsBet 91 = .ok (.invokevirtual 190, 3) := by decide +kernel
theorem dX11_readsBet_94 : decode cX11_readsBet 94 = .ok (.ifCond .ne 9, 3) := by decide +kernel
theorem dX11_readsBet_97 : decode cX11_readsBet 97 = .ok (.aload_n 0, 1) := by decide +kernel
theorem dX11_readsBet_98 : decode cX11_readsBet 98 = .ok (.iconst 1, 1) := by decide +kernel
theorem dX11_readsBet_99 : decode cX11_readsBet 99 = .ok (.invokevirtual 198, 3) := by decide +kernel
theorem dX11_readsBet_102 : decode cX11_readsBet 102 = .ok (.ireturn, 1) := by decide +kernel
theorem dX11_readsBet_103 : decode cX11_readsBet 103 = .ok (.aload_n 0, 1) := by decide +kernel
theorem dX11_readsBet_104 : decode cX11_readsBet 104 = .ok (.invokevirtual 205, 3) := by decide +kernel
theorem dX11_readsBet_107 : decode cX11_readsBet 107 = .ok (.aload_n 0, 1) := by decide +kernel
theorem dX11_readsBet_108 : decode cX11_readsBet 108 = .ok (.getfield 71, 3) := by decide +kernel
theorem dX11_readsBet_111 : decode cX11_readsBet 111 = .ok (.iload_n 1, 1) := by decide +kernel
theorem dX11_readsBet_112 : decode cX11_readsBet 112 = .ok (.aload_n 0, 1) := by decide +kernel
theorem dX11_readsBet_113 : decode cX11_readsBet 113 = .ok (.getfield 171, 3) := by decide +kernel
theorem dX11_readsBet_116 : decode cX11_readsBet 116 = .ok (.iastore, 1) := by decide +kernel
theorem dX11_readsBet_117 : decode cX11_readsBet 117 = .ok (.aload_n 0, 1) := by decide +kernel
theorem dX11_readsBet_118 : decode cX11_readsBet 118 = .ok (.invokevirtual 293, 3) := by decide +kernel
theorem dX11_readsBet_121 : decode cX11_readsBet 121 = .ok (.ifCond .ne 5, 3) := by decide +kernel
theorem dX11_readsBet_124 : decode cX11_readsBet 124 = .ok (.iconst 0, 1) := by decide +kernel
theorem dX11_readsBet_125 : decode cX11_readsBet 125 = .ok (.ireturn, 1) := by decide +kernel
theorem dX11_readsBet_126 : decode cX11_readsBet 126 = .ok (.aload_n 0, 1) := by decide +kernel
theorem dX11_readsBet_127 : decode cX11_readsBet 127 = .ok (.getfield 74, 3) := by decide +kernel
theorem dX11_readsBet_130 : decode cX11_readsBet 130 = .ok (.iload_n 1, 1) := by decide +kernel
theorem dX11_readsBet_131 : decode cX11_readsBet 131 = .ok (.aload_n 0, 1) := by decide +kernel
theorem dX11_readsBet_132 : decode cX11_readsBet 132 = .ok (.getfield 171, 3) := by decide +kernel
theorem dX11_readsBet_135 : decode cX11_readsBet 135 = .ok (.iastore, 1) := by decide +kernel
theorem dX11_readsBet_136 : decode cX11_readsBet 136 = .ok (.aload_n 0, 1) := by decide +kernel
theorem dX11_readsBet_137 : decode cX11_readsBet 137 = .ok (.getfield 22, 3) := by decide +kernel
theorem dX11_readsBet_140 : decode cX11_readsBet 140 = .ok (.iconst 1, 1) := by decide +kernel
theorem dX11_readsBet_141 : decode cX11_readsBet 141 = .ok (.dup2, 1) := by decide +kernel
theorem dX11_readsBet_142 : decode cX11_readsBet 142 = .ok (.iaload, 1) := by decide +kernel
theorem dX11_readsBet_143 : decode cX11_readsBet 143 = .ok (.iconst 1, 1) := by decide +kernel
theorem dX11_readsBet_144 : decode cX11_readsBet 144 = .ok (.iadd, 1) := by decide +kernel
theorem dX11_readsBet_145 : decode cX11_readsBet 145 = .ok (.iastore, 1) := by decide +kernel
theorem dX11_readsBet_146 : decode cX11_readsBet 146 = .ok (.iconst 1, 1) := by decide +kernel
theorem dX11_readsBet_147 : decode cX11_readsBet 147 = .ok (.ireturn, 1) := by decide +kernel
theorem dX11_readsAll_0 : decode cX11_readsAll 0 = .ok (.aload_n 0, 1) := by decide +kernel
theorem dX11_readsAll_1 : decode cX11_readsAll 1 = .ok (.getfield 13, 3) := by decide +kernel
theorem dX11_readsAll_4 : decode cX11_readsAll 4 = .ok (.iconst 1, 1) := by decide +kernel
theorem dX11_readsAll_5 : decode cX11_readsAll 5 = .ok (.iconst 0, 1) := by decide +kernel
theorem dX11_readsAll_6 : decode cX11_readsAll 6 = .ok (.iastore, 1) := by decide +kernel
theorem dX11_readsAll_7 : decode cX11_readsAll 7 = .ok (.aload_n 0, 1) := by decide +kernel
theorem dX11_readsAll_8 : decode cX11_readsAll 8 = .ok (.getfield 16, 3) := by decide +kernel
theorem dX11_readsAll_11 : decode cX11_readsAll 11 = .ok (.iconst 1, 1) := by decide +kernel
theorem dX11_readsAll_12 : decode cX11_readsAll 12 = .ok (.iconst 0, 1) := by decide +kernel
theorem dX11_readsAll_13 : decode cX11_readsAll 13 = .ok (.iastore, 1) := by decide +kernel
theorem dX11_readsAll_14 : decode cX11_readsAll 14 = .ok (.aload_n 0, 1) := by decide +kernel
theorem dX11_readsAll_15 : decode cX11_readsAll 15 = .ok (.getfield 19, 3) := by decide +kernel
theorem dX11_readsAll_18 : decode cX11_readsAll 18 = .ok (.iconst 1, 1) := by decide +kernel
theorem dX11_readsAll_19 : decode cX11_readsAll 19 = .ok (.iconst 0, 1) := by decide +kernel
theorem dX11_readsAll_20 : decode cX11_readsAll 20 = .ok (.iastore, 1) := by decide +kernel
theorem dX11_readsAll_21 : decode cX11_readsAll 21 = .ok (.aload_n 0, 1) := by decide +kernel
theorem dX11_readsAll_22 : decode cX11_readsAll 22 = .ok (.getfield 22, 3) := by decide +kernel
theorem dX11_readsAll_25 : decode cX11_readsAll 25 = .ok (.iconst 1, 1) := by decide +kernel
theorem dX11_readsAll_26 : decode cX11_readsAll 26 = .ok (.iconst 0, 1) := by decide +kernel
theorem dX11_readsAll_27 : decode cX11_readsAll 27 = .ok (.iastore, 1) := by decide +kernel
theorem dX11_readsAll_28 : decode cX11_readsAll 28 = .ok (.aload_n 0, 1) := by decide +kernel
theorem dX11_readsAll_29 : decode cX11_readsAll 29 = .ok (.sipush 1000, 3) := by decide +kernel
theorem dX11_readsAll_32 : decode cX11_readsAll 32 = .ok (.putfield 171, 3) := by decide +kernel
theorem dX11_readsAll_35 : decode cX11_readsAll 35 = .ok (.aload_n 0, 1) := by decide +kernel
theorem dX11_readsAll_36 : decode cX11_readsAll 36 = .ok (.aload_n 0, 1) := by decide +kernel
theorem dX11_readsAll_37 : decode cX11_readsAll 37 = .ok (.getfield 138, 3) := by decide +kernel
theorem dX11_readsAll_40 : decode cX11_readsAll 40 = .ok (.putfield 141, 3) := by decide +kernel
theorem dX11_readsAll_43 : decode cX11_readsAll 43 = .ok (.aload_n 0, 1) := by decide +kernel
theorem dX11_readsAll_44 : decode cX11_readsAll 44 = .ok (.iconst 0, 1) := by decide +kernel
theorem dX11_readsAll_45 : decode cX11_readsAll 45 = .ok (.putfield 138, 3) := by decide +kernel
theorem dX11_readsAll_48 : decode cX11_readsAll 48 = .ok (.aload_n 0, 1) := by decide +kernel
theorem dX11_readsAll_49 : decode cX11_readsAll 49 = .ok (.iconst 0, 1) := by decide +kernel
theorem dX11_readsAll_50 : decode cX11_readsAll 50 = .ok (.putfield 144, 3) := by decide +kernel
theorem dX11_readsAll_53 : decode cX11_readsAll 53 = .ok (.aload_n 0, 1) := by decide +kernel
theorem dX11_readsAll_54 : decode cX11_readsAll 54 = .ok (.invokevirtual 205, 3) := by decide +kernel
theorem dX11_readsAll_57 : decode cX11_readsAll 57 = .ok (.aload_n 0, 1) := by decide +kernel
theorem dX11_readsAll_58 : decode cX11_readsAll 58 = .ok (.getfield 157, 3) := by decide +kernel
theorem dX11_readsAll_61 : decode cX11_readsAll 61 = .ok (.ifCond .eq 86, 3) := by decide +kernel
theorem dX11_readsAll_64 : decode cX11_readsAll 64 = .ok (.aload_n 0, 1) := by decide +kernel
theorem dX11_readsAll_65 : decode cX11_readsAll 65 = .ok (.ldc2_w 221, 3) := by decide +kernel
theorem dX11_readsAll_68 : decode cX11_readsAll 68 = .ok (.invokevirtual 190, 3) := by decide +kernel
theorem dX11_readsAll_71 : decode cX11_readsAll 71 = .ok (.ifCond .eq 10, 3) := by decide +kernel
theorem dX11_readsAll_74 : decode cX11_readsAll 74 = .ok (.aload_n 0, 1) := by decide +kernel
theorem dX11_readsAll_75 : decode cX11_readsAll 75 = .ok (.invokevirtual 296, 3) := by decide +kernel
theorem dX11_readsAll_78 : decode cX11_readsAll 78 = .ok (.goto 59, 3) := by decide +kernel
theorem dX11_readsAll_81 : decode cX11_readsAll 81 = .ok (.aload_n 0, 1) := by decide +kernel
theorem dX11_readsAll_82 : decode cX11_readsAll 82 = .ok (.ldc2_w 225, 3) := by decide +kernel
theorem dX11_readsAll_85 : decode cX11_readsAll 85 = .ok (.invokevirtual 190, 3) := by decide +kernel
theorem dX11_readsAll_88 : decode cX11_readsAll 88 = .ok (.ifCond .eq 10, 3) := by decide +kernel
theorem dX11_readsAll_91 : decode cX11_readsAll 91 = .ok (.aload_n 0, 1) := by decide +kernel
theorem dX11_readsAll_92 : decode cX11_readsAll 92 = .ok (.invokevirtual 299, 3) := by decide +kernel
theorem dX11_readsAll_95 : decode cX11_readsAll 95 = .ok (.goto 42, 3) := by decide +kernel
theorem dX11_readsAll_98 : decode cX11_readsAll 98 = .ok (.aload_n 0, 1) := by decide +kernel
theorem dX11_readsAll_99 : decode cX11_readsAll 99 = .ok (.ldc2_w 227, 3) := by decide +kernel
theorem dX11_readsAll_102 : decode cX11_readsAll 102 = .ok (.invokevirtual 190, 3) := by decide +kernel
theorem dX11_readsAll_105 : decode cX11_readsAll 105 = .ok (.ifCond .eq 10, 3) := by decide +kernel
theorem dX11_readsAll_108 : decode cX11_readsAll 108 = .ok (.aload_n 0, 1) := by decide +kernel
theorem dX11_readsAll_109 : decode cX11_readsAll 109 = .ok (.invokevirtual 302, 3) := by decide +kernel
theorem dX11_readsAll_112 : decode cX11_readsAll 112 = .ok (.goto 25, 3) := by decide +kernel
theorem dX11_readsAll_115 : decode cX11_readsAll 115 = .ok (.aload_n 0, 1) := by decide +kernel
theorem dX11_readsAll_116 : decode cX11_readsAll 116 = .ok (.ldc2_w 241, 3) := by decide +kernel
theorem dX11_readsAll_119 : decode cX11_readsAll 119 = .ok (.invokevirtual 190, 3) := by decide +kernel
theorem dX11_readsAll_122 : decode cX11_readsAll 122 = .ok (.ifCond .eq 10, 3) := by decide +kernel
theorem dX11_readsAll_125 : decode cX11_readsAll 125 = .ok (.aload_n 0, 1) := by decide +kernel
theorem dX11_readsAll_126 : decode cX11_readsAll 126 = .ok (.invokevirtual 305, 3) := by decide +kernel
theorem dX11_readsAll_129 : decode cX11_readsAll 129 = .ok (.goto 8, 3) := by decide +kernel
theorem dX11_readsAll_132 : decode cX11_readsAll 132 = .ok (.aload_n 0, 1) := by decide +kernel
theorem dX11_readsAll_133 : decode cX11_readsAll 133 = .ok (.iconst 1, 1) := by decide +kernel
theorem dX11_readsAll_134 : decode cX11_readsAll 134 = .ok (.invokevirtual 198, 3) := by decide +kernel
theorem dX11_readsAll_137 : decode cX11_readsAll 137 = .ok (.istore_n 1, 1) := by decide +kernel
theorem dX11_readsAll_138 : decode cX11_readsAll 138 = .ok (.iload_n 1, 1) := by decide +kernel
theorem dX11_readsAll_139 : decode cX11_readsAll 139 = .ok (.ifCond .ne 5, 3) := by decide +kernel
theorem dX11_readsAll_142 : decode cX11_readsAll 142 = .ok (.iconst 0, 1) := by decide +kernel
theorem dX11_readsAll_143 : decode cX11_readsAll 143 = .ok (.ireturn, 1) := by decide +kernel
theorem dX11_readsAll_144 : decode cX11_readsAll 144 = .ok (.goto (-87), 3) := by decide +kernel
theorem dX11_readsAll_147 : decode cX11_readsAll 147 = .ok (.iconst 1, 1) := by decide +kernel
theorem dX11_readsAll_148 : decode cX11_readsAll 148 = .ok (.ireturn, 1) := by decide +kernel
theorem dX11_moves_0 : decode cX11_moves 0 = .ok (.iconst 0, 1) := by decide +kernel
theorem dX11_moves_1 : decode cX11_moves 1 = .ok (.istore 4, 2) := by decide +kernel
theorem dX11_moves_3 : decode cX11_moves 3 = .ok (.iload 4, 2) := by decide +kernel
theorem dX11_moves_5 : decode cX11_moves 5 = .ok (.iload_n 1, 1) := by decide +kernel
theorem dX11_moves_6 : decode cX11_moves 6 = .ok (.if_icmp .ge 25, 3) := by decide +kernel
theorem dX11_moves_9 : decode cX11_moves 9 = .ok (.aload_n 0, 1) := by decide +kernel
theorem dX11_moves_10 : decode cX11_moves 10 = .ok (.iload_n 1, 1) := by decide +kernel
theorem dX11_moves_11 : decode cX11_moves 11 = .ok (.iload_n 3, 1) := by decide +kernel
theorem dX11_moves_12 : decode cX11_moves 12 = .ok (.imul, 1) := by decide +kernel
theorem dX11_moves_13 : decode cX11_moves 13 = .ok (.iload 4, 2) := by decide +kernel
theorem dX11_moves_15 : decode cX11_moves 15 = .ok (.iadd, 1) := by decide +kernel
theorem dX11_moves_16 : decode cX11_moves 16 = .ok (.aload_n 0, 1) := by decide +kernel
theorem dX11_moves_17 : decode cX11_moves 17 = .ok (.iload_n 1, 1) := by decide +kernel
theorem dX11_moves_18 : decode cX11_moves 18 = .ok (.iload_n 2, 1) := by decide +kernel
theorem dX11_moves_19 : decode cX11_moves 19 = .ok (.imul, 1) := by decide +kernel
theorem dX11_moves_20 : decode cX11_moves 20 = .ok (.iload 4, 2) := by decide +kernel
theorem dX11_moves_22 : decode cX11_moves 22 = .ok (.iadd, 1) := by decide +kernel
theorem dX11_moves_23 : decode cX11_moves 23 = .ok (.iaload, 1) := by decide +kernel
theorem dX11_moves_24 : decode cX11_moves 24 = .ok (.iastore, 1) := by decide +kernel
theorem dX11_moves_25 : decode cX11_moves 25 = .ok (.iinc 4 1, 3) := by decide +kernel
theorem dX11_moves_28 : decode cX11_moves 28 = .ok (.goto (-25), 3) := by decide +kernel
theorem dX11_moves_31 : decode cX11_moves 31 = .ok (.return_, 1) := by decide +kernel
theorem dX11_lays_0 : decode cX11_lays 0 = .ok (.aload_n 0, 1) := by decide +kernel
theorem dX11_lays_1 : decode cX11_lays 1 = .ok (.getfield 13, 3) := by decide +kernel
theorem dX11_lays_4 : decode cX11_lays 4 = .ok (.iconst 1, 1) := by decide +kernel
theorem dX11_lays_5 : decode cX11_lays 5 = .ok (.iload_n 1, 1) := by decide +kernel
theorem dX11_lays_6 : decode cX11_lays 6 = .ok (.iload_n 2, 1) := by decide +kernel
theorem dX11_lays_7 : decode cX11_lays 7 = .ok (.invokestatic 308, 3) := by decide +kernel
theorem dX11_lays_10 : decode cX11_lays 10 = .ok (.aload_n 0, 1) := by decide +kernel
theorem dX11_lays_11 : decode cX11_lays 11 = .ok (.getfield 16, 3) := by decide +kernel
theorem dX11_lays_14 : decode cX11_lays 14 = .ok (.iconst 1, 1) := by decide +kernel
theorem dX11_lays_15 : decode cX11_lays 15 = .ok (.iload_n 1, 1) := by decide +kernel
theorem dX11_lays_16 : decode cX11_lays 16 = .ok (.iload_n 2, 1) := by decide +kernel
theorem dX11_lays_17 : decode cX11_lays 17 = .ok (.invokestatic 308, 3) := by decide +kernel
theorem dX11_lays_20 : decode cX11_lays 20 = .ok (.aload_n 0, 1) := by decide +kernel
theorem dX11_lays_21 : decode cX11_lays 21 = .ok (.getfield 19, 3) := by decide +kernel
theorem dX11_lays_24 : decode cX11_lays 24 = .ok (.iconst 1, 1) := by decide +kernel
theorem dX11_lays_25 : decode cX11_lays 25 = .ok (.iload_n 1, 1) := by decide +kernel
theorem dX11_lays_26 : decode cX11_lays 26 = .ok (.iload_n 2, 1) := by decide +kernel
theorem dX11_lays_27 : decode cX11_lays 27 = .ok (.invokestatic 308, 3) := by decide +kernel
theorem dX11_lays_30 : decode cX11_lays 30 = .ok (.aload_n 0, 1) := by decide +kernel
theorem dX11_lays_31 : decode cX11_lays 31 = .ok (.getfield 22, 3) := by decide +kernel
theorem dX11_lays_34 : decode cX11_lays 34 = .ok (.iconst 1, 1) := by decide +kernel
theorem dX11_lays_35 : decode cX11_lays 35 = .ok (.iload_n 1, 1) := by decide +kernel
theorem dX11_lays_36 : decode cX11_lays 36 = .ok (.iload_n 2, 1) := by decide +kernel
theorem dX11_lays_37 : decode cX11_lays 37 = .ok (.invokestatic 308, 3) := by decide +kernel
theorem dX11_lays_40 : decode cX11_lays 40 = .ok (.aload_n 0, 1) := by decide +kernel
theorem dX11_lays_41 : decode cX11_lays 41 = .ok (.getfield 32, 3) := by decide +kernel
theorem dX11_lays_44 : decode cX11_lays 44 = .ok (.iconst 4, 1) := by decide +kernel
theorem dX11_lays_45 : decode cX11_lays 45 = .ok (.iload_n 1, 1) := by decide +kernel
theorem dX11_lays_46 : decode cX11_lays 46 = .ok (.iload_n 2, 1) := by decide +kernel
theorem dX11_lays_47 : decode cX11_lays 47 = .ok (.invokestatic 308, 3) := by decide +kernel
theorem dX11_lays_50 : decode cX11_lays 50 = .ok (.aload_n 0, 1) := by decide +kernel
theorem dX11_lays_51 : decode cX11_lays 51 = .ok (.getfield 35, 3) := by decide +kernel
theorem dX11_lays_54 : decode cX11_lays 54 = .ok (.iconst 4, 1) := by decide +kernel
theorem dX11_lays_55 : decode cX11_lays 55 = .ok (.iload_n 1, 1) := by decide +kernel
theorem dX11_lays_56 : decode cX11_lays 56 = .ok (.iload_n 2, 1) := by decide +kernel
theorem dX11_lays_57 : decode cX11_lays 57 = .ok (.invokestatic 308, 3) := by decide +kernel
theorem dX11_lays_60 : decode cX11_lays 60 = .ok (.aload_n 0, 1) := by decide +kernel
theorem dX11_lays_61 : decode cX11_lays 61 = .ok (.getfield 38, 3) := by decide +kernel
theorem dX11_lays_64 : decode cX11_lays 64 = .ok (.bipush 6, 2) := by decide +kernel
theorem dX11_lays_66 : decode cX11_lays 66 = .ok (.iload_n 1, 1) := by decide +kernel
theorem dX11_lays_67 : decode cX11_lays 67 = .ok (.iload_n 2, 1) := by decide +kernel
theorem dX11_lays_68 : decode cX11_lays 68 = .ok (.invokestatic 308, 3) := by decide +kernel
theorem dX11_lays_71 : decode cX11_lays 71 = .ok (.aload_n 0, 1) := by decide +kernel
theorem dX11_lays_72 : decode cX11_lays 72 = .ok (.getfield 41, 3) := by decide +kernel
theorem dX11_lays_75 : decode cX11_lays 75 = .ok (.bipush 10, 2) := by decide +kernel
theorem dX11_lays_77 : decode cX11_lays 77 = .ok (.iload_n 1, 1) := by decide +kernel
theorem dX11_lays_78 : decode cX11_lays 78 = .ok (.iload_n 2, 1) := by decide +kernel
theorem dX11_lays_79 : decode cX11_lays 79 = .ok (.invokestatic 308, 3) := by decide +kernel
theorem dX11_lays_82 : decode cX11_lays 82 = .ok (.aload_n 0, 1) := by decide +kernel
theorem dX11_lays_83 : decode cX11_lays 83 = .ok (.getfield 44, 3) := by decide +kernel
theorem dX11_lays_86 : decode cX11_lays 86 = .ok (.bipush 10, 2) := by decide +kernel
theorem dX11_lays_88 : decode cX11_lays 88 = .ok (.iload_n 1, 1) := by decide +kernel
theorem dX11_lays_89 : decode cX11_lays 89 = .ok (.iload_n 2, 1) := by decide +kernel
theorem dX11_lays_90 : decode cX11_lays 90 = .ok (.invokestatic 308, 3) := by decide +kernel
theorem dX11_lays_93 : decode cX11_lays 93 = .ok (.aload_n 0, 1) := by decide +kernel
theorem dX11_lays_94 : decode cX11_lays 94 = .ok (.getfield 47, 3) := by decide +kernel
theorem dX11_lays_97 : decode cX11_lays 97 = .ok (.bipush 10, 2) := by decide +kernel
theorem dX11_lays_99 : decode cX11_lays 99 = .ok (.iload_n 1, 1) := by decide +kernel
theorem dX11_lays_100 : decode cX11_lays 100 = .ok (.iload_n 2, 1) := by decide +kernel
theorem dX11_lays_101 : decode cX11_lays 101 = .ok (.invokestatic 308, 3) := by decide +kernel
theorem dX11_lays_104 : decode cX11_lays 104 = .ok (.aload_n 0, 1) := by decide +kernel
theorem dX11_lays_105 : decode cX11_lays 105 = .ok (.getfield 50, 3) := by decide +kernel
theorem dX11_lays_108 : decode cX11_lays 108 = .ok (.bipush 10, 2) := by decide +kernel
theorem dX11_lays_110 : decode cX11_lays 110 = .ok (.iload_n 1, 1) := by decide +kernel
theorem dX11_lays_111 : decode cX11_lays 111 = .ok (.iload_n 2, 1) := by decide +kernel
theorem dX11_lays_112 : decode cX11_lays 112 = .ok (.invokestatic 308, 3) := by decide +kernel
theorem dX11_lays_115 : decode cX11_lays 115 = .ok (.aload_n 0, 1) := by decide +kernel
theorem dX11_lays_116 : decode cX11_lays 116 = .ok (.getfield 53, 3) := by decide +kernel
theorem dX11_lays_119 : decode cX11_lays 119 = .ok (.bipush 10, 2) := by decide +kernel
theorem dX11_lays_121 : decode cX11_lays 121 = .ok (.iload_n 1, 1) := by decide +kernel
theorem dX11_lays_122 : decode cX11_lays 122 = .ok (.iload_n 2, 1) := by decide +kernel
theorem dX11_lays_123 : decode cX11_lays 123 = .ok (.invokestatic 308, 3) := by decide +kernel
theorem dX11_lays_126 : decode cX11_lays 126 = .ok (.aload_n 0, 1) := by decide +kernel
theorem dX11_lays_127 : decode cX11_lays 127 = .ok (.getfield 56, 3) := by decide +kernel
theorem dX11_lays_130 : decode cX11_lays 130 = .ok (.bipush 10, 2) := by decide +kernel
theorem dX11_lays_132 : decode cX11_lays 132 = .ok (.iload_n 1, 1) := by decide +kernel
theorem dX11_lays_133 : decode cX11_lays 133 = .ok (.iload_n 2, 1) := by decide +kernel
theorem dX11_lays_134 : decode cX11_lays 134 = .ok (.invokestatic 308, 3) := by decide +kernel
theorem dX11_lays_137 : decode cX11_lays 137 = .ok (.aload_n 0, 1) := by decide +kernel
theorem dX11_lays_138 : decode cX11_lays 138 = .ok (.getfield 59, 3) := by decide +kernel
theorem dX11_lays_141 : decode cX11_lays 141 = .ok (.bipush 10, 2) := by decide +kernel
theorem dX11_lays_143 : decode cX11_lays 143 = .ok (.iload_n 1, 1) := by decide +kernel
theorem dX11_lays_144 : decode cX11_lays 144 = .ok (.iload_n 2, 1) := by decide +kernel
theorem dX11_lays_145 : decode cX11_lays 145 = .ok (.invokestatic 308, 3) := by decide +kernel
theorem dX11_lays_148 : decode cX11_lays 148 = .ok (.aload_n 0, 1) := by decide +kernel
theorem dX11_lays_149 : decode cX11_lays 149 = .ok (.getfield 62, 3) := by decide +kernel
theorem dX11_lays_152 : decode cX11_lays 152 = .ok (.bipush 10, 2) := by decide +kernel
theorem dX11_lays_154 : decode cX11_lays 154 = .ok (.iload_n 1, 1) := by decide +kernel
theorem dX11_lays_155 : decode cX11_lays 155 = .ok (.iload_n 2, 1) := by decide +kernel
theorem dX11_lays_156 : decode cX11_lays 156 = .ok (.invokestatic 308, 3) := by decide +kernel
theorem dX11_lays_159 : decode cX11_lays 159 = .ok (.aload_n 0, 1) := by decide +kernel
theorem dX11_lays_160 : decode cX11_lays 160 = .ok (.getfield 65, 3) := by decide +kernel
theorem dX11_lays_163 : decode cX11_lays 163 = .ok (.bipush 8, 2) := by decide +kernel
theorem dX11_lays_165 : decode cX11_lays 165 = .ok (.iload_n 1, 1) := by decide +kernel
theorem dX11_lays_166 : decode cX11_lays 166 = .ok (.iload_n 2, 1) := by decide +kernel
theorem dX11_lays_167 : decode cX11_lays 167 = .ok (.invokestatic 308, 3) := by decide +kernel
theorem dX11_lays_170 : decode cX11_lays 170 = .ok (.aload_n 0, 1) := by decide +kernel
theorem dX11_lays_171 : decode cX11_lays 171 = .ok (.getfield 68, 3) := by decide +kernel
theorem dX11_lays_174 : decode cX11_lays 174 = .ok (.bipush 8, 2) := by decide +kernel
theorem dX11_lays_176 : decode cX11_lays 176 = .ok (.iload_n 1, 1) := by decide +kernel
theorem dX11_lays_177 : decode cX11_lays 177 = .ok (.iload_n 2, 1) := by decide +kernel
theorem dX11_lays_178 : decode cX11_lays 178 = .ok (.invokestatic 308, 3) := by decide +kernel
theorem dX11_lays_181 : decode cX11_lays 181 = .ok (.aload_n 0, 1) := by decide +kernel
theorem dX11_lays_182 : decode cX11_lays 182 = .ok (.getfield 77, 3) := by decide +kernel
theorem dX11_lays_185 : decode cX11_lays 185 = .ok (.sipush 1000, 3) := by decide +kernel
theorem dX11_lays_188 : decode cX11_lays 188 = .ok (.iload_n 1, 1) := by decide +kernel
theorem dX11_lays_189 : decode cX11_lays 189 = .ok (.iload_n 2, 1) := by decide +kernel
theorem dX11_lays_190 : decode cX11_lays 190 = .ok (.invokestatic 308, 3) := by decide +kernel
theorem dX11_lays_193 : decode cX11_lays 193 = .ok (.iconst 0, 1) := by decide +kernel
theorem dX11_lays_194 : decode cX11_lays 194 = .ok (.istore_n 3, 1) := by decide +kernel
theorem dX11_lays_195 : decode cX11_lays 195 = .ok (.iload_n 3, 1) := by decide +kernel
theorem dX11_lays_196 : decode cX11_lays 196 = .ok (.bipush 8, 2) := by decide +kernel
theorem dX11_lays_198 : decode cX11_lays 198 = .ok (.if_icmp .ge 69, 3) := by decide +kernel
theorem dX11_lays_201 : decode cX11_lays 201 = .ok (.aload_n 0, 1) := by decide +kernel
theorem dX11_lays_202 : decode cX11_lays 202 = .ok (.getfield 71, 3) := by decide +kernel
theorem dX11_lays_205 : decode cX11_lays 205 = .ok (.bipush 8, 2) := by decide +kernel
theorem dX11_lays_207 : decode cX11_lays 207 = .ok (.iload_n 2, 1) := by decide +kernel
theorem dX11_lays_208 : decode cX11_lays 208 = .ok (.imul, 1) := by decide +kernel
theorem dX11_lays_209 : decode cX11_lays 209 = .ok (.iload_n 3, 1) := by decide +kernel
theorem dX11_lays_210 : decode cX11_lays 210 = .ok (.iadd, 1) := by decide +kernel
theorem dX11_lays_211 : decode cX11_lays 211 = .ok (.aload_n 0, 1) := by decide +kernel
theorem dX11_lays_212 : decode cX11_lays 212 = .ok (.getfield 71, 3) := by decide +kernel
theorem dX11_lays_215 : decode cX11_lays 215 = .ok (.bipush 8, 2) := by decide +kernel
theorem dX11_lays_217 : decode cX11_lays 217 = .ok (.iload_n 1, 1) := by decide +kernel
theorem dX11_lays_218 : decode cX11_lays 218 = .ok (.imul, 1) := by decide +kernel
theorem dX11_lays_219 : decode cX11_lays 219 = .ok (.iload_n 3, 1) := by decide +kernel
theorem dX11_lays_220 : decode cX11_lays 220 = .ok (.iadd, 1) := by decide +kernel
theorem dX11_lays_221 : decode cX11_lays 221 = .ok (.iaload, 1) := by decide +kernel
theorem dX11_lays_222 : decode cX11_lays 222 = .ok (.sipush 1000, 3) := by decide +kernel
theorem dX11_lays_225 : decode cX11_lays 225 = .ok (.iload_n 2, 1) := by decide +kernel
theorem dX11_lays_226 : decode cX11_lays 226 = .ok (.iload_n 1, 1) := by decide +kernel
theorem dX11_lays_227 : decode cX11_lays 227 = .ok (.isub, 1) := by decide +kernel
theorem dX11_lays_228 : decode cX11_lays 228 = .ok (.imul, 1) := by decide +kernel
theorem dX11_lays_229 : decode cX11_lays 229 = .ok (.iadd, 1) := by decide +kernel
theorem dX11_lays_230 : decode cX11_lays 230 = .ok (.iastore, 1) := by decide +kernel
theorem dX11_lays_231 : decode cX11_lays 231 = .ok (.aload_n 0, 1) := by decide +kernel
theorem dX11_lays_232 : decode cX11_lays 232 = .ok (.getfield 74, 3) := by decide +kernel
theorem dX11_lays_235 : decode cX11_lays 235 = .ok (.bipush 8, 2) := by decide +kernel
theorem dX11_lays_237 : decode cX11_lays 237 = .ok (.iload_n 2, 1) := by decide +kernel
theorem dX11_lays_238 : decode cX11_lays 238 = .ok (.imul, 1) := by decide +kernel
theorem dX11_lays_239 : decode cX11_lays 239 = .ok (.iload_n 3, 1) := by decide +kernel
theorem dX11_lays_240 : decode cX11_lays 240 = .ok (.iadd, 1) := by decide +kernel
theorem dX11_lays_241 : decode cX11_lays 241 = .ok (.aload_n 0, 1) := by decide +kernel
theorem dX11_lays_242 : decode cX11_lays 242 = .ok (.getfield 74, 3) := by decide +kernel
theorem dX11_lays_245 : decode cX11_lays 245 = .ok (.bipush 8, 2) := by decide +kernel
theorem dX11_lays_247 : decode cX11_lays 247 = .ok (.iload_n 1, 1) := by decide +kernel
theorem dX11_lays_248 : decode cX11_lays 248 = .ok (.imul, 1) := by decide +kernel
theorem dX11_lays_249 : decode cX11_lays 249 = .ok (.iload_n 3, 1) := by decide +kernel
theorem dX11_lays_250 : decode cX11_lays 250 = .ok (.iadd, 1) := by decide +kernel
theorem dX11_lays_251 : decode cX11_lays 251 = .ok (.iaload, 1) := by decide +kernel
theorem dX11_lays_252 : decode cX11_lays 252 = .ok (.sipush 1000, 3) := by decide +kernel
theorem dX11_lays_255 : decode cX11_lays 255 = .ok (.iload_n 2, 1) := by decide +kernel
theorem dX11_lays_256 : decode cX11_lays 256 = .ok (.iload_n 1, 1) := by decide +kernel
theorem dX11_lays_257 : decode cX11_lays 257 = .ok (.isub, 1) := by decide +kernel
theorem dX11_lays_258 : decode cX11_lays 258 = .ok (.imul, 1) := by decide +kernel
theorem dX11_lays_259 : decode cX11_lays 259 = .ok (.iadd, 1) := by decide +kernel
theorem dX11_lays_260 : decode cX11_lays 260 = .ok (.iastore, 1) := by decide +kernel
theorem dX11_lays_261 : decode cX11_lays 261 = .ok (.iinc 3 1, 3) := by decide +kernel
theorem dX11_lays_264 : decode cX11_lays 264 = .ok (.goto (-69), 3) := by decide +kernel
theorem dX11_lays_267 : decode cX11_lays 267 = .ok (.return_, 1) := by decide +kernel
theorem dX11_copies_0 : decode cX11_copies 0 = .ok (.iconst 0, 1) := by decide +kernel
theorem dX11_copies_1 : decode cX11_copies 1 = .ok (.istore 4, 2) := by decide +kernel
theorem dX11_copies_3 : decode cX11_copies 3 = .ok (.iload 4, 2) := by decide +kernel
theorem dX11_copies_5 : decode cX11_copies 5 = .ok (.bipush 64, 2) := by decide +kernel
theorem dX11_copies_7 : decode cX11_copies 7 = .ok (.if_icmp .ge 21, 3) := by decide +kernel
theorem dX11_copies_10 : decode cX11_copies 10 = .ok (.aload_n 2, 1) := by decide +kernel
theorem dX11_copies_11 : decode cX11_copies 11 = .ok (.iload_n 3, 1) := by decide +kernel
theorem dX11_copies_12 : decode cX11_copies 12 = .ok (.iload 4, 2) := by decide +kernel
theorem dX11_copies_14 : decode cX11_copies 14 = .ok (.iadd, 1) := by decide +kernel
theorem dX11_copies_15 : decode cX11_copies 15 = .ok (.aload_n 0, 1) := by decide +kernel
theorem dX11_copies_16 : decode cX11_copies 16 = .ok (.iload_n 1, 1) := by decide +kernel
theorem dX11_copies_17 : decode cX11_copies 17 = .ok (.iload 4, 2) := by decide +kernel
theorem dX11_copies_19 : decode cX11_copies 19 = .ok (.iadd, 1) := by decide +kernel
theorem dX11_copies_20 : decode cX11_copies 20 = .ok (.iaload, 1) := by decide +kernel
theorem dX11_copies_21 : decode cX11_copies 21 = .ok (.iastore, 1) := by decide +kernel
theorem dX11_copies_22 : decode cX11_copies 22 = .ok (.iinc 4 1, 3) := by decide +kernel
theorem dX11_copies_25 : decode cX11_copies 25 = .ok (.goto (-22), 3) := by decide +kernel
theorem dX11_copies_28 : decode cX11_copies 28 = .ok (.return_, 1) := by decide +kernel
theorem dX11_custom_0 : decode cX11_custom 0 = .ok (.aload_n 0, 1) := by decide +kernel
theorem dX11_custom_1 : decode cX11_custom 1 = .ok (.iconst 0, 1) := by decide +kernel
theorem dX11_custom_2 : decode cX11_custom 2 = .ok (.putfield 132, 3) := by decide +kernel
theorem dX11_custom_5 : decode cX11_custom 5 = .ok (.aload_n 0, 1) := by decide +kernel
theorem dX11_custom_6 : decode cX11_custom 6 = .ok (.invokevirtual 312, 3) := by decide +kernel
theorem dX11_custom_9 : decode cX11_custom 9 = .ok (.ifCond .ne 8, 3) := by decide +kernel
theorem dX11_custom_12 : decode cX11_custom 12 = .ok (.aload_n 0, 1) := by decide +kernel
theorem dX11_custom_13 : decode cX11_custom 13 = .ok (.getfield 168, 3) := by decide +kernel
theorem dX11_custom_16 : decode cX11_custom 16 = .ok (.ireturn, 1) := by decide +kernel
theorem dX11_custom_17 : decode cX11_custom 17 = .ok (.aload_n 0, 1) := by decide +kernel
theorem dX11_custom_18 : decode cX11_custom 18 = .ok (.iconst 1, 1) := by decide +kernel
theorem dX11_custom_19 : decode cX11_custom 19 = .ok (.iconst 0, 1) := by decide +kernel
theorem dX11_custom_20 : decode cX11_custom 20 = .ok (.invokevirtual 315, 3) := by decide +kernel
theorem dX11_custom_23 : decode cX11_custom 23 = .ok (.aload_n 0, 1) := by decide +kernel
theorem dX11_custom_24 : decode cX11_custom 24 = .ok (.iconst 0, 1) := by decide +kernel
theorem dX11_custom_25 : decode cX11_custom 25 = .ok (.putfield 319, 3) := by decide +kernel
theorem dX11_custom_28 : decode cX11_custom 28 = .ok (.iconst 0, 1) := by decide +kernel
theorem dX11_custom_29 : decode cX11_custom 29 = .ok (.istore_n 1, 1) := by decide +kernel
theorem dX11_custom_30 : decode cX11_custom 30 = .ok (.iload_n 1, 1) := by decide +kernel
theorem dX11_custom_31 : decode cX11_custom 31 = .ok (.bipush 64, 2) := by decide +kernel
theorem dX11_custom_33 : decode cX11_custom 33 = .ok (.if_icmp .ge 16, 3) := by decide +kernel
theorem dX11_custom_36 : decode cX11_custom 36 = .ok (.aload_n 0, 1) := by decide +kernel
theorem dX11_custom_37 : decode cX11_custom 37 = .ok (.getfield 117, 3) := by decide +kernel
theorem dX11_custom_40 : decode cX11_custom 40 = .ok (.iload_n 1, 1) := by decide +kernel
theorem dX11_custom_41 : decode cX11_custom 41 = .ok (.iconst 0, 1) := by decide +kernel
theorem dX11_custom_42 : decode cX11_custom 42 = .ok (.iastore, 1) := by decide +kernel
theorem dX11_custom_43 : decode cX11_custom 43 = .ok (.iinc 1 1, 3) := by decide +kernel
theorem dX11_custom_46 : decode cX11_custom 46 = .ok (.goto (-16), 3) := by decide +kernel
theorem dX11_custom_49 : decode cX11_custom 49 = .ok (.iconst 0, 1) := by decide +kernel
theorem dX11_custom_50 : decode cX11_custom 50 = .ok (.istore_n 1, 1) := by decide +kernel
theorem dX11_custom_51 : decode cX11_custom 51 = .ok (.iload_n 1, 1) := by decide +kernel
theorem dX11_custom_52 : decode cX11_custom 52 = .ok (.aload_n 0, 1) := by decide +kernel
theorem dX11_custom_53 : decode cX11_custom 53 = .ok (.getfield 16, 3) := by decide +kernel
theorem dX11_custom_56 : decode cX11_custom 56 = .ok (.iconst 0, 1) := by decide +kernel
theorem dX11_custom_57 : decode cX11_custom 57 = .ok (.iaload, 1) := by decide +kernel
theorem dX11_custom_58 : decode cX11_custom 58 = .ok (.if_icmp .ge 21, 3) := by decide +kernel
theorem dX11_custom_61 : decode cX11_custom 61 = .ok (.aload_n 0, 1) := by decide +kernel
theorem dX11_custom_62 : decode cX11_custom 62 = .ok (.getfield 117, 3) := by decide +kernel
theorem dX11_custom_65 : decode cX11_custom 65 = .ok (.iload_n 1, 1) := by decide +kernel
theorem dX11_custom_66 : decode cX11_custom 66 = .ok (.aload_n 0, 1) := by decide +kernel
theorem dX11_custom_67 : decode cX11_custom 67 = .ok (.getfield 38, 3) := by decide +kernel
theorem dX11_custom_70 : decode cX11_custom 70 = .ok (.iload_n 1, 1) := by decide +kernel
theorem dX11_custom_71 : decode cX11_custom 71 = .ok (.iaload, 1) := by decide +kernel
theorem dX11_custom_72 : decode cX11_custom 72 = .ok (.iastore, 1) := by decide +kernel
theorem dX11_custom_73 : decode cX11_custom 73 = .ok (.iinc 1 1, 3) := by decide +kernel
theorem dX11_custom_76 : decode cX11_custom 76 = .ok (.goto (-25), 3) := by decide +kernel
theorem dX11_custom_79 : decode cX11_custom 79 = .ok (.iconst 0, 1) := by decide +kernel
theorem dX11_custom_80 : decode cX11_custom 80 = .ok (.istore_n 1, 1) := by decide +kernel
theorem dX11_custom_81 : decode cX11_custom 81 = .ok (.iload_n 1, 1) := by decide +kernel
theorem dX11_custom_82 : decode cX11_custom 82 = .ok (.aload_n 0, 1) := by decide +kernel
theorem dX11_custom_83 : decode cX11_custom 83 = .ok (.getfield 19, 3) := by decide +kernel
theorem dX11_custom_86 : decode cX11_custom 86 = .ok (.iconst 0, 1) := by decide +kernel
theorem dX11_custom_87 : decode cX11_custom 87 = .ok (.iaload, 1) := by decide +kernel
theorem dX11_custom_88 : decode cX11_custom 88 = .ok (.if_icmp .ge 24, 3) := by decide +kernel
theorem dX11_custom_91 : decode cX11_custom 91 = .ok (.aload_n 0, 1) := by decide +kernel
theorem dX11_custom_92 : decode cX11_custom 92 = .ok (.getfield 117, 3) := by decide +kernel
theorem dX11_custom_95 : decode cX11_custom 95 = .ok (.bipush 6, 2) := by decide +kernel
theorem dX11_custom_97 : decode cX11_custom 97 = .ok (.iload_n 1, 1) := by decide +kernel
theorem dX11_custom_98 : decode cX11_custom 98 = .ok (.iadd, 1) := by decide +kernel
theorem dX11_custom_99 : decode cX11_custom 99 = .ok (.aload_n 0, 1) := by decide +kernel
theorem dX11_custom_100 : decode cX11_custom 100 = .ok (.getfield 47, 3) := by decide +kernel
theorem dX11_custom_103 : decode cX11_custom 103 = .ok (.iload_n 1, 1) := by decide +kernel
theorem dX11_custom_104 : decode cX11_custom 104 = .ok (.iaload, 1) := by decide +kernel
theorem dX11_custom_105 : decode cX11_custom 105 = .ok (.iastore, 1) := by decide +kernel
theorem dX11_custom_106 : decode cX11_custom 106 = .ok (.iinc 1 1, 3) := by decide +kernel
theorem dX11_custom_109 : decode cX11_custom 109 = .ok (.goto (-28), 3) := by decide +kernel
theorem dX11_custom_112 : decode cX11_custom 112 = .ok (.iconst 0, 1) := by decide +kernel
theorem dX11_custom_113 : decode cX11_custom 113 = .ok (.ireturn, 1) := by decide +kernel
theorem dX11_isHill_0 : decode cX11_isHill 0 = .ok (.iload_n 1, 1) := by decide +kernel
theorem dX11_isHill_1 : decode cX11_isHill 1 = .ok (.ifCond .lt 17, 3) := by decide +kernel
theorem dX11_isHill_4 : decode cX11_isHill 4 = .ok (.iload_n 1, 1) := by decide +kernel
theorem dX11_isHill_5 : decode cX11_isHill 5 = .ok (.aload_n 0, 1) := by decide +kernel
theorem dX11_isHill_6 : decode cX11_isHill 6 = .ok (.getfield 13, 3) := by decide +kernel
theorem dX11_isHill_9 : decode cX11_isHill 9 = .ok (.iconst 0, 1) := by decide +kernel
theorem dX11_isHill_10 : decode cX11_isHill 10 = .ok (.iaload, 1) := by decide +kernel
theorem dX11_isHill_11 : decode cX11_isHill 11 = .ok (.if_icmp .ge 7, 3) := by decide +kernel
theorem dX11_isHill_14 : decode cX11_isHill 14 = .ok (.iconst 1, 1) := by decide +kernel
theorem dX11_isHill_15 : decode cX11_isHill 15 = .ok (.goto 4, 3) := by decide +kernel
theorem dX11_isHill_18 : decode cX11_isHill 18 = .ok (.iconst 0, 1) := by decide +kernel
theorem dX11_isHill_19 : decode cX11_isHill 19 = .ok (.ireturn, 1) := by decide +kernel
theorem dX11_isPerson_0 : decode cX11_isPerson 0 = .ok (.iload_n 1, 1) := by decide +kernel
theorem dX11_isPerson_1 : decode cX11_isPerson 1 = .ok (.ifCond .lt 17, 3) := by decide +kernel
theorem dX11_isPerson_4 : decode cX11_isPerson 4 = .ok (.iload_n 1, 1) := by decide +kernel
theorem dX11_isPerson_5 : decode cX11_isPerson 5 = .ok (.aload_n 0, 1) := by decide +kernel
theorem dX11_isPerson_6 : decode cX11_isPerson 6 = .ok (.getfield 16, 3) := by decide +kernel
theorem dX11_isPerson_9 : decode cX11_isPerson 9 = .ok (.iconst 0, 1) := by decide +kernel
theorem dX11_isPerson_10 : decode cX11_isPerson 10 = .ok (.iaload, 1) := by decide +kernel
theorem dX11_isPerson_11 : decode cX11_isPerson 11 = .ok (.if_icmp .ge 7, 3) := by decide +kernel
theorem dX11_isPerson_14 : decode cX11_isPerson 14 = .ok (.iconst 1, 1) := by decide +kernel
theorem dX11_isPerson_15 : decode cX11_isPerson 15 = .ok (.goto 4, 3) := by decide +kernel
theorem dX11_isPerson_18 : decode cX11_isPerson 18 = .ok (.iconst 0, 1) := by decide +kernel
theorem dX11_isPerson_19 : decode cX11_isPerson 19 = .ok (.ireturn, 1) := by decide +kernel
theorem dX11_isLoan_0 : decode cX11_isLoan 0 = .ok (.iload_n 1, 1) := by decide +kernel
theorem dX11_isLoan_1 : decode cX11_isLoan 1 = .ok (.ifCond .lt 17, 3) := by decide +kernel
theorem dX11_isLoan_4 : decode cX11_isLoan 4 = .ok (.iload_n 1, 1) := by decide +kernel
theorem dX11_isLoan_5 : decode cX11_isLoan 5 = .ok (.aload_n 0, 1) := by decide +kernel
theorem dX11_isLoan_6 : decode cX11_isLoan 6 = .ok (.getfield 19, 3) := by decide +kernel
theorem dX11_isLoan_9 : decode cX11_isLoan 9 = .ok (.iconst 0, 1) := by decide +kernel
theorem dX11_isLoan_10 : decode cX11_isLoan 10 = .ok (.iaload, 1) := by decide +kernel
theorem dX11_isLoan_11 : decode cX11_isLoan 11 = .ok (.if_icmp .ge 7, 3) := by decide +kernel
theorem dX11_isLoan_14 : decode cX11_isLoan 14 = .ok (.iconst 1, 1) := by decide +kernel
theorem dX11_isLoan_15 : decode cX11_isLoan 15 = .ok (.goto 4, 3) := by decide +kernel
theorem dX11_isLoan_18 : decode cX11_isLoan 18 = .ok (.iconst 0, 1) := by decide +kernel
theorem dX11_isLoan_19 : decode cX11_isLoan 19 = .ok (.ireturn, 1) := by decide +kernel
theorem dX11_isWeather_0 : decode cX11_isWeather 0 = .ok (.iload_n 1, 1) := by decide +kernel
theorem dX11_isWeather_1 : decode cX11_isWeather 1 = .ok (.ifCond .lt 19, 3) := by decide +kernel
theorem dX11_isWeather_4 : decode cX11_isWeather 4 = .ok (.iload_n 1, 1) := by decide +kernel
theorem dX11_isWeather_5 : decode cX11_isWeather 5 = .ok (.iconst 1, 1) := by decide +kernel
theorem dX11_isWeather_6 : decode cX11_isWeather 6 = .ok (.aload_n 0, 1) := by decide +kernel
theorem dX11_isWeather_7 : decode cX11_isWeather 7 = .ok (.getfield 13, 3) := by decide +kernel
theorem dX11_isWeather_10 : decode cX11_isWeather 10 = .ok (.iconst 0, 1) := by decide +kernel
theorem dX11_isWeather_11 : decode cX11_isWeather 11 = .ok (.iaload, 1) := by decide +kernel
theorem dX11_isWeather_12 : decode cX11_isWeather 12 = .ok (.ishl, 1) := by decide +kernel
theorem dX11_isWeather_13 : decode cX11_isWeather 13 = .ok (.if_icmp .ge 7, 3) := by decide +kernel
theorem dX11_isWeather_16 : decode cX11_isWeather 16 = .ok (.iconst 1, 1) := by decide +kernel
theorem dX11_isWeather_17 : decode cX11_isWeather 17 = .ok (.goto 4, 3) := by decide +kernel
theorem dX11_isWeather_20 : decode cX11_isWeather 20 = .ok (.iconst 0, 1) := by decide +kernel
theorem dX11_isWeather_21 : decode cX11_isWeather 21 = .ok (.ireturn, 1) := by decide +kernel
theorem dX11_hill_0 : decode cX11_hill 0 = .ok (.aload_n 0, 1) := by decide +kernel
theorem dX11_hill_1 : decode cX11_hill 1 = .ok (.iconst 0, 1) := by decide +kernel
theorem dX11_hill_2 : decode cX11_hill 2 = .ok (.putfield 132, 3) := by decide +kernel
theorem dX11_hill_5 : decode cX11_hill 5 = .ok (.aload_n 0, 1) := by decide +kernel
theorem dX11_hill_6 : decode cX11_hill 6 = .ok (.iload_n 1, 1) := by decide +kernel
theorem dX11_hill_7 : decode cX11_hill 7 = .ok (.invokevirtual 322, 3) := by decide +kernel
theorem dX11_hill_10 : decode cX11_hill 10 = .ok (.ifCond .eq 12, 3) := by decide +kernel
theorem dX11_hill_13 : decode cX11_hill 13 = .ok (.iload_n 2, 1) := by decide +kernel
theorem dX11_hill_14 : decode cX11_hill 14 = .ok (.iconst 0, 1) := by decide +kernel
theorem dX11_hill_15 : decode cX11_hill 15 = .ok (.iconst 2, 1) := by decide +kernel
theorem dX11_hill_16 : decode cX11_hill 16 = .ok (.invokestatic 257, 3) := by decide +kernel
theorem dX11_hill_19 : decode cX11_hill 19 = .ok (.ifCond .ne 7, 3) := by decide +kernel
theorem dX11_hill_22 : decode cX11_hill 22 = .ok (.iconst (-1), 1) := by decide +kernel
theorem dX11_hill_23 : decode cX11_hill 23 = .ok (.goto 41, 3) := by decide +kernel
theorem dX11_hill_26 : decode cX11_hill 26 = .ok (.iload_n 2, 1) := by decide +kernel
theorem dX11_hill_27 : decode cX11_hill 27 = .ok (.ifCond .ne 12, 3) := by decide +kernel
theorem dX11_hill_30 : decode cX11_hill 30 = .ok (.aload_n 0, 1) := by decide +kernel
theorem dX11_hill_31 : decode cX11_hill 31 = .ok (.getfield 32, 3) := by decide +kernel
theorem dX11_hill_34 : decode cX11_hill 34 = .ok (.iload_n 1, 1) := by decide +kernel
theorem dX11_hill_35 : decode cX11_hill 35 = .ok (.iaload, 1) := by decide +kernel
theorem dX11_hill_36 : decode cX11_hill 36 = .ok (.goto 28, 3) := by decide +kernel
theorem dX11_hill_39 : decode cX11_hill 39 = .ok (.iload_n 2, 1) := by decide +kernel
theorem dX11_hill_40 : decode cX11_hill 40 = .ok (.iconst 1, 1) := by decide +kernel
theorem dX11_hill_41 : decode cX11_hill 41 = .ok (.if_icmp .ne 12, 3) := by decide +kernel
theorem dX11_hill_44 : decode cX11_hill 44 = .ok (.aload_n 0, 1) := by decide +kernel
theorem dX11_hill_45 : decode cX11_hill 45 = .ok (.getfield 35, 3) := by decide +kernel
theorem dX11_hill_48 : decode cX11_hill 48 = .ok (.iload_n 1, 1) := by decide +kernel
theorem dX11_hill_49 : decode cX11_hill 49 = .ok (.iaload, 1) := by decide +kernel
theorem dX11_hill_50 : decode cX11_hill 50 = .ok (.goto 14, 3) := by decide +kernel
theorem dX11_hill_53 : decode cX11_hill 53 = .ok (.aload_n 0, 1) := by decide +kernel
theorem dX11_hill_54 : decode cX11_hill 54 = .ok (.getfield 117, 3) := by decide +kernel
theorem dX11_hill_57 : decode cX11_hill 57 = .ok (.bipush 56, 2) := by decide +kernel
theorem dX11_hill_59 : decode cX11_hill 59 = .ok (.iaload, 1) := by decide +kernel
theorem dX11_hill_60 : decode cX11_hill 60 = .ok (.iload_n 1, 1) := by decide +kernel
theorem dX11_hill_61 : decode cX11_hill 61 = .ok (.ishr, 1) := by decide +kernel
theorem dX11_hill_62 : decode cX11_hill 62 = .ok (.iconst 1, 1) := by decide +kernel
theorem dX11_hill_63 : decode cX11_hill 63 = .ok (.iand, 1) := by decide +kernel
theorem dX11_hill_64 : decode cX11_hill 64 = .ok (.ireturn, 1) := by decide +kernel
theorem dX11_purse_0 : decode cX11_purse 0 = .ok (.aload_n 0, 1) := by decide +kernel
theorem dX11_purse_1 : decode cX11_purse 1 = .ok (.aload_n 0, 1) := by decide +kernel
theorem dX11_purse_2 : decode cX11_purse 2 = .ok (.iload_n 1, 1) := by decide +kernel
theorem dX11_purse_3 : decode cX11_purse 3 = .ok (.invokevirtual 325, 3) := by decide +kernel
theorem dX11_purse_6 : decode cX11_purse 6 = .ok (.ifCond .eq 7, 3) := by decide +kernel
theorem dX11_purse_9 : decode cX11_purse 9 = .ok (.iconst 0, 1) := by decide +kernel
theorem dX11_purse_10 : decode cX11_purse 10 = .ok (.goto 4, 3) := by decide +kernel
theorem dX11_purse_13 : decode cX11_purse 13 = .ok (.iconst 1, 1) := by decide +kernel
theorem dX11_purse_14 : decode cX11_purse 14 = .ok (.putfield 132, 3) := by decide +kernel
theorem dX11_purse_17 : decode cX11_purse 17 = .ok (.aload_n 0, 1) := by decide +kernel
theorem dX11_purse_18 : decode cX11_purse 18 = .ok (.getfield 132, 3) := by decide +kernel
theorem dX11_purse_21 : decode cX11_purse 21 = .ok (.iconst 1, 1) := by decide +kernel
theorem dX11_purse_22 : decode cX11_purse 22 = .ok (.if_icmp .ne 7, 3) := by decide +kernel
theorem dX11_purse_25 : decode cX11_purse 25 = .ok (.iconst 0, 1) := by decide +kernel
theorem dX11_purse_26 : decode cX11_purse 26 = .ok (.goto 9, 3) := by decide +kernel
theorem dX11_purse_29 : decode cX11_purse 29 = .ok (.aload_n 0, 1) := by decide +kernel
theorem dX11_purse_30 : decode cX11_purse 30 = .ok (.getfield 117, 3) := by decide +kernel
theorem dX11_purse_33 : decode cX11_purse 33 = .ok (.iload_n 1, 1) := by decide +kernel
theorem dX11_purse_34 : decode cX11_purse 34 = .ok (.iaload, 1) := by decide +kernel
theorem dX11_purse_35 : decode cX11_purse 35 = .ok (.ireturn, 1) := by decide +kernel
theorem dX11_loan_0 : decode cX11_loan 0 = .ok (.aload_n 0, 1) := by decide +kernel
theorem dX11_loan_1 : decode cX11_loan 1 = .ok (.iconst 0, 1) := by decide +kernel
theorem dX11_loan_2 : decode cX11_loan 2 = .ok (.putfield 132, 3) := by decide +kernel
theorem dX11_loan_5 : decode cX11_loan 5 = .ok (.aload_n 0, 1) := by decide +kernel
theorem dX11_loan_6 : decode cX11_loan 6 = .ok (.iload_n 1, 1) := by decide +kernel
theorem dX11_loan_7 : decode cX11_loan 7 = .ok (.invokevirtual 328, 3) := by decide +kernel
theorem dX11_loan_10 : decode cX11_loan 10 = .ok (.ifCond .eq 13, 3) := by decide +kernel
theorem dX11_loan_13 : decode cX11_loan 13 = .ok (.iload_n 2, 1) := by decide +kernel
theorem dX11_loan_14 : decode cX11_loan 14 = .ok (.iconst 0, 1) := by decide +kernel
theorem dX11_loan_15 : decode cX11_loan 15 = .ok (.bipush 7, 2) := by decide +kernel
theorem dX11_loan_17 : decode cX11_loan 17 = .ok (.invokestatic 257, 3) := by decide +kernel
theorem dX11_loan_20 : decode cX11_loan 20 = .ok (.ifCond .ne 5, 3) := by decide +kernel
theorem dX11_loan_23 : decode cX11_loan 23 = .ok (.iconst (-1), 1) := by decide +kernel
theorem dX11_loan_24 : decode cX11_loan 24 = .ok (.ireturn, 1) := by decide +kernel
theorem dX11_loan_25 : decode cX11_loan 25 = .ok (.iload_n 2, 1) := by decide +kernel
theorem dX11_loan_26 : decode cX11_loan 26 = .ok (.iconst 4, 1) := by decide +kernel
theorem dX11_loan_27 : decode cX11_loan 27 = .ok (.if_icmp .ge 57, 3) := by decide +kernel
theorem dX11_loan_30 : decode cX11_loan 30 = .ok (.iload_n 2, 1) := by decide +kernel
theorem dX11_loan_31 : decode cX11_loan 31 = .ok (.ifCond .ne 12, 3) := by decide +kernel
theorem dX11_loan_34 : decode cX11_loan 34 = .ok (.aload_n 0, 1) := by decide +kernel
theorem dX11_loan_35 : decode cX11_loan 35 = .ok (.getfield 41, 3) := by decide +kernel
theorem dX11_loan_38 : decode cX11_loan 38 = .ok (.iload_n 1, 1) := by decide +kernel
theorem dX11_loan_39 : decode cX11_loan 39 = .ok (.iaload, 1) := by decide +kernel
theorem dX11_loan_40 : decode cX11_loan 40 = .ok (.goto 43, 3) := by decide +kernel
theorem dX11_loan_43 : decode cX11_loan 43 = .ok (.iload_n 2, 1) := by decide +kernel
theorem dX11_loan_44 : decode cX11_loan 44 = .ok (.iconst 1, 1) := by decide +kernel
theorem dX11_loan_45 : decode cX11_loan 45 = .ok (.if_icmp .ne 12, 3) := by decide +kernel
theorem dX11_loan_48 : decode cX11_loan 48 = .ok (.aload_n 0, 1) := by decide +kernel
theorem dX11_loan_49 : decode cX11_loan 49 = .ok (.getfield 44, 3) := by decide +kernel
theorem dX11_loan_52 : decode cX11_loan 52 = .ok (.iload_n 1, 1) := by decide +kernel
theorem dX11_loan_53 : decode cX11_loan 53 = .ok (.iaload, 1) := by decide +kernel
theorem dX11_loan_54 : decode cX11_loan 54 = .ok (.goto 29, 3) := by decide +kernel
theorem dX11_loan_57 : decode cX11_loan 57 = .ok (.iload_n 2, 1) := by decide +kernel
theorem dX11_loan_58 : decode cX11_loan 58 = .ok (.iconst 2, 1) := by decide +kernel
theorem dX11_loan_59 : decode cX11_loan 59 = .ok (.if_icmp .ne 15, 3) := by decide +kernel
theorem dX11_loan_62 : decode cX11_loan 62 = .ok (.aload_n 0, 1) := by decide +kernel
theorem dX11_loan_63 : decode cX11_loan 63 = .ok (.getfield 117, 3) := by decide +kernel
theorem dX11_loan_66 : decode cX11_loan 66 = .ok (.bipush 6, 2) := by decide +kernel
theorem dX11_loan_68 : decode cX11_loan 68 = .ok (.iload_n 1, 1) := by decide +kernel
theorem dX11_loan_69 : decode cX11_loan 69 = .ok (.iadd, 1) := by decide +kernel
theorem dX11_loan_70 : decode cX11_loan 70 = .ok (.iaload, 1) := by decide +kernel
theorem dX11_loan_71 : decode cX11_loan 71 = .ok (.goto 12, 3) := by decide +kernel
theorem dX11_loan_74 : decode cX11_loan 74 = .ok (.aload_n 0, 1) := by decide +kernel
theorem dX11_loan_75 : decode cX11_loan 75 = .ok (.getfield 117, 3) := by decide +kernel
theorem dX11_loan_78 : decode cX11_loan 78 = .ok (.bipush 16, 2) := by decide +kernel
theorem dX11_loan_80 : decode cX11_loan 80 = .ok (.iload_n 1, 1) := by decide +kernel
theorem dX11_loan_81 : decode cX11_loan 81 = .ok (.iadd, 1) := by decide +kernel
theorem dX11_loan_82 : decode cX11_loan 82 = .ok (.iaload, 1) := by decide +kernel
theorem dX11_loan_83 : decode cX11_loan 83 = .ok (.ireturn, 1) := by decide +kernel
theorem dX11_loan_84 : decode cX11_loan 84 = .ok (.iload_n 2, 1) := by decide +kernel
theorem dX11_loan_85 : decode cX11_loan 85 = .ok (.iconst 4, 1) := by decide +kernel
theorem dX11_loan_86 : decode cX11_loan 86 = .ok (.if_icmp .ne 15, 3) := by decide +kernel
theorem dX11_loan_89 : decode cX11_loan 89 = .ok (.aload_n 0, 1) := by decide +kernel
theorem dX11_loan_90 : decode cX11_loan 90 = .ok (.getfield 117, 3) := by decide +kernel
theorem dX11_loan_93 : decode cX11_loan 93 = .ok (.bipush 26, 2) := by decide +kernel
theorem dX11_loan_95 : decode cX11_loan 95 = .ok (.iload_n 1, 1) := by decide +kernel
theorem dX11_loan_96 : decode cX11_loan 96 = .ok (.iadd, 1) := by decide +kernel
theorem dX11_loan_97 : decode cX11_loan 97 = .ok (.iaload, 1) := by decide +kernel
theorem dX11_loan_98 : decode cX11_loan 98 = .ok (.goto 41, 3) := by decide +kernel
theorem dX11_loan_101 : decode cX11_loan 101 = .ok (.iload_n 2, 1) := by decide +kernel
theorem dX11_loan_102 : decode cX11_loan 102 = .ok (.iconst 5, 1) := by decide +kernel
theorem dX11_loan_103 : decode cX11_loan 103 = .ok (.if_icmp .ne 12, 3) := by decide +kernel
theorem dX11_loan_106 : decode cX11_loan 106 = .ok (.aload_n 0, 1) := by decide +kernel
theorem dX11_loan_107 : decode cX11_loan 107 = .ok (.getfield 59, 3) := by decide +kernel
theorem dX11_loan_110 : decode cX11_loan 110 = .ok (.iload_n 1, 1) := by decide +kernel
theorem dX11_loan_111 : decode cX11_loan 111 = .ok (.iaload, 1) := by decide +kernel
theorem dX11_loan_112 : decode cX11_loan 112 = .ok (.goto 27, 3) := by decide +kernel
theorem dX11_loan_115 : decode cX11_loan 115 = .ok (.iload_n 2, 1) := by decide +kernel
theorem dX11_loan_116 : decode cX11_loan 116 = .ok (.bipush 6, 2) := by decide +kernel
theorem dX11_loan_118 : decode cX11_loan 118 = .ok (.if_icmp .ne 12, 3) := by decide +kernel
theorem dX11_loan_121 : decode cX11_loan 121 = .ok (.aload_n 0, 1) := by decide +kernel
theorem dX11_loan_122 : decode cX11_loan 122 = .ok (.getfield 62, 3) := by decide +kernel
theorem dX11_loan_125 : decode cX11_loan 125 = .ok (.iload_n 1, 1) := by decide +kernel
theorem dX11_loan_126 : decode cX11_loan 126 = .ok (.iaload, 1) := by decide +kernel
theorem dX11_loan_127 : decode cX11_loan 127 = .ok (.goto 12, 3) := by decide +kernel
theorem dX11_loan_130 : decode cX11_loan 130 = .ok (.aload_n 0, 1) := by decide +kernel
theorem dX11_loan_131 : decode cX11_loan 131 = .ok (.getfield 117, 3) := by decide +kernel
theorem dX11_loan_134 : decode cX11_loan 134 = .ok (.bipush 36, 2) := by decide +kernel
theorem dX11_loan_136 : decode cX11_loan 136 = .ok (.iload_n 1, 1) := by decide +kernel
theorem dX11_loan_137 : decode cX11_loan 137 = .ok (.iadd, 1) := by decide +kernel
theorem dX11_loan_138 : decode cX11_loan 138 = .ok (.iaload, 1) := by decide +kernel
theorem dX11_loan_139 : decode cX11_loan 139 = .ok (.ireturn, 1) := by decide +kernel
theorem dX11_isRipe_0 : decode cX11_isRipe 0 = .ok (.iload_n 2, 1) := by decide +kernel
theorem dX11_isRipe_1 : decode cX11_isRipe 1 = .ok (.aload_n 0, 1) := by decide +kernel
theorem dX11_isRipe_2 : decode cX11_isRipe 2 = .ok (.getfield 56, 3) := by decide +kernel
theorem dX11_isRipe_5 : decode cX11_isRipe 5 = .ok (.iload_n 1, 1) := by decide +kernel
theorem dX11_isRipe_6 : decode cX11_isRipe 6 = .ok (.iaload, 1) := by decide +kernel
theorem dX11_isRipe_7 : decode cX11_isRipe 7 = .ok (.ishr, 1) := by decide +kernel
theorem dX11_isRipe_8 : decode cX11_isRipe 8 = .ok (.iconst 1, 1) := by decide +kernel
theorem dX11_isRipe_9 : decode cX11_isRipe 9 = .ok (.iand, 1) := by decide +kernel
theorem dX11_isRipe_10 : decode cX11_isRipe 10 = .ok (.iconst 1, 1) := by decide +kernel
theorem dX11_isRipe_11 : decode cX11_isRipe 11 = .ok (.if_icmp .ne 7, 3) := by decide +kernel
theorem dX11_isRipe_14 : decode cX11_isRipe 14 = .ok (.iconst 1, 1) := by decide +kernel
theorem dX11_isRipe_15 : decode cX11_isRipe 15 = .ok (.goto 4, 3) := by decide +kernel
theorem dX11_isRipe_18 : decode cX11_isRipe 18 = .ok (.iconst 0, 1) := by decide +kernel
theorem dX11_isRipe_19 : decode cX11_isRipe 19 = .ok (.istore_n 3, 1) := by decide +kernel
theorem dX11_isRipe_20 : decode cX11_isRipe 20 = .ok (.iload_n 2, 1) := by decide +kernel
theorem dX11_isRipe_21 : decode cX11_isRipe 21 = .ok (.aload_n 0, 1) := by decide +kernel
theorem dX11_isRipe_22 : decode cX11_isRipe 22 = .ok (.getfield 56, 3) := by decide +kernel
theorem dX11_isRipe_25 : decode cX11_isRipe 25 = .ok (.iload_n 1, 1) := by decide +kernel
theorem dX11_isRipe_26 : decode cX11_isRipe 26 = .ok (.iaload, 1) := by decide +kernel
theorem dX11_isRipe_27 : decode cX11_isRipe 27 = .ok (.iconst 1, 1) := by decide +kernel
theorem dX11_isRipe_28 : decode cX11_isRipe 28 = .ok (.iadd, 1) := by decide +kernel
theorem dX11_isRipe_29 : decode cX11_isRipe 29 = .ok (.aload_n 0, 1) := by decide +kernel
theorem dX11_isRipe_30 : decode cX11_isRipe 30 = .ok (.getfield 13, 3) := by decide +kernel
theorem dX11_isRipe_33 : decode cX11_isRipe 33 = .ok (.iconst 0, 1) := by decide +kernel
theorem dX11_isRipe_34 : decode cX11_isRipe 34 = .ok (.iaload, 1) := by decide +kernel
theorem dX11_isRipe_35 : decode cX11_isRipe 35 = .ok (.irem, 1) := by decide +kernel
theorem dX11_isRipe_36 : decode cX11_isRipe 36 = .ok (.ishr, 1) := by decide +kernel
theorem dX11_isRipe_37 : decode cX11_isRipe 37 = .ok (.iconst 1, 1) := by decide +kernel
theorem dX11_isRipe_38 : decode cX11_isRipe 38 = .ok (.iand, 1) := by decide +kernel
theorem dX11_isRipe_39 : decode cX11_isRipe 39 = .ok (.iconst 1, 1) := by decide +kernel
theorem dX11_isRipe_40 : decode cX11_isRipe 40 = .ok (.if_icmp .ne 7, 3) := by decide +kernel
theorem dX11_isRipe_43 : decode cX11_isRipe 43 = .ok (.iconst 1, 1) := by decide +kernel
theorem dX11_isRipe_44 : decode cX11_isRipe 44 = .ok (.goto 4, 3) := by decide +kernel
theorem dX11_isRipe_47 : decode cX11_isRipe 47 = .ok (.iconst 0, 1) := by decide +kernel
theorem dX11_isRipe_48 : decode cX11_isRipe 48 = .ok (.istore 4, 2) := by decide +kernel
theorem dX11_isRipe_50 : decode cX11_isRipe 50 = .ok (.aload_n 0, 1) := by decide +kernel
theorem dX11_isRipe_51 : decode cX11_isRipe 51 = .ok (.getfield 59, 3) := by decide +kernel
theorem dX11_isRipe_54 : decode cX11_isRipe 54 = .ok (.iload_n 1, 1) := by decide +kernel
theorem dX11_isRipe_55 : decode cX11_isRipe 55 = .ok (.iaload, 1) := by decide +kernel
theorem dX11_isRipe_56 : decode cX11_isRipe 56 = .ok (.istore 5, 2) := by decide +kernel
theorem dX11_isRipe_58 : decode cX11_isRipe 58 = .ok (.iload 5, 2) := by decide +kernel
theorem dX11_isRipe_60 : decode cX11_isRipe 60 = .ok (.iconst 1, 1) := by decide +kernel
theorem dX11_isRipe_61 : decode cX11_isRipe 61 = .ok (.if_icmp .ne 15, 3) := by decide +kernel
theorem dX11_isRipe_64 : decode cX11_isRipe 64 = .ok (.iload_n 3, 1) := by decide +kernel
theorem dX11_isRipe_65 : decode cX11_isRipe 65 = .ok (.ifCond .ne 7, 3) := by decide +kernel
theorem dX11_isRipe_68 : decode cX11_isRipe 68 = .ok (.iconst 1, 1) := by decide +kernel
theorem dX11_isRipe_69 : decode cX11_isRipe 69 = .ok (.goto 54, 3) := by decide +kernel
theorem dX11_isRipe_72 : decode cX11_isRipe 72 = .ok (.iconst 0, 1) := by decide +kernel
theorem dX11_isRipe_73 : decode cX11_isRipe 73 = .ok (.goto 50, 3) := by decide +kernel
theorem dX11_isRipe_76 : decode cX11_isRipe 76 = .ok (.iload 5, 2) := by decide +kernel
theorem dX11_isRipe_78 : decode cX11_isRipe 78 = .ok (.iconst 2, 1) := by decide +kernel
theorem dX11_isRipe_79 : decode cX11_isRipe 79 = .ok (.if_icmp .ne 20, 3) := by decide +kernel
theorem dX11_isRipe_82 : decode cX11_isRipe 82 = .ok (.iload_n 3, 1) := by decide +kernel
theorem dX11_isRipe_83 : decode cX11_isRipe 83 = .ok (.ifCond .eq 12, 3) := by decide +kernel
theorem dX11_isRipe_86 : decode cX11_isRipe 86 = .ok (.iload 4, 2) := by decide +kernel
theorem dX11_isRipe_88 : decode cX11_isRipe 88 = .ok (.ifCond .eq 7, 3) := by decide +kernel
theorem dX11_isRipe_91 : decode cX11_isRipe 91 = .ok (.iconst 1, 1) := by decide +kernel
theorem dX11_isRipe_92 : decode cX11_isRipe 92 = .ok (.goto 31, 3) := by decide +kernel
theorem dX11_isRipe_95 : decode cX11_isRipe 95 = .ok (.iconst 0, 1) := by decide +kernel
theorem dX11_isRipe_96 : decode cX11_isRipe 96 = .ok (.goto 27, 3) := by decide +kernel
theorem dX11_isRipe_99 : decode cX11_isRipe 99 = .ok (.iload 5, 2) := by decide +kernel
theorem dX11_isRipe_101 : decode cX11_isRipe 101 = .ok (.iconst 3, 1) := by decide +kernel
theorem dX11_isRipe_102 : decode cX11_isRipe 102 = .ok (.if_icmp .ne 20, 3) := by decide +kernel
theorem dX11_isRipe_105 : decode cX11_isRipe 105 = .ok (.iload_n 3, 1) := by decide +kernel
theorem dX11_isRipe_106 : decode cX11_isRipe 106 = .ok (.ifCond .ne 8, 3) := by decide +kernel
theorem dX11_isRipe_109 : decode cX11_isRipe 109 = .ok (.iload 4, 2) := by decide +kernel
theorem dX11_isRipe_111 : decode cX11_isRipe 111 = .ok (.ifCond .eq 7, 3) := by decide +kernel
theorem dX11_isRipe_114 : decode cX11_isRipe 114 = .ok (.iconst 1, 1) := by decide +kernel
theorem dX11_isRipe_115 : decode cX11_isRipe 115 = .ok (.goto 8, 3) := by decide +kernel
theorem dX11_isRipe_118 : decode cX11_isRipe 118 = .ok (.iconst 0, 1) := by decide +kernel
theorem dX11_isRipe_119 : decode cX11_isRipe 119 = .ok (.goto 4, 3) := by decide +kernel
theorem dX11_isRipe_122 : decode cX11_isRipe 122 = .ok (.iload_n 3, 1) := by decide +kernel
theorem dX11_isRipe_123 : decode cX11_isRipe 123 = .ok (.ireturn, 1) := by decide +kernel
theorem dX11_takes_0 : decode cX11_takes 0 = .ok (.aload_n 0, 1) := by decide +kernel
theorem dX11_takes_1 : decode cX11_takes 1 = .ok (.getfield 117, 3) := by decide +kernel
theorem dX11_takes_4 : decode cX11_takes 4 = .ok (.iload_n 2, 1) := by decide +kernel
theorem dX11_takes_5 : decode cX11_takes 5 = .ok (.iaload, 1) := by decide +kernel
theorem dX11_takes_6 : decode cX11_takes 6 = .ok (.aload_n 0, 1) := by decide +kernel
theorem dX11_takes_7 : decode cX11_takes 7 = .ok (.getfield 117, 3) := by decide +kernel
theorem dX11_takes_10 : decode cX11_takes 10 = .ok (.bipush 6, 2) := by decide +kernel
theorem dX11_takes_12 : decode cX11_takes 12 = .ok (.iload_n 1, 1) := by decide +kernel
theorem dX11_takes_13 : decode cX11_takes 13 = .ok (.iadd, 1) := by decide +kernel
theorem dX11_takes_14 : decode cX11_takes 14 = .ok (.iaload, 1) := by decide +kernel
theorem dX11_takes_15 : decode cX11_takes 15 = .ok (.invokestatic 331, 3) := by decide +kernel
theorem dX11_takes_18 : decode cX11_takes 18 = .ok (.istore_n 3, 1) := by decide +kernel
theorem dX11_takes_19 : decode cX11_takes 19 = .ok (.aload_n 0, 1) := by decide +kernel
theorem dX11_takes_20 : decode cX11_takes 20 = .ok (.getfield 117, 3) := by decide +kernel
theorem dX11_takes_23 : decode cX11_takes 23 = .ok (.iload_n 2, 1) := by decide +kernel
theorem dX11_takes_24 : decode cX11_takes 24 = .ok (.dup2, 1) := by decide +kernel
theorem dX11_takes_25 : decode cX11_takes 25 = .ok (.iaload, 1) := by decide +kernel
theorem dX11_takes_26 : decode cX11_takes 26 = .ok (.iload_n 3, 1) := by decide +kernel
theorem dX11_takes_27 : decode cX11_takes 27 = .ok (.isub, 1) := by decide +kernel
theorem dX11_takes_28 : decode cX11_takes 28 = .ok (.iastore, 1) := by decide +kernel
theorem dX11_takes_29 : decode cX11_takes 29 = .ok (.aload_n 0, 1) := by decide +kernel
theorem dX11_takes_30 : decode cX11_takes 30 = .ok (.getfield 117, 3) := by decide +kernel
theorem dX11_takes_33 : decode cX11_takes 33 = .ok (.aload_n 0, 1) := by decide +kernel
theorem dX11_takes_34 : decode cX11_takes 34 = .ok (.getfield 41, 3) := by decide +kernel
theorem dX11_takes_37 : decode cX11_takes 37 = .ok (.iload_n 1, 1) := by decide +kernel
theorem dX11_takes_38 : decode cX11_takes 38 = .ok (.iaload, 1) := by decide +kernel
theorem dX11_takes_39 : decode cX11_takes 39 = .ok (.dup2, 1) := by decide +kernel
theorem dX11_takes_40 : decode cX11_takes 40 = .ok (.iaload, 1) := by decide +kernel
theorem dX11_takes_41 : decode cX11_takes 41 = .ok (.iload_n 3, 1) := by decide +kernel
theorem dX11_takes_42 : decode cX11_takes 42 = .ok (.iadd, 1) := by decide +kernel
theorem dX11_takes_43 : decode cX11_takes 43 = .ok (.iastore, 1) := by decide +kernel
theorem dX11_takes_44 : decode cX11_takes 44 = .ok (.aload_n 0, 1) := by decide +kernel
theorem dX11_takes_45 : decode cX11_takes 45 = .ok (.getfield 117, 3) := by decide +kernel
theorem dX11_takes_48 : decode cX11_takes 48 = .ok (.bipush 6, 2) := by decide +kernel
theorem dX11_takes_50 : decode cX11_takes 50 = .ok (.iload_n 1, 1) := by decide +kernel
theorem dX11_takes_51 : decode cX11_takes 51 = .ok (.iadd, 1) := by decide +kernel
theorem dX11_takes_52 : decode cX11_takes 52 = .ok (.dup2, 1) := by decide +kernel
theorem dX11_takes_53 : decode cX11_takes 53 = .ok (.iaload, 1) := by decide +kernel
theorem dX11_takes_54 : decode cX11_takes 54 = .ok (.iload_n 3, 1) := by decide +kernel
theorem dX11_takes_55 : decode cX11_takes 55 = .ok (.isub, 1) := by decide +kernel
theorem dX11_takes_56 : decode cX11_takes 56 = .ok (.iastore, 1) := by decide +kernel
theorem dX11_takes_57 : decode cX11_takes 57 = .ok (.aload_n 0, 1) := by decide +kernel
theorem dX11_takes_58 : decode cX11_takes 58 = .ok (.getfield 117, 3) := by decide +kernel
theorem dX11_takes_61 : decode cX11_takes 61 = .ok (.bipush 36, 2) := by decide +kernel
theorem dX11_takes_63 : decode cX11_takes 63 = .ok (.iload_n 1, 1) := by decide +kernel
theorem dX11_takes_64 : decode cX11_takes 64 = .ok (.iadd, 1) := by decide +kernel
theorem dX11_takes_65 : decode cX11_takes 65 = .ok (.dup2, 1) := by decide +kernel
theorem dX11_takes_66 : decode cX11_takes 66 = .ok (.iaload, 1) := by decide +kernel
theorem dX11_takes_67 : decode cX11_takes 67 = .ok (.iload_n 3, 1) := by decide +kernel
theorem dX11_takes_68 : decode cX11_takes 68 = .ok (.iadd, 1) := by decide +kernel
theorem dX11_takes_69 : decode cX11_takes 69 = .ok (.iastore, 1) := by decide +kernel
theorem dX11_takes_70 : decode cX11_takes 70 = .ok (.aload_n 0, 1) := by decide +kernel
theorem dX11_takes_71 : decode cX11_takes 71 = .ok (.dup, 1) := by decide +kernel
theorem dX11_takes_72 : decode cX11_takes 72 = .ok (.getfield 337, 3) := by decide +kernel
theorem dX11_takes_75 : decode cX11_takes 75 = .ok (.iload_n 3, 1) := by decide +kernel
theorem dX11_takes_76 : decode cX11_takes 76 = .ok (.iadd, 1) := by decide +kernel
theorem dX11_takes_77 : decode cX11_takes 77 = .ok (.putfield 337, 3) := by decide +kernel
theorem dX11_takes_80 : decode cX11_takes 80 = .ok (.return_, 1) := by decide +kernel
theorem dX11_isFlood_0 : decode cX11_isFlood 0 = .ok (.aload_n 0, 1) := by decide +kernel
theorem dX11_isFlood_1 : decode cX11_isFlood 1 = .ok (.getfield 13, 3) := by decide +kernel
theorem dX11_isFlood_4 : decode cX11_isFlood 4 = .ok (.iconst 0, 1) := by decide +kernel
theorem dX11_isFlood_5 : decode cX11_isFlood 5 = .ok (.iaload, 1) := by decide +kernel
theorem dX11_isFlood_6 : decode cX11_isFlood 6 = .ok (.iconst 1, 1) := by decide +kernel
theorem dX11_isFlood_7 : decode cX11_isFlood 7 = .ok (.if_icmp .le 21, 3) := by decide +kernel
theorem dX11_isFlood_10 : decode cX11_isFlood 10 = .ok (.iload_n 1, 1) := by decide +kernel
theorem dX11_isFlood_11 : decode cX11_isFlood 11 = .ok (.iconst 1, 1) := by decide +kernel
theorem dX11_isFlood_12 : decode cX11_isFlood 12 = .ok (.aload_n 0, 1) := by decide +kernel
theorem dX11_isFlood_13 : decode cX11_isFlood 13 = .ok (.getfield 13, 3) := by decide +kernel
theorem dX11_isFlood_16 : decode cX11_isFlood 16 = .ok (.iconst 0, 1) := by decide +kernel
theorem dX11_isFlood_17 : decode cX11_isFlood 17 = .ok (.iaload, 1) := by decide +kernel
theorem dX11_isFlood_18 : decode cX11_isFlood 18 = .ok (.ishl, 1) := by decide +kernel
theorem dX11_isFlood_19 : decode cX11_isFlood 19 = .ok (.iconst 1, 1) := by decide +kernel
theorem dX11_isFlood_20 : decode cX11_isFlood 20 = .ok (.isub, 1) := by decide +kernel
theorem dX11_isFlood_21 : decode cX11_isFlood 21 = .ok (.if_icmp .ne 7, 3) := by decide +kernel
theorem dX11_isFlood_24 : decode cX11_isFlood 24 = .ok (.iconst 1, 1) := by decide +kernel
theorem dX11_isFlood_25 : decode cX11_isFlood 25 = .ok (.goto 4, 3) := by decide +kernel
theorem dX11_isFlood_28 : decode cX11_isFlood 28 = .ok (.iconst 0, 1) := by decide +kernel
theorem dX11_isFlood_29 : decode cX11_isFlood 29 = .ok (.ireturn, 1) := by decide +kernel
theorem dX11_fallsDue_0 : decode cX11_fallsDue 0 = .ok (.aload_n 0, 1) := by decide +kernel
theorem dX11_fallsDue_1 : decode cX11_fallsDue 1 = .ok (.iload_n 1, 1) := by decide +kernel
theorem dX11_fallsDue_2 : decode cX11_fallsDue 2 = .ok (.invokevirtual 340, 3) := by decide +kernel
theorem dX11_fallsDue_5 : decode cX11_fallsDue 5 = .ok (.istore_n 2, 1) := by decide +kernel
theorem dX11_fallsDue_6 : decode cX11_fallsDue 6 = .ok (.iconst 0, 1) := by decide +kernel
theorem dX11_fallsDue_7 : decode cX11_fallsDue 7 = .ok (.istore_n 3, 1) := by decide +kernel
theorem dX11_fallsDue_8 : decode cX11_fallsDue 8 = .ok (.iload_n 3, 1) := by decide +kernel
theorem dX11_fallsDue_9 : decode cX11_fallsDue 9 = .ok (.aload_n 0, 1) := by decide +kernel
theorem dX11_fallsDue_10 : decode cX11_fallsDue 10 = .ok (.getfield 19, 3) := by decide +kernel
theorem dX11_fallsDue_13 : decode cX11_fallsDue 13 = .ok (.iconst 0, 1) := by decide +kernel
theorem dX11_fallsDue_14 : decode cX11_fallsDue 14 = .ok (.iaload, 1) := by decide +kernel
theorem dX11_fallsDue_15 : decode cX11_fallsDue 15 = .ok (.if_icmp .ge 107, 3) := by decide +kernel
theorem dX11_fallsDue_18 : decode cX11_fallsDue 18 = .ok (.aload_n 0, 1) := by decide +kernel
theorem dX11_fallsDue_19 : decode cX11_fallsDue 19 = .ok (.getfield 117, 3) := by decide +kernel
theorem dX11_fallsDue_22 : decode cX11_fallsDue 22 = .ok (.bipush 16, 2) := by decide +kernel
theorem dX11_fallsDue_24 : decode cX11_fallsDue 24 = .ok (.iload_n 3, 1) := by decide +kernel
theorem dX11_fallsDue_25 : decode cX11_fallsDue 25 = .ok (.iadd, 1) := by decide +kernel
theorem dX11_fallsDue_26 : decode cX11_fallsDue 26 = .ok (.iaload, 1) := by decide +kernel
theorem dX11_fallsDue_27 : decode cX11_fallsDue 27 = .ok (.iconst 2, 1) := by decide +kernel
theorem dX11_fallsDue_28 : decode cX11_fallsDue 28 = .ok (.if_icmp .ne 6, 3) := by decide +kernel
theorem dX11_fallsDue_31 : decode cX11_fallsDue 31 = .ok (.goto 85, 3) := by decide +kernel
theorem dX11_fallsDue_34 : decode cX11_fallsDue 34 = .ok (.aload_n 0, 1) := by decide +kernel
theorem dX11_fallsDue_35 : decode cX11_fallsDue 35 = .ok (.iload_n 3, 1) := by decide +kernel
theorem dX11_fallsDue_36 : decode cX11_fallsDue 36 = .ok (.iload_n 1, 1) := by decide +kernel
theorem dX11_fallsDue_37 : decode cX11_fallsDue 37 = .ok (.invokevirtual 343, 3) := by decide +kernel
theorem dX11_fallsDue_40 : decode cX11_fallsDue 40 = .ok (.ifCond .eq 34, 3) := by decide +kernel
theorem dX11_fallsDue_43 : decode cX11_fallsDue 43 = .ok (.aload_n 0, 1) := by decide +kernel
theorem dX11_fallsDue_44 : decode cX11_fallsDue 44 = .ok (.getfield 117, 3) := by decide +kernel
theorem dX11_fallsDue_47 : decode cX11_fallsDue 47 = .ok (.bipush 26, 2) := by decide +kernel
theorem dX11_fallsDue_49 : decode cX11_fallsDue 49 = .ok (.iload_n 3, 1) := by decide +kernel
theorem dX11_fallsDue_50 : decode cX11_fallsDue 50 = .ok (.iadd, 1) := by decide +kernel
theorem dX11_fallsDue_51 : decode cX11_fallsDue 51 = .ok (.dup2, 1) := by decide +kernel
theorem dX11_fallsDue_52 : decode cX11_fallsDue 52 = .ok (.iaload, 1) := by decide +kernel
theorem dX11_fallsDue_53 : decode cX11_fallsDue 53 = .ok (.iconst 1, 1) := by decide +kernel
theorem dX11_fallsDue_54 : decode cX11_fallsDue 54 = .ok (.iadd, 1) := by decide +kernel
theorem dX11_fallsDue_55 : decode cX11_fallsDue 55 = .ok (.iastore, 1) := by decide +kernel
theorem dX11_fallsDue_56 : decode cX11_fallsDue 56 = .ok (.aload_n 0, 1) := by decide +kernel
theorem dX11_fallsDue_57 : decode cX11_fallsDue 57 = .ok (.getfield 117, 3) := by decide +kernel
theorem dX11_fallsDue_60 : decode cX11_fallsDue 60 = .ok (.bipush 6, 2) := by decide +kernel
theorem dX11_fallsDue_62 : decode cX11_fallsDue 62 = .ok (.iload_n 3, 1) := by decide +kernel
theorem dX11_fallsDue_63 : decode cX11_fallsDue 63 = .ok (.iadd, 1) := by decide +kernel
theorem dX11_fallsDue_64 : decode cX11_fallsDue 64 = .ok (.dup2, 1) := by decide +kernel
theorem dX11_fallsDue_65 : decode cX11_fallsDue 65 = .ok (.iaload, 1) := by decide +kernel
theorem dX11_fallsDue_66 : decode cX11_fallsDue 66 = .ok (.aload_n 0, 1) := by decide +kernel
theorem dX11_fallsDue_67 : decode cX11_fallsDue 67 = .ok (.getfield 50, 3) := by decide +kernel
theorem dX11_fallsDue_70 : decode cX11_fallsDue 70 = .ok (.iload_n 3, 1) := by decide +kernel
theorem dX11_fallsDue_71 : decode cX11_fallsDue 71 = .ok (.iaload, 1) := by decide +kernel
theorem dX11_fallsDue_72 : decode cX11_fallsDue 72 = .ok (.iadd, 1) := by decide +kernel
theorem dX11_fallsDue_73 : decode cX11_fallsDue 73 = .ok (.iastore, 1) := by decide +kernel
theorem dX11_fallsDue_74 : decode cX11_fallsDue 74 = .ok (.aload_n 0, 1) := by decide +kernel
theorem dX11_fallsDue_75 : decode cX11_fallsDue 75 = .ok (.getfield 117, 3) := by decide +kernel
theorem dX11_fallsDue_78 : decode cX11_fallsDue 78 = .ok (.bipush 26, 2) := by decide +kernel
theorem dX11_fallsDue_80 : decode cX11_fallsDue 80 = .ok (.iload_n 3, 1) := by decide +kernel
theorem dX11_fallsDue_81 : decode cX11_fallsDue 81 = .ok (.iadd, 1) := by decide +kernel
theorem dX11_fallsDue_82 : decode cX11_fallsDue 82 = .ok (.iaload, 1) := by decide +kernel
theorem dX11_fallsDue_83 : decode cX11_fallsDue 83 = .ok (.aload_n 0, 1) := by decide +kernel
theorem dX11_fallsDue_84 : decode cX11_fallsDue 84 = .ok (.getfield 53, 3) := by decide +kernel
theorem dX11_fallsDue_87 : decode cX11_fallsDue 87 = .ok (.iload_n 3, 1) := by decide +kernel
theorem dX11_fallsDue_88 : decode cX11_fallsDue 88 = .ok (.iaload, 1) := by decide +kernel
theorem dX11_fallsDue_89 : decode cX11_fallsDue 89 = .ok (.if_icmp .ge 17, 3) := by decide +kernel
theorem dX11_fallsDue_92 : decode cX11_fallsDue 92 = .ok (.iload_n 2, 1) := by decide +kernel
theorem dX11_fallsDue_93 : decode cX11_fallsDue 93 = .ok (.ifCond .eq 23, 3) := by decide +kernel
theorem dX11_fallsDue_96 : decode cX11_fallsDue 96 = .ok (.aload_n 0, 1) := by decide +kernel
theorem dX11_fallsDue_97 : decode cX11_fallsDue 97 = .ok (.getfield 59, 3) := by decide +kernel
theorem dX11_fallsDue_100 : decode cX11_fallsDue 100 = .ok (.iload_n 3, 1) := by decide +kernel
theorem dX11_fallsDue_101 : decode cX11_fallsDue 101 = .ok (.iaload, 1) := by decide +kernel
theorem dX11_fallsDue_102 : decode cX11_fallsDue 102 = .ok (.iconst 4, 1) := by decide +kernel
theorem dX11_fallsDue_103 : decode cX11_fallsDue 103 = .ok (.if_icmp .eq 13, 3) := by decide +kernel
theorem dX11_fallsDue_106 : decode cX11_fallsDue 106 = .ok (.aload_n 0, 1) := by decide +kernel
theorem dX11_fallsDue_107 : decode cX11_fallsDue 107 = .ok (.getfield 117, 3) := by decide +kernel
theorem dX11_fallsDue_110 : decode cX11_fallsDue 110 = .ok (.bipush 16, 2) := by decide +kernel
theorem dX11_fallsDue_112 : decode cX11_fallsDue 112 = .ok (.iload_n 3, 1) := by decide +kernel
theorem dX11_fallsDue_113 : decode cX11_fallsDue 113 = .ok (.iadd, 1) := by decide +kernel
theorem dX11_fallsDue_114 : decode cX11_fallsDue 114 = .ok (.iconst 1, 1) := by decide +kernel
theorem dX11_fallsDue_115 : decode cX11_fallsDue 115 = .ok (.iastore, 1) := by decide +kernel
theorem dX11_fallsDue_116 : decode cX11_fallsDue 116 = .ok (.iinc 3 1, 3) := by decide +kernel
theorem dX11_fallsDue_119 : decode cX11_fallsDue 119 = .ok (.goto (-111), 3) := by decide +kernel
theorem dX11_fallsDue_122 : decode cX11_fallsDue 122 = .ok (.iconst 0, 1) := by decide +kernel
theorem dX11_fallsDue_123 : decode cX11_fallsDue 123 = .ok (.istore_n 3, 1) := by decide +kernel
theorem dX11_fallsDue_124 : decode cX11_fallsDue 124 = .ok (.iload_n 3, 1) := by decide +kernel
theorem dX11_fallsDue_125 : decode cX11_fallsDue 125 = .ok (.aload_n 0, 1) := by decide +kernel
theorem dX11_fallsDue_126 : decode cX11_fallsDue 126 = .ok (.getfield 19, 3) := by decide +kernel
theorem dX11_fallsDue_129 : decode cX11_fallsDue 129 = .ok (.iconst 0, 1) := by decide +kernel
theorem dX11_fallsDue_130 : decode cX11_fallsDue 130 = .ok (.iaload, 1) := by decide +kernel
theorem dX11_fallsDue_131 : decode cX11_fallsDue 131 = .ok (.if_icmp .ge 94, 3) := by decide +kernel
theorem dX11_fallsDue_134 : decode cX11_fallsDue 134 = .ok (.aload_n 0, 1) := by decide +kernel
theorem dX11_fallsDue_135 : decode cX11_fallsDue 135 = .ok (.getfield 59, 3) := by decide +kernel
theorem dX11_fallsDue_138 : decode cX11_fallsDue 138 = .ok (.iload_n 3, 1) := by decide +kernel
theorem dX11_fallsDue_139 : decode cX11_fallsDue 139 = .ok (.iaload, 1) := by decide +kernel
theorem dX11_fallsDue_140 : decode cX11_fallsDue 140 = .ok (.iconst 5, 1) := by decide +kernel
theorem dX11_fallsDue_141 : decode cX11_fallsDue 141 = .ok (.if_icmp .ne 78, 3) := by decide +kernel
theorem dX11_fallsDue_144 : decode cX11_fallsDue 144 = .ok (.aload_n 0, 1) := by decide +kernel
theorem dX11_fallsDue_145 : decode cX11_fallsDue 145 = .ok (.getfield 117, 3) := by decide +kernel
theorem dX11_fallsDue_148 : decode cX11_fallsDue 148 = .ok (.bipush 16, 2) := by decide +kernel
theorem dX11_fallsDue_150 : decode cX11_fallsDue 150 = .ok (.iload_n 3, 1) := by decide +kernel
theorem dX11_fallsDue_151 : decode cX11_fallsDue 151 = .ok (.iadd, 1) := by decide +kernel
theorem dX11_fallsDue_152 : decode cX11_fallsDue 152 = .ok (.iaload, 1) := by decide +kernel
theorem dX11_fallsDue_153 : decode cX11_fallsDue 153 = .ok (.ifCond .eq 6, 3) := by decide +kernel
theorem dX11_fallsDue_156 : decode cX11_fallsDue 156 = .ok (.goto 63, 3) := by decide +kernel
theorem dX11_fallsDue_159 : decode cX11_fallsDue 159 = .ok (.iconst 0, 1) := by decide +kernel
theorem dX11_fallsDue_160 : decode cX11_fallsDue 160 = .ok (.istore 4, 2) := by decide +kernel
theorem dX11_fallsDue_162 : decode cX11_fallsDue 162 = .ok (.iload 4, 2) := by decide +kernel
theorem dX11_fallsDue_164 : decode cX11_fallsDue 164 = .ok (.aload_n 0, 1) := by decide +kernel
theorem dX11_fallsDue_165 : decode cX11_fallsDue 165 = .ok (.getfield 19, 3) := by decide +kernel
theorem dX11_fallsDue_168 : decode cX11_fallsDue 168 = .ok (.iconst 0, 1) := by decide +kernel
theorem dX11_fallsDue_169 : decode cX11_fallsDue 169 = .ok (.iaload, 1) := by decide +kernel
theorem dX11_fallsDue_170 : decode cX11_fallsDue 170 = .ok (.if_icmp .ge 49, 3) := by decide +kernel
theorem dX11_fallsDue_173 : decode cX11_fallsDue 173 = .ok (.aload_n 0, 1) := by decide +kernel
theorem dX11_fallsDue_174 : decode cX11_fallsDue 174 = .ok (.getfield 117, 3) := by decide +kernel
theorem dX11_fallsDue_177 : decode cX11_fallsDue 177 = .ok (.bipush 16, 2) := by decide +kernel
theorem dX11_fallsDue_179 : decode cX11_fallsDue 179 = .ok (.iload 4, 2) := by decide +kernel
theorem dX11_fallsDue_181 : decode cX11_fallsDue 181 = .ok (.iadd, 1) := by decide +kernel
theorem dX11_fallsDue_182 : decode cX11_fallsDue 182 = .ok (.iaload, 1) := by decide +kernel
theorem dX11_fallsDue_183 : decode cX11_fallsDue 183 = .ok (.iconst 1, 1) := by decide +kernel
theorem dX11_fallsDue_184 : decode cX11_fallsDue 184 = .ok (.if_icmp .ne 29, 3) := by decide +kernel
theorem dX11_fallsDue_187 : decode cX11_fallsDue 187 = .ok (.aload_n 0, 1) := by decide +kernel
theorem dX11_fallsDue_188 : decode cX11_fallsDue 188 = .ok (.getfield 44, 3) := by decide +kernel
theorem dX11_fallsDue_191 : decode cX11_fallsDue 191 = .ok (.iload 4, 2) := by decide +kernel
theorem dX11_fallsDue_193 : decode cX11_fallsDue 193 = .ok (.iaload, 1) := by decide +kernel
theorem dX11_fallsDue_194 : decode cX11_fallsDue 194 = .ok (.aload_n 0, 1) := by decide +kernel
theorem dX11_fallsDue_195 : decode cX11_fallsDue 195 = .ok (.getfield 44, 3) := by decide +kernel
theorem dX11_fallsDue_198 : decode cX11_fallsDue 198 = .ok (.iload_n 3, 1) := by decide +kernel
theorem dX11_fallsDue_199 : decode cX11_fallsDue 199 = .ok (.iaload, 1) := by decide +kernel
theorem dX11_fallsDue_200 : decode cX11_fallsDue 200 = .ok (.if_icmp .ne 13, 3) := by decide +kernel
theorem dX11_fallsDue_203 : decode cX11_fallsDue 203 = .ok (.aload_n 0, 1) := by decide +kernel
theorem dX11_fallsDue_204 : decode cX11_fallsDue 204 = .ok (.getfield 117, 3) := by decide +kernel
theorem dX11_fallsDue_207 : decode cX11_fallsDue 207 = .ok (.bipush 16, 2) := by decide +kernel
theorem dX11_fallsDue_209 : decode cX11_fallsDue 209 = .ok (.iload_n 3, 1) := by decide +kernel
theorem dX11_fallsDue_210 : decode cX11_fallsDue 210 = .ok (.iadd, 1) := by decide +kernel
theorem dX11_fallsDue_211 : decode cX11_fallsDue 211 = .ok (.iconst 1, 1) := by decide +kernel
theorem dX11_fallsDue_212 : decode cX11_fallsDue 212 = .ok (.iastore, 1) := by decide +kernel
theorem dX11_fallsDue_213 : decode cX11_fallsDue 213 = .ok (.iinc 4 1, 3) := by decide +kernel
theorem dX11_fallsDue_216 : decode cX11_fallsDue 216 = .ok (.goto (-54), 3) := by decide +kernel
theorem dX11_fallsDue_219 : decode cX11_fallsDue 219 = .ok (.iinc 3 1, 3) := by decide +kernel
theorem dX11_fallsDue_222 : decode cX11_fallsDue 222 = .ok (.goto (-98), 3) := by decide +kernel
theorem dX11_fallsDue_225 : decode cX11_fallsDue 225 = .ok (.return_, 1) := by decide +kernel
theorem dX11_goes_0 : decode cX11_goes 0 = .ok (.aload_n 0, 1) := by decide +kernel
theorem dX11_goes_1 : decode cX11_goes 1 = .ok (.iload_n 1, 1) := by decide +kernel
theorem dX11_goes_2 : decode cX11_goes 2 = .ok (.invokevirtual 346, 3) := by decide +kernel
theorem dX11_goes_5 : decode cX11_goes 5 = .ok (.aload_n 0, 1) := by decide +kernel
theorem dX11_goes_6 : decode cX11_goes 6 = .ok (.iload_n 1, 1) := by decide +kernel
theorem dX11_goes_7 : decode cX11_goes 7 = .ok (.invokevirtual 340, 3) := by decide +kernel
theorem dX11_goes_10 : decode cX11_goes 10 = .ok (.istore_n 2, 1) := by decide +kernel
theorem dX11_goes_11 : decode cX11_goes 11 = .ok (.iconst 0, 1) := by decide +kernel
theorem dX11_goes_12 : decode cX11_goes 12 = .ok (.istore_n 3, 1) := by decide +kernel
theorem dX11_goes_13 : decode cX11_goes 13 = .ok (.iload_n 3, 1) := by decide +kernel
theorem dX11_goes_14 : decode cX11_goes 14 = .ok (.aload_n 0, 1) := by decide +kernel
theorem dX11_goes_15 : decode cX11_goes 15 = .ok (.getfield 19, 3) := by decide +kernel
theorem dX11_goes_18 : decode cX11_goes 18 = .ok (.iconst 0, 1) := by decide +kernel
theorem dX11_goes_19 : decode cX11_goes 19 = .ok (.iaload, 1) := by decide +kernel
theorem dX11_goes_20 : decode cX11_goes 20 = .ok (.if_icmp .ge 59, 3) := by decide +kernel
theorem dX11_goes_23 : decode cX11_goes 23 = .ok (.aload_n 0, 1) := by decide +kernel
theorem dX11_goes_24 : decode cX11_goes 24 = .ok (.getfield 117, 3) := by decide +kernel
theorem dX11_goes_27 : decode cX11_goes 27 = .ok (.bipush 46, 2) := by decide +kernel
theorem dX11_goes_29 : decode cX11_goes 29 = .ok (.iload_n 3, 1) := by decide +kernel
theorem dX11_goes_30 : decode cX11_goes 30 = .ok (.iadd, 1) := by decide +kernel
theorem dX11_goes_31 : decode cX11_goes 31 = .ok (.aload_n 0, 1) := by decide +kernel
theorem dX11_goes_32 : decode cX11_goes 32 = .ok (.getfield 117, 3) := by decide +kernel
theorem dX11_goes_35 : decode cX11_goes 35 = .ok (.bipush 16, 2) := by decide +kernel
theorem dX11_goes_37 : decode cX11_goes 37 = .ok (.iload_n 3, 1) := by decide +kernel
theorem dX11_goes_38 : decode cX11_goes 38 = .ok (.iadd, 1) := by decide +kernel
theorem dX11_goes_39 : decode cX11_goes 39 = .ok (.iaload, 1) := by decide +kernel
theorem dX11_goes_40 : decode cX11_goes 40 = .ok (.iconst 1, 1) := by decide +kernel
theorem dX11_goes_41 : decode cX11_goes 41 = .ok (.if_icmp .ne 30, 3) := by decide +kernel
theorem dX11_goes_44 : decode cX11_goes 44 = .ok (.aload_n 0, 1) := by decide +kernel
theorem dX11_goes_45 : decode cX11_goes 45 = .ok (.iload_n 3, 1) := by decide +kernel
theorem dX11_goes_46 : decode cX11_goes 46 = .ok (.iload_n 1, 1) := by decide +kernel
theorem dX11_goes_47 : decode cX11_goes 47 = .ok (.invokevirtual 343, 3) := by decide +kernel
theorem dX11_goes_50 : decode cX11_goes 50 = .ok (.ifCond .ne 17, 3) := by decide +kernel
theorem dX11_goes_53 : decode cX11_goes 53 = .ok (.iload_n 2, 1) := by decide +kernel
theorem dX11_goes_54 : decode cX11_goes 54 = .ok (.ifCond .eq 17, 3) := by decide +kernel
theorem dX11_goes_57 : decode cX11_goes 57 = .ok (.aload_n 0, 1) := by decide +kernel
theorem dX11_goes_58 : decode cX11_goes 58 = .ok (.getfield 59, 3) := by decide +kernel
theorem dX11_goes_61 : decode cX11_goes 61 = .ok (.iload_n 3, 1) := by decide +kernel
theorem dX11_goes_62 : decode cX11_goes 62 = .ok (.iaload, 1) := by decide +kernel
theorem dX11_goes_63 : decode cX11_goes 63 = .ok (.iconst 4, 1) := by decide +kernel
theorem dX11_goes_64 : decode cX11_goes 64 = .ok (.if_icmp .eq 7, 3) := by decide +kernel
theorem dX11_goes_67 : decode cX11_goes 67 = .ok (.iconst 1, 1) := by decide +kernel
theorem dX11_goes_68 : decode cX11_goes 68 = .ok (.goto 4, 3) := by decide +kernel
theorem dX11_goes_71 : decode cX11_goes 71 = .ok (.iconst 0, 1) := by decide +kernel
theorem dX11_goes_72 : decode cX11_goes 72 = .ok (.iastore, 1) := by decide +kernel
theorem dX11_goes_73 : decode cX11_goes 73 = .ok (.iinc 3 1, 3) := by decide +kernel
theorem dX11_goes_76 : decode cX11_goes 76 = .ok (.goto (-63), 3) := by decide +kernel
theorem dX11_goes_79 : decode cX11_goes 79 = .ok (.aload_n 0, 1) := by decide +kernel
theorem dX11_goes_80 : decode cX11_goes 80 = .ok (.iconst 1, 1) := by decide +kernel
theorem dX11_goes_81 : decode cX11_goes 81 = .ok (.putfield 337, 3) := by decide +kernel
theorem dX11_goes_84 : decode cX11_goes 84 = .ok (.aload_n 0, 1) := by decide +kernel
theorem dX11_goes_85 : decode cX11_goes 85 = .ok (.getfield 337, 3) := by decide +kernel
theorem dX11_goes_88 : decode cX11_goes 88 = .ok (.ifCond .le 79, 3) := by decide +kernel
theorem dX11_goes_91 : decode cX11_goes 91 = .ok (.aload_n 0, 1) := by decide +kernel
theorem dX11_goes_92 : decode cX11_goes 92 = .ok (.iconst 0, 1) := by decide +kernel
theorem dX11_goes_93 : decode cX11_goes 93 = .ok (.putfield 337, 3) := by decide +kernel
theorem dX11_goes_96 : decode cX11_goes 96 = .ok (.iconst 0, 1) := by decide +kernel
theorem dX11_goes_97 : decode cX11_goes 97 = .ok (.istore_n 3, 1) := by decide +kernel
theorem dX11_goes_98 : decode cX11_goes 98 = .ok (.iload_n 3, 1) := by decide +kernel
theorem dX11_goes_99 : decode cX11_goes 99 = .ok (.aload_n 0, 1) := by decide +kernel
theorem dX11_goes_100 : decode cX11_goes 100 = .ok (.getfield 19, 3) := by decide +kernel
theorem dX11_goes_103 : decode cX11_goes 103 = .ok (.iconst 0, 1) := by decide +kernel
theorem dX11_goes_104 : decode cX11_goes 104 = .ok (.iaload, 1) := by decide +kernel
theorem dX11_goes_105 : decode cX11_goes 105 = .ok (.if_icmp .ge 59, 3) := by decide +kernel
theorem dX11_goes_108 : decode cX11_goes 108 = .ok (.aload_n 0, 1) := by decide +kernel
theorem dX11_goes_109 : decode cX11_goes 109 = .ok (.getfield 117, 3) := by decide +kernel
theorem dX11_goes_112 : decode cX11_goes 112 = .ok (.bipush 46, 2) := by decide +kernel
theorem dX11_goes_114 : decode cX11_goes 114 = .ok (.iload_n 3, 1) := by decide +kernel
theorem dX11_goes_115 : decode cX11_goes 115 = .ok (.iadd, 1) := by decide +kernel
theorem dX11_goes_116 : decode cX11_goes 116 = .ok (.iaload, 1) := by decide +kernel
theorem dX11_goes_117 : decode cX11_goes 117 = .ok (.ifCond .ne 6, 3) := by decide +kernel
theorem dX11_goes_120 : decode cX11_goes 120 = .ok (.goto 38, 3) := by decide +kernel
theorem dX11_goes_123 : decode cX11_goes 123 = .ok (.aload_n 0, 1) := by decide +kernel
theorem dX11_goes_124 : decode cX11_goes 124 = .ok (.iload_n 3, 1) := by decide +kernel
theorem dX11_goes_125 : decode cX11_goes 125 = .ok (.aload_n 0, 1) := by decide +kernel
theorem dX11_goes_126 : decode cX11_goes 126 = .ok (.getfield 44, 3) := by decide +kernel
theorem dX11_goes_129 : decode cX11_goes 129 = .ok (.iload_n 3, 1) := by decide +kernel
theorem dX11_goes_130 : decode cX11_goes 130 = .ok (.iaload, 1) := by decide +kernel
theorem dX11_goes_131 : decode cX11_goes 131 = .ok (.invokevirtual 349, 3) := by decide +kernel
theorem dX11_goes_134 : decode cX11_goes 134 = .ok (.aload_n 0, 1) := by decide +kernel
theorem dX11_goes_135 : decode cX11_goes 135 = .ok (.getfield 62, 3) := by decide +kernel
theorem dX11_goes_138 : decode cX11_goes 138 = .ok (.iload_n 3, 1) := by decide +kernel
theorem dX11_goes_139 : decode cX11_goes 139 = .ok (.iaload, 1) := by decide +kernel
theorem dX11_goes_140 : decode cX11_goes 140 = .ok (.ifCond .lt 18, 3) := by decide +kernel
theorem dX11_goes_143 : decode cX11_goes 143 = .ok (.iload_n 1, 1) := by decide +kernel
theorem dX11_goes_144 : decode cX11_goes 144 = .ok (.ifCond .eq 14, 3) := by decide +kernel
theorem dX11_goes_147 : decode cX11_goes 147 = .ok (.aload_n 0, 1) := by decide +kernel
theorem dX11_goes_148 : decode cX11_goes 148 = .ok (.iload_n 3, 1) := by decide +kernel
theorem dX11_goes_149 : decode cX11_goes 149 = .ok (.aload_n 0, 1) := by decide +kernel
theorem dX11_goes_150 : decode cX11_goes 150 = .ok (.getfield 62, 3) := by decide +kernel
theorem dX11_goes_153 : decode cX11_goes 153 = .ok (.iload_n 3, 1) := by decide +kernel
theorem dX11_goes_154 : decode cX11_goes 154 = .ok (.iaload, 1) := by decide +kernel
theorem dX11_goes_155 : decode cX11_goes 155 = .ok (.invokevirtual 349, 3) := by decide +kernel
theorem dX11_goes_158 : decode cX11_goes 158 = .ok (.iinc 3 1, 3) := by decide +kernel
theorem dX11_goes_161 : decode cX11_goes 161 = .ok (.goto (-63), 3) := by decide +kernel
theorem dX11_goes_164 : decode cX11_goes 164 = .ok (.goto (-80), 3) := by decide +kernel
theorem dX11_goes_167 : decode cX11_goes 167 = .ok (.iconst 0, 1) := by decide +kernel
theorem dX11_goes_168 : decode cX11_goes 168 = .ok (.istore_n 3, 1) := by decide +kernel
theorem dX11_goes_169 : decode cX11_goes 169 = .ok (.iload_n 3, 1) := by decide +kernel
theorem dX11_goes_170 : decode cX11_goes 170 = .ok (.aload_n 0, 1) := by decide +kernel
theorem dX11_goes_171 : decode cX11_goes 171 = .ok (.getfield 19, 3) := by decide +kernel
theorem dX11_goes_174 : decode cX11_goes 174 = .ok (.iconst 0, 1) := by decide +kernel
theorem dX11_goes_175 : decode cX11_goes 175 = .ok (.iaload, 1) := by decide +kernel
theorem dX11_goes_176 : decode cX11_goes 176 = .ok (.if_icmp .ge 31, 3) := by decide +kernel
theorem dX11_goes_179 : decode cX11_goes 179 = .ok (.aload_n 0, 1) := by decide +kernel
theorem dX11_goes_180 : decode cX11_goes 180 = .ok (.getfield 117, 3) := by decide +kernel
theorem dX11_goes_183 : decode cX11_goes 183 = .ok (.bipush 6, 2) := by decide +kernel
theorem dX11_goes_185 : decode cX11_goes 185 = .ok (.iload_n 3, 1) := by decide +kernel
theorem dX11_goes_186 : decode cX11_goes 186 = .ok (.iadd, 1) := by decide +kernel
theorem dX11_goes_187 : decode cX11_goes 187 = .ok (.iaload, 1) := by decide +kernel
theorem dX11_goes_188 : decode cX11_goes 188 = .ok (.ifCond .ne 13, 3) := by decide +kernel
theorem dX11_goes_191 : decode cX11_goes 191 = .ok (.aload_n 0, 1) := by decide +kernel
theorem dX11_goes_192 : decode cX11_goes 192 = .ok (.getfield 117, 3) := by decide +kernel
theorem dX11_goes_195 : decode cX11_goes 195 = .ok (.bipush 16, 2) := by decide +kernel
theorem dX11_goes_197 : decode cX11_goes 197 = .ok (.iload_n 3, 1) := by decide +kernel
theorem dX11_goes_198 : decode cX11_goes 198 = .ok (.iadd, 1) := by decide +kernel
theorem dX11_goes_199 : decode cX11_goes 199 = .ok (.iconst 2, 1) := by decide +kernel
theorem dX11_goes_200 : decode cX11_goes 200 = .ok (.iastore, 1) := by decide +kernel
theorem dX11_goes_201 : decode cX11_goes 201 = .ok (.iinc 3 1, 3) := by decide +kernel
theorem dX11_goes_204 : decode cX11_goes 204 = .ok (.goto (-35), 3) := by decide +kernel
theorem dX11_goes_207 : decode cX11_goes 207 = .ok (.aload_n 0, 1) := by decide +kernel
theorem dX11_goes_208 : decode cX11_goes 208 = .ok (.getfield 117, 3) := by decide +kernel
theorem dX11_goes_211 : decode cX11_goes 211 = .ok (.bipush 56, 2) := by decide +kernel
theorem dX11_goes_213 : decode cX11_goes 213 = .ok (.iload_n 1, 1) := by decide +kernel
theorem dX11_goes_214 : decode cX11_goes 214 = .ok (.iastore, 1) := by decide +kernel
theorem dX11_goes_215 : decode cX11_goes 215 = .ok (.aload_n 0, 1) := by decide +kernel
theorem dX11_goes_216 : decode cX11_goes 216 = .ok (.getfield 117, 3) := by decide +kernel
theorem dX11_goes_219 : decode cX11_goes 219 = .ok (.bipush 57, 2) := by decide +kernel
theorem dX11_goes_221 : decode cX11_goes 221 = .ok (.dup2, 1) := by decide +kernel
theorem dX11_goes_222 : decode cX11_goes 222 = .ok (.iaload, 1) := by decide +kernel
theorem dX11_goes_223 : decode cX11_goes 223 = .ok (.iconst 1, 1) := by decide +kernel
theorem dX11_goes_224 : decode cX11_goes 224 = .ok (.iadd, 1) := by decide +kernel
theorem dX11_goes_225 : decode cX11_goes 225 = .ok (.iastore, 1) := by decide +kernel
theorem dX11_goes_226 : decode cX11_goes 226 = .ok (.aload_n 0, 1) := by decide +kernel
theorem dX11_goes_227 : decode cX11_goes 227 = .ok (.getfield 117, 3) := by decide +kernel
theorem dX11_goes_230 : decode cX11_goes 230 = .ok (.bipush 58, 2) := by decide +kernel
theorem dX11_goes_232 : decode cX11_goes 232 = .ok (.dup2, 1) := by decide +kernel
theorem dX11_goes_233 : decode cX11_goes 233 = .ok (.iaload, 1) := by decide +kernel
theorem dX11_goes_234 : decode cX11_goes 234 = .ok (.iload_n 2, 1) := by decide +kernel
theorem dX11_goes_235 : decode cX11_goes 235 = .ok (.ifCond .eq 7, 3) := by decide +kernel
theorem dX11_goes_238 : decode cX11_goes 238 = .ok (.iconst 1, 1) := by decide +kernel
theorem dX11_goes_239 : decode cX11_goes 239 = .ok (.goto 4, 3) := by decide +kernel
theorem dX11_goes_242 : decode cX11_goes 242 = .ok (.iconst 0, 1) := by decide +kernel
theorem dX11_goes_243 : decode cX11_goes 243 = .ok (.iadd, 1) := by decide +kernel
theorem dX11_goes_244 : decode cX11_goes 244 = .ok (.iastore, 1) := by decide +kernel
theorem dX11_goes_245 : decode cX11_goes 245 = .ok (.return_, 1) := by decide +kernel
theorem dX11_dues_0 : decode cX11_dues 0 = .ok (.iconst 0, 1) := by decide +kernel
theorem dX11_dues_1 : decode cX11_dues 1 = .ok (.istore_n 1, 1) := by decide +kernel
theorem dX11_dues_2 : decode cX11_dues 2 = .ok (.iconst 0, 1) := by decide +kernel
theorem dX11_dues_3 : decode cX11_dues 3 = .ok (.istore_n 2, 1) := by decide +kernel
theorem dX11_dues_4 : decode cX11_dues 4 = .ok (.iload_n 2, 1) := by decide +kernel
theorem dX11_dues_5 : decode cX11_dues 5 = .ok (.aload_n 0, 1) := by decide +kernel
theorem dX11_dues_6 : decode cX11_dues 6 = .ok (.getfield 19, 3) := by decide +kernel
theorem dX11_dues_9 : decode cX11_dues 9 = .ok (.iconst 0, 1) := by decide +kernel
theorem dX11_dues_10 : decode cX11_dues 10 = .ok (.iaload, 1) := by decide +kernel
theorem dX11_dues_11 : decode cX11_dues 11 = .ok (.if_icmp .ge 30, 3) := by decide +kernel
theorem dX11_dues_14 : decode cX11_dues 14 = .ok (.iload_n 1, 1) := by decide +kernel
theorem dX11_dues_15 : decode cX11_dues 15 = .ok (.aload_n 0, 1) := by decide +kernel
theorem dX11_dues_16 : decode cX11_dues 16 = .ok (.getfield 117, 3) := by decide +kernel
theorem dX11_dues_19 : decode cX11_dues 19 = .ok (.bipush 16, 2) := by decide +kernel
theorem dX11_dues_21 : decode cX11_dues 21 = .ok (.iload_n 2, 1) := by decide +kernel
theorem dX11_dues_22 : decode cX11_dues 22 = .ok (.iadd, 1) := by decide +kernel
theorem dX11_dues_23 : decode cX11_dues 23 = .ok (.iaload, 1) := by decide +kernel
theorem dX11_dues_24 : decode cX11_dues 24 = .ok (.iconst 1, 1) := by decide +kernel
theorem dX11_dues_25 : decode cX11_dues 25 = .ok (.if_icmp .ne 7, 3) := by decide +kernel
theorem dX11_dues_28 : decode cX11_dues 28 = .ok (.iconst 1, 1) := by decide +kernel
theorem dX11_dues_29 : decode cX11_dues 29 = .ok (.goto 4, 3) := by decide +kernel
theorem dX11_dues_32 : decode cX11_dues 32 = .ok (.iconst 0, 1) := by decide +kernel
theorem dX11_dues_33 : decode cX11_dues 33 = .ok (.iadd, 1) := by decide +kernel
theorem dX11_dues_34 : decode cX11_dues 34 = .ok (.istore_n 1, 1) := by decide +kernel
theorem dX11_dues_35 : decode cX11_dues 35 = .ok (.iinc 2 1, 3) := by decide +kernel
theorem dX11_dues_38 : decode cX11_dues 38 = .ok (.goto (-34), 3) := by decide +kernel
theorem dX11_dues_41 : decode cX11_dues 41 = .ok (.iload_n 1, 1) := by decide +kernel
theorem dX11_dues_42 : decode cX11_dues 42 = .ok (.ireturn, 1) := by decide +kernel
theorem dX11_keeps_0 : decode cX11_keeps 0 = .ok (.aload_n 0, 1) := by decide +kernel
theorem dX11_keeps_1 : decode cX11_keeps 1 = .ok (.getfield 319, 3) := by decide +kernel
theorem dX11_keeps_4 : decode cX11_keeps 4 = .ok (.bipush 30, 2) := by decide +kernel
theorem dX11_keeps_6 : decode cX11_keeps 6 = .ok (.if_icmp .ne 43, 3) := by decide +kernel
theorem dX11_keeps_9 : decode cX11_keeps 9 = .ok (.iconst 0, 1) := by decide +kernel
theorem dX11_keeps_10 : decode cX11_keeps 10 = .ok (.istore_n 1, 1) := by decide +kernel
theorem dX11_keeps_11 : decode cX11_keeps 11 = .ok (.iload_n 1, 1) := by decide +kernel
theorem dX11_keeps_12 : decode cX11_keeps 12 = .ok (.sipush 1856, 3) := by decide +kernel
theorem dX11_keeps_15 : decode cX11_keeps 15 = .ok (.if_icmp .ge 24, 3) := by decide +kernel
theorem dX11_keeps_18 : decode cX11_keeps 18 = .ok (.aload_n 0, 1) := by decide +kernel
theorem dX11_keeps_19 : decode cX11_keeps 19 = .ok (.getfield 123, 3) := by decide +kernel
theorem dX11_keeps_22 : decode cX11_keeps 22 = .ok (.iload_n 1, 1) := by decide +kernel
theorem dX11_keeps_23 : decode cX11_keeps 23 = .ok (.aload_n 0, 1) := by decide +kernel
theorem dX11_keeps_24 : decode cX11_keeps 24 = .ok (.getfield 123, 3) := by decide +kernel
theorem dX11_keeps_27 : decode cX11_keeps 27 = .ok (.iload_n 1, 1) := by decide +kernel
theorem dX11_keeps_28 : decode cX11_keeps 28 = .ok (.bipush 64, 2) := by decide +kernel
theorem dX11_keeps_30 : decode cX11_keeps 30 = .ok (.iadd, 1) := by decide +kernel
theorem dX11_keeps_31 : decode cX11_keeps 31 = .ok (.iaload, 1) := by decide +kernel
theorem dX11_keeps_32 : decode cX11_keeps 32 = .ok (.iastore, 1) := by decide +kernel
theorem dX11_keeps_33 : decode cX11_keeps 33 = .ok (.iinc 1 1, 3) := by decide +kernel
theorem dX11_keeps_36 : decode cX11_keeps 36 = .ok (.goto (-25), 3) := by decide +kernel
theorem dX11_keeps_39 : decode cX11_keeps 39 = .ok (.aload_n 0, 1) := by decide +kernel
theorem dX11_keeps_40 : decode cX11_keeps 40 = .ok (.dup, 1) := by decide +kernel
theorem dX11_keeps_41 : decode cX11_keeps 41 = .ok (.getfield 319, 3) := by decide +kernel
theorem dX11_keeps_44 : decode cX11_keeps 44 = .ok (.iconst 1, 1) := by decide +kernel
theorem dX11_keeps_45 : decode cX11_keeps 45 = .ok (.isub, 1) := by decide +kernel
theorem dX11_keeps_46 : decode cX11_keeps 46 = .ok (.putfield 319, 3) := by decide +kernel
theorem dX11_keeps_49 : decode cX11_keeps 49 = .ok (.aload_n 0, 1) := by decide +kernel
theorem dX11_keeps_50 : decode cX11_keeps 50 = .ok (.getfield 117, 3) := by decide +kernel
theorem dX11_keeps_53 : decode cX11_keeps 53 = .ok (.iconst 0, 1) := by decide +kernel
theorem dX11_keeps_54 : decode cX11_keeps 54 = .ok (.aload_n 0, 1) := by decide +kernel
theorem dX11_keeps_55 : decode cX11_keeps 55 = .ok (.getfield 123, 3) := by decide +kernel
theorem dX11_keeps_58 : decode cX11_keeps 58 = .ok (.bipush 64, 2) := by decide +kernel
theorem dX11_keeps_60 : decode cX11_keeps 60 = .ok (.aload_n 0, 1) := by decide +kernel
theorem dX11_keeps_61 : decode cX11_keeps 61 = .ok (.getfield 319, 3) := by decide +kernel
theorem dX11_keeps_64 : decode cX11_keeps 64 = .ok (.imul, 1) := by decide +kernel
theorem dX11_keeps_65 : decode cX11_keeps 65 = .ok (.invokestatic 352, 3) := by decide +kernel
theorem dX11_keeps_68 : decode cX11_keeps 68 = .ok (.aload_n 0, 1) := by decide +kernel
theorem dX11_keeps_69 : decode cX11_keeps 69 = .ok (.dup, 1) := by decide +kernel
theorem dX11_keeps_70 : decode cX11_keeps 70 = .ok (.getfield 319, 3) := by decide +kernel
theorem dX11_keeps_73 : decode cX11_keeps 73 = .ok (.iconst 1, 1) := by decide +kernel
theorem dX11_keeps_74 : decode cX11_keeps 74 = .ok (.iadd, 1) := by decide +kernel
theorem dX11_keeps_75 : decode cX11_keeps 75 = .ok (.putfield 319, 3) := by decide +kernel
theorem dX11_keeps_78 : decode cX11_keeps 78 = .ok (.return_, 1) := by decide +kernel
theorem dX11_day_0 : decode cX11_day 0 = .ok (.aload_n 0, 1) := by decide +kernel
theorem dX11_day_1 : decode cX11_day 1 = .ok (.iconst 0, 1) := by decide +kernel
theorem dX11_day_2 : decode cX11_day 2 = .ok (.putfield 132, 3) := by decide +kernel
theorem dX11_day_5 : decode cX11_day 5 = .ok (.aload_n 0, 1) := by decide +kernel
theorem dX11_day_6 : decode cX11_day 6 = .ok (.iload_n 1, 1) := by decide +kernel
theorem dX11_day_7 : decode cX11_day 7 = .ok (.invokevirtual 356, 3) := by decide +kernel
theorem dX11_day_10 : decode cX11_day 10 = .ok (.ifCond .ne 5, 3) := by decide +kernel
theorem dX11_day_13 : decode cX11_day 13 = .ok (.iconst (-1), 1) := by decide +kernel
theorem dX11_day_14 : decode cX11_day 14 = .ok (.ireturn, 1) := by decide +kernel
theorem dX11_day_15 : decode cX11_day 15 = .ok (.aload_n 0, 1) := by decide +kernel
theorem dX11_day_16 : decode cX11_day 16 = .ok (.invokevirtual 359, 3) := by decide +kernel
theorem dX11_day_19 : decode cX11_day 19 = .ok (.aload_n 0, 1) := by decide +kernel
theorem dX11_day_20 : decode cX11_day 20 = .ok (.iload_n 1, 1) := by decide +kernel
theorem dX11_day_21 : decode cX11_day 21 = .ok (.invokevirtual 362, 3) := by decide +kernel
theorem dX11_day_24 : decode cX11_day 24 = .ok (.aload_n 0, 1) := by decide +kernel
theorem dX11_day_25 : decode cX11_day 25 = .ok (.invokevirtual 365, 3) := by decide +kernel
theorem dX11_day_28 : decode cX11_day 28 = .ok (.ireturn, 1) := by decide +kernel
theorem dX11_canEarly_0 : decode cX11_canEarly 0 = .ok (.aload_n 0, 1) := by decide +kernel
theorem dX11_canEarly_1 : decode cX11_canEarly 1 = .ok (.iload_n 1, 1) := by decide +kernel
theorem dX11_canEarly_2 : decode cX11_canEarly 2 = .ok (.invokevirtual 328, 3) := by decide +kernel
theorem dX11_canEarly_5 : decode cX11_canEarly 5 = .ok (.ifCond .eq 43, 3) := by decide +kernel
theorem dX11_canEarly_8 : decode cX11_canEarly 8 = .ok (.aload_n 0, 1) := by decide +kernel
theorem dX11_canEarly_9 : decode cX11_canEarly 9 = .ok (.getfield 117, 3) := by decide +kernel
theorem dX11_canEarly_12 : decode cX11_canEarly 12 = .ok (.bipush 16, 2) := by decide +kernel
theorem dX11_canEarly_14 : decode cX11_canEarly 14 = .ok (.iload_n 1, 1) := by decide +kernel
theorem dX11_canEarly_15 : decode cX11_canEarly 15 = .ok (.iadd, 1) := by decide +kernel
theorem dX11_canEarly_16 : decode cX11_canEarly 16 = .ok (.iaload, 1) := by decide +kernel
theorem dX11_canEarly_17 : decode cX11_canEarly 17 = .ok (.iconst 2, 1) := by decide +kernel
theorem dX11_canEarly_18 : decode cX11_canEarly 18 = .ok (.if_icmp .eq 30, 3) := by decide +kernel
theorem dX11_canEarly_21 : decode cX11_canEarly 21 = .ok (.aload_n 0, 1) := by decide +kernel
theorem dX11_canEarly_22 : decode cX11_canEarly 22 = .ok (.getfield 117, 3) := by decide +kernel
theorem dX11_canEarly_25 : decode cX11_canEarly 25 = .ok (.aload_n 0, 1) := by decide +kernel
theorem dX11_canEarly_26 : decode cX11_canEarly 26 = .ok (.getfield 44, 3) := by decide +kernel
theorem dX11_canEarly_29 : decode cX11_canEarly 29 = .ok (.iload_n 1, 1) := by decide +kernel
theorem dX11_canEarly_30 : decode cX11_canEarly 30 = .ok (.iaload, 1) := by decide +kernel
theorem dX11_canEarly_31 : decode cX11_canEarly 31 = .ok (.iaload, 1) := by decide +kernel
theorem dX11_canEarly_32 : decode cX11_canEarly 32 = .ok (.aload_n 0, 1) := by decide +kernel
theorem dX11_canEarly_33 : decode cX11_canEarly 33 = .ok (.getfield 117, 3) := by decide +kernel
theorem dX11_canEarly_36 : decode cX11_canEarly 36 = .ok (.bipush 6, 2) := by decide +kernel
theorem dX11_canEarly_38 : decode cX11_canEarly 38 = .ok (.iload_n 1, 1) := by decide +kernel
theorem dX11_canEarly_39 : decode cX11_canEarly 39 = .ok (.iadd, 1) := by decide +kernel
theorem dX11_canEarly_40 : decode cX11_canEarly 40 = .ok (.iaload, 1) := by decide +kernel
theorem dX11_canEarly_41 : decode cX11_canEarly 41 = .ok (.if_icmp .lt 7, 3) := by decide +kernel
theorem dX11_canEarly_44 : decode cX11_canEarly 44 = .ok (.iconst 1, 1) := by decide +kernel
theorem dX11_canEarly_45 : decode cX11_canEarly 45 = .ok (.goto 4, 3) := by decide +kernel
theorem dX11_canEarly_48 : decode cX11_canEarly 48 = .ok (.iconst 0, 1) := by decide +kernel
theorem dX11_canEarly_49 : decode cX11_canEarly 49 = .ok (.ireturn, 1) := by decide +kernel
theorem dX11_paysEarly_0 : decode cX11_paysEarly 0 = .ok (.aload_n 0, 1) := by decide +kernel
theorem dX11_paysEarly_1 : decode cX11_paysEarly 1 = .ok (.iload_n 1, 1) := by decide +kernel
theorem dX11_paysEarly_2 : decode cX11_paysEarly 2 = .ok (.aload_n 0, 1) := by decide +kernel
theorem dX11_paysEarly_3 : decode cX11_paysEarly 3 = .ok (.getfield 44, 3) := by decide +kernel
theorem dX11_paysEarly_6 : decode cX11_paysEarly 6 = .ok (.iload_n 1, 1) := by decide +kernel
theorem dX11_paysEarly_7 : decode cX11_paysEarly 7 = .ok (.iaload, 1) := by decide +kernel
theorem dX11_paysEarly_8 : decode cX11_paysEarly 8 = .ok (.invokevirtual 349, 3) := by decide +kernel
theorem dX11_paysEarly_11 : decode cX11_paysEarly 11 = .ok (.aload_n 0, 1) := by decide +kernel
theorem dX11_paysEarly_12 : decode cX11_paysEarly 12 = .ok (.getfield 117, 3) := by decide +kernel
theorem dX11_paysEarly_15 : decode cX11_paysEarly 15 = .ok (.bipush 16, 2) := by decide +kernel
theorem dX11_paysEarly_17 : decode cX11_paysEarly 17 = .ok (.iload_n 1, 1) := by decide +kernel
theorem dX11_paysEarly_18 : decode cX11_paysEarly 18 = .ok (.iadd, 1) := by decide +kernel
theorem dX11_paysEarly_19 : decode cX11_paysEarly 19 = .ok (.iconst 2, 1) := by decide +kernel
theorem dX11_paysEarly_20 : decode cX11_paysEarly 20 = .ok (.iastore, 1) := by decide +kernel
theorem dX11_paysEarly_21 : decode cX11_paysEarly 21 = .ok (.return_, 1) := by decide +kernel
theorem dX11_early_0 : decode cX11_early 0 = .ok (.aload_n 0, 1) := by decide +kernel
theorem dX11_early_1 : decode cX11_early 1 = .ok (.iconst 0, 1) := by decide +kernel
theorem dX11_early_2 : decode cX11_early 2 = .ok (.putfield 132, 3) := by decide +kernel
theorem dX11_early_5 : decode cX11_early 5 = .ok (.aload_n 0, 1) := by decide +kernel
theorem dX11_early_6 : decode cX11_early 6 = .ok (.iload_n 1, 1) := by decide +kernel
theorem dX11_early_7 : decode cX11_early 7 = .ok (.invokevirtual 368, 3) := by decide +kernel
theorem dX11_early_10 : decode cX11_early 10 = .ok (.ifCond .ne 5, 3) := by decide +kernel
theorem dX11_early_13 : decode cX11_early 13 = .ok (.iconst 0, 1) := by decide +kernel
theorem dX11_early_14 : decode cX11_early 14 = .ok (.ireturn, 1) := by decide +kernel
theorem dX11_early_15 : decode cX11_early 15 = .ok (.aload_n 0, 1) := by decide +kernel
theorem dX11_early_16 : decode cX11_early 16 = .ok (.invokevirtual 359, 3) := by decide +kernel
theorem dX11_early_19 : decode cX11_early 19 = .ok (.aload_n 0, 1) := by decide +kernel
theorem dX11_early_20 : decode cX11_early 20 = .ok (.iload_n 1, 1) := by decide +kernel
theorem dX11_early_21 : decode cX11_early 21 = .ok (.invokevirtual 371, 3) := by decide +kernel
theorem dX11_early_24 : decode cX11_early 24 = .ok (.iconst 1, 1) := by decide +kernel
theorem dX11_early_25 : decode cX11_early 25 = .ok (.ireturn, 1) := by decide +kernel
theorem dX11_undo_0 : decode cX11_undo 0 = .ok (.aload_n 0, 1) := by decide +kernel
theorem dX11_undo_1 : decode cX11_undo 1 = .ok (.iconst 0, 1) := by decide +kernel
theorem dX11_undo_2 : decode cX11_undo 2 = .ok (.putfield 132, 3) := by decide +kernel
theorem dX11_undo_5 : decode cX11_undo 5 = .ok (.aload_n 0, 1) := by decide +kernel
theorem dX11_undo_6 : decode cX11_undo 6 = .ok (.getfield 319, 3) := by decide +kernel
theorem dX11_undo_9 : decode cX11_undo 9 = .ok (.ifCond .ne 5, 3) := by decide +kernel
theorem dX11_undo_12 : decode cX11_undo 12 = .ok (.iconst 0, 1) := by decide +kernel
theorem dX11_undo_13 : decode cX11_undo 13 = .ok (.ireturn, 1) := by decide +kernel
theorem dX11_undo_14 : decode cX11_undo 14 = .ok (.aload_n 0, 1) := by decide +kernel
theorem dX11_undo_15 : decode cX11_undo 15 = .ok (.dup, 1) := by decide +kernel
theorem dX11_undo_16 : decode cX11_undo 16 = .ok (.getfield 319, 3) := by decide +kernel
theorem dX11_undo_19 : decode cX11_undo 19 = .ok (.iconst 1, 1) := by decide +kernel
theorem dX11_undo_20 : decode cX11_undo 20 = .ok (.isub, 1) := by decide +kernel
theorem dX11_undo_21 : decode cX11_undo 21 = .ok (.putfield 319, 3) := by decide +kernel
theorem dX11_undo_24 : decode cX11_undo 24 = .ok (.aload_n 0, 1) := by decide +kernel
theorem dX11_undo_25 : decode cX11_undo 25 = .ok (.getfield 123, 3) := by decide +kernel
theorem dX11_undo_28 : decode cX11_undo 28 = .ok (.bipush 64, 2) := by decide +kernel
theorem dX11_undo_30 : decode cX11_undo 30 = .ok (.aload_n 0, 1) := by decide +kernel
theorem dX11_undo_31 : decode cX11_undo 31 = .ok (.getfield 319, 3) := by decide +kernel
theorem dX11_undo_34 : decode cX11_undo 34 = .ok (.imul, 1) := by decide +kernel
theorem dX11_undo_35 : decode cX11_undo 35 = .ok (.aload_n 0, 1) := by decide +kernel
theorem dX11_undo_36 : decode cX11_undo 36 = .ok (.getfield 117, 3) := by decide +kernel
theorem dX11_undo_39 : decode cX11_undo 39 = .ok (.iconst 0, 1) := by decide +kernel
theorem dX11_undo_40 : decode cX11_undo 40 = .ok (.invokestatic 352, 3) := by decide +kernel
theorem dX11_undo_43 : decode cX11_undo 43 = .ok (.iconst 1, 1) := by decide +kernel
theorem dX11_undo_44 : decode cX11_undo 44 = .ok (.ireturn, 1) := by decide +kernel
theorem dX11_ruinedNow_0 : decode cX11_ruinedNow 0 = .ok (.iconst 0, 1) := by decide +kernel
theorem dX11_ruinedNow_1 : decode cX11_ruinedNow 1 = .ok (.istore_n 1, 1) := by decide +kernel
theorem dX11_ruinedNow_2 : decode cX11_ruinedNow 2 = .ok (.iconst 0, 1) := by decide +kernel
theorem dX11_ruinedNow_3 : decode cX11_ruinedNow 3 = .ok (.istore_n 2, 1) := by decide +kernel
theorem dX11_ruinedNow_4 : decode cX11_ruinedNow 4 = .ok (.iload_n 2, 1) := by decide +kernel
theorem dX11_ruinedNow_5 : decode cX11_ruinedNow 5 = .ok (.aload_n 0, 1) := by decide +kernel
theorem dX11_ruinedNow_6 : decode cX11_ruinedNow 6 = .ok (.getfield 19, 3) := by decide +kernel
theorem dX11_ruinedNow_9 : decode cX11_ruinedNow 9 = .ok (.iconst 0, 1) := by decide +kernel
theorem dX11_ruinedNow_10 : decode cX11_ruinedNow 10 = .ok (.iaload, 1) := by decide +kernel
theorem dX11_ruinedNow_11 : decode cX11_ruinedNow 11 = .ok (.if_icmp .ge 50, 3) := by decide +kernel
theorem dX11_ruinedNow_14 : decode cX11_ruinedNow 14 = .ok (.iload_n 1, 1) := by decide +kernel
theorem dX11_ruinedNow_15 : decode cX11_ruinedNow 15 = .ok (.aload_n 0, 1) := by decide +kernel
theorem dX11_ruinedNow_16 : decode cX11_ruinedNow 16 = .ok (.getfield 117, 3) := by decide +kernel
theorem dX11_ruinedNow_19 : decode cX11_ruinedNow 19 = .ok (.bipush 46, 2) := by decide +kernel
theorem dX11_ruinedNow_21 : decode cX11_ruinedNow 21 = .ok (.iload_n 2, 1) := by decide +kernel
theorem dX11_ruinedNow_22 : decode cX11_ruinedNow 22 = .ok (.iadd, 1) := by decide +kernel
theorem dX11_ruinedNow_23 : decode cX11_ruinedNow 23 = .ok (.iaload, 1) := by decide +kernel
theorem dX11_ruinedNow_24 : decode cX11_ruinedNow 24 = .ok (.iconst 1, 1) := by decide +kernel
theorem dX11_ruinedNow_25 : decode cX11_ruinedNow 25 = .ok (.if_icmp .ne 27, 3) := by decide +kernel
theorem dX11_ruinedNow_28 : decode cX11_ruinedNow 28 = .ok (.aload_n 0, 1) := by decide +kernel
theorem dX11_ruinedNow_29 : decode cX11_ruinedNow 29 = .ok (.getfield 117, 3) := by decide +kernel
theorem dX11_ruinedNow_32 : decode cX11_ruinedNow 32 = .ok (.bipush 16, 2) := by decide +kernel
theorem dX11_ruinedNow_34 : decode cX11_ruinedNow 34 = .ok (.iload_n 2, 1) := by decide +kernel
theorem dX11_ruinedNow_35 : decode cX11_ruinedNow 35 = .ok (.iadd, 1) := by decide +kernel
theorem dX11_ruinedNow_36 : decode cX11_ruinedNow 36 = .ok (.iaload, 1) := by decide +kernel
theorem dX11_ruinedNow_37 : decode cX11_ruinedNow 37 = .ok (.iconst 2, 1) := by decide +kernel
theorem dX11_ruinedNow_38 : decode cX11_ruinedNow 38 = .ok (.if_icmp .eq 14, 3) := by decide +kernel
theorem dX11_ruinedNow_41 : decode cX11_ruinedNow 41 = .ok (.iconst 1, 1) := by decide +kernel
theorem dX11_ruinedNow_42 : decode cX11_ruinedNow 42 = .ok (.aload_n 0, 1) := by decide +kernel
theorem dX11_ruinedNow_43 : decode cX11_ruinedNow 43 = .ok (.getfield 44, 3) := by decide +kernel
theorem dX11_ruinedNow_46 : decode cX11_ruinedNow 46 = .ok (.iload_n 2, 1) := by decide +kernel
theorem dX11_ruinedNow_47 : decode cX11_ruinedNow 47 = .ok (.iaload, 1) := by decide +kernel
theorem dX11_ruinedNow_48 : decode cX11_ruinedNow 48 = .ok (.ishl, 1) := by decide +kernel
theorem dX11_ruinedNow_49 : decode cX11_ruinedNow 49 = .ok (.goto 4, 3) := by decide +kernel
theorem dX11_ruinedNow_52 : decode cX11_ruinedNow 52 = .ok (.iconst 0, 1) := by decide +kernel
theorem dX11_ruinedNow_53 : decode cX11_ruinedNow 53 = .ok (.ior, 1) := by decide +kernel
theorem dX11_ruinedNow_54 : decode cX11_ruinedNow 54 = .ok (.istore_n 1, 1) := by decide +kernel
theorem dX11_ruinedNow_55 : decode cX11_ruinedNow 55 = .ok (.iinc 2 1, 3) := by decide +kernel
theorem dX11_ruinedNow_58 : decode cX11_ruinedNow 58 = .ok (.goto (-54), 3) := by decide +kernel
theorem dX11_ruinedNow_61 : decode cX11_ruinedNow 61 = .ok (.iload_n 1, 1) := by decide +kernel
theorem dX11_ruinedNow_62 : decode cX11_ruinedNow 62 = .ok (.ireturn, 1) := by decide +kernel
theorem dX11_ruined_0 : decode cX11_ruined 0 = .ok (.aload_n 0, 1) := by decide +kernel
theorem dX11_ruined_1 : decode cX11_ruined 1 = .ok (.iconst 0, 1) := by decide +kernel
theorem dX11_ruined_2 : decode cX11_ruined 2 = .ok (.putfield 132, 3) := by decide +kernel
theorem dX11_ruined_5 : decode cX11_ruined 5 = .ok (.aload_n 0, 1) := by decide +kernel
theorem dX11_ruined_6 : decode cX11_ruined 6 = .ok (.invokevirtual 374, 3) := by decide +kernel
theorem dX11_ruined_9 : decode cX11_ruined 9 = .ok (.ireturn, 1) := by decide +kernel
theorem dX11_has_0 : decode cX11_has 0 = .ok (.aload_n 0, 1) := by decide +kernel
theorem dX11_has_1 : decode cX11_has 1 = .ok (.aload_n 0, 1) := by decide +kernel
theorem dX11_has_2 : decode cX11_has 2 = .ok (.iload_n 1, 1) := by decide +kernel
theorem dX11_has_3 : decode cX11_has 3 = .ok (.invokevirtual 325, 3) := by decide +kernel
theorem dX11_has_6 : decode cX11_has 6 = .ok (.ifCond .eq 7, 3) := by decide +kernel
theorem dX11_has_9 : decode cX11_has 9 = .ok (.iconst 0, 1) := by decide +kernel
theorem dX11_has_10 : decode cX11_has 10 = .ok (.goto 4, 3) := by decide +kernel
theorem dX11_has_13 : decode cX11_has 13 = .ok (.iconst 1, 1) := by decide +kernel
theorem dX11_has_14 : decode cX11_has 14 = .ok (.putfield 132, 3) := by decide +kernel
theorem dX11_has_17 : decode cX11_has 17 = .ok (.aload_n 0, 1) := by decide +kernel
theorem dX11_has_18 : decode cX11_has 18 = .ok (.getfield 132, 3) := by decide +kernel
theorem dX11_has_21 : decode cX11_has 21 = .ok (.iconst 1, 1) := by decide +kernel
theorem dX11_has_22 : decode cX11_has 22 = .ok (.if_icmp .ne 5, 3) := by decide +kernel
theorem dX11_has_25 : decode cX11_has 25 = .ok (.iconst 0, 1) := by decide +kernel
theorem dX11_has_26 : decode cX11_has 26 = .ok (.ireturn, 1) := by decide +kernel
theorem dX11_has_27 : decode cX11_has 27 = .ok (.aload_n 0, 1) := by decide +kernel
theorem dX11_has_28 : decode cX11_has 28 = .ok (.getfield 117, 3) := by decide +kernel
theorem dX11_has_31 : decode cX11_has 31 = .ok (.iload_n 1, 1) := by decide +kernel
theorem dX11_has_32 : decode cX11_has 32 = .ok (.iaload, 1) := by decide +kernel
theorem dX11_has_33 : decode cX11_has 33 = .ok (.istore_n 2, 1) := by decide +kernel
theorem dX11_has_34 : decode cX11_has 34 = .ok (.iconst 0, 1) := by decide +kernel
theorem dX11_has_35 : decode cX11_has 35 = .ok (.istore_n 3, 1) := by decide +kernel
theorem dX11_has_36 : decode cX11_has 36 = .ok (.iload_n 3, 1) := by decide +kernel
theorem dX11_has_37 : decode cX11_has 37 = .ok (.aload_n 0, 1) := by decide +kernel
theorem dX11_has_38 : decode cX11_has 38 = .ok (.getfield 19, 3) := by decide +kernel
theorem dX11_has_41 : decode cX11_has 41 = .ok (.iconst 0, 1) := by decide +kernel
theorem dX11_has_42 : decode cX11_has 42 = .ok (.iaload, 1) := by decide +kernel
theorem dX11_has_43 : decode cX11_has 43 = .ok (.if_icmp .ge 58, 3) := by decide +kernel
theorem dX11_has_46 : decode cX11_has 46 = .ok (.iload_n 2, 1) := by decide +kernel
theorem dX11_has_47 : decode cX11_has 47 = .ok (.aload_n 0, 1) := by decide +kernel
theorem dX11_has_48 : decode cX11_has 48 = .ok (.getfield 41, 3) := by decide +kernel
theorem dX11_has_51 : decode cX11_has 51 = .ok (.iload_n 3, 1) := by decide +kernel
theorem dX11_has_52 : decode cX11_has 52 = .ok (.iaload, 1) := by decide +kernel
theorem dX11_has_53 : decode cX11_has 53 = .ok (.iload_n 1, 1) := by decide +kernel
theorem dX11_has_54 : decode cX11_has 54 = .ok (.if_icmp .ne 15, 3) := by decide +kernel
theorem dX11_has_57 : decode cX11_has 57 = .ok (.aload_n 0, 1) := by decide +kernel
theorem dX11_has_58 : decode cX11_has 58 = .ok (.getfield 117, 3) := by decide +kernel
theorem dX11_has_61 : decode cX11_has 61 = .ok (.bipush 6, 2) := by decide +kernel
theorem dX11_has_63 : decode cX11_has 63 = .ok (.iload_n 3, 1) := by decide +kernel
theorem dX11_has_64 : decode cX11_has 64 = .ok (.iadd, 1) := by decide +kernel
theorem dX11_has_65 : decode cX11_has 65 = .ok (.iaload, 1) := by decide +kernel
theorem dX11_has_66 : decode cX11_has 66 = .ok (.goto 27, 3) := by decide +kernel
theorem dX11_has_69 : decode cX11_has 69 = .ok (.aload_n 0, 1) := by decide +kernel
theorem dX11_has_70 : decode cX11_has 70 = .ok (.getfield 44, 3) := by decide +kernel
theorem dX11_has_73 : decode cX11_has 73 = .ok (.iload_n 3, 1) := by decide +kernel
theorem dX11_has_74 : decode cX11_has 74 = .ok (.iaload, 1) := by decide +kernel
theorem dX11_has_75 : decode cX11_has 75 = .ok (.iload_n 1, 1) := by decide +kernel
theorem dX11_has_76 : decode cX11_has 76 = .ok (.if_icmp .ne 16, 3) := by decide +kernel
theorem dX11_has_79 : decode cX11_has 79 = .ok (.aload_n 0, 1) := by decide +kernel
theorem dX11_has_80 : decode cX11_has 80 = .ok (.getfield 117, 3) := by decide +kernel
theorem dX11_has_83 : decode cX11_has 83 = .ok (.bipush 6, 2) := by decide +kernel
theorem dX11_has_85 : decode cX11_has 85 = .ok (.iload_n 3, 1) := by decide +kernel
theorem dX11_has_86 : decode cX11_has 86 = .ok (.iadd, 1) := by decide +kernel
theorem dX11_has_87 : decode cX11_has 87 = .ok (.iaload, 1) := by decide +kernel
theorem dX11_has_88 : decode cX11_has 88 = .ok (.ineg, 1) := by decide +kernel
theorem dX11_has_89 : decode cX11_has 89 = .ok (.goto 4, 3) := by decide +kernel
theorem dX11_has_92 : decode cX11_has 92 = .ok (.iconst 0, 1) := by decide +kernel
theorem dX11_has_93 : decode cX11_has 93 = .ok (.iadd, 1) := by decide +kernel
theorem dX11_has_94 : decode cX11_has 94 = .ok (.istore_n 2, 1) := by decide +kernel
theorem dX11_has_95 : decode cX11_has 95 = .ok (.iinc 3 1, 3) := by decide +kernel
theorem dX11_has_98 : decode cX11_has 98 = .ok (.goto (-62), 3) := by decide +kernel
theorem dX11_has_101 : decode cX11_has 101 = .ok (.iload_n 2, 1) := by decide +kernel
theorem dX11_has_102 : decode cX11_has 102 = .ok (.ireturn, 1) := by decide +kernel
theorem dX11_isAhead_0 : decode cX11_isAhead 0 = .ok (.iload_n 1, 1) := by decide +kernel
theorem dX11_isAhead_1 : decode cX11_isAhead 1 = .ok (.iconst 1, 1) := by decide +kernel
theorem dX11_isAhead_2 : decode cX11_isAhead 2 = .ok (.bipush 12, 2) := by decide +kernel
theorem dX11_isAhead_4 : decode cX11_isAhead 4 = .ok (.invokestatic 257, 3) := by decide +kernel
theorem dX11_isAhead_7 : decode cX11_isAhead 7 = .ok (.ifCond .eq 16, 3) := by decide +kernel
theorem dX11_isAhead_10 : decode cX11_isAhead 10 = .ok (.aload_n 0, 1) := by decide +kernel
theorem dX11_isAhead_11 : decode cX11_isAhead 11 = .ok (.getfield 13, 3) := by decide +kernel
theorem dX11_isAhead_14 : decode cX11_isAhead 14 = .ok (.iconst 0, 1) := by decide +kernel
theorem dX11_isAhead_15 : decode cX11_isAhead 15 = .ok (.iaload, 1) := by decide +kernel
theorem dX11_isAhead_16 : decode cX11_isAhead 16 = .ok (.iload_n 1, 1) := by decide +kernel
theorem dX11_isAhead_17 : decode cX11_isAhead 17 = .ok (.imul, 1) := by decide +kernel
theorem dX11_isAhead_18 : decode cX11_isAhead 18 = .ok (.bipush 12, 2) := by decide +kernel
theorem dX11_isAhead_20 : decode cX11_isAhead 20 = .ok (.if_icmp .le 5, 3) := by decide +kernel
theorem dX11_isAhead_23 : decode cX11_isAhead 23 = .ok (.iconst 0, 1) := by decide +kernel
theorem dX11_isAhead_24 : decode cX11_isAhead 24 = .ok (.ireturn, 1) := by decide +kernel
theorem dX11_isAhead_25 : decode cX11_isAhead 25 = .ok (.aload_n 0, 1) := by decide +kernel
theorem dX11_isAhead_26 : decode cX11_isAhead 26 = .ok (.iconst 1, 1) := by decide +kernel
theorem dX11_isAhead_27 : decode cX11_isAhead 27 = .ok (.aload_n 0, 1) := by decide +kernel
theorem dX11_isAhead_28 : decode cX11_isAhead 28 = .ok (.getfield 13, 3) := by decide +kernel
theorem dX11_isAhead_31 : decode cX11_isAhead 31 = .ok (.iconst 0, 1) := by decide +kernel
theorem dX11_isAhead_32 : decode cX11_isAhead 32 = .ok (.iaload, 1) := by decide +kernel
theorem dX11_isAhead_33 : decode cX11_isAhead 33 = .ok (.iload_n 1, 1) := by decide +kernel
theorem dX11_isAhead_34 : decode cX11_isAhead 34 = .ok (.imul, 1) := by decide +kernel
theorem dX11_isAhead_35 : decode cX11_isAhead 35 = .ok (.ishl, 1) := by decide +kernel
theorem dX11_isAhead_36 : decode cX11_isAhead 36 = .ok (.putfield 377, 3) := by decide +kernel
theorem dX11_isAhead_39 : decode cX11_isAhead 39 = .ok (.iconst 1, 1) := by decide +kernel
theorem dX11_isAhead_40 : decode cX11_isAhead 40 = .ok (.ireturn, 1) := by decide +kernel
theorem dX11_passes_0 : decode cX11_passes 0 = .ok (.lconst 1, 1) := by decide +kernel
theorem dX11_passes_1 : decode cX11_passes 1 = .ok (.lstore_n 3, 1) := by decide +kernel
theorem dX11_passes_2 : decode cX11_passes 2 = .ok (.iload_n 1, 1) := by decide +kernel
theorem dX11_passes_3 : decode cX11_passes 3 = .ok (.istore 5, 2) := by decide +kernel
theorem dX11_passes_5 : decode cX11_passes 5 = .ok (.iconst 0, 1) := by decide +kernel
theorem dX11_passes_6 : decode cX11_passes 6 = .ok (.istore 6, 2) := by decide +kernel
theorem dX11_passes_8 : decode cX11_passes 8 = .ok (.iload 6, 2) := by decide +kernel
theorem dX11_passes_10 : decode cX11_passes 10 = .ok (.iload_n 2, 1) := by decide +kernel
theorem dX11_passes_11 : decode cX11_passes 11 = .ok (.if_icmp .ge 122, 3) := by decide +kernel
theorem dX11_passes_14 : decode cX11_passes 14 = .ok (.iload 5, 2) := by decide +kernel
theorem dX11_passes_16 : decode cX11_passes 16 = .ok (.iconst 1, 1) := by decide +kernel
theorem dX11_passes_17 : decode cX11_passes 17 = .ok (.aload_n 0, 1) := by decide +kernel
theorem dX11_passes_18 : decode cX11_passes 18 = .ok (.getfield 13, 3) := by decide +kernel
theorem dX11_passes_21 : decode cX11_passes 21 = .ok (.iconst 0, 1) := by decide +kernel
theorem dX11_passes_22 : decode cX11_passes 22 = .ok (.iaload, 1) := by decide +kernel
theorem dX11_passes_23 : decode cX11_passes 23 = .ok (.ishl, 1) := by decide +kernel
theorem dX11_passes_24 : decode cX11_passes 24 = .ok (.irem, 1) := by decide +kernel
theorem dX11_passes_25 : decode cX11_passes 25 = .ok (.istore 7, 2) := by decide +kernel
theorem dX11_passes_27 : decode cX11_passes 27 = .ok (.iload 5, 2) := by decide +kernel
theorem dX11_passes_29 : decode cX11_passes 29 = .ok (.iconst 1, 1) := by decide +kernel
theorem dX11_passes_30 : decode cX11_passes 30 = .ok (.aload_n 0, 1) := by decide +kernel
theorem dX11_passes_31 : decode cX11_passes 31 = .ok (.getfield 13, 3) := by decide +kernel
theorem dX11_passes_34 : decode cX11_passes 34 = .ok (.iconst 0, 1) := by decide +kernel
theorem dX11_passes_35 : decode cX11_passes 35 = .ok (.iaload, 1) := by decide +kernel
theorem dX11_passes_36 : decode cX11_passes 36 = .ok (.ishl, 1) := by decide +kernel
theorem dX11_passes_37 : decode cX11_passes 37 = .ok (.idiv, 1) := by decide +kernel
theorem dX11_passes_38 : decode cX11_passes 38 = .ok (.istore 5, 2) := by decide +kernel
theorem dX11_passes_40 : decode cX11_passes 40 = .ok (.iconst 0, 1) := by decide +kernel
theorem dX11_passes_41 : decode cX11_passes 41 = .ok (.istore 8, 2) := by decide +kernel
theorem dX11_passes_43 : decode cX11_passes 43 = .ok (.iload 8, 2) := by decide +kernel
theorem dX11_passes_45 : decode cX11_passes 45 = .ok (.aload_n 0, 1) := by decide +kernel
theorem dX11_passes_46 : decode cX11_passes 46 = .ok (.getfield 13, 3) := by decide +kernel
theorem dX11_passes_49 : decode cX11_passes 49 = .ok (.iconst 0, 1) := by decide +kernel
theorem dX11_passes_50 : decode cX11_passes 50 = .ok (.iaload, 1) := by decide +kernel
theorem dX11_passes_51 : decode cX11_passes 51 = .ok (.if_icmp .ge 70, 3) := by decide +kernel
theorem dX11_passes_54 : decode cX11_passes 54 = .ok (.aload_n 0, 1) := by decide +kernel
theorem dX11_passes_55 : decode cX11_passes 55 = .ok (.getfield 117, 3) := by decide +kernel
theorem dX11_passes_58 : decode cX11_passes 58 = .ok (.bipush 56, 2) := by decide +kernel
theorem dX11_passes_60 : decode cX11_passes 60 = .ok (.iaload, 1) := by decide +kernel
theorem dX11_passes_61 : decode cX11_passes 61 = .ok (.iload 8, 2) := by decide +kernel
theorem dX11_passes_63 : decode cX11_passes 63 = .ok (.ishr, 1) := by decide +kernel
theorem dX11_passes_64 : decode cX11_passes 64 = .ok (.iconst 1, 1) := by decide +kernel
