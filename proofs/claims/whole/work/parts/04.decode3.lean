theorem dM_settle_121 : decode cM_settle 121 = .ok (.getfield 19, 3) := by decide +kernel
theorem dM_settle_124 : decode cM_settle 124 = .ok (.bipush 64, 2) := by decide +kernel
theorem dM_settle_126 : decode cM_settle 126 = .ok (.iload_n 1, 1) := by decide +kernel
theorem dM_settle_127 : decode cM_settle 127 = .ok (.imul, 1) := by decide +kernel
theorem dM_settle_128 : decode cM_settle 128 = .ok (.iload_n 2, 1) := by decide +kernel
theorem dM_settle_129 : decode cM_settle 129 = .ok (.iadd, 1) := by decide +kernel
theorem dM_settle_130 : decode cM_settle 130 = .ok (.iload_n 3, 1) := by decide +kernel
theorem dM_settle_131 : decode cM_settle 131 = .ok (.iastore, 1) := by decide +kernel
theorem dM_settle_132 : decode cM_settle 132 = .ok (.aload_n 0, 1) := by decide +kernel
theorem dM_settle_133 : decode cM_settle 133 = .ok (.getfield 22, 3) := by decide +kernel
theorem dM_settle_136 : decode cM_settle 136 = .ok (.bipush 64, 2) := by decide +kernel
theorem dM_settle_138 : decode cM_settle 138 = .ok (.iload_n 1, 1) := by decide +kernel
theorem dM_settle_139 : decode cM_settle 139 = .ok (.imul, 1) := by decide +kernel
theorem dM_settle_140 : decode cM_settle 140 = .ok (.iload_n 2, 1) := by decide +kernel
theorem dM_settle_141 : decode cM_settle 141 = .ok (.iadd, 1) := by decide +kernel
theorem dM_settle_142 : decode cM_settle 142 = .ok (.iload 4, 2) := by decide +kernel
theorem dM_settle_144 : decode cM_settle 144 = .ok (.iastore, 1) := by decide +kernel
theorem dM_settle_145 : decode cM_settle 145 = .ok (.aload_n 0, 1) := by decide +kernel
theorem dM_settle_146 : decode cM_settle 146 = .ok (.getfield 25, 3) := by decide +kernel
theorem dM_settle_149 : decode cM_settle 149 = .ok (.bipush 64, 2) := by decide +kernel
theorem dM_settle_151 : decode cM_settle 151 = .ok (.iload_n 1, 1) := by decide +kernel
theorem dM_settle_152 : decode cM_settle 152 = .ok (.imul, 1) := by decide +kernel
theorem dM_settle_153 : decode cM_settle 153 = .ok (.iload_n 2, 1) := by decide +kernel
theorem dM_settle_154 : decode cM_settle 154 = .ok (.iadd, 1) := by decide +kernel
theorem dM_settle_155 : decode cM_settle 155 = .ok (.aload_n 0, 1) := by decide +kernel
theorem dM_settle_156 : decode cM_settle 156 = .ok (.getfield 25, 3) := by decide +kernel
theorem dM_settle_159 : decode cM_settle 159 = .ok (.bipush 64, 2) := by decide +kernel
theorem dM_settle_161 : decode cM_settle 161 = .ok (.iload_n 1, 1) := by decide +kernel
theorem dM_settle_162 : decode cM_settle 162 = .ok (.imul, 1) := by decide +kernel
theorem dM_settle_163 : decode cM_settle 163 = .ok (.iload_n 3, 1) := by decide +kernel
theorem dM_settle_164 : decode cM_settle 164 = .ok (.iadd, 1) := by decide +kernel
theorem dM_settle_165 : decode cM_settle 165 = .ok (.iaload, 1) := by decide +kernel
theorem dM_settle_166 : decode cM_settle 166 = .ok (.iconst 1, 1) := by decide +kernel
theorem dM_settle_167 : decode cM_settle 167 = .ok (.iadd, 1) := by decide +kernel
theorem dM_settle_168 : decode cM_settle 168 = .ok (.iastore, 1) := by decide +kernel
theorem dM_settle_169 : decode cM_settle 169 = .ok (.iinc 2 1, 3) := by decide +kernel
theorem dM_settle_172 : decode cM_settle 172 = .ok (.iinc 4 1, 3) := by decide +kernel
theorem dM_settle_175 : decode cM_settle 175 = .ok (.goto (-112), 3) := by decide +kernel
theorem dM_settle_178 : decode cM_settle 178 = .ok (.iinc 3 1, 3) := by decide +kernel
theorem dM_settle_181 : decode cM_settle 181 = .ok (.goto (-126), 3) := by decide +kernel
theorem dM_settle_184 : decode cM_settle 184 = .ok (.iconst 0, 1) := by decide +kernel
theorem dM_settle_185 : decode cM_settle 185 = .ok (.istore_n 3, 1) := by decide +kernel
theorem dM_settle_186 : decode cM_settle 186 = .ok (.iload_n 3, 1) := by decide +kernel
theorem dM_settle_187 : decode cM_settle 187 = .ok (.iload_n 2, 1) := by decide +kernel
theorem dM_settle_188 : decode cM_settle 188 = .ok (.if_icmp .ge 78, 3) := by decide +kernel
theorem dM_settle_191 : decode cM_settle 191 = .ok (.iconst 0, 1) := by decide +kernel
theorem dM_settle_192 : decode cM_settle 192 = .ok (.istore 4, 2) := by decide +kernel
theorem dM_settle_194 : decode cM_settle 194 = .ok (.iload 4, 2) := by decide +kernel
theorem dM_settle_196 : decode cM_settle 196 = .ok (.bipush 6, 2) := by decide +kernel
theorem dM_settle_198 : decode cM_settle 198 = .ok (.if_icmp .ge 62, 3) := by decide +kernel
theorem dM_settle_201 : decode cM_settle 201 = .ok (.aload_n 0, 1) := by decide +kernel
theorem dM_settle_202 : decode cM_settle 202 = .ok (.getfield 40, 3) := by decide +kernel
theorem dM_settle_205 : decode cM_settle 205 = .ok (.bipush 6, 2) := by decide +kernel
theorem dM_settle_207 : decode cM_settle 207 = .ok (.aload_n 0, 1) := by decide +kernel
theorem dM_settle_208 : decode cM_settle 208 = .ok (.getfield 46, 3) := by decide +kernel
theorem dM_settle_211 : decode cM_settle 211 = .ok (.iload_n 3, 1) := by decide +kernel
theorem dM_settle_212 : decode cM_settle 212 = .ok (.iaload, 1) := by decide +kernel
theorem dM_settle_213 : decode cM_settle 213 = .ok (.imul, 1) := by decide +kernel
theorem dM_settle_214 : decode cM_settle 214 = .ok (.iload 4, 2) := by decide +kernel
theorem dM_settle_216 : decode cM_settle 216 = .ok (.iadd, 1) := by decide +kernel
theorem dM_settle_217 : decode cM_settle 217 = .ok (.iaload, 1) := by decide +kernel
theorem dM_settle_218 : decode cM_settle 218 = .ok (.istore 5, 2) := by decide +kernel
theorem dM_settle_220 : decode cM_settle 220 = .ok (.aload_n 0, 1) := by decide +kernel
theorem dM_settle_221 : decode cM_settle 221 = .ok (.getfield 16, 3) := by decide +kernel
theorem dM_settle_224 : decode cM_settle 224 = .ok (.sipush 384, 3) := by decide +kernel
theorem dM_settle_227 : decode cM_settle 227 = .ok (.iload_n 1, 1) := by decide +kernel
theorem dM_settle_228 : decode cM_settle 228 = .ok (.imul, 1) := by decide +kernel
theorem dM_settle_229 : decode cM_settle 229 = .ok (.bipush 6, 2) := by decide +kernel
theorem dM_settle_231 : decode cM_settle 231 = .ok (.iload_n 3, 1) := by decide +kernel
theorem dM_settle_232 : decode cM_settle 232 = .ok (.imul, 1) := by decide +kernel
theorem dM_settle_233 : decode cM_settle 233 = .ok (.iadd, 1) := by decide +kernel
theorem dM_settle_234 : decode cM_settle 234 = .ok (.iload 4, 2) := by decide +kernel
theorem dM_settle_236 : decode cM_settle 236 = .ok (.iadd, 1) := by decide +kernel
theorem dM_settle_237 : decode cM_settle 237 = .ok (.iload 5, 2) := by decide +kernel
theorem dM_settle_239 : decode cM_settle 239 = .ok (.ifCond .ge 7, 3) := by decide +kernel
theorem dM_settle_242 : decode cM_settle 242 = .ok (.iconst (-1), 1) := by decide +kernel
theorem dM_settle_243 : decode cM_settle 243 = .ok (.goto 10, 3) := by decide +kernel
theorem dM_settle_246 : decode cM_settle 246 = .ok (.aload_n 0, 1) := by decide +kernel
theorem dM_settle_247 : decode cM_settle 247 = .ok (.getfield 43, 3) := by decide +kernel
theorem dM_settle_250 : decode cM_settle 250 = .ok (.iload 5, 2) := by decide +kernel
theorem dM_settle_252 : decode cM_settle 252 = .ok (.iaload, 1) := by decide +kernel
theorem dM_settle_253 : decode cM_settle 253 = .ok (.iastore, 1) := by decide +kernel
theorem dM_settle_254 : decode cM_settle 254 = .ok (.iinc 4 1, 3) := by decide +kernel
theorem dM_settle_257 : decode cM_settle 257 = .ok (.goto (-63), 3) := by decide +kernel
theorem dM_settle_260 : decode cM_settle 260 = .ok (.iinc 3 1, 3) := by decide +kernel
theorem dM_settle_263 : decode cM_settle 263 = .ok (.goto (-77), 3) := by decide +kernel
theorem dM_settle_266 : decode cM_settle 266 = .ok (.aload_n 0, 1) := by decide +kernel
theorem dM_settle_267 : decode cM_settle 267 = .ok (.getfield 13, 3) := by decide +kernel
theorem dM_settle_270 : decode cM_settle 270 = .ok (.iload_n 1, 1) := by decide +kernel
theorem dM_settle_271 : decode cM_settle 271 = .ok (.iload_n 2, 1) := by decide +kernel
theorem dM_settle_272 : decode cM_settle 272 = .ok (.iastore, 1) := by decide +kernel
theorem dM_settle_273 : decode cM_settle 273 = .ok (.iload_n 2, 1) := by decide +kernel
theorem dM_settle_274 : decode cM_settle 274 = .ok (.ireturn, 1) := by decide +kernel
theorem dM_generate_0 : decode cM_generate 0 = .ok (.iload_n 1, 1) := by decide +kernel
theorem dM_generate_1 : decode cM_generate 1 = .ok (.invokestatic 101, 3) := by decide +kernel
theorem dM_generate_4 : decode cM_generate 4 = .ok (.ifCond .ne 5, 3) := by decide +kernel
theorem dM_generate_7 : decode cM_generate 7 = .ok (.iconst (-1), 1) := by decide +kernel
theorem dM_generate_8 : decode cM_generate 8 = .ok (.ireturn, 1) := by decide +kernel
theorem dM_generate_9 : decode cM_generate 9 = .ok (.aload_n 0, 1) := by decide +kernel
theorem dM_generate_10 : decode cM_generate 10 = .ok (.getfield 13, 3) := by decide +kernel
theorem dM_generate_13 : decode cM_generate 13 = .ok (.iload_n 1, 1) := by decide +kernel
theorem dM_generate_14 : decode cM_generate 14 = .ok (.iaload, 1) := by decide +kernel
theorem dM_generate_15 : decode cM_generate 15 = .ok (.istore_n 2, 1) := by decide +kernel
theorem dM_generate_16 : decode cM_generate 16 = .ok (.aload_n 0, 1) := by decide +kernel
theorem dM_generate_17 : decode cM_generate 17 = .ok (.getfield 66, 3) := by decide +kernel
theorem dM_generate_20 : decode cM_generate 20 = .ok (.ifCond .le 19, 3) := by decide +kernel
theorem dM_generate_23 : decode cM_generate 23 = .ok (.iload_n 2, 1) := by decide +kernel
theorem dM_generate_24 : decode cM_generate 24 = .ok (.aload_n 0, 1) := by decide +kernel
theorem dM_generate_25 : decode cM_generate 25 = .ok (.getfield 66, 3) := by decide +kernel
theorem dM_generate_28 : decode cM_generate 28 = .ok (.iadd, 1) := by decide +kernel
theorem dM_generate_29 : decode cM_generate 29 = .ok (.iconst 1, 1) := by decide +kernel
theorem dM_generate_30 : decode cM_generate 30 = .ok (.isub, 1) := by decide +kernel
theorem dM_generate_31 : decode cM_generate 31 = .ok (.bipush 64, 2) := by decide +kernel
theorem dM_generate_33 : decode cM_generate 33 = .ok (.if_icmp .le 6, 3) := by decide +kernel
theorem dM_generate_36 : decode cM_generate 36 = .ok (.bipush (-2), 2) := by decide +kernel
theorem dM_generate_38 : decode cM_generate 38 = .ok (.ireturn, 1) := by decide +kernel
theorem dM_generate_39 : decode cM_generate 39 = .ok (.aload_n 0, 1) := by decide +kernel
theorem dM_generate_40 : decode cM_generate 40 = .ok (.aload_n 0, 1) := by decide +kernel
theorem dM_generate_41 : decode cM_generate 41 = .ok (.getfield 66, 3) := by decide +kernel
theorem dM_generate_44 : decode cM_generate 44 = .ok (.ifCond .le 14, 3) := by decide +kernel
theorem dM_generate_47 : decode cM_generate 47 = .ok (.iload_n 2, 1) := by decide +kernel
theorem dM_generate_48 : decode cM_generate 48 = .ok (.aload_n 0, 1) := by decide +kernel
theorem dM_generate_49 : decode cM_generate 49 = .ok (.getfield 66, 3) := by decide +kernel
theorem dM_generate_52 : decode cM_generate 52 = .ok (.iadd, 1) := by decide +kernel
theorem dM_generate_53 : decode cM_generate 53 = .ok (.iconst 1, 1) := by decide +kernel
theorem dM_generate_54 : decode cM_generate 54 = .ok (.isub, 1) := by decide +kernel
theorem dM_generate_55 : decode cM_generate 55 = .ok (.goto 4, 3) := by decide +kernel
theorem dM_generate_58 : decode cM_generate 58 = .ok (.iload_n 2, 1) := by decide +kernel
theorem dM_generate_59 : decode cM_generate 59 = .ok (.invokevirtual 104, 3) := by decide +kernel
theorem dM_generate_62 : decode cM_generate 62 = .ok (.aload_n 0, 1) := by decide +kernel
theorem dM_generate_63 : decode cM_generate 63 = .ok (.iload_n 1, 1) := by decide +kernel
theorem dM_generate_64 : decode cM_generate 64 = .ok (.iconst 0, 1) := by decide +kernel
theorem dM_generate_65 : decode cM_generate 65 = .ok (.invokevirtual 108, 3) := by decide +kernel
theorem dM_generate_68 : decode cM_generate 68 = .ok (.iconst 0, 1) := by decide +kernel
theorem dM_generate_69 : decode cM_generate 69 = .ok (.istore_n 3, 1) := by decide +kernel
theorem dM_generate_70 : decode cM_generate 70 = .ok (.iload_n 3, 1) := by decide +kernel
theorem dM_generate_71 : decode cM_generate 71 = .ok (.aload_n 0, 1) := by decide +kernel
theorem dM_generate_72 : decode cM_generate 72 = .ok (.getfield 66, 3) := by decide +kernel
theorem dM_generate_75 : decode cM_generate 75 = .ok (.if_icmp .ge 49, 3) := by decide +kernel
theorem dM_generate_78 : decode cM_generate 78 = .ok (.aload_n 0, 1) := by decide +kernel
theorem dM_generate_79 : decode cM_generate 79 = .ok (.iload_n 3, 1) := by decide +kernel
theorem dM_generate_80 : decode cM_generate 80 = .ok (.ifCond .ne 7, 3) := by decide +kernel
theorem dM_generate_83 : decode cM_generate 83 = .ok (.iconst 0, 1) := by decide +kernel
theorem dM_generate_84 : decode cM_generate 84 = .ok (.goto 8, 3) := by decide +kernel
theorem dM_generate_87 : decode cM_generate 87 = .ok (.iload_n 2, 1) := by decide +kernel
theorem dM_generate_88 : decode cM_generate 88 = .ok (.iload_n 3, 1) := by decide +kernel
theorem dM_generate_89 : decode cM_generate 89 = .ok (.iadd, 1) := by decide +kernel
theorem dM_generate_90 : decode cM_generate 90 = .ok (.iconst 1, 1) := by decide +kernel
theorem dM_generate_91 : decode cM_generate 91 = .ok (.isub, 1) := by decide +kernel
theorem dM_generate_92 : decode cM_generate 92 = .ok (.aload_n 0, 1) := by decide +kernel
theorem dM_generate_93 : decode cM_generate 93 = .ok (.getfield 7, 3) := by decide +kernel
theorem dM_generate_96 : decode cM_generate 96 = .ok (.iload_n 3, 1) := by decide +kernel
theorem dM_generate_97 : decode cM_generate 97 = .ok (.iaload, 1) := by decide +kernel
theorem dM_generate_98 : decode cM_generate 98 = .ok (.iload_n 3, 1) := by decide +kernel
theorem dM_generate_99 : decode cM_generate 99 = .ok (.aload_n 0, 1) := by decide +kernel
theorem dM_generate_100 : decode cM_generate 100 = .ok (.getfield 66, 3) := by decide +kernel
theorem dM_generate_103 : decode cM_generate 103 = .ok (.iconst 1, 1) := by decide +kernel
theorem dM_generate_104 : decode cM_generate 104 = .ok (.isub, 1) := by decide +kernel
theorem dM_generate_105 : decode cM_generate 105 = .ok (.if_icmp .ne 7, 3) := by decide +kernel
theorem dM_generate_108 : decode cM_generate 108 = .ok (.iconst 0, 1) := by decide +kernel
theorem dM_generate_109 : decode cM_generate 109 = .ok (.goto 6, 3) := by decide +kernel
theorem dM_generate_112 : decode cM_generate 112 = .ok (.iload_n 2, 1) := by decide +kernel
theorem dM_generate_113 : decode cM_generate 113 = .ok (.iload_n 3, 1) := by decide +kernel
theorem dM_generate_114 : decode cM_generate 114 = .ok (.iadd, 1) := by decide +kernel
theorem dM_generate_115 : decode cM_generate 115 = .ok (.invokevirtual 86, 3) := by decide +kernel
theorem dM_generate_118 : decode cM_generate 118 = .ok (.iinc 3 1, 3) := by decide +kernel
theorem dM_generate_121 : decode cM_generate 121 = .ok (.goto (-51), 3) := by decide +kernel
theorem dM_generate_124 : decode cM_generate 124 = .ok (.aload_n 0, 1) := by decide +kernel
theorem dM_generate_125 : decode cM_generate 125 = .ok (.invokevirtual 111, 3) := by decide +kernel
theorem dM_generate_128 : decode cM_generate 128 = .ok (.aload_n 0, 1) := by decide +kernel
theorem dM_generate_129 : decode cM_generate 129 = .ok (.iload_n 1, 1) := by decide +kernel
theorem dM_generate_130 : decode cM_generate 130 = .ok (.invokevirtual 114, 3) := by decide +kernel
theorem dM_generate_133 : decode cM_generate 133 = .ok (.ireturn, 1) := by decide +kernel
theorem dM_drop_0 : decode cM_drop 0 = .ok (.iload_n 1, 1) := by decide +kernel
theorem dM_drop_1 : decode cM_drop 1 = .ok (.invokestatic 101, 3) := by decide +kernel
theorem dM_drop_4 : decode cM_drop 4 = .ok (.ifCond .ne 5, 3) := by decide +kernel
theorem dM_drop_7 : decode cM_drop 7 = .ok (.iconst (-1), 1) := by decide +kernel
theorem dM_drop_8 : decode cM_drop 8 = .ok (.ireturn, 1) := by decide +kernel
theorem dM_drop_9 : decode cM_drop 9 = .ok (.aload_n 0, 1) := by decide +kernel
theorem dM_drop_10 : decode cM_drop 10 = .ok (.getfield 13, 3) := by decide +kernel
theorem dM_drop_13 : decode cM_drop 13 = .ok (.iload_n 1, 1) := by decide +kernel
theorem dM_drop_14 : decode cM_drop 14 = .ok (.iaload, 1) := by decide +kernel
theorem dM_drop_15 : decode cM_drop 15 = .ok (.istore_n 2, 1) := by decide +kernel
theorem dM_drop_16 : decode cM_drop 16 = .ok (.aload_n 0, 1) := by decide +kernel
theorem dM_drop_17 : decode cM_drop 17 = .ok (.iconst 1, 1) := by decide +kernel
theorem dM_drop_18 : decode cM_drop 18 = .ok (.invokevirtual 104, 3) := by decide +kernel
theorem dM_drop_21 : decode cM_drop 21 = .ok (.aload_n 0, 1) := by decide +kernel
theorem dM_drop_22 : decode cM_drop 22 = .ok (.invokevirtual 111, 3) := by decide +kernel
theorem dM_drop_25 : decode cM_drop 25 = .ok (.aload_n 0, 1) := by decide +kernel
theorem dM_drop_26 : decode cM_drop 26 = .ok (.iload_n 1, 1) := by decide +kernel
theorem dM_drop_27 : decode cM_drop 27 = .ok (.invokevirtual 114, 3) := by decide +kernel
theorem dM_drop_30 : decode cM_drop 30 = .ok (.istore_n 3, 1) := by decide +kernel
theorem dM_drop_31 : decode cM_drop 31 = .ok (.iload_n 2, 1) := by decide +kernel
theorem dM_drop_32 : decode cM_drop 32 = .ok (.ireturn, 1) := by decide +kernel
theorem dM_conjugate_0 : decode cM_conjugate 0 = .ok (.iload_n 1, 1) := by decide +kernel
theorem dM_conjugate_1 : decode cM_conjugate 1 = .ok (.invokestatic 101, 3) := by decide +kernel
theorem dM_conjugate_4 : decode cM_conjugate 4 = .ok (.ifCond .eq 10, 3) := by decide +kernel
theorem dM_conjugate_7 : decode cM_conjugate 7 = .ok (.iload_n 2, 1) := by decide +kernel
theorem dM_conjugate_8 : decode cM_conjugate 8 = .ok (.invokestatic 101, 3) := by decide +kernel
theorem dM_conjugate_11 : decode cM_conjugate 11 = .ok (.ifCond .ne 5, 3) := by decide +kernel
theorem dM_conjugate_14 : decode cM_conjugate 14 = .ok (.iconst (-1), 1) := by decide +kernel
theorem dM_conjugate_15 : decode cM_conjugate 15 = .ok (.ireturn, 1) := by decide +kernel
theorem dM_conjugate_16 : decode cM_conjugate 16 = .ok (.aload_n 0, 1) := by decide +kernel
theorem dM_conjugate_17 : decode cM_conjugate 17 = .ok (.getfield 13, 3) := by decide +kernel
theorem dM_conjugate_20 : decode cM_conjugate 20 = .ok (.iload_n 2, 1) := by decide +kernel
theorem dM_conjugate_21 : decode cM_conjugate 21 = .ok (.iaload, 1) := by decide +kernel
theorem dM_conjugate_22 : decode cM_conjugate 22 = .ok (.istore_n 3, 1) := by decide +kernel
theorem dM_conjugate_23 : decode cM_conjugate 23 = .ok (.iload_n 3, 1) := by decide +kernel
theorem dM_conjugate_24 : decode cM_conjugate 24 = .ok (.aload_n 0, 1) := by decide +kernel
theorem dM_conjugate_25 : decode cM_conjugate 25 = .ok (.getfield 66, 3) := by decide +kernel
theorem dM_conjugate_28 : decode cM_conjugate 28 = .ok (.iadd, 1) := by decide +kernel
theorem dM_conjugate_29 : decode cM_conjugate 29 = .ok (.bipush 64, 2) := by decide +kernel
theorem dM_conjugate_31 : decode cM_conjugate 31 = .ok (.if_icmp .le 6, 3) := by decide +kernel
theorem dM_conjugate_34 : decode cM_conjugate 34 = .ok (.bipush (-2), 2) := by decide +kernel
theorem dM_conjugate_36 : decode cM_conjugate 36 = .ok (.ireturn, 1) := by decide +kernel
theorem dM_conjugate_37 : decode cM_conjugate 37 = .ok (.aload_n 0, 1) := by decide +kernel
theorem dM_conjugate_38 : decode cM_conjugate 38 = .ok (.iload_n 3, 1) := by decide +kernel
theorem dM_conjugate_39 : decode cM_conjugate 39 = .ok (.aload_n 0, 1) := by decide +kernel
theorem dM_conjugate_40 : decode cM_conjugate 40 = .ok (.getfield 66, 3) := by decide +kernel
theorem dM_conjugate_43 : decode cM_conjugate 43 = .ok (.iadd, 1) := by decide +kernel
theorem dM_conjugate_44 : decode cM_conjugate 44 = .ok (.invokevirtual 104, 3) := by decide +kernel
theorem dM_conjugate_47 : decode cM_conjugate 47 = .ok (.aload_n 0, 1) := by decide +kernel
theorem dM_conjugate_48 : decode cM_conjugate 48 = .ok (.iload_n 2, 1) := by decide +kernel
theorem dM_conjugate_49 : decode cM_conjugate 49 = .ok (.iconst 0, 1) := by decide +kernel
theorem dM_conjugate_50 : decode cM_conjugate 50 = .ok (.invokevirtual 108, 3) := by decide +kernel
theorem dM_conjugate_53 : decode cM_conjugate 53 = .ok (.iconst 0, 1) := by decide +kernel
theorem dM_conjugate_54 : decode cM_conjugate 54 = .ok (.istore 4, 2) := by decide +kernel
theorem dM_conjugate_56 : decode cM_conjugate 56 = .ok (.iload 4, 2) := by decide +kernel
theorem dM_conjugate_58 : decode cM_conjugate 58 = .ok (.aload_n 0, 1) := by decide +kernel
theorem dM_conjugate_59 : decode cM_conjugate 59 = .ok (.getfield 66, 3) := by decide +kernel
theorem dM_conjugate_62 : decode cM_conjugate 62 = .ok (.if_icmp .ge 39, 3) := by decide +kernel
theorem dM_conjugate_65 : decode cM_conjugate 65 = .ok (.aload_n 0, 1) := by decide +kernel
theorem dM_conjugate_66 : decode cM_conjugate 66 = .ok (.iload 4, 2) := by decide +kernel
theorem dM_conjugate_68 : decode cM_conjugate 68 = .ok (.ifCond .ne 7, 3) := by decide +kernel
theorem dM_conjugate_71 : decode cM_conjugate 71 = .ok (.iconst 0, 1) := by decide +kernel
theorem dM_conjugate_72 : decode cM_conjugate 72 = .ok (.goto 9, 3) := by decide +kernel
theorem dM_conjugate_75 : decode cM_conjugate 75 = .ok (.iload_n 3, 1) := by decide +kernel
theorem dM_conjugate_76 : decode cM_conjugate 76 = .ok (.iload 4, 2) := by decide +kernel
theorem dM_conjugate_78 : decode cM_conjugate 78 = .ok (.iadd, 1) := by decide +kernel
theorem dM_conjugate_79 : decode cM_conjugate 79 = .ok (.iconst 1, 1) := by decide +kernel
theorem dM_conjugate_80 : decode cM_conjugate 80 = .ok (.isub, 1) := by decide +kernel
theorem dM_conjugate_81 : decode cM_conjugate 81 = .ok (.aload_n 0, 1) := by decide +kernel
theorem dM_conjugate_82 : decode cM_conjugate 82 = .ok (.getfield 7, 3) := by decide +kernel
theorem dM_conjugate_85 : decode cM_conjugate 85 = .ok (.iload 4, 2) := by decide +kernel
theorem dM_conjugate_87 : decode cM_conjugate 87 = .ok (.iaload, 1) := by decide +kernel
theorem dM_conjugate_88 : decode cM_conjugate 88 = .ok (.iload_n 3, 1) := by decide +kernel
theorem dM_conjugate_89 : decode cM_conjugate 89 = .ok (.iload 4, 2) := by decide +kernel
theorem dM_conjugate_91 : decode cM_conjugate 91 = .ok (.iadd, 1) := by decide +kernel
theorem dM_conjugate_92 : decode cM_conjugate 92 = .ok (.invokevirtual 86, 3) := by decide +kernel
theorem dM_conjugate_95 : decode cM_conjugate 95 = .ok (.iinc 4 1, 3) := by decide +kernel
theorem dM_conjugate_98 : decode cM_conjugate 98 = .ok (.goto (-42), 3) := by decide +kernel
theorem dM_conjugate_101 : decode cM_conjugate 101 = .ok (.aload_n 0, 1) := by decide +kernel
theorem dM_conjugate_102 : decode cM_conjugate 102 = .ok (.aload_n 0, 1) := by decide +kernel
theorem dM_conjugate_103 : decode cM_conjugate 103 = .ok (.getfield 66, 3) := by decide +kernel
theorem dM_conjugate_106 : decode cM_conjugate 106 = .ok (.ifCond .ne 7, 3) := by decide +kernel
theorem dM_conjugate_109 : decode cM_conjugate 109 = .ok (.iconst 0, 1) := by decide +kernel
theorem dM_conjugate_110 : decode cM_conjugate 110 = .ok (.goto 11, 3) := by decide +kernel
theorem dM_conjugate_113 : decode cM_conjugate 113 = .ok (.iload_n 3, 1) := by decide +kernel
theorem dM_conjugate_114 : decode cM_conjugate 114 = .ok (.aload_n 0, 1) := by decide +kernel
theorem dM_conjugate_115 : decode cM_conjugate 115 = .ok (.getfield 66, 3) := by decide +kernel
theorem dM_conjugate_118 : decode cM_conjugate 118 = .ok (.iadd, 1) := by decide +kernel
theorem dM_conjugate_119 : decode cM_conjugate 119 = .ok (.iconst 1, 1) := by decide +kernel
theorem dM_conjugate_120 : decode cM_conjugate 120 = .ok (.isub, 1) := by decide +kernel
theorem dM_conjugate_121 : decode cM_conjugate 121 = .ok (.putfield 72, 3) := by decide +kernel
theorem dM_conjugate_124 : decode cM_conjugate 124 = .ok (.aload_n 0, 1) := by decide +kernel
theorem dM_conjugate_125 : decode cM_conjugate 125 = .ok (.invokevirtual 111, 3) := by decide +kernel
theorem dM_conjugate_128 : decode cM_conjugate 128 = .ok (.aload_n 0, 1) := by decide +kernel
theorem dM_conjugate_129 : decode cM_conjugate 129 = .ok (.invokevirtual 117, 3) := by decide +kernel
theorem dM_conjugate_132 : decode cM_conjugate 132 = .ok (.aload_n 0, 1) := by decide +kernel
theorem dM_conjugate_133 : decode cM_conjugate 133 = .ok (.iload_n 1, 1) := by decide +kernel
theorem dM_conjugate_134 : decode cM_conjugate 134 = .ok (.invokevirtual 114, 3) := by decide +kernel
theorem dM_conjugate_137 : decode cM_conjugate 137 = .ok (.ireturn, 1) := by decide +kernel
theorem dM_join_0 : decode cM_join 0 = .ok (.iload_n 1, 1) := by decide +kernel
theorem dM_join_1 : decode cM_join 1 = .ok (.invokestatic 101, 3) := by decide +kernel
theorem dM_join_4 : decode cM_join 4 = .ok (.ifCond .eq 17, 3) := by decide +kernel
theorem dM_join_7 : decode cM_join 7 = .ok (.iload_n 2, 1) := by decide +kernel
theorem dM_join_8 : decode cM_join 8 = .ok (.invokestatic 101, 3) := by decide +kernel
theorem dM_join_11 : decode cM_join 11 = .ok (.ifCond .eq 10, 3) := by decide +kernel
theorem dM_join_14 : decode cM_join 14 = .ok (.iload_n 3, 1) := by decide +kernel
theorem dM_join_15 : decode cM_join 15 = .ok (.invokestatic 101, 3) := by decide +kernel
theorem dM_join_18 : decode cM_join 18 = .ok (.ifCond .ne 5, 3) := by decide +kernel
theorem dM_join_21 : decode cM_join 21 = .ok (.iconst (-1), 1) := by decide +kernel
theorem dM_join_22 : decode cM_join 22 = .ok (.ireturn, 1) := by decide +kernel
theorem dM_join_23 : decode cM_join 23 = .ok (.aload_n 0, 1) := by decide +kernel
theorem dM_join_24 : decode cM_join 24 = .ok (.getfield 13, 3) := by decide +kernel
theorem dM_join_27 : decode cM_join 27 = .ok (.iload_n 2, 1) := by decide +kernel
theorem dM_join_28 : decode cM_join 28 = .ok (.iaload, 1) := by decide +kernel
theorem dM_join_29 : decode cM_join 29 = .ok (.aload_n 0, 1) := by decide +kernel
theorem dM_join_30 : decode cM_join 30 = .ok (.getfield 13, 3) := by decide +kernel
theorem dM_join_33 : decode cM_join 33 = .ok (.iload_n 3, 1) := by decide +kernel
theorem dM_join_34 : decode cM_join 34 = .ok (.iaload, 1) := by decide +kernel
theorem dM_join_35 : decode cM_join 35 = .ok (.iadd, 1) := by decide +kernel
theorem dM_join_36 : decode cM_join 36 = .ok (.iconst 1, 1) := by decide +kernel
theorem dM_join_37 : decode cM_join 37 = .ok (.isub, 1) := by decide +kernel
theorem dM_join_38 : decode cM_join 38 = .ok (.istore 4, 2) := by decide +kernel
theorem dM_join_40 : decode cM_join 40 = .ok (.iload 4, 2) := by decide +kernel
theorem dM_join_42 : decode cM_join 42 = .ok (.bipush 64, 2) := by decide +kernel
theorem dM_join_44 : decode cM_join 44 = .ok (.if_icmp .le 6, 3) := by decide +kernel
theorem dM_join_47 : decode cM_join 47 = .ok (.bipush (-2), 2) := by decide +kernel
theorem dM_join_49 : decode cM_join 49 = .ok (.ireturn, 1) := by decide +kernel
theorem dM_join_50 : decode cM_join 50 = .ok (.aload_n 0, 1) := by decide +kernel
theorem dM_join_51 : decode cM_join 51 = .ok (.iload 4, 2) := by decide +kernel
theorem dM_join_53 : decode cM_join 53 = .ok (.invokevirtual 104, 3) := by decide +kernel
theorem dM_join_56 : decode cM_join 56 = .ok (.aload_n 0, 1) := by decide +kernel
theorem dM_join_57 : decode cM_join 57 = .ok (.iload_n 2, 1) := by decide +kernel
theorem dM_join_58 : decode cM_join 58 = .ok (.iconst 0, 1) := by decide +kernel
theorem dM_join_59 : decode cM_join 59 = .ok (.invokevirtual 108, 3) := by decide +kernel
theorem dM_join_62 : decode cM_join 62 = .ok (.aload_n 0, 1) := by decide +kernel
theorem dM_join_63 : decode cM_join 63 = .ok (.iload_n 3, 1) := by decide +kernel
theorem dM_join_64 : decode cM_join 64 = .ok (.aload_n 0, 1) := by decide +kernel
theorem dM_join_65 : decode cM_join 65 = .ok (.getfield 13, 3) := by decide +kernel
theorem dM_join_68 : decode cM_join 68 = .ok (.iload_n 2, 1) := by decide +kernel
theorem dM_join_69 : decode cM_join 69 = .ok (.iaload, 1) := by decide +kernel
theorem dM_join_70 : decode cM_join 70 = .ok (.iconst 1, 1) := by decide +kernel
theorem dM_join_71 : decode cM_join 71 = .ok (.isub, 1) := by decide +kernel
theorem dM_join_72 : decode cM_join 72 = .ok (.invokevirtual 108, 3) := by decide +kernel
theorem dM_join_75 : decode cM_join 75 = .ok (.aload_n 0, 1) := by decide +kernel
theorem dM_join_76 : decode cM_join 76 = .ok (.invokevirtual 111, 3) := by decide +kernel
theorem dM_join_79 : decode cM_join 79 = .ok (.aload_n 0, 1) := by decide +kernel
theorem dM_join_80 : decode cM_join 80 = .ok (.iload_n 1, 1) := by decide +kernel
theorem dM_join_81 : decode cM_join 81 = .ok (.invokevirtual 114, 3) := by decide +kernel
theorem dM_join_84 : decode cM_join 84 = .ok (.ireturn, 1) := by decide +kernel
theorem dM_pair_0 : decode cM_pair 0 = .ok (.iconst 0, 1) := by decide +kernel
theorem dM_pair_1 : decode cM_pair 1 = .ok (.istore_n 3, 1) := by decide +kernel
theorem dM_pair_2 : decode cM_pair 2 = .ok (.iload_n 3, 1) := by decide +kernel
theorem dM_pair_3 : decode cM_pair 3 = .ok (.aload_n 0, 1) := by decide +kernel
theorem dM_pair_4 : decode cM_pair 4 = .ok (.getfield 69, 3) := by decide +kernel
theorem dM_pair_7 : decode cM_pair 7 = .ok (.if_icmp .ge 29, 3) := by decide +kernel
theorem dM_pair_10 : decode cM_pair 10 = .ok (.aload_n 0, 1) := by decide +kernel
theorem dM_pair_11 : decode cM_pair 11 = .ok (.getfield 49, 3) := by decide +kernel
theorem dM_pair_14 : decode cM_pair 14 = .ok (.iload_n 3, 1) := by decide +kernel
theorem dM_pair_15 : decode cM_pair 15 = .ok (.iaload, 1) := by decide +kernel
theorem dM_pair_16 : decode cM_pair 16 = .ok (.iload_n 1, 1) := by decide +kernel
theorem dM_pair_17 : decode cM_pair 17 = .ok (.if_icmp .ne 13, 3) := by decide +kernel
theorem dM_pair_20 : decode cM_pair 20 = .ok (.aload_n 0, 1) := by decide +kernel
theorem dM_pair_21 : decode cM_pair 21 = .ok (.getfield 52, 3) := by decide +kernel
theorem dM_pair_24 : decode cM_pair 24 = .ok (.iload_n 3, 1) := by decide +kernel
theorem dM_pair_25 : decode cM_pair 25 = .ok (.iaload, 1) := by decide +kernel
theorem dM_pair_26 : decode cM_pair 26 = .ok (.iload_n 2, 1) := by decide +kernel
theorem dM_pair_27 : decode cM_pair 27 = .ok (.if_icmp .eq 9, 3) := by decide +kernel
theorem dM_pair_30 : decode cM_pair 30 = .ok (.iinc 3 1, 3) := by decide +kernel
theorem dM_pair_33 : decode cM_pair 33 = .ok (.goto (-31), 3) := by decide +kernel
theorem dM_pair_36 : decode cM_pair 36 = .ok (.iload_n 3, 1) := by decide +kernel
theorem dM_pair_37 : decode cM_pair 37 = .ok (.ireturn, 1) := by decide +kernel
theorem dM_meet_0 : decode cM_meet 0 = .ok (.iload_n 1, 1) := by decide +kernel
theorem dM_meet_1 : decode cM_meet 1 = .ok (.invokestatic 101, 3) := by decide +kernel
theorem dM_meet_4 : decode cM_meet 4 = .ok (.ifCond .eq 17, 3) := by decide +kernel
theorem dM_meet_7 : decode cM_meet 7 = .ok (.iload_n 2, 1) := by decide +kernel
theorem dM_meet_8 : decode cM_meet 8 = .ok (.invokestatic 101, 3) := by decide +kernel
theorem dM_meet_11 : decode cM_meet 11 = .ok (.ifCond .eq 10, 3) := by decide +kernel
theorem dM_meet_14 : decode cM_meet 14 = .ok (.iload_n 3, 1) := by decide +kernel
theorem dM_meet_15 : decode cM_meet 15 = .ok (.invokestatic 101, 3) := by decide +kernel
theorem dM_meet_18 : decode cM_meet 18 = .ok (.ifCond .ne 5, 3) := by decide +kernel
theorem dM_meet_21 : decode cM_meet 21 = .ok (.iconst (-1), 1) := by decide +kernel
theorem dM_meet_22 : decode cM_meet 22 = .ok (.ireturn, 1) := by decide +kernel
theorem dM_meet_23 : decode cM_meet 23 = .ok (.aload_n 0, 1) := by decide +kernel
theorem dM_meet_24 : decode cM_meet 24 = .ok (.iconst 1, 1) := by decide +kernel
theorem dM_meet_25 : decode cM_meet 25 = .ok (.invokevirtual 104, 3) := by decide +kernel
theorem dM_meet_28 : decode cM_meet 28 = .ok (.aload_n 0, 1) := by decide +kernel
theorem dM_meet_29 : decode cM_meet 29 = .ok (.getfield 49, 3) := by decide +kernel
theorem dM_meet_32 : decode cM_meet 32 = .ok (.iconst 0, 1) := by decide +kernel
theorem dM_meet_33 : decode cM_meet 33 = .ok (.iconst 0, 1) := by decide +kernel
theorem dM_meet_34 : decode cM_meet 34 = .ok (.iastore, 1) := by decide +kernel
theorem dM_meet_35 : decode cM_meet 35 = .ok (.aload_n 0, 1) := by decide +kernel
theorem dM_meet_36 : decode cM_meet 36 = .ok (.getfield 52, 3) := by decide +kernel
theorem dM_meet_39 : decode cM_meet 39 = .ok (.iconst 0, 1) := by decide +kernel
theorem dM_meet_40 : decode cM_meet 40 = .ok (.iconst 0, 1) := by decide +kernel
theorem dM_meet_41 : decode cM_meet 41 = .ok (.iastore, 1) := by decide +kernel
theorem dM_meet_42 : decode cM_meet 42 = .ok (.iconst 0, 1) := by decide +kernel
theorem dM_meet_43 : decode cM_meet 43 = .ok (.istore 4, 2) := by decide +kernel
theorem dM_meet_45 : decode cM_meet 45 = .ok (.iload 4, 2) := by decide +kernel
theorem dM_meet_47 : decode cM_meet 47 = .ok (.aload_n 0, 1) := by decide +kernel
theorem dM_meet_48 : decode cM_meet 48 = .ok (.getfield 69, 3) := by decide +kernel
theorem dM_meet_51 : decode cM_meet 51 = .ok (.if_icmp .ge 151, 3) := by decide +kernel
theorem dM_meet_54 : decode cM_meet 54 = .ok (.iconst 0, 1) := by decide +kernel
theorem dM_meet_55 : decode cM_meet 55 = .ok (.istore 5, 2) := by decide +kernel
theorem dM_meet_57 : decode cM_meet 57 = .ok (.iload 5, 2) := by decide +kernel
theorem dM_meet_59 : decode cM_meet 59 = .ok (.bipush 6, 2) := by decide +kernel
theorem dM_meet_61 : decode cM_meet 61 = .ok (.if_icmp .ge 135, 3) := by decide +kernel
theorem dM_meet_64 : decode cM_meet 64 = .ok (.aload_n 0, 1) := by decide +kernel
theorem dM_meet_65 : decode cM_meet 65 = .ok (.iload_n 2, 1) := by decide +kernel
theorem dM_meet_66 : decode cM_meet 66 = .ok (.aload_n 0, 1) := by decide +kernel
theorem dM_meet_67 : decode cM_meet 67 = .ok (.getfield 49, 3) := by decide +kernel
theorem dM_meet_70 : decode cM_meet 70 = .ok (.iload 4, 2) := by decide +kernel
theorem dM_meet_72 : decode cM_meet 72 = .ok (.iaload, 1) := by decide +kernel
theorem dM_meet_73 : decode cM_meet 73 = .ok (.iload 5, 2) := by decide +kernel
theorem dM_meet_75 : decode cM_meet 75 = .ok (.invokevirtual 82, 3) := by decide +kernel
theorem dM_meet_78 : decode cM_meet 78 = .ok (.istore 6, 2) := by decide +kernel
theorem dM_meet_80 : decode cM_meet 80 = .ok (.aload_n 0, 1) := by decide +kernel
theorem dM_meet_81 : decode cM_meet 81 = .ok (.iload_n 3, 1) := by decide +kernel
theorem dM_meet_82 : decode cM_meet 82 = .ok (.aload_n 0, 1) := by decide +kernel
theorem dM_meet_83 : decode cM_meet 83 = .ok (.getfield 52, 3) := by decide +kernel
theorem dM_meet_86 : decode cM_meet 86 = .ok (.iload 4, 2) := by decide +kernel
theorem dM_meet_88 : decode cM_meet 88 = .ok (.iaload, 1) := by decide +kernel
theorem dM_meet_89 : decode cM_meet 89 = .ok (.iload 5, 2) := by decide +kernel
theorem dM_meet_91 : decode cM_meet 91 = .ok (.invokevirtual 82, 3) := by decide +kernel
theorem dM_meet_94 : decode cM_meet 94 = .ok (.istore 7, 2) := by decide +kernel
theorem dM_meet_96 : decode cM_meet 96 = .ok (.iload 6, 2) := by decide +kernel
theorem dM_meet_98 : decode cM_meet 98 = .ok (.ifCond .lt 92, 3) := by decide +kernel
theorem dM_meet_101 : decode cM_meet 101 = .ok (.iload 7, 2) := by decide +kernel
theorem dM_meet_103 : decode cM_meet 103 = .ok (.ifCond .lt 87, 3) := by decide +kernel
theorem dM_meet_106 : decode cM_meet 106 = .ok (.aload_n 0, 1) := by decide +kernel
theorem dM_meet_107 : decode cM_meet 107 = .ok (.iload 6, 2) := by decide +kernel
theorem dM_meet_109 : decode cM_meet 109 = .ok (.iload 7, 2) := by decide +kernel
theorem dM_meet_111 : decode cM_meet 111 = .ok (.invokevirtual 120, 3) := by decide +kernel
theorem dM_meet_114 : decode cM_meet 114 = .ok (.istore 8, 2) := by decide +kernel
theorem dM_meet_116 : decode cM_meet 116 = .ok (.iload 8, 2) := by decide +kernel
theorem dM_meet_118 : decode cM_meet 118 = .ok (.bipush 64, 2) := by decide +kernel
theorem dM_meet_120 : decode cM_meet 120 = .ok (.if_icmp .ne 6, 3) := by decide +kernel
theorem dM_meet_123 : decode cM_meet 123 = .ok (.bipush (-2), 2) := by decide +kernel
theorem dM_meet_125 : decode cM_meet 125 = .ok (.ireturn, 1) := by decide +kernel
theorem dM_meet_126 : decode cM_meet 126 = .ok (.aload_n 0, 1) := by decide +kernel
theorem dM_meet_127 : decode cM_meet 127 = .ok (.getfield 49, 3) := by decide +kernel
theorem dM_meet_130 : decode cM_meet 130 = .ok (.iload 8, 2) := by decide +kernel
theorem dM_meet_132 : decode cM_meet 132 = .ok (.iload 6, 2) := by decide +kernel
theorem dM_meet_134 : decode cM_meet 134 = .ok (.iastore, 1) := by decide +kernel
theorem dM_meet_135 : decode cM_meet 135 = .ok (.aload_n 0, 1) := by decide +kernel
theorem dM_meet_136 : decode cM_meet 136 = .ok (.getfield 52, 3) := by decide +kernel
theorem dM_meet_139 : decode cM_meet 139 = .ok (.iload 8, 2) := by decide +kernel
theorem dM_meet_141 : decode cM_meet 141 = .ok (.iload 7, 2) := by decide +kernel
theorem dM_meet_143 : decode cM_meet 143 = .ok (.iastore, 1) := by decide +kernel
theorem dM_meet_144 : decode cM_meet 144 = .ok (.aload_n 0, 1) := by decide +kernel
theorem dM_meet_145 : decode cM_meet 145 = .ok (.iload 8, 2) := by decide +kernel
theorem dM_meet_147 : decode cM_meet 147 = .ok (.aload_n 0, 1) := by decide +kernel
theorem dM_meet_148 : decode cM_meet 148 = .ok (.getfield 69, 3) := by decide +kernel
theorem dM_meet_151 : decode cM_meet 151 = .ok (.if_icmp .ne 12, 3) := by decide +kernel
theorem dM_meet_154 : decode cM_meet 154 = .ok (.aload_n 0, 1) := by decide +kernel
theorem dM_meet_155 : decode cM_meet 155 = .ok (.getfield 69, 3) := by decide +kernel
theorem dM_meet_158 : decode cM_meet 158 = .ok (.iconst 1, 1) := by decide +kernel
theorem dM_meet_159 : decode cM_meet 159 = .ok (.iadd, 1) := by decide +kernel
theorem dM_meet_160 : decode cM_meet 160 = .ok (.goto 7, 3) := by decide +kernel
theorem dM_meet_163 : decode cM_meet 163 = .ok (.aload_n 0, 1) := by decide +kernel
theorem dM_meet_164 : decode cM_meet 164 = .ok (.getfield 69, 3) := by decide +kernel
theorem dM_meet_167 : decode cM_meet 167 = .ok (.putfield 69, 3) := by decide +kernel
theorem dM_meet_170 : decode cM_meet 170 = .ok (.iload 5, 2) := by decide +kernel
theorem dM_meet_172 : decode cM_meet 172 = .ok (.iconst 2, 1) := by decide +kernel
theorem dM_meet_173 : decode cM_meet 173 = .ok (.irem, 1) := by decide +kernel
theorem dM_meet_174 : decode cM_meet 174 = .ok (.ifCond .ne 16, 3) := by decide +kernel
theorem dM_meet_177 : decode cM_meet 177 = .ok (.aload_n 0, 1) := by decide +kernel
theorem dM_meet_178 : decode cM_meet 178 = .ok (.iload 4, 2) := by decide +kernel
theorem dM_meet_180 : decode cM_meet 180 = .ok (.iload 5, 2) := by decide +kernel
theorem dM_meet_182 : decode cM_meet 182 = .ok (.invokestatic 124, 3) := by decide +kernel
theorem dM_meet_185 : decode cM_meet 185 = .ok (.iload 8, 2) := by decide +kernel
theorem dM_meet_187 : decode cM_meet 187 = .ok (.invokevirtual 86, 3) := by decide +kernel
theorem dM_meet_190 : decode cM_meet 190 = .ok (.iinc 5 1, 3) := by decide +kernel
theorem dM_meet_193 : decode cM_meet 193 = .ok (.goto (-136), 3) := by decide +kernel
theorem dM_meet_196 : decode cM_meet 196 = .ok (.iinc 4 1, 3) := by decide +kernel
theorem dM_meet_199 : decode cM_meet 199 = .ok (.goto (-154), 3) := by decide +kernel
theorem dM_meet_202 : decode cM_meet 202 = .ok (.aload_n 0, 1) := by decide +kernel
theorem dM_meet_203 : decode cM_meet 203 = .ok (.invokevirtual 111, 3) := by decide +kernel
theorem dM_meet_206 : decode cM_meet 206 = .ok (.aload_n 0, 1) := by decide +kernel
theorem dM_meet_207 : decode cM_meet 207 = .ok (.invokevirtual 117, 3) := by decide +kernel
theorem dM_meet_210 : decode cM_meet 210 = .ok (.aload_n 0, 1) := by decide +kernel
theorem dM_meet_211 : decode cM_meet 211 = .ok (.iload_n 1, 1) := by decide +kernel
theorem dM_meet_212 : decode cM_meet 212 = .ok (.invokevirtual 114, 3) := by decide +kernel
theorem dM_meet_215 : decode cM_meet 215 = .ok (.ireturn, 1) := by decide +kernel
theorem dM_walk_0 : decode cM_walk 0 = .ok (.iconst 0, 1) := by decide +kernel
theorem dM_walk_1 : decode cM_walk 1 = .ok (.istore_n 2, 1) := by decide +kernel
theorem dM_walk_2 : decode cM_walk 2 = .ok (.iconst 0, 1) := by decide +kernel
theorem dM_walk_3 : decode cM_walk 3 = .ok (.istore_n 3, 1) := by decide +kernel
theorem dM_walk_4 : decode cM_walk 4 = .ok (.iload_n 3, 1) := by decide +kernel
theorem dM_walk_5 : decode cM_walk 5 = .ok (.aload_n 0, 1) := by decide +kernel
theorem dM_walk_6 : decode cM_walk 6 = .ok (.getfield 66, 3) := by decide +kernel
theorem dM_walk_9 : decode cM_walk 9 = .ok (.if_icmp .ge 29, 3) := by decide +kernel
theorem dM_walk_12 : decode cM_walk 12 = .ok (.iload_n 2, 1) := by decide +kernel
theorem dM_walk_13 : decode cM_walk 13 = .ok (.ifCond .lt 25, 3) := by decide +kernel
theorem dM_walk_16 : decode cM_walk 16 = .ok (.aload_n 0, 1) := by decide +kernel
theorem dM_walk_17 : decode cM_walk 17 = .ok (.iload_n 1, 1) := by decide +kernel
theorem dM_walk_18 : decode cM_walk 18 = .ok (.iload_n 2, 1) := by decide +kernel
theorem dM_walk_19 : decode cM_walk 19 = .ok (.aload_n 0, 1) := by decide +kernel
theorem dM_walk_20 : decode cM_walk 20 = .ok (.getfield 7, 3) := by decide +kernel
theorem dM_walk_23 : decode cM_walk 23 = .ok (.iload_n 3, 1) := by decide +kernel
theorem dM_walk_24 : decode cM_walk 24 = .ok (.iaload, 1) := by decide +kernel
theorem dM_walk_25 : decode cM_walk 25 = .ok (.invokestatic 78, 3) := by decide +kernel
theorem dM_walk_28 : decode cM_walk 28 = .ok (.invokevirtual 82, 3) := by decide +kernel
theorem dM_walk_31 : decode cM_walk 31 = .ok (.istore_n 2, 1) := by decide +kernel
theorem dM_walk_32 : decode cM_walk 32 = .ok (.iinc 3 1, 3) := by decide +kernel
theorem dM_walk_35 : decode cM_walk 35 = .ok (.goto (-31), 3) := by decide +kernel
theorem dM_walk_38 : decode cM_walk 38 = .ok (.iload_n 2, 1) := by decide +kernel
theorem dM_walk_39 : decode cM_walk 39 = .ok (.ireturn, 1) := by decide +kernel
theorem dM_trace_0 : decode cM_trace 0 = .ok (.iload_n 1, 1) := by decide +kernel
theorem dM_trace_1 : decode cM_trace 1 = .ok (.invokestatic 101, 3) := by decide +kernel
theorem dM_trace_4 : decode cM_trace 4 = .ok (.ifCond .eq 11, 3) := by decide +kernel
theorem dM_trace_7 : decode cM_trace 7 = .ok (.aload_n 0, 1) := by decide +kernel
theorem dM_trace_8 : decode cM_trace 8 = .ok (.iload_n 1, 1) := by decide +kernel
theorem dM_trace_9 : decode cM_trace 9 = .ok (.invokevirtual 127, 3) := by decide +kernel
theorem dM_trace_12 : decode cM_trace 12 = .ok (.goto 4, 3) := by decide +kernel
theorem dM_trace_15 : decode cM_trace 15 = .ok (.iconst (-1), 1) := by decide +kernel
theorem dM_trace_16 : decode cM_trace 16 = .ok (.ireturn, 1) := by decide +kernel
theorem dM_member_0 : decode cM_member 0 = .ok (.iload_n 1, 1) := by decide +kernel
theorem dM_member_1 : decode cM_member 1 = .ok (.invokestatic 101, 3) := by decide +kernel
theorem dM_member_4 : decode cM_member 4 = .ok (.ifCond .eq 15, 3) := by decide +kernel
theorem dM_member_7 : decode cM_member 7 = .ok (.aload_n 0, 1) := by decide +kernel
theorem dM_member_8 : decode cM_member 8 = .ok (.iload_n 1, 1) := by decide +kernel
theorem dM_member_9 : decode cM_member 9 = .ok (.invokevirtual 127, 3) := by decide +kernel
theorem dM_member_12 : decode cM_member 12 = .ok (.ifCond .ne 7, 3) := by decide +kernel
theorem dM_member_15 : decode cM_member 15 = .ok (.iconst 1, 1) := by decide +kernel
theorem dM_member_16 : decode cM_member 16 = .ok (.goto 4, 3) := by decide +kernel
theorem dM_member_19 : decode cM_member 19 = .ok (.iconst 0, 1) := by decide +kernel
theorem dM_member_20 : decode cM_member 20 = .ok (.ireturn, 1) := by decide +kernel
theorem dM_isTree_0 : decode cM_isTree 0 = .ok (.iload 4, 2) := by decide +kernel
theorem dM_isTree_2 : decode cM_isTree 2 = .ok (.ifCond .le 39, 3) := by decide +kernel
theorem dM_isTree_5 : decode cM_isTree 5 = .ok (.aload_n 0, 1) := by decide +kernel
theorem dM_isTree_6 : decode cM_isTree 6 = .ok (.getfield 19, 3) := by decide +kernel
theorem dM_isTree_9 : decode cM_isTree 9 = .ok (.bipush 64, 2) := by decide +kernel
theorem dM_isTree_11 : decode cM_isTree 11 = .ok (.iload_n 1, 1) := by decide +kernel
theorem dM_isTree_12 : decode cM_isTree 12 = .ok (.imul, 1) := by decide +kernel
theorem dM_isTree_13 : decode cM_isTree 13 = .ok (.iload 4, 2) := by decide +kernel
theorem dM_isTree_15 : decode cM_isTree 15 = .ok (.iadd, 1) := by decide +kernel
theorem dM_isTree_16 : decode cM_isTree 16 = .ok (.iaload, 1) := by decide +kernel
theorem dM_isTree_17 : decode cM_isTree 17 = .ok (.iload_n 2, 1) := by decide +kernel
theorem dM_isTree_18 : decode cM_isTree 18 = .ok (.if_icmp .ne 23, 3) := by decide +kernel
theorem dM_isTree_21 : decode cM_isTree 21 = .ok (.aload_n 0, 1) := by decide +kernel
theorem dM_isTree_22 : decode cM_isTree 22 = .ok (.getfield 22, 3) := by decide +kernel
theorem dM_isTree_25 : decode cM_isTree 25 = .ok (.bipush 64, 2) := by decide +kernel
theorem dM_isTree_27 : decode cM_isTree 27 = .ok (.iload_n 1, 1) := by decide +kernel
theorem dM_isTree_28 : decode cM_isTree 28 = .ok (.imul, 1) := by decide +kernel
theorem dM_isTree_29 : decode cM_isTree 29 = .ok (.iload 4, 2) := by decide +kernel
theorem dM_isTree_31 : decode cM_isTree 31 = .ok (.iadd, 1) := by decide +kernel
theorem dM_isTree_32 : decode cM_isTree 32 = .ok (.iaload, 1) := by decide +kernel
theorem dM_isTree_33 : decode cM_isTree 33 = .ok (.iload_n 3, 1) := by decide +kernel
theorem dM_isTree_34 : decode cM_isTree 34 = .ok (.if_icmp .ne 7, 3) := by decide +kernel
theorem dM_isTree_37 : decode cM_isTree 37 = .ok (.iconst 1, 1) := by decide +kernel
theorem dM_isTree_38 : decode cM_isTree 38 = .ok (.goto 4, 3) := by decide +kernel
theorem dM_isTree_41 : decode cM_isTree 41 = .ok (.iconst 0, 1) := by decide +kernel
theorem dM_isTree_42 : decode cM_isTree 42 = .ok (.istore 5, 2) := by decide +kernel
theorem dM_isTree_44 : decode cM_isTree 44 = .ok (.iload 5, 2) := by decide +kernel
theorem dM_isTree_46 : decode cM_isTree 46 = .ok (.ifCond .ne 40, 3) := by decide +kernel
theorem dM_isTree_49 : decode cM_isTree 49 = .ok (.iload_n 2, 1) := by decide +kernel
theorem dM_isTree_50 : decode cM_isTree 50 = .ok (.ifCond .le 40, 3) := by decide +kernel
theorem dM_isTree_53 : decode cM_isTree 53 = .ok (.aload_n 0, 1) := by decide +kernel
theorem dM_isTree_54 : decode cM_isTree 54 = .ok (.getfield 19, 3) := by decide +kernel
theorem dM_isTree_57 : decode cM_isTree 57 = .ok (.bipush 64, 2) := by decide +kernel
theorem dM_isTree_59 : decode cM_isTree 59 = .ok (.iload_n 1, 1) := by decide +kernel
theorem dM_isTree_60 : decode cM_isTree 60 = .ok (.imul, 1) := by decide +kernel
theorem dM_isTree_61 : decode cM_isTree 61 = .ok (.iload_n 2, 1) := by decide +kernel
theorem dM_isTree_62 : decode cM_isTree 62 = .ok (.iadd, 1) := by decide +kernel
theorem dM_isTree_63 : decode cM_isTree 63 = .ok (.iaload, 1) := by decide +kernel
theorem dM_isTree_64 : decode cM_isTree 64 = .ok (.iload 4, 2) := by decide +kernel
theorem dM_isTree_66 : decode cM_isTree 66 = .ok (.if_icmp .ne 24, 3) := by decide +kernel
theorem dM_isTree_69 : decode cM_isTree 69 = .ok (.aload_n 0, 1) := by decide +kernel
theorem dM_isTree_70 : decode cM_isTree 70 = .ok (.getfield 22, 3) := by decide +kernel
theorem dM_isTree_73 : decode cM_isTree 73 = .ok (.bipush 64, 2) := by decide +kernel
theorem dM_isTree_75 : decode cM_isTree 75 = .ok (.iload_n 1, 1) := by decide +kernel
theorem dM_isTree_76 : decode cM_isTree 76 = .ok (.imul, 1) := by decide +kernel
theorem dM_isTree_77 : decode cM_isTree 77 = .ok (.iload_n 2, 1) := by decide +kernel
theorem dM_isTree_78 : decode cM_isTree 78 = .ok (.iadd, 1) := by decide +kernel
theorem dM_isTree_79 : decode cM_isTree 79 = .ok (.iaload, 1) := by decide +kernel
theorem dM_isTree_80 : decode cM_isTree 80 = .ok (.iload_n 3, 1) := by decide +kernel
theorem dM_isTree_81 : decode cM_isTree 81 = .ok (.iconst 1, 1) := by decide +kernel
theorem dM_isTree_82 : decode cM_isTree 82 = .ok (.ixor, 1) := by decide +kernel
theorem dM_isTree_83 : decode cM_isTree 83 = .ok (.if_icmp .ne 7, 3) := by decide +kernel
theorem dM_isTree_86 : decode cM_isTree 86 = .ok (.iconst 1, 1) := by decide +kernel
theorem dM_isTree_87 : decode cM_isTree 87 = .ok (.goto 4, 3) := by decide +kernel
theorem dM_isTree_90 : decode cM_isTree 90 = .ok (.iconst 0, 1) := by decide +kernel
theorem dM_isTree_91 : decode cM_isTree 91 = .ok (.ireturn, 1) := by decide +kernel
theorem dM_elementsBefore_0 : decode cM_elementsBefore 0 = .ok (.iconst 0, 1) := by decide +kernel
theorem dM_elementsBefore_1 : decode cM_elementsBefore 1 = .ok (.istore 4, 2) := by decide +kernel
theorem dM_elementsBefore_3 : decode cM_elementsBefore 3 = .ok (.iconst 0, 1) := by decide +kernel
theorem dM_elementsBefore_4 : decode cM_elementsBefore 4 = .ok (.istore 5, 2) := by decide +kernel
theorem dM_elementsBefore_6 : decode cM_elementsBefore 6 = .ok (.iload 5, 2) := by decide +kernel
theorem dM_elementsBefore_8 : decode cM_elementsBefore 8 = .ok (.iload_n 2, 1) := by decide +kernel
theorem dM_elementsBefore_9 : decode cM_elementsBefore 9 = .ok (.if_icmp .gt 86, 3) := by decide +kernel
theorem dM_elementsBefore_12 : decode cM_elementsBefore 12 = .ok (.iconst 1, 1) := by decide +kernel
theorem dM_elementsBefore_13 : decode cM_elementsBefore 13 = .ok (.istore 6, 2) := by decide +kernel
theorem dM_elementsBefore_15 : decode cM_elementsBefore 15 = .ok (.iload 6, 2) := by decide +kernel
theorem dM_elementsBefore_17 : decode cM_elementsBefore 17 = .ok (.aload_n 0, 1) := by decide +kernel
theorem dM_elementsBefore_18 : decode cM_elementsBefore 18 = .ok (.getfield 58, 3) := by decide +kernel
theorem dM_elementsBefore_21 : decode cM_elementsBefore 21 = .ok (.if_icmp .gt 68, 3) := by decide +kernel
theorem dM_elementsBefore_24 : decode cM_elementsBefore 24 = .ok (.iload 5, 2) := by decide +kernel
theorem dM_elementsBefore_26 : decode cM_elementsBefore 26 = .ok (.iload_n 2, 1) := by decide +kernel
theorem dM_elementsBefore_27 : decode cM_elementsBefore 27 = .ok (.if_icmp .lt 9, 3) := by decide +kernel
theorem dM_elementsBefore_30 : decode cM_elementsBefore 30 = .ok (.iload 6, 2) := by decide +kernel
theorem dM_elementsBefore_32 : decode cM_elementsBefore 32 = .ok (.iload_n 3, 1) := by decide +kernel
theorem dM_elementsBefore_33 : decode cM_elementsBefore 33 = .ok (.if_icmp .ge 56, 3) := by decide +kernel
theorem dM_elementsBefore_36 : decode cM_elementsBefore 36 = .ok (.aload_n 0, 1) := by decide +kernel
theorem dM_elementsBefore_37 : decode cM_elementsBefore 37 = .ok (.iload_n 1, 1) := by decide +kernel
theorem dM_elementsBefore_38 : decode cM_elementsBefore 38 = .ok (.iload 5, 2) := by decide +kernel
theorem dM_elementsBefore_40 : decode cM_elementsBefore 40 = .ok (.iload 6, 2) := by decide +kernel
theorem dM_elementsBefore_42 : decode cM_elementsBefore 42 = .ok (.invokestatic 78, 3) := by decide +kernel
theorem dM_elementsBefore_45 : decode cM_elementsBefore 45 = .ok (.invokevirtual 82, 3) := by decide +kernel
theorem dM_elementsBefore_48 : decode cM_elementsBefore 48 = .ok (.istore 7, 2) := by decide +kernel
theorem dM_elementsBefore_50 : decode cM_elementsBefore 50 = .ok (.iload 7, 2) := by decide +kernel
theorem dM_elementsBefore_52 : decode cM_elementsBefore 52 = .ok (.ifCond .lt 27, 3) := by decide +kernel
theorem dM_elementsBefore_55 : decode cM_elementsBefore 55 = .ok (.aload_n 0, 1) := by decide +kernel
theorem dM_elementsBefore_56 : decode cM_elementsBefore 56 = .ok (.iload_n 1, 1) := by decide +kernel
theorem dM_elementsBefore_57 : decode cM_elementsBefore 57 = .ok (.iload 5, 2) := by decide +kernel
theorem dM_elementsBefore_59 : decode cM_elementsBefore 59 = .ok (.iload 6, 2) := by decide +kernel
theorem dM_elementsBefore_61 : decode cM_elementsBefore 61 = .ok (.invokestatic 78, 3) := by decide +kernel
theorem dM_elementsBefore_64 : decode cM_elementsBefore 64 = .ok (.iload 7, 2) := by decide +kernel
theorem dM_elementsBefore_66 : decode cM_elementsBefore 66 = .ok (.invokevirtual 130, 3) := by decide +kernel
theorem dM_elementsBefore_69 : decode cM_elementsBefore 69 = .ok (.ifCond .ne 10, 3) := by decide +kernel
theorem dM_elementsBefore_72 : decode cM_elementsBefore 72 = .ok (.iload 4, 2) := by decide +kernel
theorem dM_elementsBefore_74 : decode cM_elementsBefore 74 = .ok (.iconst 1, 1) := by decide +kernel
theorem dM_elementsBefore_75 : decode cM_elementsBefore 75 = .ok (.iadd, 1) := by decide +kernel
theorem dM_elementsBefore_76 : decode cM_elementsBefore 76 = .ok (.goto 5, 3) := by decide +kernel
theorem dM_elementsBefore_79 : decode cM_elementsBefore 79 = .ok (.iload 4, 2) := by decide +kernel
theorem dM_elementsBefore_81 : decode cM_elementsBefore 81 = .ok (.istore 4, 2) := by decide +kernel
theorem dM_elementsBefore_83 : decode cM_elementsBefore 83 = .ok (.iinc 6 1, 3) := by decide +kernel
theorem dM_elementsBefore_86 : decode cM_elementsBefore 86 = .ok (.goto (-71), 3) := by decide +kernel
theorem dM_elementsBefore_89 : decode cM_elementsBefore 89 = .ok (.iinc 5 1, 3) := by decide +kernel
theorem dM_elementsBefore_92 : decode cM_elementsBefore 92 = .ok (.goto (-86), 3) := by decide +kernel
theorem dM_elementsBefore_95 : decode cM_elementsBefore 95 = .ok (.iload 4, 2) := by decide +kernel
theorem dM_elementsBefore_97 : decode cM_elementsBefore 97 = .ok (.ireturn, 1) := by decide +kernel
theorem dM_elements_0 : decode cM_elements 0 = .ok (.aload_n 0, 1) := by decide +kernel
theorem dM_elements_1 : decode cM_elements 1 = .ok (.iload_n 1, 1) := by decide +kernel
theorem dM_elements_2 : decode cM_elements 2 = .ok (.aload_n 0, 1) := by decide +kernel
theorem dM_elements_3 : decode cM_elements 3 = .ok (.getfield 13, 3) := by decide +kernel
theorem dM_elements_6 : decode cM_elements 6 = .ok (.iload_n 1, 1) := by decide +kernel
theorem dM_elements_7 : decode cM_elements 7 = .ok (.iaload, 1) := by decide +kernel
theorem dM_elements_8 : decode cM_elements 8 = .ok (.iconst 1, 1) := by decide +kernel
theorem dM_elements_9 : decode cM_elements 9 = .ok (.isub, 1) := by decide +kernel
theorem dM_elements_10 : decode cM_elements 10 = .ok (.aload_n 0, 1) := by decide +kernel
theorem dM_elements_11 : decode cM_elements 11 = .ok (.getfield 58, 3) := by decide +kernel
theorem dM_elements_14 : decode cM_elements 14 = .ok (.iconst 1, 1) := by decide +kernel
theorem dM_elements_15 : decode cM_elements 15 = .ok (.iadd, 1) := by decide +kernel
theorem dM_elements_16 : decode cM_elements 16 = .ok (.invokevirtual 134, 3) := by decide +kernel
theorem dM_elements_19 : decode cM_elements 19 = .ok (.ireturn, 1) := by decide +kernel
theorem dM_find_0 : decode cM_find 0 = .ok (.iconst 0, 1) := by decide +kernel
theorem dM_find_1 : decode cM_find 1 = .ok (.istore_n 3, 1) := by decide +kernel
theorem dM_find_2 : decode cM_find 2 = .ok (.iconst 0, 1) := by decide +kernel
theorem dM_find_3 : decode cM_find 3 = .ok (.istore 4, 2) := by decide +kernel
theorem dM_find_5 : decode cM_find 5 = .ok (.iload 4, 2) := by decide +kernel
theorem dM_find_7 : decode cM_find 7 = .ok (.aload_n 0, 1) := by decide +kernel
theorem dM_find_8 : decode cM_find 8 = .ok (.getfield 13, 3) := by decide +kernel
theorem dM_find_11 : decode cM_find 11 = .ok (.iload_n 1, 1) := by decide +kernel
theorem dM_find_12 : decode cM_find 12 = .ok (.iaload, 1) := by decide +kernel
theorem dM_find_13 : decode cM_find 13 = .ok (.if_icmp .ge 91, 3) := by decide +kernel
theorem dM_find_16 : decode cM_find 16 = .ok (.iconst 1, 1) := by decide +kernel
theorem dM_find_17 : decode cM_find 17 = .ok (.istore 5, 2) := by decide +kernel
theorem dM_find_19 : decode cM_find 19 = .ok (.iload 5, 2) := by decide +kernel
theorem dM_find_21 : decode cM_find 21 = .ok (.aload_n 0, 1) := by decide +kernel
theorem dM_find_22 : decode cM_find 22 = .ok (.getfield 58, 3) := by decide +kernel
theorem dM_find_25 : decode cM_find 25 = .ok (.if_icmp .gt 73, 3) := by decide +kernel
theorem dM_find_28 : decode cM_find 28 = .ok (.aload_n 0, 1) := by decide +kernel
theorem dM_find_29 : decode cM_find 29 = .ok (.iload_n 1, 1) := by decide +kernel
theorem dM_find_30 : decode cM_find 30 = .ok (.iload 4, 2) := by decide +kernel
theorem dM_find_32 : decode cM_find 32 = .ok (.iload 5, 2) := by decide +kernel
theorem dM_find_34 : decode cM_find 34 = .ok (.invokestatic 78, 3) := by decide +kernel
theorem dM_find_37 : decode cM_find 37 = .ok (.invokevirtual 82, 3) := by decide +kernel
theorem dM_find_40 : decode cM_find 40 = .ok (.istore 6, 2) := by decide +kernel
theorem dM_find_42 : decode cM_find 42 = .ok (.iload 6, 2) := by decide +kernel
theorem dM_find_44 : decode cM_find 44 = .ok (.ifCond .lt 48, 3) := by decide +kernel
theorem dM_find_47 : decode cM_find 47 = .ok (.aload_n 0, 1) := by decide +kernel
theorem dM_find_48 : decode cM_find 48 = .ok (.iload_n 1, 1) := by decide +kernel
theorem dM_find_49 : decode cM_find 49 = .ok (.iload 4, 2) := by decide +kernel
theorem dM_find_51 : decode cM_find 51 = .ok (.iload 5, 2) := by decide +kernel
theorem dM_find_53 : decode cM_find 53 = .ok (.invokestatic 78, 3) := by decide +kernel
theorem dM_find_56 : decode cM_find 56 = .ok (.iload 6, 2) := by decide +kernel
theorem dM_find_58 : decode cM_find 58 = .ok (.invokevirtual 130, 3) := by decide +kernel
theorem dM_find_61 : decode cM_find 61 = .ok (.ifCond .ne 31, 3) := by decide +kernel
theorem dM_find_64 : decode cM_find 64 = .ok (.iload_n 3, 1) := by decide +kernel
theorem dM_find_65 : decode cM_find 65 = .ok (.iload_n 2, 1) := by decide +kernel
theorem dM_find_66 : decode cM_find 66 = .ok (.if_icmp .ne 23, 3) := by decide +kernel
theorem dM_find_69 : decode cM_find 69 = .ok (.aload_n 0, 1) := by decide +kernel
theorem dM_find_70 : decode cM_find 70 = .ok (.iload 4, 2) := by decide +kernel
theorem dM_find_72 : decode cM_find 72 = .ok (.putfield 137, 3) := by decide +kernel
theorem dM_find_75 : decode cM_find 75 = .ok (.aload_n 0, 1) := by decide +kernel
theorem dM_find_76 : decode cM_find 76 = .ok (.iload 5, 2) := by decide +kernel
theorem dM_find_78 : decode cM_find 78 = .ok (.putfield 140, 3) := by decide +kernel
theorem dM_find_81 : decode cM_find 81 = .ok (.aload_n 0, 1) := by decide +kernel
theorem dM_find_82 : decode cM_find 82 = .ok (.iload 6, 2) := by decide +kernel
theorem dM_find_84 : decode cM_find 84 = .ok (.putfield 143, 3) := by decide +kernel
theorem dM_find_87 : decode cM_find 87 = .ok (.iconst 1, 1) := by decide +kernel
theorem dM_find_88 : decode cM_find 88 = .ok (.ireturn, 1) := by decide +kernel
theorem dM_find_89 : decode cM_find 89 = .ok (.iinc 3 1, 3) := by decide +kernel
theorem dM_find_92 : decode cM_find 92 = .ok (.iinc 5 1, 3) := by decide +kernel
theorem dM_find_95 : decode cM_find 95 = .ok (.goto (-76), 3) := by decide +kernel
theorem dM_find_98 : decode cM_find 98 = .ok (.iinc 4 1, 3) := by decide +kernel
theorem dM_find_101 : decode cM_find 101 = .ok (.goto (-96), 3) := by decide +kernel
theorem dM_find_104 : decode cM_find 104 = .ok (.iconst 0, 1) := by decide +kernel
theorem dM_find_105 : decode cM_find 105 = .ok (.ireturn, 1) := by decide +kernel
theorem dM_put_0 : decode cM_put 0 = .ok (.aload_n 0, 1) := by decide +kernel
theorem dM_put_1 : decode cM_put 1 = .ok (.getfield 146, 3) := by decide +kernel
theorem dM_put_4 : decode cM_put 4 = .ok (.ifCond .le 32, 3) := by decide +kernel
theorem dM_put_7 : decode cM_put 7 = .ok (.aload_n 0, 1) := by decide +kernel
theorem dM_put_8 : decode cM_put 8 = .ok (.getfield 55, 3) := by decide +kernel
theorem dM_put_11 : decode cM_put 11 = .ok (.aload_n 0, 1) := by decide +kernel
theorem dM_put_12 : decode cM_put 12 = .ok (.getfield 146, 3) := by decide +kernel
theorem dM_put_15 : decode cM_put 15 = .ok (.iconst 1, 1) := by decide +kernel
theorem dM_put_16 : decode cM_put 16 = .ok (.isub, 1) := by decide +kernel
theorem dM_put_17 : decode cM_put 17 = .ok (.iaload, 1) := by decide +kernel
theorem dM_put_18 : decode cM_put 18 = .ok (.iload_n 1, 1) := by decide +kernel
theorem dM_put_19 : decode cM_put 19 = .ok (.ineg, 1) := by decide +kernel
theorem dM_put_20 : decode cM_put 20 = .ok (.if_icmp .ne 16, 3) := by decide +kernel
theorem dM_put_23 : decode cM_put 23 = .ok (.aload_n 0, 1) := by decide +kernel
theorem dM_put_24 : decode cM_put 24 = .ok (.dup, 1) := by decide +kernel
theorem dM_put_25 : decode cM_put 25 = .ok (.getfield 146, 3) := by decide +kernel
theorem dM_put_28 : decode cM_put 28 = .ok (.iconst 1, 1) := by decide +kernel
theorem dM_put_29 : decode cM_put 29 = .ok (.isub, 1) := by decide +kernel
theorem dM_put_30 : decode cM_put 30 = .ok (.putfield 146, 3) := by decide +kernel
theorem dM_put_33 : decode cM_put 33 = .ok (.goto 23, 3) := by decide +kernel
theorem dM_put_36 : decode cM_put 36 = .ok (.aload_n 0, 1) := by decide +kernel
theorem dM_put_37 : decode cM_put 37 = .ok (.getfield 55, 3) := by decide +kernel
theorem dM_put_40 : decode cM_put 40 = .ok (.aload_n 0, 1) := by decide +kernel
theorem dM_put_41 : decode cM_put 41 = .ok (.getfield 146, 3) := by decide +kernel
theorem dM_put_44 : decode cM_put 44 = .ok (.iload_n 1, 1) := by decide +kernel
theorem dM_put_45 : decode cM_put 45 = .ok (.iastore, 1) := by decide +kernel
theorem dM_put_46 : decode cM_put 46 = .ok (.aload_n 0, 1) := by decide +kernel
theorem dM_put_47 : decode cM_put 47 = .ok (.dup, 1) := by decide +kernel
