/-! mo_findOrders -/
theorem op179_0 : rn_op 179 0 = some (.iconst 1, 1, 0, 0, 0) := by decide +kernel
theorem op179_1 : rn_op 179 1 = some (.istore_n 2, 1, 0, 0, 0) := by decide +kernel
theorem op179_2 : rn_op 179 2 = some (.iconst 0, 1, 0, 0, 0) := by decide +kernel
theorem op179_3 : rn_op 179 3 = some (.istore_n 3, 1, 0, 0, 0) := by decide +kernel
theorem op179_4 : rn_op 179 4 = some (.iload_n 3, 1, 0, 0, 0) := by decide +kernel
theorem op179_5 : rn_op 179 5 = some (.aload_n 0, 1, 0, 0, 0) := by decide +kernel
theorem op179_6 : rn_op 179 6 = some (.getfield 7, 3, 11, 0, 3) := by decide +kernel
theorem op179_9 : rn_op 179 9 = some (.iconst 2, 1, 0, 0, 0) := by decide +kernel
theorem op179_10 : rn_op 179 10 = some (.iaload, 1, 0, 0, 0) := by decide +kernel
theorem op179_11 : rn_op 179 11 = some (.if_icmp .ge 389, 3, 0, 0, 0) := by decide +kernel
theorem op179_14 : rn_op 179 14 = some (.aload_n 0, 1, 0, 0, 0) := by decide +kernel
theorem op179_15 : rn_op 179 15 = some (.getfield 46, 3, 11, 25, 3) := by decide +kernel
theorem op179_18 : rn_op 179 18 = some (.iload_n 3, 1, 0, 0, 0) := by decide +kernel
theorem op179_19 : rn_op 179 19 = some (.iaload, 1, 0, 0, 0) := by decide +kernel
theorem op179_20 : rn_op 179 20 = some (.istore 4, 2, 0, 0, 0) := by decide +kernel
theorem op179_22 : rn_op 179 22 = some (.aload_n 0, 1, 0, 0, 0) := by decide +kernel
theorem op179_23 : rn_op 179 23 = some (.getfield 49, 3, 11, 26, 3) := by decide +kernel
theorem op179_26 : rn_op 179 26 = some (.iload_n 3, 1, 0, 0, 0) := by decide +kernel
theorem op179_27 : rn_op 179 27 = some (.iload_n 3, 1, 0, 0, 0) := by decide +kernel
theorem op179_28 : rn_op 179 28 = some (.ifCond .ne 7, 3, 0, 0, 0) := by decide +kernel
theorem op179_31 : rn_op 179 31 = some (.iload_n 1, 1, 0, 0, 0) := by decide +kernel
theorem op179_32 : rn_op 179 32 = some (.goto 38, 3, 0, 0, 0) := by decide +kernel
theorem op179_35 : rn_op 179 35 = some (.aload_n 0, 1, 0, 0, 0) := by decide +kernel
theorem op179_36 : rn_op 179 36 = some (.getfield 209, 3, 11, 10, 0) := by decide +kernel
theorem op179_39 : rn_op 179 39 = some (.ifCond .ne 14, 3, 0, 0, 0) := by decide +kernel
theorem op179_42 : rn_op 179 42 = some (.aload_n 0, 1, 0, 0, 0) := by decide +kernel
theorem op179_43 : rn_op 179 43 = some (.getfield 46, 3, 11, 25, 3) := by decide +kernel
theorem op179_46 : rn_op 179 46 = some (.iload_n 3, 1, 0, 0, 0) := by decide +kernel
theorem op179_47 : rn_op 179 47 = some (.iconst 1, 1, 0, 0, 0) := by decide +kernel
theorem op179_48 : rn_op 179 48 = some (.isub, 1, 0, 0, 0) := by decide +kernel
theorem op179_49 : rn_op 179 49 = some (.iaload, 1, 0, 0, 0) := by decide +kernel
theorem op179_50 : rn_op 179 50 = some (.goto 20, 3, 0, 0, 0) := by decide +kernel
theorem op179_53 : rn_op 179 53 = some (.aload_n 0, 1, 0, 0, 0) := by decide +kernel
theorem op179_54 : rn_op 179 54 = some (.getfield 49, 3, 11, 26, 3) := by decide +kernel
theorem op179_57 : rn_op 179 57 = some (.iload_n 3, 1, 0, 0, 0) := by decide +kernel
theorem op179_58 : rn_op 179 58 = some (.iconst 1, 1, 0, 0, 0) := by decide +kernel
theorem op179_59 : rn_op 179 59 = some (.isub, 1, 0, 0, 0) := by decide +kernel
theorem op179_60 : rn_op 179 60 = some (.iaload, 1, 0, 0, 0) := by decide +kernel
theorem op179_61 : rn_op 179 61 = some (.iconst 1, 1, 0, 0, 0) := by decide +kernel
theorem op179_62 : rn_op 179 62 = some (.iadd, 1, 0, 0, 0) := by decide +kernel
theorem op179_63 : rn_op 179 63 = some (.aload_n 0, 1, 0, 0, 0) := by decide +kernel
theorem op179_64 : rn_op 179 64 = some (.getfield 7, 3, 11, 0, 3) := by decide +kernel
theorem op179_67 : rn_op 179 67 = some (.iconst 1, 1, 0, 0, 0) := by decide +kernel
theorem op179_68 : rn_op 179 68 = some (.iaload, 1, 0, 0, 0) := by decide +kernel
theorem op179_69 : rn_op 179 69 = some (.irem, 1, 0, 0, 0) := by decide +kernel
theorem op179_70 : rn_op 179 70 = some (.iastore, 1, 0, 0, 0) := by decide +kernel
theorem op179_71 : rn_op 179 71 = some (.iconst 0, 1, 0, 0, 0) := by decide +kernel
theorem op179_72 : rn_op 179 72 = some (.istore 5, 2, 0, 0, 0) := by decide +kernel
theorem op179_74 : rn_op 179 74 = some (.iconst 0, 1, 0, 0, 0) := by decide +kernel
theorem op179_75 : rn_op 179 75 = some (.istore 6, 2, 0, 0, 0) := by decide +kernel
theorem op179_77 : rn_op 179 77 = some (.iload 6, 2, 0, 0, 0) := by decide +kernel
theorem op179_79 : rn_op 179 79 = some (.iload_n 3, 1, 0, 0, 0) := by decide +kernel
theorem op179_80 : rn_op 179 80 = some (.if_icmp .ge 31, 3, 0, 0, 0) := by decide +kernel
theorem op179_83 : rn_op 179 83 = some (.iload 5, 2, 0, 0, 0) := by decide +kernel
theorem op179_85 : rn_op 179 85 = some (.aload_n 0, 1, 0, 0, 0) := by decide +kernel
theorem op179_86 : rn_op 179 86 = some (.getfield 46, 3, 11, 25, 3) := by decide +kernel
theorem op179_89 : rn_op 179 89 = some (.iload 6, 2, 0, 0, 0) := by decide +kernel
theorem op179_91 : rn_op 179 91 = some (.iaload, 1, 0, 0, 0) := by decide +kernel
theorem op179_92 : rn_op 179 92 = some (.iload 4, 2, 0, 0, 0) := by decide +kernel
theorem op179_94 : rn_op 179 94 = some (.if_icmp .ne 7, 3, 0, 0, 0) := by decide +kernel
theorem op179_97 : rn_op 179 97 = some (.iconst 1, 1, 0, 0, 0) := by decide +kernel
theorem op179_98 : rn_op 179 98 = some (.goto 4, 3, 0, 0, 0) := by decide +kernel
theorem op179_101 : rn_op 179 101 = some (.iconst 0, 1, 0, 0, 0) := by decide +kernel
theorem op179_102 : rn_op 179 102 = some (.iadd, 1, 0, 0, 0) := by decide +kernel
theorem op179_103 : rn_op 179 103 = some (.istore 5, 2, 0, 0, 0) := by decide +kernel
theorem op179_105 : rn_op 179 105 = some (.iinc 6 1, 3, 0, 0, 0) := by decide +kernel
theorem op179_108 : rn_op 179 108 = some (.goto (-31), 3, 0, 0, 0) := by decide +kernel
theorem op179_111 : rn_op 179 111 = some (.aload_n 0, 1, 0, 0, 0) := by decide +kernel
theorem op179_112 : rn_op 179 112 = some (.getfield 200, 3, 11, 7, 0) := by decide +kernel
theorem op179_115 : rn_op 179 115 = some (.iload 4, 2, 0, 0, 0) := by decide +kernel
theorem op179_117 : rn_op 179 117 = some (.if_icmp .ne 28, 3, 0, 0, 0) := by decide +kernel
theorem op179_120 : rn_op 179 120 = some (.aload_n 0, 1, 0, 0, 0) := by decide +kernel
theorem op179_121 : rn_op 179 121 = some (.getfield 7, 3, 11, 0, 3) := by decide +kernel
theorem op179_124 : rn_op 179 124 = some (.bipush 12, 2, 0, 0, 0) := by decide +kernel
theorem op179_126 : rn_op 179 126 = some (.iload 4, 2, 0, 0, 0) := by decide +kernel
theorem op179_128 : rn_op 179 128 = some (.iadd, 1, 0, 0, 0) := by decide +kernel
theorem op179_129 : rn_op 179 129 = some (.iaload, 1, 0, 0, 0) := by decide +kernel
theorem op179_130 : rn_op 179 130 = some (.aload_n 0, 1, 0, 0, 0) := by decide +kernel
theorem op179_131 : rn_op 179 131 = some (.getfield 7, 3, 11, 0, 3) := by decide +kernel
theorem op179_134 : rn_op 179 134 = some (.iconst 1, 1, 0, 0, 0) := by decide +kernel
theorem op179_135 : rn_op 179 135 = some (.iaload, 1, 0, 0, 0) := by decide +kernel
theorem op179_136 : rn_op 179 136 = some (.idiv, 1, 0, 0, 0) := by decide +kernel
theorem op179_137 : rn_op 179 137 = some (.iconst 1, 1, 0, 0, 0) := by decide +kernel
theorem op179_138 : rn_op 179 138 = some (.isub, 1, 0, 0, 0) := by decide +kernel
theorem op179_139 : rn_op 179 139 = some (.iload 5, 2, 0, 0, 0) := by decide +kernel
theorem op179_141 : rn_op 179 141 = some (.isub, 1, 0, 0, 0) := by decide +kernel
theorem op179_142 : rn_op 179 142 = some (.goto 5, 3, 0, 0, 0) := by decide +kernel
theorem op179_145 : rn_op 179 145 = some (.iload 5, 2, 0, 0, 0) := by decide +kernel
theorem op179_147 : rn_op 179 147 = some (.istore 5, 2, 0, 0, 0) := by decide +kernel
theorem op179_149 : rn_op 179 149 = some (.iconst 0, 1, 0, 0, 0) := by decide +kernel
theorem op179_150 : rn_op 179 150 = some (.istore 6, 2, 0, 0, 0) := by decide +kernel
theorem op179_152 : rn_op 179 152 = some (.iload 6, 2, 0, 0, 0) := by decide +kernel
theorem op179_154 : rn_op 179 154 = some (.aload_n 0, 1, 0, 0, 0) := by decide +kernel
theorem op179_155 : rn_op 179 155 = some (.getfield 7, 3, 11, 0, 3) := by decide +kernel
theorem op179_158 : rn_op 179 158 = some (.iconst 1, 1, 0, 0, 0) := by decide +kernel
theorem op179_159 : rn_op 179 159 = some (.iaload, 1, 0, 0, 0) := by decide +kernel
theorem op179_160 : rn_op 179 160 = some (.if_icmp .ge 55, 3, 0, 0, 0) := by decide +kernel
theorem op179_163 : rn_op 179 163 = some (.aload_n 0, 1, 0, 0, 0) := by decide +kernel
theorem op179_164 : rn_op 179 164 = some (.getfield 43, 3, 11, 24, 3) := by decide +kernel
theorem op179_167 : rn_op 179 167 = some (.bipush 12, 2, 0, 0, 0) := by decide +kernel
theorem op179_169 : rn_op 179 169 = some (.iload 4, 2, 0, 0, 0) := by decide +kernel
theorem op179_171 : rn_op 179 171 = some (.imul, 1, 0, 0, 0) := by decide +kernel
theorem op179_172 : rn_op 179 172 = some (.aload_n 0, 1, 0, 0, 0) := by decide +kernel
theorem op179_173 : rn_op 179 173 = some (.getfield 7, 3, 11, 0, 3) := by decide +kernel
theorem op179_176 : rn_op 179 176 = some (.iconst 1, 1, 0, 0, 0) := by decide +kernel
theorem op179_177 : rn_op 179 177 = some (.iaload, 1, 0, 0, 0) := by decide +kernel
theorem op179_178 : rn_op 179 178 = some (.iload 5, 2, 0, 0, 0) := by decide +kernel
theorem op179_180 : rn_op 179 180 = some (.imul, 1, 0, 0, 0) := by decide +kernel
theorem op179_181 : rn_op 179 181 = some (.iadd, 1, 0, 0, 0) := by decide +kernel
theorem op179_182 : rn_op 179 182 = some (.iload 6, 2, 0, 0, 0) := by decide +kernel
theorem op179_184 : rn_op 179 184 = some (.iadd, 1, 0, 0, 0) := by decide +kernel
theorem op179_185 : rn_op 179 185 = some (.iaload, 1, 0, 0, 0) := by decide +kernel
theorem op179_186 : rn_op 179 186 = some (.istore 7, 2, 0, 0, 0) := by decide +kernel
theorem op179_188 : rn_op 179 188 = some (.aload_n 0, 1, 0, 0, 0) := by decide +kernel
theorem op179_189 : rn_op 179 189 = some (.getfield 52, 3, 11, 27, 3) := by decide +kernel
theorem op179_192 : rn_op 179 192 = some (.iconst 4, 1, 0, 0, 0) := by decide +kernel
theorem op179_193 : rn_op 179 193 = some (.iload_n 3, 1, 0, 0, 0) := by decide +kernel
theorem op179_194 : rn_op 179 194 = some (.imul, 1, 0, 0, 0) := by decide +kernel
theorem op179_195 : rn_op 179 195 = some (.iload 6, 2, 0, 0, 0) := by decide +kernel
theorem op179_197 : rn_op 179 197 = some (.iadd, 1, 0, 0, 0) := by decide +kernel
theorem op179_198 : rn_op 179 198 = some (.iload 7, 2, 0, 0, 0) := by decide +kernel
theorem op179_200 : rn_op 179 200 = some (.iastore, 1, 0, 0, 0) := by decide +kernel
theorem op179_201 : rn_op 179 201 = some (.aload_n 0, 1, 0, 0, 0) := by decide +kernel
theorem op179_202 : rn_op 179 202 = some (.getfield 73, 3, 11, 34, 3) := by decide +kernel
theorem op179_205 : rn_op 179 205 = some (.iload 7, 2, 0, 0, 0) := by decide +kernel
theorem op179_207 : rn_op 179 207 = some (.iload_n 3, 1, 0, 0, 0) := by decide +kernel
theorem op179_208 : rn_op 179 208 = some (.iastore, 1, 0, 0, 0) := by decide +kernel
theorem op179_209 : rn_op 179 209 = some (.iinc 6 1, 3, 0, 0, 0) := by decide +kernel
theorem op179_212 : rn_op 179 212 = some (.goto (-60), 3, 0, 0, 0) := by decide +kernel
theorem op179_215 : rn_op 179 215 = some (.aload_n 0, 1, 0, 0, 0) := by decide +kernel
theorem op179_216 : rn_op 179 216 = some (.getfield 58, 3, 11, 29, 3) := by decide +kernel
theorem op179_219 : rn_op 179 219 = some (.iload_n 3, 1, 0, 0, 0) := by decide +kernel
theorem op179_220 : rn_op 179 220 = some (.iconst 0, 1, 0, 0, 0) := by decide +kernel
theorem op179_221 : rn_op 179 221 = some (.iastore, 1, 0, 0, 0) := by decide +kernel
theorem op179_222 : rn_op 179 222 = some (.iconst 0, 1, 0, 0, 0) := by decide +kernel
theorem op179_223 : rn_op 179 223 = some (.istore 6, 2, 0, 0, 0) := by decide +kernel
theorem op179_225 : rn_op 179 225 = some (.iload 6, 2, 0, 0, 0) := by decide +kernel
theorem op179_227 : rn_op 179 227 = some (.aload_n 0, 1, 0, 0, 0) := by decide +kernel
theorem op179_228 : rn_op 179 228 = some (.getfield 7, 3, 11, 0, 3) := by decide +kernel
theorem op179_231 : rn_op 179 231 = some (.bipush 7, 2, 0, 0, 0) := by decide +kernel
theorem op179_233 : rn_op 179 233 = some (.iaload, 1, 0, 0, 0) := by decide +kernel
theorem op179_234 : rn_op 179 234 = some (.iconst 1, 1, 0, 0, 0) := by decide +kernel
theorem op179_235 : rn_op 179 235 = some (.if_icmp .ne 15, 3, 0, 0, 0) := by decide +kernel
theorem op179_238 : rn_op 179 238 = some (.aload_n 0, 1, 0, 0, 0) := by decide +kernel
theorem op179_239 : rn_op 179 239 = some (.getfield 7, 3, 11, 0, 3) := by decide +kernel
theorem op179_242 : rn_op 179 242 = some (.iconst 1, 1, 0, 0, 0) := by decide +kernel
theorem op179_243 : rn_op 179 243 = some (.iaload, 1, 0, 0, 0) := by decide +kernel
theorem op179_244 : rn_op 179 244 = some (.invokestatic 232, 3, 175, 1, 0) := by decide +kernel
theorem op179_247 : rn_op 179 247 = some (.goto 4, 3, 0, 0, 0) := by decide +kernel
theorem op179_250 : rn_op 179 250 = some (.iconst 1, 1, 0, 0, 0) := by decide +kernel
theorem op179_251 : rn_op 179 251 = some (.if_icmp .ge 124, 3, 0, 0, 0) := by decide +kernel
theorem op179_254 : rn_op 179 254 = some (.iconst 0, 1, 0, 0, 0) := by decide +kernel
theorem op179_255 : rn_op 179 255 = some (.istore 7, 2, 0, 0, 0) := by decide +kernel
theorem op179_257 : rn_op 179 257 = some (.iload 7, 2, 0, 0, 0) := by decide +kernel
theorem op179_259 : rn_op 179 259 = some (.aload_n 0, 1, 0, 0, 0) := by decide +kernel
theorem op179_260 : rn_op 179 260 = some (.getfield 7, 3, 11, 0, 3) := by decide +kernel
theorem op179_263 : rn_op 179 263 = some (.iconst 1, 1, 0, 0, 0) := by decide +kernel
theorem op179_264 : rn_op 179 264 = some (.iaload, 1, 0, 0, 0) := by decide +kernel
theorem op179_265 : rn_op 179 265 = some (.if_icmp .ge 38, 3, 0, 0, 0) := by decide +kernel
theorem op179_268 : rn_op 179 268 = some (.aload_n 0, 1, 0, 0, 0) := by decide +kernel
theorem op179_269 : rn_op 179 269 = some (.getfield 19, 3, 11, 5, 3) := by decide +kernel
theorem op179_272 : rn_op 179 272 = some (.iload 7, 2, 0, 0, 0) := by decide +kernel
theorem op179_274 : rn_op 179 274 = some (.aload_n 0, 1, 0, 0, 0) := by decide +kernel
theorem op179_275 : rn_op 179 275 = some (.getfield 52, 3, 11, 27, 3) := by decide +kernel
theorem op179_278 : rn_op 179 278 = some (.iconst 4, 1, 0, 0, 0) := by decide +kernel
theorem op179_279 : rn_op 179 279 = some (.iload_n 3, 1, 0, 0, 0) := by decide +kernel
theorem op179_280 : rn_op 179 280 = some (.imul, 1, 0, 0, 0) := by decide +kernel
theorem op179_281 : rn_op 179 281 = some (.aload_n 0, 1, 0, 0, 0) := by decide +kernel
theorem op179_282 : rn_op 179 282 = some (.getfield 7, 3, 11, 0, 3) := by decide +kernel
theorem op179_285 : rn_op 179 285 = some (.iconst 1, 1, 0, 0, 0) := by decide +kernel
theorem op179_286 : rn_op 179 286 = some (.iaload, 1, 0, 0, 0) := by decide +kernel
theorem op179_287 : rn_op 179 287 = some (.iload 6, 2, 0, 0, 0) := by decide +kernel
theorem op179_289 : rn_op 179 289 = some (.iload 7, 2, 0, 0, 0) := by decide +kernel
theorem op179_291 : rn_op 179 291 = some (.invokestatic 238, 3, 177, 3, 0) := by decide +kernel
theorem op179_294 : rn_op 179 294 = some (.iadd, 1, 0, 0, 0) := by decide +kernel
theorem op179_295 : rn_op 179 295 = some (.iaload, 1, 0, 0, 0) := by decide +kernel
theorem op179_296 : rn_op 179 296 = some (.iastore, 1, 0, 0, 0) := by decide +kernel
theorem op179_297 : rn_op 179 297 = some (.iinc 7 1, 3, 0, 0, 0) := by decide +kernel
theorem op179_300 : rn_op 179 300 = some (.goto (-43), 3, 0, 0, 0) := by decide +kernel
theorem op179_303 : rn_op 179 303 = some (.aload_n 0, 1, 0, 0, 0) := by decide +kernel
theorem op179_304 : rn_op 179 304 = some (.getfield 49, 3, 11, 26, 3) := by decide +kernel
theorem op179_307 : rn_op 179 307 = some (.iload_n 3, 1, 0, 0, 0) := by decide +kernel
theorem op179_308 : rn_op 179 308 = some (.iaload, 1, 0, 0, 0) := by decide +kernel
theorem op179_309 : rn_op 179 309 = some (.aload_n 0, 1, 0, 0, 0) := by decide +kernel
theorem op179_310 : rn_op 179 310 = some (.aload_n 0, 1, 0, 0, 0) := by decide +kernel
theorem op179_311 : rn_op 179 311 = some (.getfield 19, 3, 11, 5, 3) := by decide +kernel
theorem op179_314 : rn_op 179 314 = some (.iconst 0, 1, 0, 0, 0) := by decide +kernel
theorem op179_315 : rn_op 179 315 = some (.aload_n 0, 1, 0, 0, 0) := by decide +kernel
theorem op179_316 : rn_op 179 316 = some (.getfield 7, 3, 11, 0, 3) := by decide +kernel
theorem op179_319 : rn_op 179 319 = some (.iconst 1, 1, 0, 0, 0) := by decide +kernel
theorem op179_320 : rn_op 179 320 = some (.iaload, 1, 0, 0, 0) := by decide +kernel
theorem op179_321 : rn_op 179 321 = some (.aload_n 0, 1, 0, 0, 0) := by decide +kernel
theorem op179_322 : rn_op 179 322 = some (.getfield 203, 3, 11, 8, 0) := by decide +kernel
theorem op179_325 : rn_op 179 325 = some (.invokevirtual 193, 3, 161, 5, 11) := by decide +kernel
theorem op179_328 : rn_op 179 328 = some (.iadd, 1, 0, 0, 0) := by decide +kernel
theorem op179_329 : rn_op 179 329 = some (.aload_n 0, 1, 0, 0, 0) := by decide +kernel
theorem op179_330 : rn_op 179 330 = some (.getfield 7, 3, 11, 0, 3) := by decide +kernel
theorem op179_333 : rn_op 179 333 = some (.iconst 1, 1, 0, 0, 0) := by decide +kernel
theorem op179_334 : rn_op 179 334 = some (.iaload, 1, 0, 0, 0) := by decide +kernel
theorem op179_335 : rn_op 179 335 = some (.irem, 1, 0, 0, 0) := by decide +kernel
theorem op179_336 : rn_op 179 336 = some (.iload 4, 2, 0, 0, 0) := by decide +kernel
theorem op179_338 : rn_op 179 338 = some (.if_icmp .ne 31, 3, 0, 0, 0) := by decide +kernel
theorem op179_341 : rn_op 179 341 = some (.aload_n 0, 1, 0, 0, 0) := by decide +kernel
theorem op179_342 : rn_op 179 342 = some (.getfield 55, 3, 11, 28, 3) := by decide +kernel
theorem op179_345 : rn_op 179 345 = some (.bipush 24, 2, 0, 0, 0) := by decide +kernel
theorem op179_347 : rn_op 179 347 = some (.iload_n 3, 1, 0, 0, 0) := by decide +kernel
theorem op179_348 : rn_op 179 348 = some (.imul, 1, 0, 0, 0) := by decide +kernel
theorem op179_349 : rn_op 179 349 = some (.aload_n 0, 1, 0, 0, 0) := by decide +kernel
theorem op179_350 : rn_op 179 350 = some (.getfield 58, 3, 11, 29, 3) := by decide +kernel
theorem op179_353 : rn_op 179 353 = some (.iload_n 3, 1, 0, 0, 0) := by decide +kernel
theorem op179_354 : rn_op 179 354 = some (.iaload, 1, 0, 0, 0) := by decide +kernel
theorem op179_355 : rn_op 179 355 = some (.iadd, 1, 0, 0, 0) := by decide +kernel
theorem op179_356 : rn_op 179 356 = some (.iload 6, 2, 0, 0, 0) := by decide +kernel
theorem op179_358 : rn_op 179 358 = some (.iastore, 1, 0, 0, 0) := by decide +kernel
theorem op179_359 : rn_op 179 359 = some (.aload_n 0, 1, 0, 0, 0) := by decide +kernel
theorem op179_360 : rn_op 179 360 = some (.getfield 58, 3, 11, 29, 3) := by decide +kernel
theorem op179_363 : rn_op 179 363 = some (.iload_n 3, 1, 0, 0, 0) := by decide +kernel
theorem op179_364 : rn_op 179 364 = some (.dup2, 1, 0, 0, 0) := by decide +kernel
theorem op179_365 : rn_op 179 365 = some (.iaload, 1, 0, 0, 0) := by decide +kernel
theorem op179_366 : rn_op 179 366 = some (.iconst 1, 1, 0, 0, 0) := by decide +kernel
theorem op179_367 : rn_op 179 367 = some (.iadd, 1, 0, 0, 0) := by decide +kernel
theorem op179_368 : rn_op 179 368 = some (.iastore, 1, 0, 0, 0) := by decide +kernel
theorem op179_369 : rn_op 179 369 = some (.iinc 6 1, 3, 0, 0, 0) := by decide +kernel
theorem op179_372 : rn_op 179 372 = some (.goto (-147), 3, 0, 0, 0) := by decide +kernel
theorem op179_375 : rn_op 179 375 = some (.iload_n 2, 1, 0, 0, 0) := by decide +kernel
theorem op179_376 : rn_op 179 376 = some (.ifCond .eq 16, 3, 0, 0, 0) := by decide +kernel
theorem op179_379 : rn_op 179 379 = some (.aload_n 0, 1, 0, 0, 0) := by decide +kernel
theorem op179_380 : rn_op 179 380 = some (.getfield 58, 3, 11, 29, 3) := by decide +kernel
theorem op179_383 : rn_op 179 383 = some (.iload_n 3, 1, 0, 0, 0) := by decide +kernel
theorem op179_384 : rn_op 179 384 = some (.iaload, 1, 0, 0, 0) := by decide +kernel
theorem op179_385 : rn_op 179 385 = some (.ifCond .le 7, 3, 0, 0, 0) := by decide +kernel
theorem op179_388 : rn_op 179 388 = some (.iconst 1, 1, 0, 0, 0) := by decide +kernel
theorem op179_389 : rn_op 179 389 = some (.goto 4, 3, 0, 0, 0) := by decide +kernel
theorem op179_392 : rn_op 179 392 = some (.iconst 0, 1, 0, 0, 0) := by decide +kernel
theorem op179_393 : rn_op 179 393 = some (.istore_n 2, 1, 0, 0, 0) := by decide +kernel
theorem op179_394 : rn_op 179 394 = some (.iinc 3 1, 3, 0, 0, 0) := by decide +kernel
theorem op179_397 : rn_op 179 397 = some (.goto (-393), 3, 0, 0, 0) := by decide +kernel
theorem op179_400 : rn_op 179 400 = some (.iload_n 2, 1, 0, 0, 0) := by decide +kernel
theorem op179_401 : rn_op 179 401 = some (.ifCond .eq 14, 3, 0, 0, 0) := by decide +kernel
theorem op179_404 : rn_op 179 404 = some (.aload_n 0, 1, 0, 0, 0) := by decide +kernel
theorem op179_405 : rn_op 179 405 = some (.invokevirtual 248, 3, 180, 1, 11) := by decide +kernel
theorem op179_408 : rn_op 179 408 = some (.ifCond .eq 7, 3, 0, 0, 0) := by decide +kernel
theorem op179_411 : rn_op 179 411 = some (.aload_n 0, 1, 0, 0, 0) := by decide +kernel
theorem op179_412 : rn_op 179 412 = some (.invokevirtual 251, 3, 181, 1, 11) := by decide +kernel
theorem op179_415 : rn_op 179 415 = some (.return_, 1, 0, 0, 0) := by decide +kernel
def mo_findOrders_l77 (a1 : Int32) (a2 : Int32) (a3 : Int32) (a4 : Int32) : Nat → Int32 → Int32 → rn_Mem → Option (Int32 × rn_Mem)
  | 0, _, _, _ => none
  | n + 1, a5, a6, m =>
    if a6 < a3 then
      if rn_in a6 4 = true then
        (show Option (Int32) from
          if (m.1 128 a6.toNatClampNeg) = a4 then
            some (1)
          else
            some (0)).bind fun x20 =>
        (some (a5 + x20)).bind fun (x21 : Int32) =>
        (some (a6 + 1)).bind fun (x22 : Int32) =>
        mo_findOrders_l77 a1 a2 a3 a4 n x21 x22 m
      else none
    else
      some (a5, m)
def mo_findOrders_l152 (a1 : Int32) (a2 : Int32) (a3 : Int32) (a4 : Int32) (a5 : Int32) : Nat → Int32 → rn_Mem → Option (rn_Mem)
  | 0, _, _ => none
  | n + 1, a6, m =>
    if a6 < (m.1 116 1) then
      if rn_in ((((12 : Int32) * a4) + ((m.1 116 1) * a5)) + a6) 48 = true then
        (some (m.1 127 ((((12 : Int32) * a4) + ((m.1 116 1) * a5)) + a6).toNatClampNeg)).bind fun (x37 : Int32) =>
        if rn_in (((4 : Int32) * a3) + a6) 16 = true then
          (some (rm_i m 130 (((4 : Int32) * a3) + a6).toNatClampNeg x37)).bind fun (m38 : rn_Mem) =>
          if rn_in x37 16 = true then
            (some (rm_i m38 137 x37.toNatClampNeg a3)).bind fun (m40 : rn_Mem) =>
            (some (a6 + 1)).bind fun (x42 : Int32) =>
            mo_findOrders_l152 a1 a2 a3 a4 a5 n x42 m40
          else none
        else none
      else none
    else
      some m
def mo_findOrders_l257 (a1 : Int32) (a2 : Int32) (a3 : Int32) (a4 : Int32) (a6 : Int32) : Nat → Int32 → rn_Mem → Option (rn_Mem)
  | 0, _, _ => none
  | n + 1, a7, m =>
    if a7 < (m.1 116 1) then
      (mo_ordered n (m.1 116 1) a6 a7 m).bind fun (r61, m60) =>
      if rn_in (((4 : Int32) * a3) + r61) 16 = true then
        if rn_in a7 4 = true then
          (some (rm_i m60 119 a7.toNatClampNeg (m60.1 130 (((4 : Int32) * a3) + r61).toNatClampNeg))).bind fun (m64 : rn_Mem) =>
          (some (a7 + 1)).bind fun (x66 : Int32) =>
          mo_findOrders_l257 a1 a2 a3 a4 a6 n x66 m64
        else none
      else none
    else
      some m
def mo_findOrders_l225 (a1 : Int32) (a2 : Int32) (a3 : Int32) (a4 : Int32) : Nat → Int32 → rn_Mem → Option (rn_Mem)
  | 0, _, _ => none
  | n + 1, a6, m =>
    (show Option (Int32 × rn_Mem) from
      if (m.1 116 7) = 1 then
        (mo_ordersOf n (m.1 116 1) m).bind fun (r52, m51) =>
        some (r52, m51)
      else
        some (1, m)).bind fun (x56, m57) =>
    if a6 < x56 then
      (mo_findOrders_l257 a1 a2 a3 a4 a6 n 0 m57).bind fun m67 =>
      if rn_in a3 4 = true then
        (mo_winning n 119 0 (m67.1 116 1) (m67.1 115 8) m67).bind fun (r72, m71) =>
        if ¬ (m71.1 116 1) = 0 then
          (show Option (rn_Mem) from
            if (rn_rem ((m67.1 129 a3.toNatClampNeg) + r72) (m71.1 116 1)) = a4 then
              if rn_in a3 4 = true then
                if rn_in (((24 : Int32) * a3) + (m71.1 132 a3.toNatClampNeg)) 96 = true then
                  (some (rm_i m71 131 (((24 : Int32) * a3) + (m71.1 132 a3.toNatClampNeg)).toNatClampNeg a6)).bind fun (m77 : rn_Mem) =>
                  if rn_in a3 4 = true then
                    if rn_in a3 4 = true then
                      (some (rm_i m77 132 a3.toNatClampNeg ((m77.1 132 a3.toNatClampNeg) + 1))).bind fun (m80 : rn_Mem) =>
                      some (m80)
                    else none
                  else none
                else none
              else none
            else
              some (m71)).bind fun m84 =>
          (some (a6 + 1)).bind fun (x85 : Int32) =>
          mo_findOrders_l225 a1 a2 a3 a4 n x85 m84
        else none
      else none
    else
      some m57
def mo_findOrders_l4 (a1 : Int32) : Nat → Int32 → Int32 → rn_Mem → Option (Int32 × rn_Mem)
  | 0, _, _, _ => none
  | n + 1, a2, a3, m =>
    if a3 < (m.1 116 2) then
      if rn_in a3 4 = true then
        (some (m.1 128 a3.toNatClampNeg)).bind fun (x3 : Int32) =>
        (show Option (Int32) from
          if a3 = 0 then
            some (a1)
          else
            if (m.1 115 10) = 0 then
              if rn_in (a3 - 1) 4 = true then
                some (m.1 128 (a3 - 1).toNatClampNeg)
              else none
            else
              if rn_in (a3 - 1) 4 = true then
                if ¬ (m.1 116 1) = 0 then
                  some (rn_rem ((m.1 129 (a3 - 1).toNatClampNeg) + 1) (m.1 116 1))
                else none
              else none).bind fun x12 =>
        if rn_in a3 4 = true then
          (some (rm_i m 129 a3.toNatClampNeg x12)).bind fun (m13 : rn_Mem) =>
          (mo_findOrders_l77 a1 a2 a3 x3 n 0 0 m13).bind fun (x25, m24) =>
          (show Option (Int32) from
            if (m24.1 115 7) = x3 then
              if rn_in ((12 : Int32) + x3) 101 = true then
                if ¬ (m24.1 116 1) = 0 then
                  some ((((m24.1 116 ((12 : Int32) + x3).toNatClampNeg) / (m24.1 116 1)) - 1) - x25)
                else none
              else none
            else
              some (x25)).bind fun x34 =>
          (mo_findOrders_l152 a1 a2 a3 x3 x34 n 0 m24).bind fun m43 =>
          if rn_in a3 4 = true then
            (some (rm_i m43 132 a3.toNatClampNeg 0)).bind fun (m47 : rn_Mem) =>
            (mo_findOrders_l225 a1 a2 a3 x3 n 0 m47).bind fun m90 =>
            (show Option (Int32) from
              if a2 = 0 then
                some (0)
              else
                if rn_in a3 4 = true then
                  if 0 < (m90.1 132 a3.toNatClampNeg) then
                    some (1)
                  else
                    some (0)
                else none).bind fun x103 =>
            (some (a3 + 1)).bind fun (x104 : Int32) =>
            mo_findOrders_l4 a1 n x103 x104 m90
          else none
        else none
      else none
    else
      some (a2, m)
def mo_findOrders (n : Nat) (a1 : Int32) (m : rn_Mem) : Option (rn_Mem) :=
  (mo_findOrders_l4 a1 n 1 0 m).bind fun (x113, m111) =>
  if x113 = 0 then
    some m111
  else
    (mo_cluesLetOrder n m111).bind fun (r121, m120) =>
    if r121 = 0 then
      some m120
    else
      (mo_goBack n m120).bind fun m124 =>
      some m124
set_option maxHeartbeats 4000000 in
set_option maxRecDepth 20000 in
theorem mo_findOrders_l77_ok (xs : List Int32) {d : Nat} (hd : 4 ≤ d + 1) {a1 : Int32} {a2 : Int32} {a3 : Int32} {a4 : Int32} {r : Option Value} {τ : rn_H} {out : Int32 × rn_Mem} (hr : ∀ (z5 : Int32) (mO : rn_Mem), out = (z5, mO) → ∀ (o6 o7 : Option Value), rn_R xs (d + 1) 179 111 [some (.ref 115), some (.int a1), some (.int a2), some (.int a3), some (.int a4), some (.int z5), o6, o7] [] (rn_SH, mO) r τ) : ∀ (n : Nat) (a5 : Int32) (a6 : Int32) (o7 : Option Value) (m : rn_Mem), mo_findOrders_l77 a1 a2 a3 a4 n a5 a6 m = some out → rn_R xs (d + 1) 179 77 [some (.ref 115), some (.int a1), some (.int a2), some (.int a3), some (.int a4), some (.int a5), some (.int a6), o7] [] (rn_SH, m) r τ := by
  intro n
  induction n with
  | zero =>
    intro _ _ _ _ h
    cases h
  | succ n ih =>
    intro a5 a6 o7 m h
    unfold mo_findOrders_l77 at h
    try dsimp only at h
    refine rx_p (L2 := [some (.ref 115), some (.int a1), some (.int a2), some (.int a3), some (.int a4), some (.int a5), some (.int a6), o7]) (S2 := [.int a6]) (pc2 := 79) op179_77 rfl rfl ?_
    refine rx_p (L2 := [some (.ref 115), some (.int a1), some (.int a2), some (.int a3), some (.int a4), some (.int a5), some (.int a6), o7]) (S2 := [.int a3, .int a6]) (pc2 := 80) op179_79 rfl rfl ?_
    refine ry_ic_ge (tgt := 111) (pc2 := 83) op179_80 (by decide) (by decide) rfl (fun b15 => ?_) (fun b15 => ?_)
    · have h := (if_pos b15).symm.trans h
      refine rx_p (L2 := [some (.ref 115), some (.int a1), some (.int a2), some (.int a3), some (.int a4), some (.int a5), some (.int a6), o7]) (S2 := [.int a5]) (pc2 := 85) op179_83 rfl rfl ?_
      refine rx_p (L2 := [some (.ref 115), some (.int a1), some (.int a2), some (.int a3), some (.int a4), some (.int a5), some (.int a6), o7]) (S2 := [.ref 115, .int a5]) (pc2 := 86) op179_85 rfl rfl ?_
      refine rx_gf (v := .ref 128) (pc2 := 89) op179_86 sp_115 rfl rfl rfl ?_
      refine rx_p (L2 := [some (.ref 115), some (.int a1), some (.int a2), some (.int a3), some (.int a4), some (.int a5), some (.int a6), o7]) (S2 := [.int a6, .ref 128, .int a5]) (pc2 := 91) op179_89 rfl rfl ?_
      obtain ⟨k16, h⟩ := rq_chk h
      refine rx_ia (pc2 := 92) op179_91 (rn_shlt sp_128) sp_128 k16 rfl rfl ?_
      refine rx_p (L2 := [some (.ref 115), some (.int a1), some (.int a2), some (.int a3), some (.int a4), some (.int a5), some (.int a6), o7]) (S2 := [.int a4, .int (m.1 128 a6.toNatClampNeg), .int a5]) (pc2 := 94) op179_92 rfl rfl ?_
      obtain ⟨x20, gc23, h⟩ := rq_bind h
      try dsimp only at h
      have c23 : ∀ (o18 o19 : Option Value), rn_R xs (d + 1) 179 102 [some (.ref 115), some (.int a1), some (.int a2), some (.int a3), some (.int a4), o18, some (.int a6), o19] [.int x20, .int a5] (rn_SH, m) r τ := by
        intro o18 o19
        refine rx_p (L2 := [some (.ref 115), some (.int a1), some (.int a2), some (.int a3), some (.int a4), o18, some (.int a6), o19]) (S2 := [.int (a5 + x20)]) (pc2 := 103) op179_102 rfl rfl ?_
        obtain ⟨x21, ex21, h⟩ := rq_bv h
        refine rx_s (v := x21) (L2 := [some (.ref 115), some (.int a1), some (.int a2), some (.int a3), some (.int a4), some (.int x21), some (.int a6), o19]) (pc2 := 105) op179_103 ex21 rfl rfl ?_
        obtain ⟨x22, ex22, h⟩ := rq_bv h
        refine rx_inc (w := 1) (v := x22) (L2 := [some (.ref 115), some (.int a1), some (.int a2), some (.int a3), some (.int a4), some (.int x21), some (.int x22), o19]) (pc2 := 108) op179_105 rfl (by decide) ex22 rfl rfl ?_
        refine ry_go (tgt := 77) op179_108 (by decide) (by decide) ?_
        exact ih _ _ _ _ h
      refine ry_ic_ne (tgt := 101) (pc2 := 97) op179_94 (by decide) (by decide) rfl (fun b17 => ?_) (fun b17 => ?_)
      · have gc23 := (if_pos b17).symm.trans gc23
        refine rx_ic (v := 1) (pc2 := 98) op179_97 (by decide) rfl ?_
        refine ry_go (tgt := 102) op179_98 (by decide) (by decide) ?_
        cases gc23
        exact c23 _ _
      · have gc23 := (if_neg b17).symm.trans gc23
        refine rx_ic (v := 0) (pc2 := 102) op179_101 (by decide) rfl ?_
        cases gc23
        exact c23 _ _
    · have h := (if_neg b15).symm.trans h
      cases h
      exact hr _ _ rfl _ _
set_option maxHeartbeats 4000000 in
set_option maxRecDepth 20000 in
theorem mo_findOrders_l152_ok (xs : List Int32) {d : Nat} (hd : 4 ≤ d + 1) {a1 : Int32} {a2 : Int32} {a3 : Int32} {a4 : Int32} {a5 : Int32} {r : Option Value} {τ : rn_H} {out : rn_Mem} (hr : ∀ (mO : rn_Mem), out = mO → ∀ (o5 o6 o7 : Option Value), rn_R xs (d + 1) 179 215 [some (.ref 115), some (.int a1), some (.int a2), some (.int a3), some (.int a4), o5, o6, o7] [] (rn_SH, mO) r τ) : ∀ (n : Nat) (a6 : Int32) (o7 : Option Value) (m : rn_Mem), mo_findOrders_l152 a1 a2 a3 a4 a5 n a6 m = some out → rn_R xs (d + 1) 179 152 [some (.ref 115), some (.int a1), some (.int a2), some (.int a3), some (.int a4), some (.int a5), some (.int a6), o7] [] (rn_SH, m) r τ := by
  intro n
  induction n with
  | zero =>
    intro _ _ _ h
    cases h
  | succ n ih =>
    intro a6 o7 m h
    unfold mo_findOrders_l152 at h
    try dsimp only at h
    refine rx_p (L2 := [some (.ref 115), some (.int a1), some (.int a2), some (.int a3), some (.int a4), some (.int a5), some (.int a6), o7]) (S2 := [.int a6]) (pc2 := 154) op179_152 rfl rfl ?_
    refine rx_p (L2 := [some (.ref 115), some (.int a1), some (.int a2), some (.int a3), some (.int a4), some (.int a5), some (.int a6), o7]) (S2 := [.ref 115, .int a6]) (pc2 := 155) op179_154 rfl rfl ?_
    refine rx_gf (v := .ref 116) (pc2 := 158) op179_155 sp_115 rfl rfl rfl ?_
    refine rx_ic (v := 1) (pc2 := 159) op179_158 (by decide) rfl ?_
    refine rx_ia (j := 1) (pc2 := 160) op179_159 (rn_shlt sp_116) sp_116 (by decide) (by decide) rfl ?_
    refine ry_ic_ge (tgt := 215) (pc2 := 163) op179_160 (by decide) (by decide) rfl (fun b35 => ?_) (fun b35 => ?_)
    · have h := (if_pos b35).symm.trans h
      refine rx_p (L2 := [some (.ref 115), some (.int a1), some (.int a2), some (.int a3), some (.int a4), some (.int a5), some (.int a6), o7]) (S2 := [.ref 115]) (pc2 := 164) op179_163 rfl rfl ?_
      refine rx_gf (v := .ref 127) (pc2 := 167) op179_164 sp_115 rfl rfl rfl ?_
      refine rx_bp (v := 12) (pc2 := 169) op179_167 (by decide) rfl ?_
      refine rx_p (L2 := [some (.ref 115), some (.int a1), some (.int a2), some (.int a3), some (.int a4), some (.int a5), some (.int a6), o7]) (S2 := [.int a4, .int 12, .ref 127]) (pc2 := 171) op179_169 rfl rfl ?_
      refine rx_p (L2 := [some (.ref 115), some (.int a1), some (.int a2), some (.int a3), some (.int a4), some (.int a5), some (.int a6), o7]) (S2 := [.int ((12 : Int32) * a4), .ref 127]) (pc2 := 172) op179_171 rfl rfl ?_
      refine rx_p (L2 := [some (.ref 115), some (.int a1), some (.int a2), some (.int a3), some (.int a4), some (.int a5), some (.int a6), o7]) (S2 := [.ref 115, .int ((12 : Int32) * a4), .ref 127]) (pc2 := 173) op179_172 rfl rfl ?_
      refine rx_gf (v := .ref 116) (pc2 := 176) op179_173 sp_115 rfl rfl rfl ?_
      refine rx_ic (v := 1) (pc2 := 177) op179_176 (by decide) rfl ?_
      refine rx_ia (j := 1) (pc2 := 178) op179_177 (rn_shlt sp_116) sp_116 (by decide) (by decide) rfl ?_
      refine rx_p (L2 := [some (.ref 115), some (.int a1), some (.int a2), some (.int a3), some (.int a4), some (.int a5), some (.int a6), o7]) (S2 := [.int a5, .int (m.1 116 1), .int ((12 : Int32) * a4), .ref 127]) (pc2 := 180) op179_178 rfl rfl ?_
      refine rx_p (L2 := [some (.ref 115), some (.int a1), some (.int a2), some (.int a3), some (.int a4), some (.int a5), some (.int a6), o7]) (S2 := [.int ((m.1 116 1) * a5), .int ((12 : Int32) * a4), .ref 127]) (pc2 := 181) op179_180 rfl rfl ?_
      refine rx_p (L2 := [some (.ref 115), some (.int a1), some (.int a2), some (.int a3), some (.int a4), some (.int a5), some (.int a6), o7]) (S2 := [.int (((12 : Int32) * a4) + ((m.1 116 1) * a5)), .ref 127]) (pc2 := 182) op179_181 rfl rfl ?_
      refine rx_p (L2 := [some (.ref 115), some (.int a1), some (.int a2), some (.int a3), some (.int a4), some (.int a5), some (.int a6), o7]) (S2 := [.int a6, .int (((12 : Int32) * a4) + ((m.1 116 1) * a5)), .ref 127]) (pc2 := 184) op179_182 rfl rfl ?_
      refine rx_p (L2 := [some (.ref 115), some (.int a1), some (.int a2), some (.int a3), some (.int a4), some (.int a5), some (.int a6), o7]) (S2 := [.int ((((12 : Int32) * a4) + ((m.1 116 1) * a5)) + a6), .ref 127]) (pc2 := 185) op179_184 rfl rfl ?_
      obtain ⟨k36, h⟩ := rq_chk h
      refine rx_ia (pc2 := 186) op179_185 (rn_shlt sp_127) sp_127 k36 rfl rfl ?_
      obtain ⟨x37, ex37, h⟩ := rq_bv h
      refine rx_s (v := x37) (L2 := [some (.ref 115), some (.int a1), some (.int a2), some (.int a3), some (.int a4), some (.int a5), some (.int a6), some (.int x37)]) (pc2 := 188) op179_186 ex37 rfl rfl ?_
      refine rx_p (L2 := [some (.ref 115), some (.int a1), some (.int a2), some (.int a3), some (.int a4), some (.int a5), some (.int a6), some (.int x37)]) (S2 := [.ref 115]) (pc2 := 189) op179_188 rfl rfl ?_
      refine rx_gf (v := .ref 130) (pc2 := 192) op179_189 sp_115 rfl rfl rfl ?_
      refine rx_ic (v := 4) (pc2 := 193) op179_192 (by decide) rfl ?_
      refine rx_p (L2 := [some (.ref 115), some (.int a1), some (.int a2), some (.int a3), some (.int a4), some (.int a5), some (.int a6), some (.int x37)]) (S2 := [.int a3, .int 4, .ref 130]) (pc2 := 194) op179_193 rfl rfl ?_
      refine rx_p (L2 := [some (.ref 115), some (.int a1), some (.int a2), some (.int a3), some (.int a4), some (.int a5), some (.int a6), some (.int x37)]) (S2 := [.int ((4 : Int32) * a3), .ref 130]) (pc2 := 195) op179_194 rfl rfl ?_
      refine rx_p (L2 := [some (.ref 115), some (.int a1), some (.int a2), some (.int a3), some (.int a4), some (.int a5), some (.int a6), some (.int x37)]) (S2 := [.int a6, .int ((4 : Int32) * a3), .ref 130]) (pc2 := 197) op179_195 rfl rfl ?_
      refine rx_p (L2 := [some (.ref 115), some (.int a1), some (.int a2), some (.int a3), some (.int a4), some (.int a5), some (.int a6), some (.int x37)]) (S2 := [.int (((4 : Int32) * a3) + a6), .ref 130]) (pc2 := 198) op179_197 rfl rfl ?_
      refine rx_p (L2 := [some (.ref 115), some (.int a1), some (.int a2), some (.int a3), some (.int a4), some (.int a5), some (.int a6), some (.int x37)]) (S2 := [.int x37, .int (((4 : Int32) * a3) + a6), .ref 130]) (pc2 := 200) op179_198 rfl rfl ?_
      obtain ⟨k39, h⟩ := rq_chk h
      obtain ⟨m38, em38, h⟩ := rq_bv h
      refine rx_is (m2 := m38) (pc2 := 201) op179_200 sp_130 k39 rfl em38 rfl ?_
      refine rx_p (L2 := [some (.ref 115), some (.int a1), some (.int a2), some (.int a3), some (.int a4), some (.int a5), some (.int a6), some (.int x37)]) (S2 := [.ref 115]) (pc2 := 202) op179_201 rfl rfl ?_
      refine rx_gf (v := .ref 137) (pc2 := 205) op179_202 sp_115 rfl rfl rfl ?_
      refine rx_p (L2 := [some (.ref 115), some (.int a1), some (.int a2), some (.int a3), some (.int a4), some (.int a5), some (.int a6), some (.int x37)]) (S2 := [.int x37, .ref 137]) (pc2 := 207) op179_205 rfl rfl ?_
      refine rx_p (L2 := [some (.ref 115), some (.int a1), some (.int a2), some (.int a3), some (.int a4), some (.int a5), some (.int a6), some (.int x37)]) (S2 := [.int a3, .int x37, .ref 137]) (pc2 := 208) op179_207 rfl rfl ?_
      obtain ⟨k41, h⟩ := rq_chk h
      obtain ⟨m40, em40, h⟩ := rq_bv h
      refine rx_is (m2 := m40) (pc2 := 209) op179_208 sp_137 k41 rfl em40 rfl ?_
      obtain ⟨x42, ex42, h⟩ := rq_bv h
      refine rx_inc (w := 1) (v := x42) (L2 := [some (.ref 115), some (.int a1), some (.int a2), some (.int a3), some (.int a4), some (.int a5), some (.int x42), some (.int x37)]) (pc2 := 212) op179_209 rfl (by decide) ex42 rfl rfl ?_
      refine ry_go (tgt := 152) op179_212 (by decide) (by decide) ?_
      exact ih _ _ _ h
    · have h := (if_neg b35).symm.trans h
      cases h
      exact hr _ rfl _ _ _
set_option maxHeartbeats 4000000 in
set_option maxRecDepth 20000 in
theorem mo_findOrders_l257_ok (xs : List Int32) {d : Nat} (hd : 4 ≤ d + 1) {a1 : Int32} {a2 : Int32} {a3 : Int32} {a4 : Int32} {a6 : Int32} {r : Option Value} {τ : rn_H} {out : rn_Mem} (hr : ∀ (mO : rn_Mem), out = mO → ∀ (o5 o7 : Option Value), rn_R xs (d + 1) 179 303 [some (.ref 115), some (.int a1), some (.int a2), some (.int a3), some (.int a4), o5, some (.int a6), o7] [] (rn_SH, mO) r τ) : ∀ (n : Nat) (a7 : Int32) (o5 : Option Value) (m : rn_Mem), mo_findOrders_l257 a1 a2 a3 a4 a6 n a7 m = some out → rn_R xs (d + 1) 179 257 [some (.ref 115), some (.int a1), some (.int a2), some (.int a3), some (.int a4), o5, some (.int a6), some (.int a7)] [] (rn_SH, m) r τ := by
  intro n
  induction n with
  | zero =>
    intro _ _ _ h
    cases h
  | succ n ih =>
    intro a7 o5 m h
    unfold mo_findOrders_l257 at h
    try dsimp only at h
    refine rx_p (L2 := [some (.ref 115), some (.int a1), some (.int a2), some (.int a3), some (.int a4), o5, some (.int a6), some (.int a7)]) (S2 := [.int a7]) (pc2 := 259) op179_257 rfl rfl ?_
    refine rx_p (L2 := [some (.ref 115), some (.int a1), some (.int a2), some (.int a3), some (.int a4), o5, some (.int a6), some (.int a7)]) (S2 := [.ref 115, .int a7]) (pc2 := 260) op179_259 rfl rfl ?_
    refine rx_gf (v := .ref 116) (pc2 := 263) op179_260 sp_115 rfl rfl rfl ?_
    refine rx_ic (v := 1) (pc2 := 264) op179_263 (by decide) rfl ?_
    refine rx_ia (j := 1) (pc2 := 265) op179_264 (rn_shlt sp_116) sp_116 (by decide) (by decide) rfl ?_
    refine ry_ic_ge (tgt := 303) (pc2 := 268) op179_265 (by decide) (by decide) rfl (fun b59 => ?_) (fun b59 => ?_)
    · have h := (if_pos b59).symm.trans h
      refine rx_p (L2 := [some (.ref 115), some (.int a1), some (.int a2), some (.int a3), some (.int a4), o5, some (.int a6), some (.int a7)]) (S2 := [.ref 115]) (pc2 := 269) op179_268 rfl rfl ?_
      refine rx_gf (v := .ref 119) (pc2 := 272) op179_269 sp_115 rfl rfl rfl ?_
      refine rx_p (L2 := [some (.ref 115), some (.int a1), some (.int a2), some (.int a3), some (.int a4), o5, some (.int a6), some (.int a7)]) (S2 := [.int a7, .ref 119]) (pc2 := 274) op179_272 rfl rfl ?_
      refine rx_p (L2 := [some (.ref 115), some (.int a1), some (.int a2), some (.int a3), some (.int a4), o5, some (.int a6), some (.int a7)]) (S2 := [.ref 115, .int a7, .ref 119]) (pc2 := 275) op179_274 rfl rfl ?_
      refine rx_gf (v := .ref 130) (pc2 := 278) op179_275 sp_115 rfl rfl rfl ?_
      refine rx_ic (v := 4) (pc2 := 279) op179_278 (by decide) rfl ?_
      refine rx_p (L2 := [some (.ref 115), some (.int a1), some (.int a2), some (.int a3), some (.int a4), o5, some (.int a6), some (.int a7)]) (S2 := [.int a3, .int 4, .ref 130, .int a7, .ref 119]) (pc2 := 280) op179_279 rfl rfl ?_
      refine rx_p (L2 := [some (.ref 115), some (.int a1), some (.int a2), some (.int a3), some (.int a4), o5, some (.int a6), some (.int a7)]) (S2 := [.int ((4 : Int32) * a3), .ref 130, .int a7, .ref 119]) (pc2 := 281) op179_280 rfl rfl ?_
      refine rx_p (L2 := [some (.ref 115), some (.int a1), some (.int a2), some (.int a3), some (.int a4), o5, some (.int a6), some (.int a7)]) (S2 := [.ref 115, .int ((4 : Int32) * a3), .ref 130, .int a7, .ref 119]) (pc2 := 282) op179_281 rfl rfl ?_
      refine rx_gf (v := .ref 116) (pc2 := 285) op179_282 sp_115 rfl rfl rfl ?_
      refine rx_ic (v := 1) (pc2 := 286) op179_285 (by decide) rfl ?_
      refine rx_ia (j := 1) (pc2 := 287) op179_286 (rn_shlt sp_116) sp_116 (by decide) (by decide) rfl ?_
      refine rx_p (L2 := [some (.ref 115), some (.int a1), some (.int a2), some (.int a3), some (.int a4), o5, some (.int a6), some (.int a7)]) (S2 := [.int a6, .int (m.1 116 1), .int ((4 : Int32) * a3), .ref 130, .int a7, .ref 119]) (pc2 := 289) op179_287 rfl rfl ?_
      refine rx_p (L2 := [some (.ref 115), some (.int a1), some (.int a2), some (.int a3), some (.int a4), o5, some (.int a6), some (.int a7)]) (S2 := [.int a7, .int a6, .int (m.1 116 1), .int ((4 : Int32) * a3), .ref 130, .int a7, .ref 119]) (pc2 := 291) op179_289 rfl rfl ?_
      obtain ⟨⟨r61, m60⟩, f62, h⟩ := rq_bind h
      try dsimp only at h
      refine ry_is (vs := [.int (m.1 116 1), .int a6, .int a7]) (T := [.int ((4 : Int32) * a3), .ref 130, .int a7, .ref 119]) (pc2 := 294) op179_291 (by decide) ms_177 (by decide) rfl rfl (Nat.le_of_ble_eq_true rfl) (Nat.le_of_ble_eq_true rfl) (mo_ordered_ok xs (by omega)  f62) rfl ?_
      show rn_R _ _ _ _ _ [.int r61, .int ((4 : Int32) * a3), .ref 130, .int a7, .ref 119] _ _ _
      refine rx_p (L2 := [some (.ref 115), some (.int a1), some (.int a2), some (.int a3), some (.int a4), o5, some (.int a6), some (.int a7)]) (S2 := [.int (((4 : Int32) * a3) + r61), .ref 130, .int a7, .ref 119]) (pc2 := 295) op179_294 rfl rfl ?_
      obtain ⟨k63, h⟩ := rq_chk h
      refine rx_ia (pc2 := 296) op179_295 (rn_shlt sp_130) sp_130 k63 rfl rfl ?_
      obtain ⟨k65, h⟩ := rq_chk h
      obtain ⟨m64, em64, h⟩ := rq_bv h
      refine rx_is (m2 := m64) (pc2 := 297) op179_296 sp_119 k65 rfl em64 rfl ?_
      obtain ⟨x66, ex66, h⟩ := rq_bv h
      refine rx_inc (w := 1) (v := x66) (L2 := [some (.ref 115), some (.int a1), some (.int a2), some (.int a3), some (.int a4), o5, some (.int a6), some (.int x66)]) (pc2 := 300) op179_297 rfl (by decide) ex66 rfl rfl ?_
      refine ry_go (tgt := 257) op179_300 (by decide) (by decide) ?_
      exact ih _ _ _ h
    · have h := (if_neg b59).symm.trans h
      cases h
      exact hr _ rfl _ _
set_option maxHeartbeats 4000000 in
set_option maxRecDepth 20000 in
theorem mo_findOrders_l225_ok (xs : List Int32) {d : Nat} (hd : 4 ≤ d + 1) {a1 : Int32} {a2 : Int32} {a3 : Int32} {a4 : Int32} {r : Option Value} {τ : rn_H} {out : rn_Mem} (hr : ∀ (mO : rn_Mem), out = mO → ∀ (o4 o5 o6 o7 : Option Value), rn_R xs (d + 1) 179 375 [some (.ref 115), some (.int a1), some (.int a2), some (.int a3), o4, o5, o6, o7] [] (rn_SH, mO) r τ) : ∀ (n : Nat) (a6 : Int32) (o5 o7 : Option Value) (m : rn_Mem), mo_findOrders_l225 a1 a2 a3 a4 n a6 m = some out → rn_R xs (d + 1) 179 225 [some (.ref 115), some (.int a1), some (.int a2), some (.int a3), some (.int a4), o5, some (.int a6), o7] [] (rn_SH, m) r τ := by
  intro n
  induction n with
  | zero =>
    intro _ _ _ _ h
    cases h
  | succ n ih =>
    intro a6 o5 o7 m h
    unfold mo_findOrders_l225 at h
    try dsimp only at h
    refine rx_p (L2 := [some (.ref 115), some (.int a1), some (.int a2), some (.int a3), some (.int a4), o5, some (.int a6), o7]) (S2 := [.int a6]) (pc2 := 227) op179_225 rfl rfl ?_
    refine rx_p (L2 := [some (.ref 115), some (.int a1), some (.int a2), some (.int a3), some (.int a4), o5, some (.int a6), o7]) (S2 := [.ref 115, .int a6]) (pc2 := 228) op179_227 rfl rfl ?_
    refine rx_gf (v := .ref 116) (pc2 := 231) op179_228 sp_115 rfl rfl rfl ?_
    refine rx_bp (v := 7) (pc2 := 233) op179_231 (by decide) rfl ?_
    refine rx_ia (j := 7) (pc2 := 234) op179_233 (rn_shlt sp_116) sp_116 (by decide) (by decide) rfl ?_
    refine rx_ic (v := 1) (pc2 := 235) op179_234 (by decide) rfl ?_
    obtain ⟨⟨x56, m57⟩, gc89, h⟩ := rq_bind h
    try dsimp only at h
    have c89 : ∀ (o54 o55 : Option Value), rn_R xs (d + 1) 179 251 [some (.ref 115), some (.int a1), some (.int a2), some (.int a3), some (.int a4), o54, some (.int a6), o55] [.int x56, .int a6] (rn_SH, m57) r τ := by
      intro o54 o55
      refine ry_ic_ge (tgt := 375) (pc2 := 254) op179_251 (by decide) (by decide) rfl (fun b58 => ?_) (fun b58 => ?_)
      · have h := (if_pos b58).symm.trans h
        refine rx_ic (v := 0) (pc2 := 255) op179_254 (by decide) rfl ?_
        refine rx_s (L2 := [some (.ref 115), some (.int a1), some (.int a2), some (.int a3), some (.int a4), o54, some (.int a6), some (.int 0)]) (pc2 := 257) op179_255 rfl rfl rfl ?_
        obtain ⟨m67, f88, h⟩ := rq_bind h
        refine mo_findOrders_l257_ok xs hd (fun m0 eq => ?_) _ _ _ _  f88
        subst eq
        try dsimp only at h
        intro o68 o69
        refine rx_p (L2 := [some (.ref 115), some (.int a1), some (.int a2), some (.int a3), some (.int a4), o68, some (.int a6), o69]) (S2 := [.ref 115]) (pc2 := 304) op179_303 rfl rfl ?_
        refine rx_gf (v := .ref 129) (pc2 := 307) op179_304 sp_115 rfl rfl rfl ?_
        refine rx_p (L2 := [some (.ref 115), some (.int a1), some (.int a2), some (.int a3), some (.int a4), o68, some (.int a6), o69]) (S2 := [.int a3, .ref 129]) (pc2 := 308) op179_307 rfl rfl ?_
        obtain ⟨k70, h⟩ := rq_chk h
        refine rx_ia (pc2 := 309) op179_308 (rn_shlt sp_129) sp_129 k70 rfl rfl ?_
        refine rx_p (L2 := [some (.ref 115), some (.int a1), some (.int a2), some (.int a3), some (.int a4), o68, some (.int a6), o69]) (S2 := [.ref 115, .int (m67.1 129 a3.toNatClampNeg)]) (pc2 := 310) op179_309 rfl rfl ?_
        refine rx_p (L2 := [some (.ref 115), some (.int a1), some (.int a2), some (.int a3), some (.int a4), o68, some (.int a6), o69]) (S2 := [.ref 115, .ref 115, .int (m67.1 129 a3.toNatClampNeg)]) (pc2 := 311) op179_310 rfl rfl ?_
        refine rx_gf (v := .ref 119) (pc2 := 314) op179_311 sp_115 rfl rfl rfl ?_
        refine rx_ic (v := 0) (pc2 := 315) op179_314 (by decide) rfl ?_
        refine rx_p (L2 := [some (.ref 115), some (.int a1), some (.int a2), some (.int a3), some (.int a4), o68, some (.int a6), o69]) (S2 := [.ref 115, .int 0, .ref 119, .ref 115, .int (m67.1 129 a3.toNatClampNeg)]) (pc2 := 316) op179_315 rfl rfl ?_
        refine rx_gf (v := .ref 116) (pc2 := 319) op179_316 sp_115 rfl rfl rfl ?_
        refine rx_ic (v := 1) (pc2 := 320) op179_319 (by decide) rfl ?_
        refine rx_ia (j := 1) (pc2 := 321) op179_320 (rn_shlt sp_116) sp_116 (by decide) (by decide) rfl ?_
        refine rx_p (L2 := [some (.ref 115), some (.int a1), some (.int a2), some (.int a3), some (.int a4), o68, some (.int a6), o69]) (S2 := [.ref 115, .int (m67.1 116 1), .int 0, .ref 119, .ref 115, .int (m67.1 129 a3.toNatClampNeg)]) (pc2 := 322) op179_321 rfl rfl ?_
        refine rx_gf (v := .int (m67.1 115 8)) (pc2 := 325) op179_322 sp_115 rfl rfl rfl ?_
        obtain ⟨⟨r72, m71⟩, f73, h⟩ := rq_bind h
        try dsimp only at h
        refine ry_iv (p := 115) (vs := [.ref 119, .int 0, .int (m67.1 116 1), .int (m67.1 115 8)]) (T := [.int (m67.1 129 a3.toNatClampNeg)]) (pc2 := 328) op179_325 ms_161 (by decide) rfl rfl (Nat.le_of_ble_eq_true rfl) (Nat.le_of_ble_eq_true rfl) sp_115 (mo_winning_ok xs (by omega) sr_119 f73) rfl ?_
        show rn_R _ _ _ _ _ [.int r72, .int (m67.1 129 a3.toNatClampNeg)] _ _ _
        refine rx_p (L2 := [some (.ref 115), some (.int a1), some (.int a2), some (.int a3), some (.int a4), o68, some (.int a6), o69]) (S2 := [.int ((m67.1 129 a3.toNatClampNeg) + r72)]) (pc2 := 329) op179_328 rfl rfl ?_
        refine rx_p (L2 := [some (.ref 115), some (.int a1), some (.int a2), some (.int a3), some (.int a4), o68, some (.int a6), o69]) (S2 := [.ref 115, .int ((m67.1 129 a3.toNatClampNeg) + r72)]) (pc2 := 330) op179_329 rfl rfl ?_
        refine rx_gf (v := .ref 116) (pc2 := 333) op179_330 sp_115 rfl rfl rfl ?_
        refine rx_ic (v := 1) (pc2 := 334) op179_333 (by decide) rfl ?_
        refine rx_ia (j := 1) (pc2 := 335) op179_334 (rn_shlt sp_116) sp_116 (by decide) (by decide) rfl ?_
        obtain ⟨k74, h⟩ := rq_chk h
        refine rx_rem (v := rn_rem ((m67.1 129 a3.toNatClampNeg) + r72) (m71.1 116 1)) (pc2 := 336) op179_335 k74 rfl rfl ?_
        refine rx_p (L2 := [some (.ref 115), some (.int a1), some (.int a2), some (.int a3), some (.int a4), o68, some (.int a6), o69]) (S2 := [.int a4, .int (rn_rem ((m67.1 129 a3.toNatClampNeg) + r72) (m71.1 116 1))]) (pc2 := 338) op179_336 rfl rfl ?_
        obtain ⟨m84, gc87, h⟩ := rq_bind h
        try dsimp only at h
        have c87 : ∀ (o82 o83 : Option Value), rn_R xs (d + 1) 179 369 [some (.ref 115), some (.int a1), some (.int a2), some (.int a3), some (.int a4), o82, some (.int a6), o83] [] (rn_SH, m84) r τ := by
          intro o82 o83
          obtain ⟨x85, ex85, h⟩ := rq_bv h
          refine rx_incd (w := 1) (v := x85) (j := 5) (pc2 := 372) op179_369 rfl (by decide) ex85 rfl (fun o86 => ?_)
          show rn_R _ _ _ _ [some (.ref 115), some (.int a1), some (.int a2), some (.int a3), some (.int a4), o86, some (.int x85), o83] _ _ _ _
          refine ry_go (tgt := 225) op179_372 (by decide) (by decide) ?_
          exact ih _ _ _ _ h
        refine ry_ic_ne (tgt := 369) (pc2 := 341) op179_338 (by decide) (by decide) rfl (fun b75 => ?_) (fun b75 => ?_)
        · have gc87 := (if_pos b75).symm.trans gc87
          refine rx_p (L2 := [some (.ref 115), some (.int a1), some (.int a2), some (.int a3), some (.int a4), o68, some (.int a6), o69]) (S2 := [.ref 115]) (pc2 := 342) op179_341 rfl rfl ?_
          refine rx_gf (v := .ref 131) (pc2 := 345) op179_342 sp_115 rfl rfl rfl ?_
          refine rx_bp (v := 24) (pc2 := 347) op179_345 (by decide) rfl ?_
          refine rx_p (L2 := [some (.ref 115), some (.int a1), some (.int a2), some (.int a3), some (.int a4), o68, some (.int a6), o69]) (S2 := [.int a3, .int 24, .ref 131]) (pc2 := 348) op179_347 rfl rfl ?_
          refine rx_p (L2 := [some (.ref 115), some (.int a1), some (.int a2), some (.int a3), some (.int a4), o68, some (.int a6), o69]) (S2 := [.int ((24 : Int32) * a3), .ref 131]) (pc2 := 349) op179_348 rfl rfl ?_
          refine rx_p (L2 := [some (.ref 115), some (.int a1), some (.int a2), some (.int a3), some (.int a4), o68, some (.int a6), o69]) (S2 := [.ref 115, .int ((24 : Int32) * a3), .ref 131]) (pc2 := 350) op179_349 rfl rfl ?_
          refine rx_gf (v := .ref 132) (pc2 := 353) op179_350 sp_115 rfl rfl rfl ?_
          refine rx_p (L2 := [some (.ref 115), some (.int a1), some (.int a2), some (.int a3), some (.int a4), o68, some (.int a6), o69]) (S2 := [.int a3, .ref 132, .int ((24 : Int32) * a3), .ref 131]) (pc2 := 354) op179_353 rfl rfl ?_
          obtain ⟨k76, gc87⟩ := rq_chk gc87
          refine rx_ia (pc2 := 355) op179_354 (rn_shlt sp_132) sp_132 k76 rfl rfl ?_
          refine rx_p (L2 := [some (.ref 115), some (.int a1), some (.int a2), some (.int a3), some (.int a4), o68, some (.int a6), o69]) (S2 := [.int (((24 : Int32) * a3) + (m71.1 132 a3.toNatClampNeg)), .ref 131]) (pc2 := 356) op179_355 rfl rfl ?_
          refine rx_p (L2 := [some (.ref 115), some (.int a1), some (.int a2), some (.int a3), some (.int a4), o68, some (.int a6), o69]) (S2 := [.int a6, .int (((24 : Int32) * a3) + (m71.1 132 a3.toNatClampNeg)), .ref 131]) (pc2 := 358) op179_356 rfl rfl ?_
          obtain ⟨k78, gc87⟩ := rq_chk gc87
          obtain ⟨m77, em77, gc87⟩ := rq_bv gc87
          refine rx_is (m2 := m77) (pc2 := 359) op179_358 sp_131 k78 rfl em77 rfl ?_
          refine rx_p (L2 := [some (.ref 115), some (.int a1), some (.int a2), some (.int a3), some (.int a4), o68, some (.int a6), o69]) (S2 := [.ref 115]) (pc2 := 360) op179_359 rfl rfl ?_
          refine rx_gf (v := .ref 132) (pc2 := 363) op179_360 sp_115 rfl rfl rfl ?_
          refine rx_p (L2 := [some (.ref 115), some (.int a1), some (.int a2), some (.int a3), some (.int a4), o68, some (.int a6), o69]) (S2 := [.int a3, .ref 132]) (pc2 := 364) op179_363 rfl rfl ?_
          refine rx_p (L2 := [some (.ref 115), some (.int a1), some (.int a2), some (.int a3), some (.int a4), o68, some (.int a6), o69]) (S2 := [.int a3, .ref 132, .int a3, .ref 132]) (pc2 := 365) op179_364 rfl rfl ?_
          obtain ⟨k79, gc87⟩ := rq_chk gc87
          refine rx_ia (pc2 := 366) op179_365 (rn_shlt sp_132) sp_132 k79 rfl rfl ?_
          refine rx_ic (v := 1) (pc2 := 367) op179_366 (by decide) rfl ?_
          refine rx_p (L2 := [some (.ref 115), some (.int a1), some (.int a2), some (.int a3), some (.int a4), o68, some (.int a6), o69]) (S2 := [.int ((m77.1 132 a3.toNatClampNeg) + 1), .int a3, .ref 132]) (pc2 := 368) op179_367 rfl rfl ?_
          obtain ⟨k81, gc87⟩ := rq_chk gc87
          obtain ⟨m80, em80, gc87⟩ := rq_bv gc87
          refine rx_is (m2 := m80) (pc2 := 369) op179_368 sp_132 k81 rfl em80 rfl ?_
          cases gc87
          exact c87 _ _
        · have gc87 := (if_neg b75).symm.trans gc87
          cases gc87
          exact c87 _ _
      · have h := (if_neg b58).symm.trans h
        cases h
        exact hr _ rfl _ _ _ _
    refine ry_ic_ne (tgt := 250) (pc2 := 238) op179_235 (by decide) (by decide) rfl (fun b50 => ?_) (fun b50 => ?_)
    · have gc89 := (if_pos b50).symm.trans gc89
      refine rx_p (L2 := [some (.ref 115), some (.int a1), some (.int a2), some (.int a3), some (.int a4), o5, some (.int a6), o7]) (S2 := [.ref 115, .int a6]) (pc2 := 239) op179_238 rfl rfl ?_
      refine rx_gf (v := .ref 116) (pc2 := 242) op179_239 sp_115 rfl rfl rfl ?_
      refine rx_ic (v := 1) (pc2 := 243) op179_242 (by decide) rfl ?_
      refine rx_ia (j := 1) (pc2 := 244) op179_243 (rn_shlt sp_116) sp_116 (by decide) (by decide) rfl ?_
      obtain ⟨⟨r52, m51⟩, f53, gc89⟩ := rq_bind gc89
      try dsimp only at gc89
      refine ry_is (vs := [.int (m.1 116 1)]) (T := [.int a6]) (pc2 := 247) op179_244 (by decide) ms_175 (by decide) rfl rfl (Nat.le_of_ble_eq_true rfl) (Nat.le_of_ble_eq_true rfl) (mo_ordersOf_ok xs (by omega)  f53) rfl ?_
      show rn_R _ _ _ _ _ [.int r52, .int a6] _ _ _
      refine ry_go (tgt := 251) op179_247 (by decide) (by decide) ?_
      cases gc89
      exact c89 _ _
    · have gc89 := (if_neg b50).symm.trans gc89
      refine rx_ic (v := 1) (pc2 := 251) op179_250 (by decide) rfl ?_
      cases gc89
      exact c89 _ _
set_option maxHeartbeats 4000000 in
set_option maxRecDepth 20000 in
theorem mo_findOrders_l4_ok (xs : List Int32) {d : Nat} (hd : 4 ≤ d + 1) {a1 : Int32} {r : Option Value} {τ : rn_H} {out : Int32 × rn_Mem} (hr : ∀ (z2 : Int32) (mO : rn_Mem), out = (z2, mO) → ∀ (o1 o3 o4 o5 o6 o7 : Option Value), rn_R xs (d + 1) 179 400 [some (.ref 115), o1, some (.int z2), o3, o4, o5, o6, o7] [] (rn_SH, mO) r τ) : ∀ (n : Nat) (a2 : Int32) (a3 : Int32) (o4 o5 o6 o7 : Option Value) (m : rn_Mem), mo_findOrders_l4 a1 n a2 a3 m = some out → rn_R xs (d + 1) 179 4 [some (.ref 115), some (.int a1), some (.int a2), some (.int a3), o4, o5, o6, o7] [] (rn_SH, m) r τ := by
  intro n
  induction n with
  | zero =>
    intro _ _ _ _ _ _ _ h
    cases h
  | succ n ih =>
    intro a2 a3 o4 o5 o6 o7 m h
    unfold mo_findOrders_l4 at h
    try dsimp only at h
    refine rx_p (L2 := [some (.ref 115), some (.int a1), some (.int a2), some (.int a3), o4, o5, o6, o7]) (S2 := [.int a3]) (pc2 := 5) op179_4 rfl rfl ?_
    refine rx_p (L2 := [some (.ref 115), some (.int a1), some (.int a2), some (.int a3), o4, o5, o6, o7]) (S2 := [.ref 115, .int a3]) (pc2 := 6) op179_5 rfl rfl ?_
    refine rx_gf (v := .ref 116) (pc2 := 9) op179_6 sp_115 rfl rfl rfl ?_
    refine rx_ic (v := 2) (pc2 := 10) op179_9 (by decide) rfl ?_
    refine rx_ia (j := 2) (pc2 := 11) op179_10 (rn_shlt sp_116) sp_116 (by decide) (by decide) rfl ?_
    refine ry_ic_ge (tgt := 400) (pc2 := 14) op179_11 (by decide) (by decide) rfl (fun b1 => ?_) (fun b1 => ?_)
    · have h := (if_pos b1).symm.trans h
      refine rx_p (L2 := [some (.ref 115), some (.int a1), some (.int a2), some (.int a3), o4, o5, o6, o7]) (S2 := [.ref 115]) (pc2 := 15) op179_14 rfl rfl ?_
      refine rx_gf (v := .ref 128) (pc2 := 18) op179_15 sp_115 rfl rfl rfl ?_
      refine rx_p (L2 := [some (.ref 115), some (.int a1), some (.int a2), some (.int a3), o4, o5, o6, o7]) (S2 := [.int a3, .ref 128]) (pc2 := 19) op179_18 rfl rfl ?_
      obtain ⟨k2, h⟩ := rq_chk h
      refine rx_ia (pc2 := 20) op179_19 (rn_shlt sp_128) sp_128 k2 rfl rfl ?_
      obtain ⟨x3, ex3, h⟩ := rq_bv h
      refine rx_s (v := x3) (L2 := [some (.ref 115), some (.int a1), some (.int a2), some (.int a3), some (.int x3), o5, o6, o7]) (pc2 := 22) op179_20 ex3 rfl rfl ?_
      refine rx_p (L2 := [some (.ref 115), some (.int a1), some (.int a2), some (.int a3), some (.int x3), o5, o6, o7]) (S2 := [.ref 115]) (pc2 := 23) op179_22 rfl rfl ?_
      refine rx_gf (v := .ref 129) (pc2 := 26) op179_23 sp_115 rfl rfl rfl ?_
      refine rx_p (L2 := [some (.ref 115), some (.int a1), some (.int a2), some (.int a3), some (.int x3), o5, o6, o7]) (S2 := [.int a3, .ref 129]) (pc2 := 27) op179_26 rfl rfl ?_
      refine rx_p (L2 := [some (.ref 115), some (.int a1), some (.int a2), some (.int a3), some (.int x3), o5, o6, o7]) (S2 := [.int a3, .int a3, .ref 129]) (pc2 := 28) op179_27 rfl rfl ?_
      obtain ⟨x12, gc110, h⟩ := rq_bind h
      try dsimp only at h
      have c110 : ∀ (o9 o10 o11 : Option Value), rn_R xs (d + 1) 179 70 [some (.ref 115), some (.int a1), some (.int a2), some (.int a3), some (.int x3), o9, o10, o11] [.int x12, .int a3, .ref 129] (rn_SH, m) r τ := by
        intro o9 o10 o11
        obtain ⟨k14, h⟩ := rq_chk h
        obtain ⟨m13, em13, h⟩ := rq_bv h
        refine rx_is (m2 := m13) (pc2 := 71) op179_70 sp_129 k14 rfl em13 rfl ?_
        refine rx_ic (v := 0) (pc2 := 72) op179_71 (by decide) rfl ?_
        refine rx_s (L2 := [some (.ref 115), some (.int a1), some (.int a2), some (.int a3), some (.int x3), some (.int 0), o10, o11]) (pc2 := 74) op179_72 rfl rfl rfl ?_
        refine rx_ic (v := 0) (pc2 := 75) op179_74 (by decide) rfl ?_
        refine rx_s (L2 := [some (.ref 115), some (.int a1), some (.int a2), some (.int a3), some (.int x3), some (.int 0), some (.int 0), o11]) (pc2 := 77) op179_75 rfl rfl rfl ?_
        obtain ⟨wf109, f109, h⟩ := rq_bind h
        refine mo_findOrders_l77_ok xs hd (fun x25 m24 eq => ?_) _ _ _ _ _  f109
        subst eq
        try dsimp only at h
        intro o26 o27
        refine rx_p (L2 := [some (.ref 115), some (.int a1), some (.int a2), some (.int a3), some (.int x3), some (.int x25), o26, o27]) (S2 := [.ref 115]) (pc2 := 112) op179_111 rfl rfl ?_
        refine rx_gf (v := .int (m24.1 115 7)) (pc2 := 115) op179_112 sp_115 rfl rfl rfl ?_
        refine rx_p (L2 := [some (.ref 115), some (.int a1), some (.int a2), some (.int a3), some (.int x3), some (.int x25), o26, o27]) (S2 := [.int x3, .int (m24.1 115 7)]) (pc2 := 117) op179_115 rfl rfl ?_
        obtain ⟨x34, gc108, h⟩ := rq_bind h
        try dsimp only at h
        have c108 : ∀ (o31 o32 o33 : Option Value), rn_R xs (d + 1) 179 147 [some (.ref 115), some (.int a1), some (.int a2), some (.int a3), some (.int x3), o31, o32, o33] [.int x34] (rn_SH, m24) r τ := by
          intro o31 o32 o33
          refine rx_s (L2 := [some (.ref 115), some (.int a1), some (.int a2), some (.int a3), some (.int x3), some (.int x34), o32, o33]) (pc2 := 149) op179_147 rfl rfl rfl ?_
          refine rx_ic (v := 0) (pc2 := 150) op179_149 (by decide) rfl ?_
          refine rx_s (L2 := [some (.ref 115), some (.int a1), some (.int a2), some (.int a3), some (.int x3), some (.int x34), some (.int 0), o33]) (pc2 := 152) op179_150 rfl rfl rfl ?_
          obtain ⟨m43, f107, h⟩ := rq_bind h
          refine mo_findOrders_l152_ok xs hd (fun m0 eq => ?_) _ _ _ _  f107
          subst eq
          try dsimp only at h
          intro o44 o45 o46
          refine rx_p (L2 := [some (.ref 115), some (.int a1), some (.int a2), some (.int a3), some (.int x3), o44, o45, o46]) (S2 := [.ref 115]) (pc2 := 216) op179_215 rfl rfl ?_
          refine rx_gf (v := .ref 132) (pc2 := 219) op179_216 sp_115 rfl rfl rfl ?_
          refine rx_p (L2 := [some (.ref 115), some (.int a1), some (.int a2), some (.int a3), some (.int x3), o44, o45, o46]) (S2 := [.int a3, .ref 132]) (pc2 := 220) op179_219 rfl rfl ?_
          refine rx_ic (v := 0) (pc2 := 221) op179_220 (by decide) rfl ?_
          obtain ⟨k48, h⟩ := rq_chk h
          obtain ⟨m47, em47, h⟩ := rq_bv h
          refine rx_is (m2 := m47) (pc2 := 222) op179_221 sp_132 k48 rfl em47 rfl ?_
          refine rx_ic (v := 0) (pc2 := 223) op179_222 (by decide) rfl ?_
          refine rx_sd (v := 0) (j := 5) (pc2 := 225) op179_223 rfl rfl (Nat.le_of_ble_eq_true rfl) rfl (fun o49 => ?_)
          show rn_R _ _ _ _ [some (.ref 115), some (.int a1), some (.int a2), some (.int a3), some (.int x3), o49, some (.int 0), o46] _ _ _ _
          obtain ⟨m90, f106, h⟩ := rq_bind h
          refine mo_findOrders_l225_ok xs hd (fun m0 eq => ?_) _ _ _ _ _  f106
          subst eq
          try dsimp only at h
          intro o91 o92 o93 o94
          refine rx_p (L2 := [some (.ref 115), some (.int a1), some (.int a2), some (.int a3), o91, o92, o93, o94]) (S2 := [.int a2]) (pc2 := 376) op179_375 rfl rfl ?_
          obtain ⟨x103, gc105, h⟩ := rq_bind h
          try dsimp only at h
          have c105 : ∀ (o98 o99 o100 o101 o102 : Option Value), rn_R xs (d + 1) 179 393 [some (.ref 115), some (.int a1), o98, some (.int a3), o99, o100, o101, o102] [.int x103] (rn_SH, m90) r τ := by
            intro o98 o99 o100 o101 o102
            refine rx_s (L2 := [some (.ref 115), some (.int a1), some (.int x103), some (.int a3), o99, o100, o101, o102]) (pc2 := 394) op179_393 rfl rfl rfl ?_
            obtain ⟨x104, ex104, h⟩ := rq_bv h
            refine rx_inc (w := 1) (v := x104) (L2 := [some (.ref 115), some (.int a1), some (.int x103), some (.int x104), o99, o100, o101, o102]) (pc2 := 397) op179_394 rfl (by decide) ex104 rfl rfl ?_
            refine ry_go (tgt := 4) op179_397 (by decide) (by decide) ?_
            exact ih _ _ _ _ _ _ _ h
          refine ry_if_eq (tgt := 392) (pc2 := 379) op179_376 (by decide) (by decide) rfl (fun b95 => ?_) (fun b95 => ?_)
          · have gc105 := (if_pos b95).symm.trans gc105
            refine rx_ic (v := 0) (pc2 := 393) op179_392 (by decide) rfl ?_
            cases gc105
            exact c105 _ _ _ _ _
          · have gc105 := (if_neg b95).symm.trans gc105
            refine rx_p (L2 := [some (.ref 115), some (.int a1), some (.int a2), some (.int a3), o91, o92, o93, o94]) (S2 := [.ref 115]) (pc2 := 380) op179_379 rfl rfl ?_
            refine rx_gf (v := .ref 132) (pc2 := 383) op179_380 sp_115 rfl rfl rfl ?_
            refine rx_p (L2 := [some (.ref 115), some (.int a1), some (.int a2), some (.int a3), o91, o92, o93, o94]) (S2 := [.int a3, .ref 132]) (pc2 := 384) op179_383 rfl rfl ?_
            obtain ⟨k96, gc105⟩ := rq_chk gc105
            refine rx_ia (pc2 := 385) op179_384 (rn_shlt sp_132) sp_132 k96 rfl rfl ?_
            refine ry_if_le (tgt := 392) (pc2 := 388) op179_385 (by decide) (by decide) rfl (fun b97 => ?_) (fun b97 => ?_)
            · have gc105 := (if_pos b97).symm.trans gc105
              refine rx_ic (v := 1) (pc2 := 389) op179_388 (by decide) rfl ?_
              refine ry_go (tgt := 393) op179_389 (by decide) (by decide) ?_
              cases gc105
              exact c105 _ _ _ _ _
            · have gc105 := (if_neg b97).symm.trans gc105
              refine rx_ic (v := 0) (pc2 := 393) op179_392 (by decide) rfl ?_
              cases gc105
              exact c105 _ _ _ _ _
        refine ry_ic_ne (tgt := 145) (pc2 := 120) op179_117 (by decide) (by decide) rfl (fun b28 => ?_) (fun b28 => ?_)
        · have gc108 := (if_pos b28).symm.trans gc108
          refine rx_p (L2 := [some (.ref 115), some (.int a1), some (.int a2), some (.int a3), some (.int x3), some (.int x25), o26, o27]) (S2 := [.ref 115]) (pc2 := 121) op179_120 rfl rfl ?_
          refine rx_gf (v := .ref 116) (pc2 := 124) op179_121 sp_115 rfl rfl rfl ?_
          refine rx_bp (v := 12) (pc2 := 126) op179_124 (by decide) rfl ?_
          refine rx_p (L2 := [some (.ref 115), some (.int a1), some (.int a2), some (.int a3), some (.int x3), some (.int x25), o26, o27]) (S2 := [.int x3, .int 12, .ref 116]) (pc2 := 128) op179_126 rfl rfl ?_
          refine rx_p (L2 := [some (.ref 115), some (.int a1), some (.int a2), some (.int a3), some (.int x3), some (.int x25), o26, o27]) (S2 := [.int ((12 : Int32) + x3), .ref 116]) (pc2 := 129) op179_128 rfl rfl ?_
          obtain ⟨k29, gc108⟩ := rq_chk gc108
          refine rx_ia (pc2 := 130) op179_129 (rn_shlt sp_116) sp_116 k29 rfl rfl ?_
          refine rx_p (L2 := [some (.ref 115), some (.int a1), some (.int a2), some (.int a3), some (.int x3), some (.int x25), o26, o27]) (S2 := [.ref 115, .int (m24.1 116 ((12 : Int32) + x3).toNatClampNeg)]) (pc2 := 131) op179_130 rfl rfl ?_
          refine rx_gf (v := .ref 116) (pc2 := 134) op179_131 sp_115 rfl rfl rfl ?_
          refine rx_ic (v := 1) (pc2 := 135) op179_134 (by decide) rfl ?_
          refine rx_ia (j := 1) (pc2 := 136) op179_135 (rn_shlt sp_116) sp_116 (by decide) (by decide) rfl ?_
          obtain ⟨k30, gc108⟩ := rq_chk gc108
          refine rx_div (v := (m24.1 116 ((12 : Int32) + x3).toNatClampNeg) / (m24.1 116 1)) (pc2 := 137) op179_136 k30 rfl rfl ?_
          refine rx_ic (v := 1) (pc2 := 138) op179_137 (by decide) rfl ?_
          refine rx_p (L2 := [some (.ref 115), some (.int a1), some (.int a2), some (.int a3), some (.int x3), some (.int x25), o26, o27]) (S2 := [.int (((m24.1 116 ((12 : Int32) + x3).toNatClampNeg) / (m24.1 116 1)) - 1)]) (pc2 := 139) op179_138 rfl rfl ?_
          refine rx_p (L2 := [some (.ref 115), some (.int a1), some (.int a2), some (.int a3), some (.int x3), some (.int x25), o26, o27]) (S2 := [.int x25, .int (((m24.1 116 ((12 : Int32) + x3).toNatClampNeg) / (m24.1 116 1)) - 1)]) (pc2 := 141) op179_139 rfl rfl ?_
          refine rx_p (L2 := [some (.ref 115), some (.int a1), some (.int a2), some (.int a3), some (.int x3), some (.int x25), o26, o27]) (S2 := [.int ((((m24.1 116 ((12 : Int32) + x3).toNatClampNeg) / (m24.1 116 1)) - 1) - x25)]) (pc2 := 142) op179_141 rfl rfl ?_
          refine ry_go (tgt := 147) op179_142 (by decide) (by decide) ?_
          cases gc108
          exact c108 _ _ _
        · have gc108 := (if_neg b28).symm.trans gc108
          refine rx_p (L2 := [some (.ref 115), some (.int a1), some (.int a2), some (.int a3), some (.int x3), some (.int x25), o26, o27]) (S2 := [.int x25]) (pc2 := 147) op179_145 rfl rfl ?_
          cases gc108
          exact c108 _ _ _
      refine ry_if_ne (tgt := 35) (pc2 := 31) op179_28 (by decide) (by decide) rfl (fun b4 => ?_) (fun b4 => ?_)
      · have gc110 := (if_pos b4).symm.trans gc110
        refine rx_p (L2 := [some (.ref 115), some (.int a1), some (.int a2), some (.int a3), some (.int x3), o5, o6, o7]) (S2 := [.int a1, .int a3, .ref 129]) (pc2 := 32) op179_31 rfl rfl ?_
        refine ry_go (tgt := 70) op179_32 (by decide) (by decide) ?_
        cases gc110
        exact c110 _ _ _
      · have gc110 := (if_neg b4).symm.trans gc110
        refine rx_p (L2 := [some (.ref 115), some (.int a1), some (.int a2), some (.int a3), some (.int x3), o5, o6, o7]) (S2 := [.ref 115, .int a3, .ref 129]) (pc2 := 36) op179_35 rfl rfl ?_
        refine rx_gf (v := .int (m.1 115 10)) (pc2 := 39) op179_36 sp_115 rfl rfl rfl ?_
        refine ry_if_ne (tgt := 53) (pc2 := 42) op179_39 (by decide) (by decide) rfl (fun b5 => ?_) (fun b5 => ?_)
        · have gc110 := (if_pos b5).symm.trans gc110
          refine rx_p (L2 := [some (.ref 115), some (.int a1), some (.int a2), some (.int a3), some (.int x3), o5, o6, o7]) (S2 := [.ref 115, .int a3, .ref 129]) (pc2 := 43) op179_42 rfl rfl ?_
          refine rx_gf (v := .ref 128) (pc2 := 46) op179_43 sp_115 rfl rfl rfl ?_
          refine rx_p (L2 := [some (.ref 115), some (.int a1), some (.int a2), some (.int a3), some (.int x3), o5, o6, o7]) (S2 := [.int a3, .ref 128, .int a3, .ref 129]) (pc2 := 47) op179_46 rfl rfl ?_
          refine rx_ic (v := 1) (pc2 := 48) op179_47 (by decide) rfl ?_
          refine rx_p (L2 := [some (.ref 115), some (.int a1), some (.int a2), some (.int a3), some (.int x3), o5, o6, o7]) (S2 := [.int (a3 - 1), .ref 128, .int a3, .ref 129]) (pc2 := 49) op179_48 rfl rfl ?_
          obtain ⟨k6, gc110⟩ := rq_chk gc110
          refine rx_ia (pc2 := 50) op179_49 (rn_shlt sp_128) sp_128 k6 rfl rfl ?_
          refine ry_go (tgt := 70) op179_50 (by decide) (by decide) ?_
          cases gc110
          exact c110 _ _ _
        · have gc110 := (if_neg b5).symm.trans gc110
          refine rx_p (L2 := [some (.ref 115), some (.int a1), some (.int a2), some (.int a3), some (.int x3), o5, o6, o7]) (S2 := [.ref 115, .int a3, .ref 129]) (pc2 := 54) op179_53 rfl rfl ?_
          refine rx_gf (v := .ref 129) (pc2 := 57) op179_54 sp_115 rfl rfl rfl ?_
          refine rx_p (L2 := [some (.ref 115), some (.int a1), some (.int a2), some (.int a3), some (.int x3), o5, o6, o7]) (S2 := [.int a3, .ref 129, .int a3, .ref 129]) (pc2 := 58) op179_57 rfl rfl ?_
          refine rx_ic (v := 1) (pc2 := 59) op179_58 (by decide) rfl ?_
          refine rx_p (L2 := [some (.ref 115), some (.int a1), some (.int a2), some (.int a3), some (.int x3), o5, o6, o7]) (S2 := [.int (a3 - 1), .ref 129, .int a3, .ref 129]) (pc2 := 60) op179_59 rfl rfl ?_
          obtain ⟨k7, gc110⟩ := rq_chk gc110
          refine rx_ia (pc2 := 61) op179_60 (rn_shlt sp_129) sp_129 k7 rfl rfl ?_
          refine rx_ic (v := 1) (pc2 := 62) op179_61 (by decide) rfl ?_
          refine rx_p (L2 := [some (.ref 115), some (.int a1), some (.int a2), some (.int a3), some (.int x3), o5, o6, o7]) (S2 := [.int ((m.1 129 (a3 - 1).toNatClampNeg) + 1), .int a3, .ref 129]) (pc2 := 63) op179_62 rfl rfl ?_
          refine rx_p (L2 := [some (.ref 115), some (.int a1), some (.int a2), some (.int a3), some (.int x3), o5, o6, o7]) (S2 := [.ref 115, .int ((m.1 129 (a3 - 1).toNatClampNeg) + 1), .int a3, .ref 129]) (pc2 := 64) op179_63 rfl rfl ?_
          refine rx_gf (v := .ref 116) (pc2 := 67) op179_64 sp_115 rfl rfl rfl ?_
          refine rx_ic (v := 1) (pc2 := 68) op179_67 (by decide) rfl ?_
          refine rx_ia (j := 1) (pc2 := 69) op179_68 (rn_shlt sp_116) sp_116 (by decide) (by decide) rfl ?_
          obtain ⟨k8, gc110⟩ := rq_chk gc110
          refine rx_rem (v := rn_rem ((m.1 129 (a3 - 1).toNatClampNeg) + 1) (m.1 116 1)) (pc2 := 70) op179_69 k8 rfl rfl ?_
          cases gc110
          exact c110 _ _ _
    · have h := (if_neg b1).symm.trans h
      cases h
      exact hr _ _ rfl _ _ _ _ _ _
set_option maxHeartbeats 4000000 in
set_option maxRecDepth 20000 in
theorem mo_findOrders_ok (xs : List Int32) {d : Nat} (hd : 4 ≤ d) {n : Nat} {a1 : Int32} {m mO : rn_Mem} (h : mo_findOrders n a1 m = some mO) : rn_R xs d 179 0 (rn_ent 8 [.ref 115, .int a1]) [] (rn_SH, m) none (rn_SH, mO) := by
  obtain ⟨d, rfl⟩ : ∃ e, d = e + 1 := ⟨d - 1, by omega⟩
  unfold mo_findOrders at h
  show rn_R xs (d + 1) 179 0 [some (.ref 115), some (.int a1), none, none, none, none, none, none] [] (rn_SH, m) none (rn_SH, mO)
  refine rx_ic (v := 1) (pc2 := 1) op179_0 (by decide) rfl ?_
  refine rx_s (L2 := [some (.ref 115), some (.int a1), some (.int 1), none, none, none, none, none]) (pc2 := 2) op179_1 rfl rfl rfl ?_
  refine rx_ic (v := 0) (pc2 := 3) op179_2 (by decide) rfl ?_
  refine rx_s (L2 := [some (.ref 115), some (.int a1), some (.int 1), some (.int 0), none, none, none, none]) (pc2 := 4) op179_3 rfl rfl rfl ?_
  obtain ⟨wf126, f126, h⟩ := rq_bind h
  refine mo_findOrders_l4_ok xs hd (fun x113 m111 eq => ?_) _ _ _ _ _ _ _ _  f126
  subst eq
  try dsimp only at h
  intro o112 o114 o115 o116 o117 o118
  refine rx_p (L2 := [some (.ref 115), o112, some (.int x113), o114, o115, o116, o117, o118]) (S2 := [.int x113]) (pc2 := 401) op179_400 rfl rfl ?_
  refine ry_if_eq (tgt := 415) (pc2 := 404) op179_401 (by decide) (by decide) rfl (fun b119 => ?_) (fun b119 => ?_)
  · have h := (if_pos b119).symm.trans h
    obtain rfl := Option.some.inj h
    exact ry_rv op179_415 ms_179 rfl
  · have h := (if_neg b119).symm.trans h
    refine rx_p (L2 := [some (.ref 115), o112, some (.int x113), o114, o115, o116, o117, o118]) (S2 := [.ref 115]) (pc2 := 405) op179_404 rfl rfl ?_
    obtain ⟨⟨r121, m120⟩, f122, h⟩ := rq_bind h
    try dsimp only at h
    refine ry_iv (p := 115) (vs := []) (T := []) (pc2 := 408) op179_405 ms_180 (by decide) rfl rfl (Nat.le_of_ble_eq_true rfl) (Nat.le_of_ble_eq_true rfl) sp_115 (mo_cluesLetOrder_ok xs (by omega)  f122) rfl ?_
    show rn_R _ _ _ _ _ [.int r121] _ _ _
    refine ry_if_eq (tgt := 415) (pc2 := 411) op179_408 (by decide) (by decide) rfl (fun b123 => ?_) (fun b123 => ?_)
    · have h := (if_pos b123).symm.trans h
      obtain rfl := Option.some.inj h
      exact ry_rv op179_415 ms_179 rfl
    · have h := (if_neg b123).symm.trans h
      refine rx_p (L2 := [some (.ref 115), o112, some (.int x113), o114, o115, o116, o117, o118]) (S2 := [.ref 115]) (pc2 := 412) op179_411 rfl rfl ?_
      obtain ⟨m124, f125, h⟩ := rq_bind h
      try dsimp only at h
      refine ry_iv (p := 115) (vs := []) (T := []) (pc2 := 415) op179_412 ms_181 (by decide) rfl rfl (Nat.le_of_ble_eq_true rfl) (Nat.le_of_ble_eq_true rfl) sp_115 (mo_goBack_ok xs (by omega)  f125) rfl ?_
      show rn_R _ _ _ _ _ [] _ _ _
      obtain rfl := Option.some.inj h
      exact ry_rv op179_415 ms_179 rfl
/-! mo_findWinners -/
theorem op178_0 : rn_op 178 0 = some (.iconst 1, 1, 0, 0, 0) := by decide +kernel
theorem op178_1 : rn_op 178 1 = some (.istore_n 2, 1, 0, 0, 0) := by decide +kernel
theorem op178_2 : rn_op 178 2 = some (.iconst 0, 1, 0, 0, 0) := by decide +kernel
theorem op178_3 : rn_op 178 3 = some (.istore_n 3, 1, 0, 0, 0) := by decide +kernel
theorem op178_4 : rn_op 178 4 = some (.iload_n 3, 1, 0, 0, 0) := by decide +kernel
theorem op178_5 : rn_op 178 5 = some (.aload_n 0, 1, 0, 0, 0) := by decide +kernel
theorem op178_6 : rn_op 178 6 = some (.getfield 7, 3, 11, 0, 3) := by decide +kernel
theorem op178_9 : rn_op 178 9 = some (.iconst 2, 1, 0, 0, 0) := by decide +kernel
theorem op178_10 : rn_op 178 10 = some (.iaload, 1, 0, 0, 0) := by decide +kernel
theorem op178_11 : rn_op 178 11 = some (.if_icmp .ge 18, 3, 0, 0, 0) := by decide +kernel
theorem op178_14 : rn_op 178 14 = some (.iload_n 2, 1, 0, 0, 0) := by decide +kernel
theorem op178_15 : rn_op 178 15 = some (.aload_n 0, 1, 0, 0, 0) := by decide +kernel
theorem op178_16 : rn_op 178 16 = some (.getfield 7, 3, 11, 0, 3) := by decide +kernel
theorem op178_19 : rn_op 178 19 = some (.iconst 1, 1, 0, 0, 0) := by decide +kernel
theorem op178_20 : rn_op 178 20 = some (.iaload, 1, 0, 0, 0) := by decide +kernel
theorem op178_21 : rn_op 178 21 = some (.imul, 1, 0, 0, 0) := by decide +kernel
theorem op178_22 : rn_op 178 22 = some (.istore_n 2, 1, 0, 0, 0) := by decide +kernel
theorem op178_23 : rn_op 178 23 = some (.iinc 3 1, 3, 0, 0, 0) := by decide +kernel
theorem op178_26 : rn_op 178 26 = some (.goto (-22), 3, 0, 0, 0) := by decide +kernel
theorem op178_29 : rn_op 178 29 = some (.iconst 0, 1, 0, 0, 0) := by decide +kernel
theorem op178_30 : rn_op 178 30 = some (.istore_n 3, 1, 0, 0, 0) := by decide +kernel
theorem op178_31 : rn_op 178 31 = some (.iload_n 3, 1, 0, 0, 0) := by decide +kernel
theorem op178_32 : rn_op 178 32 = some (.iload_n 2, 1, 0, 0, 0) := by decide +kernel
theorem op178_33 : rn_op 178 33 = some (.if_icmp .ge 179, 3, 0, 0, 0) := by decide +kernel
theorem op178_36 : rn_op 178 36 = some (.aload_n 0, 1, 0, 0, 0) := by decide +kernel
theorem op178_37 : rn_op 178 37 = some (.invokevirtual 235, 3, 176, 1, 11) := by decide +kernel
theorem op178_40 : rn_op 178 40 = some (.ifCond .ne 172, 3, 0, 0, 0) := by decide +kernel
theorem op178_43 : rn_op 178 43 = some (.iload_n 3, 1, 0, 0, 0) := by decide +kernel
theorem op178_44 : rn_op 178 44 = some (.istore 4, 2, 0, 0, 0) := by decide +kernel
theorem op178_46 : rn_op 178 46 = some (.aload_n 0, 1, 0, 0, 0) := by decide +kernel
theorem op178_47 : rn_op 178 47 = some (.getfield 7, 3, 11, 0, 3) := by decide +kernel
theorem op178_50 : rn_op 178 50 = some (.iconst 2, 1, 0, 0, 0) := by decide +kernel
theorem op178_51 : rn_op 178 51 = some (.iaload, 1, 0, 0, 0) := by decide +kernel
theorem op178_52 : rn_op 178 52 = some (.iconst 1, 1, 0, 0, 0) := by decide +kernel
theorem op178_53 : rn_op 178 53 = some (.isub, 1, 0, 0, 0) := by decide +kernel
theorem op178_54 : rn_op 178 54 = some (.istore 5, 2, 0, 0, 0) := by decide +kernel
theorem op178_56 : rn_op 178 56 = some (.iload 5, 2, 0, 0, 0) := by decide +kernel
theorem op178_58 : rn_op 178 58 = some (.ifCond .lt 36, 3, 0, 0, 0) := by decide +kernel
theorem op178_61 : rn_op 178 61 = some (.aload_n 0, 1, 0, 0, 0) := by decide +kernel
theorem op178_62 : rn_op 178 62 = some (.getfield 46, 3, 11, 25, 3) := by decide +kernel
theorem op178_65 : rn_op 178 65 = some (.iload 5, 2, 0, 0, 0) := by decide +kernel
theorem op178_67 : rn_op 178 67 = some (.iload 4, 2, 0, 0, 0) := by decide +kernel
theorem op178_69 : rn_op 178 69 = some (.aload_n 0, 1, 0, 0, 0) := by decide +kernel
theorem op178_70 : rn_op 178 70 = some (.getfield 7, 3, 11, 0, 3) := by decide +kernel
theorem op178_73 : rn_op 178 73 = some (.iconst 1, 1, 0, 0, 0) := by decide +kernel
theorem op178_74 : rn_op 178 74 = some (.iaload, 1, 0, 0, 0) := by decide +kernel
theorem op178_75 : rn_op 178 75 = some (.irem, 1, 0, 0, 0) := by decide +kernel
theorem op178_76 : rn_op 178 76 = some (.iastore, 1, 0, 0, 0) := by decide +kernel
theorem op178_77 : rn_op 178 77 = some (.iload 4, 2, 0, 0, 0) := by decide +kernel
theorem op178_79 : rn_op 178 79 = some (.aload_n 0, 1, 0, 0, 0) := by decide +kernel
theorem op178_80 : rn_op 178 80 = some (.getfield 7, 3, 11, 0, 3) := by decide +kernel
theorem op178_83 : rn_op 178 83 = some (.iconst 1, 1, 0, 0, 0) := by decide +kernel
theorem op178_84 : rn_op 178 84 = some (.iaload, 1, 0, 0, 0) := by decide +kernel
theorem op178_85 : rn_op 178 85 = some (.idiv, 1, 0, 0, 0) := by decide +kernel
theorem op178_86 : rn_op 178 86 = some (.istore 4, 2, 0, 0, 0) := by decide +kernel
theorem op178_88 : rn_op 178 88 = some (.iinc 5 (-1), 3, 0, 0, 0) := by decide +kernel
theorem op178_91 : rn_op 178 91 = some (.goto (-35), 3, 0, 0, 0) := by decide +kernel
theorem op178_94 : rn_op 178 94 = some (.iconst 1, 1, 0, 0, 0) := by decide +kernel
theorem op178_95 : rn_op 178 95 = some (.istore 5, 2, 0, 0, 0) := by decide +kernel
theorem op178_97 : rn_op 178 97 = some (.iconst 0, 1, 0, 0, 0) := by decide +kernel
theorem op178_98 : rn_op 178 98 = some (.istore 6, 2, 0, 0, 0) := by decide +kernel
theorem op178_100 : rn_op 178 100 = some (.iload 6, 2, 0, 0, 0) := by decide +kernel
theorem op178_102 : rn_op 178 102 = some (.aload_n 0, 1, 0, 0, 0) := by decide +kernel
theorem op178_103 : rn_op 178 103 = some (.getfield 7, 3, 11, 0, 3) := by decide +kernel
theorem op178_106 : rn_op 178 106 = some (.iconst 1, 1, 0, 0, 0) := by decide +kernel
theorem op178_107 : rn_op 178 107 = some (.iaload, 1, 0, 0, 0) := by decide +kernel
theorem op178_108 : rn_op 178 108 = some (.if_icmp .ge 88, 3, 0, 0, 0) := by decide +kernel
theorem op178_111 : rn_op 178 111 = some (.iconst 0, 1, 0, 0, 0) := by decide +kernel
theorem op178_112 : rn_op 178 112 = some (.istore 7, 2, 0, 0, 0) := by decide +kernel
theorem op178_114 : rn_op 178 114 = some (.iconst 0, 1, 0, 0, 0) := by decide +kernel
theorem op178_115 : rn_op 178 115 = some (.istore 8, 2, 0, 0, 0) := by decide +kernel
theorem op178_117 : rn_op 178 117 = some (.iload 8, 2, 0, 0, 0) := by decide +kernel
theorem op178_119 : rn_op 178 119 = some (.aload_n 0, 1, 0, 0, 0) := by decide +kernel
theorem op178_120 : rn_op 178 120 = some (.getfield 7, 3, 11, 0, 3) := by decide +kernel
theorem op178_123 : rn_op 178 123 = some (.iconst 2, 1, 0, 0, 0) := by decide +kernel
theorem op178_124 : rn_op 178 124 = some (.iaload, 1, 0, 0, 0) := by decide +kernel
theorem op178_125 : rn_op 178 125 = some (.if_icmp .ge 31, 3, 0, 0, 0) := by decide +kernel
theorem op178_128 : rn_op 178 128 = some (.iload 7, 2, 0, 0, 0) := by decide +kernel
theorem op178_130 : rn_op 178 130 = some (.aload_n 0, 1, 0, 0, 0) := by decide +kernel
theorem op178_131 : rn_op 178 131 = some (.getfield 46, 3, 11, 25, 3) := by decide +kernel
theorem op178_134 : rn_op 178 134 = some (.iload 8, 2, 0, 0, 0) := by decide +kernel
theorem op178_136 : rn_op 178 136 = some (.iaload, 1, 0, 0, 0) := by decide +kernel
theorem op178_137 : rn_op 178 137 = some (.iload 6, 2, 0, 0, 0) := by decide +kernel
theorem op178_139 : rn_op 178 139 = some (.if_icmp .ne 7, 3, 0, 0, 0) := by decide +kernel
theorem op178_142 : rn_op 178 142 = some (.iconst 1, 1, 0, 0, 0) := by decide +kernel
theorem op178_143 : rn_op 178 143 = some (.goto 4, 3, 0, 0, 0) := by decide +kernel
theorem op178_146 : rn_op 178 146 = some (.iconst 0, 1, 0, 0, 0) := by decide +kernel
theorem op178_147 : rn_op 178 147 = some (.iadd, 1, 0, 0, 0) := by decide +kernel
theorem op178_148 : rn_op 178 148 = some (.istore 7, 2, 0, 0, 0) := by decide +kernel
theorem op178_150 : rn_op 178 150 = some (.iinc 8 1, 3, 0, 0, 0) := by decide +kernel
theorem op178_153 : rn_op 178 153 = some (.goto (-36), 3, 0, 0, 0) := by decide +kernel
theorem op178_156 : rn_op 178 156 = some (.iload 5, 2, 0, 0, 0) := by decide +kernel
theorem op178_158 : rn_op 178 158 = some (.ifCond .eq 29, 3, 0, 0, 0) := by decide +kernel
theorem op178_161 : rn_op 178 161 = some (.iload 7, 2, 0, 0, 0) := by decide +kernel
theorem op178_163 : rn_op 178 163 = some (.aload_n 0, 1, 0, 0, 0) := by decide +kernel
theorem op178_164 : rn_op 178 164 = some (.getfield 7, 3, 11, 0, 3) := by decide +kernel
theorem op178_167 : rn_op 178 167 = some (.iconst 1, 1, 0, 0, 0) := by decide +kernel
theorem op178_168 : rn_op 178 168 = some (.iaload, 1, 0, 0, 0) := by decide +kernel
theorem op178_169 : rn_op 178 169 = some (.imul, 1, 0, 0, 0) := by decide +kernel
theorem op178_170 : rn_op 178 170 = some (.aload_n 0, 1, 0, 0, 0) := by decide +kernel
theorem op178_171 : rn_op 178 171 = some (.getfield 7, 3, 11, 0, 3) := by decide +kernel
theorem op178_174 : rn_op 178 174 = some (.bipush 12, 2, 0, 0, 0) := by decide +kernel
theorem op178_176 : rn_op 178 176 = some (.iload 6, 2, 0, 0, 0) := by decide +kernel
theorem op178_178 : rn_op 178 178 = some (.iadd, 1, 0, 0, 0) := by decide +kernel
theorem op178_179 : rn_op 178 179 = some (.iaload, 1, 0, 0, 0) := by decide +kernel
theorem op178_180 : rn_op 178 180 = some (.if_icmp .ne 7, 3, 0, 0, 0) := by decide +kernel
theorem op178_183 : rn_op 178 183 = some (.iconst 1, 1, 0, 0, 0) := by decide +kernel
theorem op178_184 : rn_op 178 184 = some (.goto 4, 3, 0, 0, 0) := by decide +kernel
theorem op178_187 : rn_op 178 187 = some (.iconst 0, 1, 0, 0, 0) := by decide +kernel
theorem op178_188 : rn_op 178 188 = some (.istore 5, 2, 0, 0, 0) := by decide +kernel
theorem op178_190 : rn_op 178 190 = some (.iinc 6 1, 3, 0, 0, 0) := by decide +kernel
theorem op178_193 : rn_op 178 193 = some (.goto (-93), 3, 0, 0, 0) := by decide +kernel
theorem op178_196 : rn_op 178 196 = some (.iload 5, 2, 0, 0, 0) := by decide +kernel
theorem op178_198 : rn_op 178 198 = some (.ifCond .eq 8, 3, 0, 0, 0) := by decide +kernel
theorem op178_201 : rn_op 178 201 = some (.aload_n 0, 1, 0, 0, 0) := by decide +kernel
theorem op178_202 : rn_op 178 202 = some (.iload_n 1, 1, 0, 0, 0) := by decide +kernel
theorem op178_203 : rn_op 178 203 = some (.invokevirtual 245, 3, 179, 2, 11) := by decide +kernel
theorem op178_206 : rn_op 178 206 = some (.iinc 3 1, 3, 0, 0, 0) := by decide +kernel
theorem op178_209 : rn_op 178 209 = some (.goto (-178), 3, 0, 0, 0) := by decide +kernel
theorem op178_212 : rn_op 178 212 = some (.return_, 1, 0, 0, 0) := by decide +kernel
def mo_findWinners_l4 (a1 : Int32) : Nat → Int32 → Int32 → rn_Mem → Option (Int32 × rn_Mem)
  | 0, _, _, _ => none
  | n + 1, a2, a3, m =>
    if a3 < (m.1 116 2) then
      (some (a2 * (m.1 116 1))).bind fun (x2 : Int32) =>
      (some (a3 + 1)).bind fun (x3 : Int32) =>
      mo_findWinners_l4 a1 n x2 x3 m
    else
      some (a2, m)
def mo_findWinners_l56 (a1 : Int32) (a2 : Int32) (a3 : Int32) : Nat → Int32 → Int32 → rn_Mem → Option (rn_Mem)
  | 0, _, _, _ => none
  | n + 1, a4, a5, m =>
    if a5 < 0 then
      some m
    else
      if ¬ (m.1 116 1) = 0 then
        if rn_in a5 4 = true then
          (some (rm_i m 128 a5.toNatClampNeg (rn_rem a4 (m.1 116 1)))).bind fun (m20 : rn_Mem) =>
          if ¬ (m20.1 116 1) = 0 then
            (some (a4 / (m20.1 116 1))).bind fun (x23 : Int32) =>
            (some (a5 + (-1))).bind fun (x24 : Int32) =>
            mo_findWinners_l56 a1 a2 a3 n x23 x24 m20
          else none
        else none
      else none
def mo_findWinners_l117 (a1 : Int32) (a2 : Int32) (a3 : Int32) (a5 : Int32) (a6 : Int32) : Nat → Int32 → Int32 → rn_Mem → Option (Int32 × rn_Mem)
  | 0, _, _, _ => none
  | n + 1, a7, a8, m =>
    if a8 < (m.1 116 2) then
      if rn_in a8 4 = true then
        (show Option (Int32) from
          if (m.1 128 a8.toNatClampNeg) = a6 then
            some (1)
          else
            some (0)).bind fun x38 =>
        (some (a7 + x38)).bind fun (x39 : Int32) =>
        (some (a8 + 1)).bind fun (x40 : Int32) =>
        mo_findWinners_l117 a1 a2 a3 a5 a6 n x39 x40 m
      else none
    else
      some (a7, m)
def mo_findWinners_l100 (a1 : Int32) (a2 : Int32) (a3 : Int32) : Nat → Int32 → Int32 → rn_Mem → Option (Int32 × rn_Mem)
  | 0, _, _, _ => none
  | n + 1, a5, a6, m =>
    if a6 < (m.1 116 1) then
      (mo_findWinners_l117 a1 a2 a3 a5 a6 n 0 0 m).bind fun (x44, m42) =>
      (show Option (Int32) from
        if a5 = 0 then
          some (0)
        else
          if rn_in ((12 : Int32) + a6) 101 = true then
            if (x44 * (m42.1 116 1)) = (m42.1 116 ((12 : Int32) + a6).toNatClampNeg) then
              some (1)
            else
              some (0)
          else none).bind fun x53 =>
      (some (a6 + 1)).bind fun (x55 : Int32) =>
      mo_findWinners_l100 a1 a2 a3 n x53 x55 m42
    else
      some (a5, m)
def mo_findWinners_l31 (a1 : Int32) (a2 : Int32) : Nat → Int32 → rn_Mem → Option (rn_Mem)
  | 0, _, _ => none
  | n + 1, a3, m =>
    if a3 < a2 then
      (mo_isDone n m).bind fun (r14, m13) =>
      if r14 = 0 then
        (some ((m13.1 116 2) - 1)).bind fun (x17 : Int32) =>
        (mo_findWinners_l56 a1 a2 a3 n a3 x17 m13).bind fun m25 =>
        (mo_findWinners_l100 a1 a2 a3 n 1 0 m25).bind fun (x60, m58) =>
        (show Option (rn_Mem) from
          if x60 = 0 then
            some (m58)
          else
            (mo_findOrders n a1 m58).bind fun m65 =>
            some (m65)).bind fun m72 =>
        (some (a3 + 1)).bind fun (x73 : Int32) =>
        mo_findWinners_l31 a1 a2 n x73 m72
      else
        some m13
    else
      some m
def mo_findWinners (n : Nat) (a1 : Int32) (m : rn_Mem) : Option (rn_Mem) :=
  (mo_findWinners_l4 a1 n 1 0 m).bind fun (x5, m4) =>
  (mo_findWinners_l31 a1 x5 n 0 m4).bind fun m77 =>
  some m77
set_option maxHeartbeats 4000000 in
set_option maxRecDepth 20000 in
theorem mo_findWinners_l4_ok (xs : List Int32) {d : Nat} (hd : 5 ≤ d + 1) {a1 : Int32} {r : Option Value} {τ : rn_H} {out : Int32 × rn_Mem} (hr : ∀ (z2 : Int32) (mO : rn_Mem), out = (z2, mO) → ∀ (o3 o4 o5 o6 o7 o8 : Option Value), rn_R xs (d + 1) 178 29 [some (.ref 115), some (.int a1), some (.int z2), o3, o4, o5, o6, o7, o8] [] (rn_SH, mO) r τ) : ∀ (n : Nat) (a2 : Int32) (a3 : Int32) (o4 o5 o6 o7 o8 : Option Value) (m : rn_Mem), mo_findWinners_l4 a1 n a2 a3 m = some out → rn_R xs (d + 1) 178 4 [some (.ref 115), some (.int a1), some (.int a2), some (.int a3), o4, o5, o6, o7, o8] [] (rn_SH, m) r τ := by
  intro n
  induction n with
  | zero =>
    intro _ _ _ _ _ _ _ _ h
    cases h
  | succ n ih =>
    intro a2 a3 o4 o5 o6 o7 o8 m h
    unfold mo_findWinners_l4 at h
    try dsimp only at h
    refine rx_p (L2 := [some (.ref 115), some (.int a1), some (.int a2), some (.int a3), o4, o5, o6, o7, o8]) (S2 := [.int a3]) (pc2 := 5) op178_4 rfl rfl ?_
    refine rx_p (L2 := [some (.ref 115), some (.int a1), some (.int a2), some (.int a3), o4, o5, o6, o7, o8]) (S2 := [.ref 115, .int a3]) (pc2 := 6) op178_5 rfl rfl ?_
    refine rx_gf (v := .ref 116) (pc2 := 9) op178_6 sp_115 rfl rfl rfl ?_
    refine rx_ic (v := 2) (pc2 := 10) op178_9 (by decide) rfl ?_
    refine rx_ia (j := 2) (pc2 := 11) op178_10 (rn_shlt sp_116) sp_116 (by decide) (by decide) rfl ?_
    refine ry_ic_ge (tgt := 29) (pc2 := 14) op178_11 (by decide) (by decide) rfl (fun b1 => ?_) (fun b1 => ?_)
    · have h := (if_pos b1).symm.trans h
      refine rx_p (L2 := [some (.ref 115), some (.int a1), some (.int a2), some (.int a3), o4, o5, o6, o7, o8]) (S2 := [.int a2]) (pc2 := 15) op178_14 rfl rfl ?_
      refine rx_p (L2 := [some (.ref 115), some (.int a1), some (.int a2), some (.int a3), o4, o5, o6, o7, o8]) (S2 := [.ref 115, .int a2]) (pc2 := 16) op178_15 rfl rfl ?_
      refine rx_gf (v := .ref 116) (pc2 := 19) op178_16 sp_115 rfl rfl rfl ?_
      refine rx_ic (v := 1) (pc2 := 20) op178_19 (by decide) rfl ?_
      refine rx_ia (j := 1) (pc2 := 21) op178_20 (rn_shlt sp_116) sp_116 (by decide) (by decide) rfl ?_
      refine rx_p (L2 := [some (.ref 115), some (.int a1), some (.int a2), some (.int a3), o4, o5, o6, o7, o8]) (S2 := [.int (a2 * (m.1 116 1))]) (pc2 := 22) op178_21 rfl rfl ?_
      obtain ⟨x2, ex2, h⟩ := rq_bv h
      refine rx_s (v := x2) (L2 := [some (.ref 115), some (.int a1), some (.int x2), some (.int a3), o4, o5, o6, o7, o8]) (pc2 := 23) op178_22 ex2 rfl rfl ?_
      obtain ⟨x3, ex3, h⟩ := rq_bv h
      refine rx_inc (w := 1) (v := x3) (L2 := [some (.ref 115), some (.int a1), some (.int x2), some (.int x3), o4, o5, o6, o7, o8]) (pc2 := 26) op178_23 rfl (by decide) ex3 rfl rfl ?_
      refine ry_go (tgt := 4) op178_26 (by decide) (by decide) ?_
      exact ih _ _ _ _ _ _ _ _ h
    · have h := (if_neg b1).symm.trans h
      cases h
      exact hr _ _ rfl _ _ _ _ _ _
set_option maxHeartbeats 4000000 in
set_option maxRecDepth 20000 in
theorem mo_findWinners_l56_ok (xs : List Int32) {d : Nat} (hd : 5 ≤ d + 1) {a1 : Int32} {a2 : Int32} {a3 : Int32} {r : Option Value} {τ : rn_H} {out : rn_Mem} (hr : ∀ (mO : rn_Mem), out = mO → ∀ (o4 o5 o6 o7 o8 : Option Value), rn_R xs (d + 1) 178 94 [some (.ref 115), some (.int a1), some (.int a2), some (.int a3), o4, o5, o6, o7, o8] [] (rn_SH, mO) r τ) : ∀ (n : Nat) (a4 : Int32) (a5 : Int32) (o6 o7 o8 : Option Value) (m : rn_Mem), mo_findWinners_l56 a1 a2 a3 n a4 a5 m = some out → rn_R xs (d + 1) 178 56 [some (.ref 115), some (.int a1), some (.int a2), some (.int a3), some (.int a4), some (.int a5), o6, o7, o8] [] (rn_SH, m) r τ := by
  intro n
  induction n with
  | zero =>
    intro _ _ _ _ _ _ h
    cases h
  | succ n ih =>
    intro a4 a5 o6 o7 o8 m h
    unfold mo_findWinners_l56 at h
    try dsimp only at h
    refine rx_p (L2 := [some (.ref 115), some (.int a1), some (.int a2), some (.int a3), some (.int a4), some (.int a5), o6, o7, o8]) (S2 := [.int a5]) (pc2 := 58) op178_56 rfl rfl ?_
    refine ry_if_lt (tgt := 94) (pc2 := 61) op178_58 (by decide) (by decide) rfl (fun b18 => ?_) (fun b18 => ?_)
    · have h := (if_pos b18).symm.trans h
      cases h
      exact hr _ rfl _ _ _ _ _
    · have h := (if_neg b18).symm.trans h
      refine rx_p (L2 := [some (.ref 115), some (.int a1), some (.int a2), some (.int a3), some (.int a4), some (.int a5), o6, o7, o8]) (S2 := [.ref 115]) (pc2 := 62) op178_61 rfl rfl ?_
      refine rx_gf (v := .ref 128) (pc2 := 65) op178_62 sp_115 rfl rfl rfl ?_
      refine rx_p (L2 := [some (.ref 115), some (.int a1), some (.int a2), some (.int a3), some (.int a4), some (.int a5), o6, o7, o8]) (S2 := [.int a5, .ref 128]) (pc2 := 67) op178_65 rfl rfl ?_
      refine rx_p (L2 := [some (.ref 115), some (.int a1), some (.int a2), some (.int a3), some (.int a4), some (.int a5), o6, o7, o8]) (S2 := [.int a4, .int a5, .ref 128]) (pc2 := 69) op178_67 rfl rfl ?_
      refine rx_p (L2 := [some (.ref 115), some (.int a1), some (.int a2), some (.int a3), some (.int a4), some (.int a5), o6, o7, o8]) (S2 := [.ref 115, .int a4, .int a5, .ref 128]) (pc2 := 70) op178_69 rfl rfl ?_
      refine rx_gf (v := .ref 116) (pc2 := 73) op178_70 sp_115 rfl rfl rfl ?_
      refine rx_ic (v := 1) (pc2 := 74) op178_73 (by decide) rfl ?_
      refine rx_ia (j := 1) (pc2 := 75) op178_74 (rn_shlt sp_116) sp_116 (by decide) (by decide) rfl ?_
      obtain ⟨k19, h⟩ := rq_chk h
      refine rx_rem (v := rn_rem a4 (m.1 116 1)) (pc2 := 76) op178_75 k19 rfl rfl ?_
      obtain ⟨k21, h⟩ := rq_chk h
      obtain ⟨m20, em20, h⟩ := rq_bv h
      refine rx_is (m2 := m20) (pc2 := 77) op178_76 sp_128 k21 rfl em20 rfl ?_
      refine rx_p (L2 := [some (.ref 115), some (.int a1), some (.int a2), some (.int a3), some (.int a4), some (.int a5), o6, o7, o8]) (S2 := [.int a4]) (pc2 := 79) op178_77 rfl rfl ?_
      refine rx_p (L2 := [some (.ref 115), some (.int a1), some (.int a2), some (.int a3), some (.int a4), some (.int a5), o6, o7, o8]) (S2 := [.ref 115, .int a4]) (pc2 := 80) op178_79 rfl rfl ?_
      refine rx_gf (v := .ref 116) (pc2 := 83) op178_80 sp_115 rfl rfl rfl ?_
      refine rx_ic (v := 1) (pc2 := 84) op178_83 (by decide) rfl ?_
      refine rx_ia (j := 1) (pc2 := 85) op178_84 (rn_shlt sp_116) sp_116 (by decide) (by decide) rfl ?_
      obtain ⟨k22, h⟩ := rq_chk h
      refine rx_div (v := a4 / (m20.1 116 1)) (pc2 := 86) op178_85 k22 rfl rfl ?_
      obtain ⟨x23, ex23, h⟩ := rq_bv h
      refine rx_s (v := x23) (L2 := [some (.ref 115), some (.int a1), some (.int a2), some (.int a3), some (.int x23), some (.int a5), o6, o7, o8]) (pc2 := 88) op178_86 ex23 rfl rfl ?_
      obtain ⟨x24, ex24, h⟩ := rq_bv h
      refine rx_inc (w := (-1)) (v := x24) (L2 := [some (.ref 115), some (.int a1), some (.int a2), some (.int a3), some (.int x23), some (.int x24), o6, o7, o8]) (pc2 := 91) op178_88 rfl (by decide) ex24 rfl rfl ?_
      refine ry_go (tgt := 56) op178_91 (by decide) (by decide) ?_
      exact ih _ _ _ _ _ _ h
set_option maxHeartbeats 4000000 in
set_option maxRecDepth 20000 in
theorem mo_findWinners_l117_ok (xs : List Int32) {d : Nat} (hd : 5 ≤ d + 1) {a1 : Int32} {a2 : Int32} {a3 : Int32} {a5 : Int32} {a6 : Int32} {r : Option Value} {τ : rn_H} {out : Int32 × rn_Mem} (hr : ∀ (z7 : Int32) (mO : rn_Mem), out = (z7, mO) → ∀ (o4 o8 : Option Value), rn_R xs (d + 1) 178 156 [some (.ref 115), some (.int a1), some (.int a2), some (.int a3), o4, some (.int a5), some (.int a6), some (.int z7), o8] [] (rn_SH, mO) r τ) : ∀ (n : Nat) (a7 : Int32) (a8 : Int32) (o4 : Option Value) (m : rn_Mem), mo_findWinners_l117 a1 a2 a3 a5 a6 n a7 a8 m = some out → rn_R xs (d + 1) 178 117 [some (.ref 115), some (.int a1), some (.int a2), some (.int a3), o4, some (.int a5), some (.int a6), some (.int a7), some (.int a8)] [] (rn_SH, m) r τ := by
  intro n
  induction n with
  | zero =>
    intro _ _ _ _ h
    cases h
  | succ n ih =>
    intro a7 a8 o4 m h
    unfold mo_findWinners_l117 at h
    try dsimp only at h
    refine rx_p (L2 := [some (.ref 115), some (.int a1), some (.int a2), some (.int a3), o4, some (.int a5), some (.int a6), some (.int a7), some (.int a8)]) (S2 := [.int a8]) (pc2 := 119) op178_117 rfl rfl ?_
    refine rx_p (L2 := [some (.ref 115), some (.int a1), some (.int a2), some (.int a3), o4, some (.int a5), some (.int a6), some (.int a7), some (.int a8)]) (S2 := [.ref 115, .int a8]) (pc2 := 120) op178_119 rfl rfl ?_
    refine rx_gf (v := .ref 116) (pc2 := 123) op178_120 sp_115 rfl rfl rfl ?_
    refine rx_ic (v := 2) (pc2 := 124) op178_123 (by decide) rfl ?_
    refine rx_ia (j := 2) (pc2 := 125) op178_124 (rn_shlt sp_116) sp_116 (by decide) (by decide) rfl ?_
    refine ry_ic_ge (tgt := 156) (pc2 := 128) op178_125 (by decide) (by decide) rfl (fun b33 => ?_) (fun b33 => ?_)
    · have h := (if_pos b33).symm.trans h
      refine rx_p (L2 := [some (.ref 115), some (.int a1), some (.int a2), some (.int a3), o4, some (.int a5), some (.int a6), some (.int a7), some (.int a8)]) (S2 := [.int a7]) (pc2 := 130) op178_128 rfl rfl ?_
      refine rx_p (L2 := [some (.ref 115), some (.int a1), some (.int a2), some (.int a3), o4, some (.int a5), some (.int a6), some (.int a7), some (.int a8)]) (S2 := [.ref 115, .int a7]) (pc2 := 131) op178_130 rfl rfl ?_
      refine rx_gf (v := .ref 128) (pc2 := 134) op178_131 sp_115 rfl rfl rfl ?_
      refine rx_p (L2 := [some (.ref 115), some (.int a1), some (.int a2), some (.int a3), o4, some (.int a5), some (.int a6), some (.int a7), some (.int a8)]) (S2 := [.int a8, .ref 128, .int a7]) (pc2 := 136) op178_134 rfl rfl ?_
      obtain ⟨k34, h⟩ := rq_chk h
      refine rx_ia (pc2 := 137) op178_136 (rn_shlt sp_128) sp_128 k34 rfl rfl ?_
      refine rx_p (L2 := [some (.ref 115), some (.int a1), some (.int a2), some (.int a3), o4, some (.int a5), some (.int a6), some (.int a7), some (.int a8)]) (S2 := [.int a6, .int (m.1 128 a8.toNatClampNeg), .int a7]) (pc2 := 139) op178_137 rfl rfl ?_
      obtain ⟨x38, gc41, h⟩ := rq_bind h
      try dsimp only at h
      have c41 : ∀ (o36 o37 : Option Value), rn_R xs (d + 1) 178 147 [some (.ref 115), some (.int a1), some (.int a2), some (.int a3), o36, some (.int a5), some (.int a6), o37, some (.int a8)] [.int x38, .int a7] (rn_SH, m) r τ := by
        intro o36 o37
        refine rx_p (L2 := [some (.ref 115), some (.int a1), some (.int a2), some (.int a3), o36, some (.int a5), some (.int a6), o37, some (.int a8)]) (S2 := [.int (a7 + x38)]) (pc2 := 148) op178_147 rfl rfl ?_
        obtain ⟨x39, ex39, h⟩ := rq_bv h
        refine rx_s (v := x39) (L2 := [some (.ref 115), some (.int a1), some (.int a2), some (.int a3), o36, some (.int a5), some (.int a6), some (.int x39), some (.int a8)]) (pc2 := 150) op178_148 ex39 rfl rfl ?_
        obtain ⟨x40, ex40, h⟩ := rq_bv h
        refine rx_inc (w := 1) (v := x40) (L2 := [some (.ref 115), some (.int a1), some (.int a2), some (.int a3), o36, some (.int a5), some (.int a6), some (.int x39), some (.int x40)]) (pc2 := 153) op178_150 rfl (by decide) ex40 rfl rfl ?_
        refine ry_go (tgt := 117) op178_153 (by decide) (by decide) ?_
        exact ih _ _ _ _ h
      refine ry_ic_ne (tgt := 146) (pc2 := 142) op178_139 (by decide) (by decide) rfl (fun b35 => ?_) (fun b35 => ?_)
      · have gc41 := (if_pos b35).symm.trans gc41
        refine rx_ic (v := 1) (pc2 := 143) op178_142 (by decide) rfl ?_
        refine ry_go (tgt := 147) op178_143 (by decide) (by decide) ?_
        cases gc41
        exact c41 _ _
      · have gc41 := (if_neg b35).symm.trans gc41
        refine rx_ic (v := 0) (pc2 := 147) op178_146 (by decide) rfl ?_
        cases gc41
        exact c41 _ _
    · have h := (if_neg b33).symm.trans h
      cases h
      exact hr _ _ rfl _ _
set_option maxHeartbeats 4000000 in
set_option maxRecDepth 20000 in
theorem mo_findWinners_l100_ok (xs : List Int32) {d : Nat} (hd : 5 ≤ d + 1) {a1 : Int32} {a2 : Int32} {a3 : Int32} {r : Option Value} {τ : rn_H} {out : Int32 × rn_Mem} (hr : ∀ (z5 : Int32) (mO : rn_Mem), out = (z5, mO) → ∀ (o4 o6 o7 o8 : Option Value), rn_R xs (d + 1) 178 196 [some (.ref 115), some (.int a1), some (.int a2), some (.int a3), o4, some (.int z5), o6, o7, o8] [] (rn_SH, mO) r τ) : ∀ (n : Nat) (a5 : Int32) (a6 : Int32) (o4 o7 o8 : Option Value) (m : rn_Mem), mo_findWinners_l100 a1 a2 a3 n a5 a6 m = some out → rn_R xs (d + 1) 178 100 [some (.ref 115), some (.int a1), some (.int a2), some (.int a3), o4, some (.int a5), some (.int a6), o7, o8] [] (rn_SH, m) r τ := by
  intro n
  induction n with
  | zero =>
    intro _ _ _ _ _ _ h
    cases h
  | succ n ih =>
    intro a5 a6 o4 o7 o8 m h
    unfold mo_findWinners_l100 at h
    try dsimp only at h
    refine rx_p (L2 := [some (.ref 115), some (.int a1), some (.int a2), some (.int a3), o4, some (.int a5), some (.int a6), o7, o8]) (S2 := [.int a6]) (pc2 := 102) op178_100 rfl rfl ?_
    refine rx_p (L2 := [some (.ref 115), some (.int a1), some (.int a2), some (.int a3), o4, some (.int a5), some (.int a6), o7, o8]) (S2 := [.ref 115, .int a6]) (pc2 := 103) op178_102 rfl rfl ?_
    refine rx_gf (v := .ref 116) (pc2 := 106) op178_103 sp_115 rfl rfl rfl ?_
    refine rx_ic (v := 1) (pc2 := 107) op178_106 (by decide) rfl ?_
    refine rx_ia (j := 1) (pc2 := 108) op178_107 (rn_shlt sp_116) sp_116 (by decide) (by decide) rfl ?_
    refine ry_ic_ge (tgt := 196) (pc2 := 111) op178_108 (by decide) (by decide) rfl (fun b32 => ?_) (fun b32 => ?_)
    · have h := (if_pos b32).symm.trans h
      refine rx_ic (v := 0) (pc2 := 112) op178_111 (by decide) rfl ?_
      refine rx_s (L2 := [some (.ref 115), some (.int a1), some (.int a2), some (.int a3), o4, some (.int a5), some (.int a6), some (.int 0), o8]) (pc2 := 114) op178_112 rfl rfl rfl ?_
      refine rx_ic (v := 0) (pc2 := 115) op178_114 (by decide) rfl ?_
      refine rx_s (L2 := [some (.ref 115), some (.int a1), some (.int a2), some (.int a3), o4, some (.int a5), some (.int a6), some (.int 0), some (.int 0)]) (pc2 := 117) op178_115 rfl rfl rfl ?_
      obtain ⟨wf57, f57, h⟩ := rq_bind h
      refine mo_findWinners_l117_ok xs hd (fun x44 m42 eq => ?_) _ _ _ _ _  f57
      subst eq
      try dsimp only at h
      intro o43 o45
      refine rx_p (L2 := [some (.ref 115), some (.int a1), some (.int a2), some (.int a3), o43, some (.int a5), some (.int a6), some (.int x44), o45]) (S2 := [.int a5]) (pc2 := 158) op178_156 rfl rfl ?_
      obtain ⟨x53, gc56, h⟩ := rq_bind h
      try dsimp only at h
      have c56 : ∀ (o49 o50 o51 o52 : Option Value), rn_R xs (d + 1) 178 188 [some (.ref 115), some (.int a1), some (.int a2), some (.int a3), o49, o50, some (.int a6), o51, o52] [.int x53] (rn_SH, m42) r τ := by
        intro o49 o50 o51 o52
        refine rx_sd (v := x53) (j := 4) (pc2 := 190) op178_188 rfl rfl (Nat.le_of_ble_eq_true rfl) rfl (fun o54 => ?_)
        show rn_R _ _ _ _ [some (.ref 115), some (.int a1), some (.int a2), some (.int a3), o54, some (.int x53), some (.int a6), o51, o52] _ _ _ _
        obtain ⟨x55, ex55, h⟩ := rq_bv h
        refine rx_inc (w := 1) (v := x55) (L2 := [some (.ref 115), some (.int a1), some (.int a2), some (.int a3), o54, some (.int x53), some (.int x55), o51, o52]) (pc2 := 193) op178_190 rfl (by decide) ex55 rfl rfl ?_
        refine ry_go (tgt := 100) op178_193 (by decide) (by decide) ?_
        exact ih _ _ _ _ _ _ h
      refine ry_if_eq (tgt := 187) (pc2 := 161) op178_158 (by decide) (by decide) rfl (fun b46 => ?_) (fun b46 => ?_)
      · have gc56 := (if_pos b46).symm.trans gc56
        refine rx_ic (v := 0) (pc2 := 188) op178_187 (by decide) rfl ?_
        cases gc56
        exact c56 _ _ _ _
      · have gc56 := (if_neg b46).symm.trans gc56
        refine rx_p (L2 := [some (.ref 115), some (.int a1), some (.int a2), some (.int a3), o43, some (.int a5), some (.int a6), some (.int x44), o45]) (S2 := [.int x44]) (pc2 := 163) op178_161 rfl rfl ?_
        refine rx_p (L2 := [some (.ref 115), some (.int a1), some (.int a2), some (.int a3), o43, some (.int a5), some (.int a6), some (.int x44), o45]) (S2 := [.ref 115, .int x44]) (pc2 := 164) op178_163 rfl rfl ?_
        refine rx_gf (v := .ref 116) (pc2 := 167) op178_164 sp_115 rfl rfl rfl ?_
        refine rx_ic (v := 1) (pc2 := 168) op178_167 (by decide) rfl ?_
        refine rx_ia (j := 1) (pc2 := 169) op178_168 (rn_shlt sp_116) sp_116 (by decide) (by decide) rfl ?_
        refine rx_p (L2 := [some (.ref 115), some (.int a1), some (.int a2), some (.int a3), o43, some (.int a5), some (.int a6), some (.int x44), o45]) (S2 := [.int (x44 * (m42.1 116 1))]) (pc2 := 170) op178_169 rfl rfl ?_
        refine rx_p (L2 := [some (.ref 115), some (.int a1), some (.int a2), some (.int a3), o43, some (.int a5), some (.int a6), some (.int x44), o45]) (S2 := [.ref 115, .int (x44 * (m42.1 116 1))]) (pc2 := 171) op178_170 rfl rfl ?_
        refine rx_gf (v := .ref 116) (pc2 := 174) op178_171 sp_115 rfl rfl rfl ?_
        refine rx_bp (v := 12) (pc2 := 176) op178_174 (by decide) rfl ?_
        refine rx_p (L2 := [some (.ref 115), some (.int a1), some (.int a2), some (.int a3), o43, some (.int a5), some (.int a6), some (.int x44), o45]) (S2 := [.int a6, .int 12, .ref 116, .int (x44 * (m42.1 116 1))]) (pc2 := 178) op178_176 rfl rfl ?_
        refine rx_p (L2 := [some (.ref 115), some (.int a1), some (.int a2), some (.int a3), o43, some (.int a5), some (.int a6), some (.int x44), o45]) (S2 := [.int ((12 : Int32) + a6), .ref 116, .int (x44 * (m42.1 116 1))]) (pc2 := 179) op178_178 rfl rfl ?_
        obtain ⟨k47, gc56⟩ := rq_chk gc56
        refine rx_ia (pc2 := 180) op178_179 (rn_shlt sp_116) sp_116 k47 rfl rfl ?_
        refine ry_ic_ne (tgt := 187) (pc2 := 183) op178_180 (by decide) (by decide) rfl (fun b48 => ?_) (fun b48 => ?_)
        · have gc56 := (if_pos b48).symm.trans gc56
          refine rx_ic (v := 1) (pc2 := 184) op178_183 (by decide) rfl ?_
          refine ry_go (tgt := 188) op178_184 (by decide) (by decide) ?_
          cases gc56
          exact c56 _ _ _ _
        · have gc56 := (if_neg b48).symm.trans gc56
          refine rx_ic (v := 0) (pc2 := 188) op178_187 (by decide) rfl ?_
          cases gc56
          exact c56 _ _ _ _
    · have h := (if_neg b32).symm.trans h
      cases h
      exact hr _ _ rfl _ _ _ _
set_option maxHeartbeats 4000000 in
set_option maxRecDepth 20000 in
theorem mo_findWinners_l31_ok (xs : List Int32) {d : Nat} (hd : 5 ≤ d + 1) {a1 : Int32} {a2 : Int32} {r : Option Value} {τ : rn_H} {out : rn_Mem} (hr : ∀ (mO : rn_Mem), out = mO → ∀ (o0 o1 o2 o3 o4 o5 o6 o7 o8 : Option Value), rn_R xs (d + 1) 178 212 [o0, o1, o2, o3, o4, o5, o6, o7, o8] [] (rn_SH, mO) r τ) : ∀ (n : Nat) (a3 : Int32) (o4 o5 o6 o7 o8 : Option Value) (m : rn_Mem), mo_findWinners_l31 a1 a2 n a3 m = some out → rn_R xs (d + 1) 178 31 [some (.ref 115), some (.int a1), some (.int a2), some (.int a3), o4, o5, o6, o7, o8] [] (rn_SH, m) r τ := by
  intro n
  induction n with
  | zero =>
    intro _ _ _ _ _ _ _ h
    cases h
  | succ n ih =>
    intro a3 o4 o5 o6 o7 o8 m h
    unfold mo_findWinners_l31 at h
    try dsimp only at h
    refine rx_p (L2 := [some (.ref 115), some (.int a1), some (.int a2), some (.int a3), o4, o5, o6, o7, o8]) (S2 := [.int a3]) (pc2 := 32) op178_31 rfl rfl ?_
    refine rx_p (L2 := [some (.ref 115), some (.int a1), some (.int a2), some (.int a3), o4, o5, o6, o7, o8]) (S2 := [.int a2, .int a3]) (pc2 := 33) op178_32 rfl rfl ?_
    refine ry_ic_ge (tgt := 212) (pc2 := 36) op178_33 (by decide) (by decide) rfl (fun b12 => ?_) (fun b12 => ?_)
    · have h := (if_pos b12).symm.trans h
      refine rx_p (L2 := [some (.ref 115), some (.int a1), some (.int a2), some (.int a3), o4, o5, o6, o7, o8]) (S2 := [.ref 115]) (pc2 := 37) op178_36 rfl rfl ?_
      obtain ⟨⟨r14, m13⟩, f15, h⟩ := rq_bind h
      try dsimp only at h
      refine ry_iv (p := 115) (vs := []) (T := []) (pc2 := 40) op178_37 ms_176 (by decide) rfl rfl (Nat.le_of_ble_eq_true rfl) (Nat.le_of_ble_eq_true rfl) sp_115 (mo_isDone_ok xs (by omega)  f15) rfl ?_
      show rn_R _ _ _ _ _ [.int r14] _ _ _
      refine ry_if_ne (tgt := 212) (pc2 := 43) op178_40 (by decide) (by decide) rfl (fun b16 => ?_) (fun b16 => ?_)
      · have h := (if_pos b16).symm.trans h
        refine rx_p (L2 := [some (.ref 115), some (.int a1), some (.int a2), some (.int a3), o4, o5, o6, o7, o8]) (S2 := [.int a3]) (pc2 := 44) op178_43 rfl rfl ?_
        refine rx_s (L2 := [some (.ref 115), some (.int a1), some (.int a2), some (.int a3), some (.int a3), o5, o6, o7, o8]) (pc2 := 46) op178_44 rfl rfl rfl ?_
        refine rx_p (L2 := [some (.ref 115), some (.int a1), some (.int a2), some (.int a3), some (.int a3), o5, o6, o7, o8]) (S2 := [.ref 115]) (pc2 := 47) op178_46 rfl rfl ?_
        refine rx_gf (v := .ref 116) (pc2 := 50) op178_47 sp_115 rfl rfl rfl ?_
        refine rx_ic (v := 2) (pc2 := 51) op178_50 (by decide) rfl ?_
        refine rx_ia (j := 2) (pc2 := 52) op178_51 (rn_shlt sp_116) sp_116 (by decide) (by decide) rfl ?_
        refine rx_ic (v := 1) (pc2 := 53) op178_52 (by decide) rfl ?_
        refine rx_p (L2 := [some (.ref 115), some (.int a1), some (.int a2), some (.int a3), some (.int a3), o5, o6, o7, o8]) (S2 := [.int ((m13.1 116 2) - 1)]) (pc2 := 54) op178_53 rfl rfl ?_
        obtain ⟨x17, ex17, h⟩ := rq_bv h
        refine rx_s (v := x17) (L2 := [some (.ref 115), some (.int a1), some (.int a2), some (.int a3), some (.int a3), some (.int x17), o6, o7, o8]) (pc2 := 56) op178_54 ex17 rfl rfl ?_
        obtain ⟨m25, f76, h⟩ := rq_bind h
        refine mo_findWinners_l56_ok xs hd (fun m0 eq => ?_) _ _ _ _ _ _ _  f76
        subst eq
        try dsimp only at h
        intro o26 o27 o28 o29 o30
        refine rx_ic (v := 1) (pc2 := 95) op178_94 (by decide) rfl ?_
        refine rx_sd (v := 1) (j := 4) (pc2 := 97) op178_95 rfl rfl (Nat.le_of_ble_eq_true rfl) rfl (fun o31 => ?_)
        show rn_R _ _ _ _ [some (.ref 115), some (.int a1), some (.int a2), some (.int a3), o31, some (.int 1), o28, o29, o30] _ _ _ _
        refine rx_ic (v := 0) (pc2 := 98) op178_97 (by decide) rfl ?_
        refine rx_s (L2 := [some (.ref 115), some (.int a1), some (.int a2), some (.int a3), o31, some (.int 1), some (.int 0), o29, o30]) (pc2 := 100) op178_98 rfl rfl rfl ?_
        obtain ⟨wf75, f75, h⟩ := rq_bind h
        refine mo_findWinners_l100_ok xs hd (fun x60 m58 eq => ?_) _ _ _ _ _ _ _  f75
        subst eq
        try dsimp only at h
        intro o59 o61 o62 o63
        refine rx_p (L2 := [some (.ref 115), some (.int a1), some (.int a2), some (.int a3), o59, some (.int x60), o61, o62, o63]) (S2 := [.int x60]) (pc2 := 198) op178_196 rfl rfl ?_
        obtain ⟨m72, gc74, h⟩ := rq_bind h
        try dsimp only at h
        have c74 : ∀ (o67 o68 o69 o70 o71 : Option Value), rn_R xs (d + 1) 178 206 [some (.ref 115), some (.int a1), some (.int a2), some (.int a3), o67, o68, o69, o70, o71] [] (rn_SH, m72) r τ := by
          intro o67 o68 o69 o70 o71
          obtain ⟨x73, ex73, h⟩ := rq_bv h
          refine rx_inc (w := 1) (v := x73) (L2 := [some (.ref 115), some (.int a1), some (.int a2), some (.int x73), o67, o68, o69, o70, o71]) (pc2 := 209) op178_206 rfl (by decide) ex73 rfl rfl ?_
          refine ry_go (tgt := 31) op178_209 (by decide) (by decide) ?_
          exact ih _ _ _ _ _ _ _ h
        refine ry_if_eq (tgt := 206) (pc2 := 201) op178_198 (by decide) (by decide) rfl (fun b64 => ?_) (fun b64 => ?_)
        · have gc74 := (if_pos b64).symm.trans gc74
          cases gc74
          exact c74 _ _ _ _ _
        · have gc74 := (if_neg b64).symm.trans gc74
          refine rx_p (L2 := [some (.ref 115), some (.int a1), some (.int a2), some (.int a3), o59, some (.int x60), o61, o62, o63]) (S2 := [.ref 115]) (pc2 := 202) op178_201 rfl rfl ?_
          refine rx_p (L2 := [some (.ref 115), some (.int a1), some (.int a2), some (.int a3), o59, some (.int x60), o61, o62, o63]) (S2 := [.int a1, .ref 115]) (pc2 := 203) op178_202 rfl rfl ?_
          obtain ⟨m65, f66, gc74⟩ := rq_bind gc74
          try dsimp only at gc74
          refine ry_iv (p := 115) (vs := [.int a1]) (T := []) (pc2 := 206) op178_203 ms_179 (by decide) rfl rfl (Nat.le_of_ble_eq_true rfl) (Nat.le_of_ble_eq_true rfl) sp_115 (mo_findOrders_ok xs (by omega)  f66) rfl ?_
          show rn_R _ _ _ _ _ [] _ _ _
          cases gc74
          exact c74 _ _ _ _ _
      · have h := (if_neg b16).symm.trans h
        cases h
        exact hr _ rfl _ _ _ _ _ _ _ _ _
    · have h := (if_neg b12).symm.trans h
      cases h
      exact hr _ rfl _ _ _ _ _ _ _ _ _
set_option maxHeartbeats 4000000 in
set_option maxRecDepth 20000 in
theorem mo_findWinners_ok (xs : List Int32) {d : Nat} (hd : 5 ≤ d) {n : Nat} {a1 : Int32} {m mO : rn_Mem} (h : mo_findWinners n a1 m = some mO) : rn_R xs d 178 0 (rn_ent 9 [.ref 115, .int a1]) [] (rn_SH, m) none (rn_SH, mO) := by
  obtain ⟨d, rfl⟩ : ∃ e, d = e + 1 := ⟨d - 1, by omega⟩
  unfold mo_findWinners at h
  show rn_R xs (d + 1) 178 0 [some (.ref 115), some (.int a1), none, none, none, none, none, none, none] [] (rn_SH, m) none (rn_SH, mO)
  refine rx_ic (v := 1) (pc2 := 1) op178_0 (by decide) rfl ?_
  refine rx_s (L2 := [some (.ref 115), some (.int a1), some (.int 1), none, none, none, none, none, none]) (pc2 := 2) op178_1 rfl rfl rfl ?_
  refine rx_ic (v := 0) (pc2 := 3) op178_2 (by decide) rfl ?_
  refine rx_s (L2 := [some (.ref 115), some (.int a1), some (.int 1), some (.int 0), none, none, none, none, none]) (pc2 := 4) op178_3 rfl rfl rfl ?_
  obtain ⟨wf88, f88, h⟩ := rq_bind h
  refine mo_findWinners_l4_ok xs hd (fun x5 m4 eq => ?_) _ _ _ _ _ _ _ _ _  f88
  subst eq
  try dsimp only at h
  intro o6 o7 o8 o9 o10 o11
  refine rx_ic (v := 0) (pc2 := 30) op178_29 (by decide) rfl ?_
  refine rx_s (L2 := [some (.ref 115), some (.int a1), some (.int x5), some (.int 0), o7, o8, o9, o10, o11]) (pc2 := 31) op178_30 rfl rfl rfl ?_
  obtain ⟨m77, f87, h⟩ := rq_bind h
  refine mo_findWinners_l31_ok xs hd (fun m0 eq => ?_) _ _ _ _ _ _ _ _  f87
  subst eq
  try dsimp only at h
  intro o78 o79 o80 o81 o82 o83 o84 o85 o86
  obtain rfl := Option.some.inj h
  exact ry_rv op178_212 ms_178 rfl
/-! mo_findPlays -/
theorem op174_0 : rn_op 174 0 = some (.aload_n 0, 1, 0, 0, 0) := by decide +kernel
theorem op174_1 : rn_op 174 1 = some (.lconst 0, 1, 0, 0, 0) := by decide +kernel
theorem op174_2 : rn_op 174 2 = some (.putfield 222, 3, 11, 14, 1) := by decide +kernel
theorem op174_5 : rn_op 174 5 = some (.aload_n 0, 1, 0, 0, 0) := by decide +kernel
theorem op174_6 : rn_op 174 6 = some (.bipush (-4), 2, 0, 0, 0) := by decide +kernel
theorem op174_8 : rn_op 174 8 = some (.putfield 226, 3, 11, 15, 0) := by decide +kernel
theorem op174_11 : rn_op 174 11 = some (.iconst 0, 1, 0, 0, 0) := by decide +kernel
theorem op174_12 : rn_op 174 12 = some (.istore_n 1, 1, 0, 0, 0) := by decide +kernel
theorem op174_13 : rn_op 174 13 = some (.iload_n 1, 1, 0, 0, 0) := by decide +kernel
theorem op174_14 : rn_op 174 14 = some (.bipush 16, 2, 0, 0, 0) := by decide +kernel
theorem op174_16 : rn_op 174 16 = some (.if_icmp .ge 16, 3, 0, 0, 0) := by decide +kernel
theorem op174_19 : rn_op 174 19 = some (.aload_n 0, 1, 0, 0, 0) := by decide +kernel
theorem op174_20 : rn_op 174 20 = some (.getfield 22, 3, 11, 16, 3) := by decide +kernel
theorem op174_23 : rn_op 174 23 = some (.iload_n 1, 1, 0, 0, 0) := by decide +kernel
theorem op174_24 : rn_op 174 24 = some (.iconst 0, 1, 0, 0, 0) := by decide +kernel
theorem op174_25 : rn_op 174 25 = some (.iastore, 1, 0, 0, 0) := by decide +kernel
theorem op174_26 : rn_op 174 26 = some (.iinc 1 1, 3, 0, 0, 0) := by decide +kernel
theorem op174_29 : rn_op 174 29 = some (.goto (-16), 3, 0, 0, 0) := by decide +kernel
theorem op174_32 : rn_op 174 32 = some (.iconst 0, 1, 0, 0, 0) := by decide +kernel
theorem op174_33 : rn_op 174 33 = some (.istore_n 1, 1, 0, 0, 0) := by decide +kernel
theorem op174_34 : rn_op 174 34 = some (.iload_n 1, 1, 0, 0, 0) := by decide +kernel
theorem op174_35 : rn_op 174 35 = some (.iconst 4, 1, 0, 0, 0) := by decide +kernel
theorem op174_36 : rn_op 174 36 = some (.if_icmp .ge 23, 3, 0, 0, 0) := by decide +kernel
theorem op174_39 : rn_op 174 39 = some (.aload_n 0, 1, 0, 0, 0) := by decide +kernel
theorem op174_40 : rn_op 174 40 = some (.getfield 28, 3, 11, 18, 3) := by decide +kernel
theorem op174_43 : rn_op 174 43 = some (.iload_n 1, 1, 0, 0, 0) := by decide +kernel
theorem op174_44 : rn_op 174 44 = some (.iconst 0, 1, 0, 0, 0) := by decide +kernel
theorem op174_45 : rn_op 174 45 = some (.iastore, 1, 0, 0, 0) := by decide +kernel
theorem op174_46 : rn_op 174 46 = some (.aload_n 0, 1, 0, 0, 0) := by decide +kernel
theorem op174_47 : rn_op 174 47 = some (.getfield 31, 3, 11, 19, 3) := by decide +kernel
theorem op174_50 : rn_op 174 50 = some (.iload_n 1, 1, 0, 0, 0) := by decide +kernel
theorem op174_51 : rn_op 174 51 = some (.iconst 0, 1, 0, 0, 0) := by decide +kernel
theorem op174_52 : rn_op 174 52 = some (.iastore, 1, 0, 0, 0) := by decide +kernel
theorem op174_53 : rn_op 174 53 = some (.iinc 1 1, 3, 0, 0, 0) := by decide +kernel
theorem op174_56 : rn_op 174 56 = some (.goto (-22), 3, 0, 0, 0) := by decide +kernel
theorem op174_59 : rn_op 174 59 = some (.aload_n 0, 1, 0, 0, 0) := by decide +kernel
theorem op174_60 : rn_op 174 60 = some (.iconst 0, 1, 0, 0, 0) := by decide +kernel
theorem op174_61 : rn_op 174 61 = some (.putfield 229, 3, 11, 21, 0) := by decide +kernel
theorem op174_64 : rn_op 174 64 = some (.aload_n 0, 1, 0, 0, 0) := by decide +kernel
theorem op174_65 : rn_op 174 65 = some (.getfield 7, 3, 11, 0, 3) := by decide +kernel
theorem op174_68 : rn_op 174 68 = some (.iconst 3, 1, 0, 0, 0) := by decide +kernel
theorem op174_69 : rn_op 174 69 = some (.iaload, 1, 0, 0, 0) := by decide +kernel
theorem op174_70 : rn_op 174 70 = some (.istore_n 1, 1, 0, 0, 0) := by decide +kernel
theorem op174_71 : rn_op 174 71 = some (.iconst 0, 1, 0, 0, 0) := by decide +kernel
theorem op174_72 : rn_op 174 72 = some (.istore_n 2, 1, 0, 0, 0) := by decide +kernel
theorem op174_73 : rn_op 174 73 = some (.iload_n 2, 1, 0, 0, 0) := by decide +kernel
theorem op174_74 : rn_op 174 74 = some (.aload_n 0, 1, 0, 0, 0) := by decide +kernel
theorem op174_75 : rn_op 174 75 = some (.getfield 7, 3, 11, 0, 3) := by decide +kernel
theorem op174_78 : rn_op 174 78 = some (.iconst 1, 1, 0, 0, 0) := by decide +kernel
theorem op174_79 : rn_op 174 79 = some (.iaload, 1, 0, 0, 0) := by decide +kernel
theorem op174_80 : rn_op 174 80 = some (.if_icmp .ge 111, 3, 0, 0, 0) := by decide +kernel
theorem op174_83 : rn_op 174 83 = some (.iconst 0, 1, 0, 0, 0) := by decide +kernel
theorem op174_84 : rn_op 174 84 = some (.istore_n 3, 1, 0, 0, 0) := by decide +kernel
theorem op174_85 : rn_op 174 85 = some (.iload_n 3, 1, 0, 0, 0) := by decide +kernel
theorem op174_86 : rn_op 174 86 = some (.aload_n 0, 1, 0, 0, 0) := by decide +kernel
theorem op174_87 : rn_op 174 87 = some (.getfield 7, 3, 11, 0, 3) := by decide +kernel
theorem op174_90 : rn_op 174 90 = some (.bipush 12, 2, 0, 0, 0) := by decide +kernel
theorem op174_92 : rn_op 174 92 = some (.iload_n 2, 1, 0, 0, 0) := by decide +kernel
theorem op174_93 : rn_op 174 93 = some (.iadd, 1, 0, 0, 0) := by decide +kernel
theorem op174_94 : rn_op 174 94 = some (.iaload, 1, 0, 0, 0) := by decide +kernel
theorem op174_95 : rn_op 174 95 = some (.if_icmp .ge 90, 3, 0, 0, 0) := by decide +kernel
theorem op174_98 : rn_op 174 98 = some (.aload_n 0, 1, 0, 0, 0) := by decide +kernel
theorem op174_99 : rn_op 174 99 = some (.getfield 7, 3, 11, 0, 3) := by decide +kernel
theorem op174_102 : rn_op 174 102 = some (.bipush 16, 2, 0, 0, 0) := by decide +kernel
theorem op174_104 : rn_op 174 104 = some (.bipush 12, 2, 0, 0, 0) := by decide +kernel
theorem op174_106 : rn_op 174 106 = some (.iload_n 2, 1, 0, 0, 0) := by decide +kernel
theorem op174_107 : rn_op 174 107 = some (.imul, 1, 0, 0, 0) := by decide +kernel
theorem op174_108 : rn_op 174 108 = some (.iadd, 1, 0, 0, 0) := by decide +kernel
theorem op174_109 : rn_op 174 109 = some (.iload_n 3, 1, 0, 0, 0) := by decide +kernel
theorem op174_110 : rn_op 174 110 = some (.iadd, 1, 0, 0, 0) := by decide +kernel
theorem op174_111 : rn_op 174 111 = some (.iaload, 1, 0, 0, 0) := by decide +kernel
theorem op174_112 : rn_op 174 112 = some (.istore 4, 2, 0, 0, 0) := by decide +kernel
theorem op174_114 : rn_op 174 114 = some (.aload_n 0, 1, 0, 0, 0) := by decide +kernel
theorem op174_115 : rn_op 174 115 = some (.getfield 43, 3, 11, 24, 3) := by decide +kernel
theorem op174_118 : rn_op 174 118 = some (.bipush 12, 2, 0, 0, 0) := by decide +kernel
theorem op174_120 : rn_op 174 120 = some (.iload_n 2, 1, 0, 0, 0) := by decide +kernel
theorem op174_121 : rn_op 174 121 = some (.imul, 1, 0, 0, 0) := by decide +kernel
theorem op174_122 : rn_op 174 122 = some (.iload_n 3, 1, 0, 0, 0) := by decide +kernel
theorem op174_123 : rn_op 174 123 = some (.iadd, 1, 0, 0, 0) := by decide +kernel
theorem op174_124 : rn_op 174 124 = some (.iload 4, 2, 0, 0, 0) := by decide +kernel
theorem op174_126 : rn_op 174 126 = some (.iastore, 1, 0, 0, 0) := by decide +kernel
theorem op174_127 : rn_op 174 127 = some (.iload 4, 2, 0, 0, 0) := by decide +kernel
theorem op174_129 : rn_op 174 129 = some (.ifCond .ge 41, 3, 0, 0, 0) := by decide +kernel
theorem op174_132 : rn_op 174 132 = some (.aload_n 0, 1, 0, 0, 0) := by decide +kernel
theorem op174_133 : rn_op 174 133 = some (.getfield 37, 3, 11, 22, 3) := by decide +kernel
theorem op174_136 : rn_op 174 136 = some (.aload_n 0, 1, 0, 0, 0) := by decide +kernel
theorem op174_137 : rn_op 174 137 = some (.getfield 229, 3, 11, 21, 0) := by decide +kernel
theorem op174_140 : rn_op 174 140 = some (.bipush 12, 2, 0, 0, 0) := by decide +kernel
theorem op174_142 : rn_op 174 142 = some (.iload_n 2, 1, 0, 0, 0) := by decide +kernel
theorem op174_143 : rn_op 174 143 = some (.imul, 1, 0, 0, 0) := by decide +kernel
theorem op174_144 : rn_op 174 144 = some (.iload_n 3, 1, 0, 0, 0) := by decide +kernel
theorem op174_145 : rn_op 174 145 = some (.iadd, 1, 0, 0, 0) := by decide +kernel
theorem op174_146 : rn_op 174 146 = some (.iastore, 1, 0, 0, 0) := by decide +kernel
theorem op174_147 : rn_op 174 147 = some (.aload_n 0, 1, 0, 0, 0) := by decide +kernel
theorem op174_148 : rn_op 174 148 = some (.getfield 25, 3, 11, 17, 3) := by decide +kernel
theorem op174_151 : rn_op 174 151 = some (.aload_n 0, 1, 0, 0, 0) := by decide +kernel
theorem op174_152 : rn_op 174 152 = some (.getfield 229, 3, 11, 21, 0) := by decide +kernel
theorem op174_155 : rn_op 174 155 = some (.iconst 0, 1, 0, 0, 0) := by decide +kernel
theorem op174_156 : rn_op 174 156 = some (.iastore, 1, 0, 0, 0) := by decide +kernel
theorem op174_157 : rn_op 174 157 = some (.aload_n 0, 1, 0, 0, 0) := by decide +kernel
theorem op174_158 : rn_op 174 158 = some (.dup, 1, 0, 0, 0) := by decide +kernel
theorem op174_159 : rn_op 174 159 = some (.getfield 229, 3, 11, 21, 0) := by decide +kernel
theorem op174_162 : rn_op 174 162 = some (.iconst 1, 1, 0, 0, 0) := by decide +kernel
theorem op174_163 : rn_op 174 163 = some (.iadd, 1, 0, 0, 0) := by decide +kernel
theorem op174_164 : rn_op 174 164 = some (.putfield 229, 3, 11, 21, 0) := by decide +kernel
theorem op174_167 : rn_op 174 167 = some (.goto 12, 3, 0, 0, 0) := by decide +kernel
theorem op174_170 : rn_op 174 170 = some (.iload_n 1, 1, 0, 0, 0) := by decide +kernel
theorem op174_171 : rn_op 174 171 = some (.iconst 1, 1, 0, 0, 0) := by decide +kernel
theorem op174_172 : rn_op 174 172 = some (.iload 4, 2, 0, 0, 0) := by decide +kernel
theorem op174_174 : rn_op 174 174 = some (.ishl, 1, 0, 0, 0) := by decide +kernel
theorem op174_175 : rn_op 174 175 = some (.iconst (-1), 1, 0, 0, 0) := by decide +kernel
theorem op174_176 : rn_op 174 176 = some (.ixor, 1, 0, 0, 0) := by decide +kernel
theorem op174_177 : rn_op 174 177 = some (.iand, 1, 0, 0, 0) := by decide +kernel
theorem op174_178 : rn_op 174 178 = some (.istore_n 1, 1, 0, 0, 0) := by decide +kernel
theorem op174_179 : rn_op 174 179 = some (.iinc 3 1, 3, 0, 0, 0) := by decide +kernel
theorem op174_182 : rn_op 174 182 = some (.goto (-97), 3, 0, 0, 0) := by decide +kernel
theorem op174_185 : rn_op 174 185 = some (.iinc 2 1, 3, 0, 0, 0) := by decide +kernel
theorem op174_188 : rn_op 174 188 = some (.goto (-115), 3, 0, 0, 0) := by decide +kernel
theorem op174_191 : rn_op 174 191 = some (.iconst 0, 1, 0, 0, 0) := by decide +kernel
theorem op174_192 : rn_op 174 192 = some (.istore_n 2, 1, 0, 0, 0) := by decide +kernel
theorem op174_193 : rn_op 174 193 = some (.iconst 0, 1, 0, 0, 0) := by decide +kernel
theorem op174_194 : rn_op 174 194 = some (.istore_n 3, 1, 0, 0, 0) := by decide +kernel
theorem op174_195 : rn_op 174 195 = some (.iload_n 3, 1, 0, 0, 0) := by decide +kernel
theorem op174_196 : rn_op 174 196 = some (.bipush 16, 2, 0, 0, 0) := by decide +kernel
theorem op174_198 : rn_op 174 198 = some (.if_icmp .ge 28, 3, 0, 0, 0) := by decide +kernel
theorem op174_201 : rn_op 174 201 = some (.iload_n 1, 1, 0, 0, 0) := by decide +kernel
theorem op174_202 : rn_op 174 202 = some (.iload_n 3, 1, 0, 0, 0) := by decide +kernel
theorem op174_203 : rn_op 174 203 = some (.ishr, 1, 0, 0, 0) := by decide +kernel
theorem op174_204 : rn_op 174 204 = some (.iconst 1, 1, 0, 0, 0) := by decide +kernel
theorem op174_205 : rn_op 174 205 = some (.iand, 1, 0, 0, 0) := by decide +kernel
theorem op174_206 : rn_op 174 206 = some (.iconst 1, 1, 0, 0, 0) := by decide +kernel
theorem op174_207 : rn_op 174 207 = some (.if_icmp .ne 13, 3, 0, 0, 0) := by decide +kernel
theorem op174_210 : rn_op 174 210 = some (.aload_n 0, 1, 0, 0, 0) := by decide +kernel
theorem op174_211 : rn_op 174 211 = some (.getfield 40, 3, 11, 23, 3) := by decide +kernel
theorem op174_214 : rn_op 174 214 = some (.iload_n 2, 1, 0, 0, 0) := by decide +kernel
theorem op174_215 : rn_op 174 215 = some (.iload_n 3, 1, 0, 0, 0) := by decide +kernel
theorem op174_216 : rn_op 174 216 = some (.iastore, 1, 0, 0, 0) := by decide +kernel
theorem op174_217 : rn_op 174 217 = some (.iinc 2 1, 3, 0, 0, 0) := by decide +kernel
theorem op174_220 : rn_op 174 220 = some (.iinc 3 1, 3, 0, 0, 0) := by decide +kernel
theorem op174_223 : rn_op 174 223 = some (.goto (-28), 3, 0, 0, 0) := by decide +kernel
theorem op174_226 : rn_op 174 226 = some (.iconst 0, 1, 0, 0, 0) := by decide +kernel
theorem op174_227 : rn_op 174 227 = some (.istore_n 3, 1, 0, 0, 0) := by decide +kernel
theorem op174_228 : rn_op 174 228 = some (.iload_n 3, 1, 0, 0, 0) := by decide +kernel
theorem op174_229 : rn_op 174 229 = some (.aload_n 0, 1, 0, 0, 0) := by decide +kernel
theorem op174_230 : rn_op 174 230 = some (.getfield 229, 3, 11, 21, 0) := by decide +kernel
theorem op174_233 : rn_op 174 233 = some (.invokestatic 232, 3, 175, 1, 0) := by decide +kernel
theorem op174_236 : rn_op 174 236 = some (.if_icmp .ge 116, 3, 0, 0, 0) := by decide +kernel
theorem op174_239 : rn_op 174 239 = some (.aload_n 0, 1, 0, 0, 0) := by decide +kernel
theorem op174_240 : rn_op 174 240 = some (.invokevirtual 235, 3, 176, 1, 11) := by decide +kernel
theorem op174_243 : rn_op 174 243 = some (.ifCond .ne 109, 3, 0, 0, 0) := by decide +kernel
theorem op174_246 : rn_op 174 246 = some (.iconst 0, 1, 0, 0, 0) := by decide +kernel
theorem op174_247 : rn_op 174 247 = some (.istore 4, 2, 0, 0, 0) := by decide +kernel
theorem op174_249 : rn_op 174 249 = some (.iload 4, 2, 0, 0, 0) := by decide +kernel
theorem op174_251 : rn_op 174 251 = some (.aload_n 0, 1, 0, 0, 0) := by decide +kernel
theorem op174_252 : rn_op 174 252 = some (.getfield 229, 3, 11, 21, 0) := by decide +kernel
theorem op174_255 : rn_op 174 255 = some (.if_icmp .ge 36, 3, 0, 0, 0) := by decide +kernel
theorem op174_258 : rn_op 174 258 = some (.aload_n 0, 1, 0, 0, 0) := by decide +kernel
theorem op174_259 : rn_op 174 259 = some (.getfield 43, 3, 11, 24, 3) := by decide +kernel
theorem op174_262 : rn_op 174 262 = some (.aload_n 0, 1, 0, 0, 0) := by decide +kernel
theorem op174_263 : rn_op 174 263 = some (.getfield 37, 3, 11, 22, 3) := by decide +kernel
theorem op174_266 : rn_op 174 266 = some (.iload 4, 2, 0, 0, 0) := by decide +kernel
theorem op174_268 : rn_op 174 268 = some (.iaload, 1, 0, 0, 0) := by decide +kernel
theorem op174_269 : rn_op 174 269 = some (.aload_n 0, 1, 0, 0, 0) := by decide +kernel
theorem op174_270 : rn_op 174 270 = some (.getfield 40, 3, 11, 23, 3) := by decide +kernel
theorem op174_273 : rn_op 174 273 = some (.aload_n 0, 1, 0, 0, 0) := by decide +kernel
theorem op174_274 : rn_op 174 274 = some (.getfield 229, 3, 11, 21, 0) := by decide +kernel
theorem op174_277 : rn_op 174 277 = some (.iload_n 3, 1, 0, 0, 0) := by decide +kernel
theorem op174_278 : rn_op 174 278 = some (.iload 4, 2, 0, 0, 0) := by decide +kernel
theorem op174_280 : rn_op 174 280 = some (.invokestatic 238, 3, 177, 3, 0) := by decide +kernel
theorem op174_283 : rn_op 174 283 = some (.iaload, 1, 0, 0, 0) := by decide +kernel
theorem op174_284 : rn_op 174 284 = some (.iastore, 1, 0, 0, 0) := by decide +kernel
theorem op174_285 : rn_op 174 285 = some (.iinc 4 1, 3, 0, 0, 0) := by decide +kernel
theorem op174_288 : rn_op 174 288 = some (.goto (-39), 3, 0, 0, 0) := by decide +kernel
theorem op174_291 : rn_op 174 291 = some (.iconst 0, 1, 0, 0, 0) := by decide +kernel
theorem op174_292 : rn_op 174 292 = some (.istore 4, 2, 0, 0, 0) := by decide +kernel
theorem op174_294 : rn_op 174 294 = some (.iload 4, 2, 0, 0, 0) := by decide +kernel
theorem op174_296 : rn_op 174 296 = some (.aload_n 0, 1, 0, 0, 0) := by decide +kernel
theorem op174_297 : rn_op 174 297 = some (.getfield 7, 3, 11, 0, 3) := by decide +kernel
theorem op174_300 : rn_op 174 300 = some (.iconst 1, 1, 0, 0, 0) := by decide +kernel
theorem op174_301 : rn_op 174 301 = some (.iaload, 1, 0, 0, 0) := by decide +kernel
theorem op174_302 : rn_op 174 302 = some (.if_icmp .ge 44, 3, 0, 0, 0) := by decide +kernel
theorem op174_305 : rn_op 174 305 = some (.aload_n 0, 1, 0, 0, 0) := by decide +kernel
theorem op174_306 : rn_op 174 306 = some (.invokevirtual 235, 3, 176, 1, 11) := by decide +kernel
theorem op174_309 : rn_op 174 309 = some (.ifCond .ne 37, 3, 0, 0, 0) := by decide +kernel
theorem op174_312 : rn_op 174 312 = some (.aload_n 0, 1, 0, 0, 0) := by decide +kernel
theorem op174_313 : rn_op 174 313 = some (.getfield 7, 3, 11, 0, 3) := by decide +kernel
theorem op174_316 : rn_op 174 316 = some (.bipush 8, 2, 0, 0, 0) := by decide +kernel
theorem op174_318 : rn_op 174 318 = some (.iaload, 1, 0, 0, 0) := by decide +kernel
theorem op174_319 : rn_op 174 319 = some (.ifCond .lt 15, 3, 0, 0, 0) := by decide +kernel
theorem op174_322 : rn_op 174 322 = some (.aload_n 0, 1, 0, 0, 0) := by decide +kernel
theorem op174_323 : rn_op 174 323 = some (.getfield 7, 3, 11, 0, 3) := by decide +kernel
theorem op174_326 : rn_op 174 326 = some (.bipush 8, 2, 0, 0, 0) := by decide +kernel
theorem op174_328 : rn_op 174 328 = some (.iaload, 1, 0, 0, 0) := by decide +kernel
theorem op174_329 : rn_op 174 329 = some (.iload 4, 2, 0, 0, 0) := by decide +kernel
theorem op174_331 : rn_op 174 331 = some (.if_icmp .ne 9, 3, 0, 0, 0) := by decide +kernel
theorem op174_334 : rn_op 174 334 = some (.aload_n 0, 1, 0, 0, 0) := by decide +kernel
theorem op174_335 : rn_op 174 335 = some (.iload 4, 2, 0, 0, 0) := by decide +kernel
theorem op174_337 : rn_op 174 337 = some (.invokevirtual 241, 3, 178, 2, 11) := by decide +kernel
theorem op174_340 : rn_op 174 340 = some (.iinc 4 1, 3, 0, 0, 0) := by decide +kernel
theorem op174_343 : rn_op 174 343 = some (.goto (-49), 3, 0, 0, 0) := by decide +kernel
theorem op174_346 : rn_op 174 346 = some (.iinc 3 1, 3, 0, 0, 0) := by decide +kernel
theorem op174_349 : rn_op 174 349 = some (.goto (-121), 3, 0, 0, 0) := by decide +kernel
theorem op174_352 : rn_op 174 352 = some (.return_, 1, 0, 0, 0) := by decide +kernel
def mo_findPlays_l13  : Nat → Int32 → rn_Mem → Option (rn_Mem)
  | 0, _, _ => none
  | n + 1, a1, m =>
    if a1 < 16 then
      if rn_in a1 16 = true then
        (some (rm_i m 120 a1.toNatClampNeg 0)).bind fun (m4 : rn_Mem) =>
        (some (a1 + 1)).bind fun (x6 : Int32) =>
        mo_findPlays_l13 n x6 m4
      else none
    else
      some m
def mo_findPlays_l34  : Nat → Int32 → rn_Mem → Option (rn_Mem)
  | 0, _, _ => none
  | n + 1, a1, m =>
    if a1 < 4 then
      if rn_in a1 4 = true then
        (some (rm_i m 122 a1.toNatClampNeg 0)).bind fun (m13 : rn_Mem) =>
        if rn_in a1 4 = true then
          (some (rm_i m13 123 a1.toNatClampNeg 0)).bind fun (m15 : rn_Mem) =>
          (some (a1 + 1)).bind fun (x17 : Int32) =>
          mo_findPlays_l34 n x17 m15
        else none
      else none
    else
      some m
def mo_findPlays_l85 (a2 : Int32) : Nat → Int32 → Int32 → rn_Mem → Option (Int32 × rn_Mem)
  | 0, _, _, _ => none
  | n + 1, a1, a3, m =>
    if rn_in ((12 : Int32) + a2) 101 = true then
      if a3 < (m.1 116 ((12 : Int32) + a2).toNatClampNeg) then
        if rn_in (((16 : Int32) + ((12 : Int32) * a2)) + a3) 101 = true then
          (some (m.1 116 (((16 : Int32) + ((12 : Int32) * a2)) + a3).toNatClampNeg)).bind fun (x29 : Int32) =>
          if rn_in (((12 : Int32) * a2) + a3) 48 = true then
            (some (rm_i m 127 (((12 : Int32) * a2) + a3).toNatClampNeg x29)).bind fun (m30 : rn_Mem) =>
            (show Option (Int32 × rn_Mem) from
              if x29 < 0 then
                if rn_in (m30.1 115 21) 3 = true then
                  (some (rm_i m30 125 (m30.1 115 21).toNatClampNeg (((12 : Int32) * a2) + a3))).bind fun (m33 : rn_Mem) =>
                  if rn_in (m33.1 115 21) 3 = true then
                    (some (rm_i m33 121 (m33.1 115 21).toNatClampNeg 0)).bind fun (m35 : rn_Mem) =>
                    (some (rm_i m35 115 21 ((m35.1 115 21) + 1))).bind fun (m37 : rn_Mem) =>
                    some (a1, m37)
                  else none
                else none
              else
                (some (a1 &&& (((1 : Int32) <<< (x29 &&& 31)) ^^^ (-1)))).bind fun (x38 : Int32) =>
                some (x38, m30)).bind fun (x39, m41) =>
            (some (a3 + 1)).bind fun (x42 : Int32) =>
            mo_findPlays_l85 a2 n x39 x42 m41
          else none
        else none
      else
        some (a1, m)
    else none
def mo_findPlays_l73  : Nat → Int32 → Int32 → rn_Mem → Option (Int32 × rn_Mem)
  | 0, _, _, _ => none
  | n + 1, a1, a2, m =>
    if a2 < (m.1 116 1) then
      (mo_findPlays_l85 a2 n a1 0 m).bind fun (x45, m44) =>
      (some (a2 + 1)).bind fun (x48 : Int32) =>
      mo_findPlays_l73 n x45 x48 m44
    else
      some (a1, m)
def mo_findPlays_l195 (a1 : Int32) : Nat → Int32 → Int32 → rn_Mem → Option (rn_Mem)
  | 0, _, _, _ => none
  | n + 1, a2, a3, m =>
    if a3 < 16 then
      (show Option (Int32 × rn_Mem) from
        if ((a1 >>> (a3 &&& 31)) &&& 1) = 1 then
          if rn_in a2 3 = true then
            (some (rm_i m 126 a2.toNatClampNeg a3)).bind fun (m57 : rn_Mem) =>
            (some (a2 + 1)).bind fun (x59 : Int32) =>
            some (x59, m57)
          else none
        else
          some (a2, m)).bind fun (x60, m62) =>
      (some (a3 + 1)).bind fun (x63 : Int32) =>
      mo_findPlays_l195 a1 n x60 x63 m62
    else
      some m
def mo_findPlays_l249 (a3 : Int32) : Nat → Int32 → rn_Mem → Option (rn_Mem)
  | 0, _, _ => none
  | n + 1, a4, m =>
    if a4 < (m.1 115 21) then
      if rn_in a4 3 = true then
        (mo_ordered n (m.1 115 21) a3 a4 m).bind fun (r82, m81) =>
        if rn_in r82 3 = true then
          if rn_in (m.1 125 a4.toNatClampNeg) 48 = true then
            (some (rm_i m81 127 (m.1 125 a4.toNatClampNeg).toNatClampNeg (m81.1 126 r82.toNatClampNeg))).bind fun (m85 : rn_Mem) =>
            (some (a4 + 1)).bind fun (x87 : Int32) =>
            mo_findPlays_l249 a3 n x87 m85
          else none
        else none
      else none
    else
      some m
def mo_findPlays_l294 (a3 : Int32) : Nat → Int32 → rn_Mem → Option (rn_Mem)
  | 0, _, _ => none
  | n + 1, a4, m =>
    if a4 < (m.1 116 1) then
      (mo_isDone n m).bind fun (r94, m93) =>
      if r94 = 0 then
        (show Option (rn_Mem) from
          if (m93.1 116 8) < 0 then
            (mo_findWinners n a4 m93).bind fun m98 =>
            some (m98)
          else
            if (m93.1 116 8) = a4 then
              (mo_findWinners n a4 m93).bind fun m101 =>
              some (m101)
            else
              some (m93)).bind fun m105 =>
        (some (a4 + 1)).bind fun (x106 : Int32) =>
        mo_findPlays_l294 a3 n x106 m105
      else
        some m93
    else
      some m
def mo_findPlays_l228  : Nat → Int32 → rn_Mem → Option (rn_Mem)
  | 0, _, _ => none
  | n + 1, a3, m =>
    (mo_ordersOf n (m.1 115 21) m).bind fun (r72, m71) =>
    if a3 < r72 then
      (mo_isDone n m71).bind fun (r76, m75) =>
      if r76 = 0 then
        (mo_findPlays_l249 a3 n 0 m75).bind fun m88 =>
        (mo_findPlays_l294 a3 n 0 m88).bind fun m108 =>
        (some (a3 + 1)).bind fun (x112 : Int32) =>
        mo_findPlays_l228 n x112 m108
      else
        some m75
    else
      some m71
def mo_findPlays (n : Nat)  (m : rn_Mem) : Option (rn_Mem) :=
  (some (rm_j m 115 14 0)).bind fun (m1 : rn_Mem) =>
  (some (rm_i m1 115 15 (-4))).bind fun (m2 : rn_Mem) =>
  (mo_findPlays_l13 n 0 m2).bind fun m7 =>
  (mo_findPlays_l34 n 0 m7).bind fun m18 =>
  (some (rm_i m18 115 21 0)).bind fun (m23 : rn_Mem) =>
  (some (m23.1 116 3)).bind fun (x24 : Int32) =>
  (mo_findPlays_l73 n x24 0 m23).bind fun (x51, m50) =>
  (mo_findPlays_l195 x51 n 0 0 m50).bind fun m65 =>
  (mo_findPlays_l228 n 0 m65).bind fun m116 =>
  some m116
set_option maxHeartbeats 4000000 in
set_option maxRecDepth 20000 in
theorem mo_findPlays_l13_ok (xs : List Int32) {d : Nat} (hd : 6 ≤ d + 1) {r : Option Value} {τ : rn_H} {out : rn_Mem} (hr : ∀ (mO : rn_Mem), out = mO → ∀ (o1 o2 o3 o4 : Option Value), rn_R xs (d + 1) 174 32 [some (.ref 115), o1, o2, o3, o4] [] (rn_SH, mO) r τ) : ∀ (n : Nat) (a1 : Int32) (o2 o3 o4 : Option Value) (m : rn_Mem), mo_findPlays_l13 n a1 m = some out → rn_R xs (d + 1) 174 13 [some (.ref 115), some (.int a1), o2, o3, o4] [] (rn_SH, m) r τ := by
  intro n
  induction n with
  | zero =>
    intro _ _ _ _ _ h
    cases h
  | succ n ih =>
    intro a1 o2 o3 o4 m h
    unfold mo_findPlays_l13 at h
    try dsimp only at h
    refine rx_p (L2 := [some (.ref 115), some (.int a1), o2, o3, o4]) (S2 := [.int a1]) (pc2 := 14) op174_13 rfl rfl ?_
    refine rx_bp (v := 16) (pc2 := 16) op174_14 (by decide) rfl ?_
    refine ry_ic_ge (tgt := 32) (pc2 := 19) op174_16 (by decide) (by decide) rfl (fun b3 => ?_) (fun b3 => ?_)
    · have h := (if_pos b3).symm.trans h
      refine rx_p (L2 := [some (.ref 115), some (.int a1), o2, o3, o4]) (S2 := [.ref 115]) (pc2 := 20) op174_19 rfl rfl ?_
      refine rx_gf (v := .ref 120) (pc2 := 23) op174_20 sp_115 rfl rfl rfl ?_
      refine rx_p (L2 := [some (.ref 115), some (.int a1), o2, o3, o4]) (S2 := [.int a1, .ref 120]) (pc2 := 24) op174_23 rfl rfl ?_
      refine rx_ic (v := 0) (pc2 := 25) op174_24 (by decide) rfl ?_
      obtain ⟨k5, h⟩ := rq_chk h
      obtain ⟨m4, em4, h⟩ := rq_bv h
      refine rx_is (m2 := m4) (pc2 := 26) op174_25 sp_120 k5 rfl em4 rfl ?_
      obtain ⟨x6, ex6, h⟩ := rq_bv h
      refine rx_inc (w := 1) (v := x6) (L2 := [some (.ref 115), some (.int x6), o2, o3, o4]) (pc2 := 29) op174_26 rfl (by decide) ex6 rfl rfl ?_
      refine ry_go (tgt := 13) op174_29 (by decide) (by decide) ?_
      exact ih _ _ _ _ _ h
    · have h := (if_neg b3).symm.trans h
      cases h
      exact hr _ rfl _ _ _ _
set_option maxHeartbeats 4000000 in
set_option maxRecDepth 20000 in
theorem mo_findPlays_l34_ok (xs : List Int32) {d : Nat} (hd : 6 ≤ d + 1) {r : Option Value} {τ : rn_H} {out : rn_Mem} (hr : ∀ (mO : rn_Mem), out = mO → ∀ (o1 o2 o3 o4 : Option Value), rn_R xs (d + 1) 174 59 [some (.ref 115), o1, o2, o3, o4] [] (rn_SH, mO) r τ) : ∀ (n : Nat) (a1 : Int32) (o2 o3 o4 : Option Value) (m : rn_Mem), mo_findPlays_l34 n a1 m = some out → rn_R xs (d + 1) 174 34 [some (.ref 115), some (.int a1), o2, o3, o4] [] (rn_SH, m) r τ := by
  intro n
  induction n with
  | zero =>
    intro _ _ _ _ _ h
    cases h
  | succ n ih =>
    intro a1 o2 o3 o4 m h
    unfold mo_findPlays_l34 at h
    try dsimp only at h
    refine rx_p (L2 := [some (.ref 115), some (.int a1), o2, o3, o4]) (S2 := [.int a1]) (pc2 := 35) op174_34 rfl rfl ?_
    refine rx_ic (v := 4) (pc2 := 36) op174_35 (by decide) rfl ?_
    refine ry_ic_ge (tgt := 59) (pc2 := 39) op174_36 (by decide) (by decide) rfl (fun b12 => ?_) (fun b12 => ?_)
    · have h := (if_pos b12).symm.trans h
      refine rx_p (L2 := [some (.ref 115), some (.int a1), o2, o3, o4]) (S2 := [.ref 115]) (pc2 := 40) op174_39 rfl rfl ?_
      refine rx_gf (v := .ref 122) (pc2 := 43) op174_40 sp_115 rfl rfl rfl ?_
      refine rx_p (L2 := [some (.ref 115), some (.int a1), o2, o3, o4]) (S2 := [.int a1, .ref 122]) (pc2 := 44) op174_43 rfl rfl ?_
      refine rx_ic (v := 0) (pc2 := 45) op174_44 (by decide) rfl ?_
      obtain ⟨k14, h⟩ := rq_chk h
      obtain ⟨m13, em13, h⟩ := rq_bv h
      refine rx_is (m2 := m13) (pc2 := 46) op174_45 sp_122 k14 rfl em13 rfl ?_
      refine rx_p (L2 := [some (.ref 115), some (.int a1), o2, o3, o4]) (S2 := [.ref 115]) (pc2 := 47) op174_46 rfl rfl ?_
      refine rx_gf (v := .ref 123) (pc2 := 50) op174_47 sp_115 rfl rfl rfl ?_
      refine rx_p (L2 := [some (.ref 115), some (.int a1), o2, o3, o4]) (S2 := [.int a1, .ref 123]) (pc2 := 51) op174_50 rfl rfl ?_
      refine rx_ic (v := 0) (pc2 := 52) op174_51 (by decide) rfl ?_
      obtain ⟨k16, h⟩ := rq_chk h
      obtain ⟨m15, em15, h⟩ := rq_bv h
      refine rx_is (m2 := m15) (pc2 := 53) op174_52 sp_123 k16 rfl em15 rfl ?_
      obtain ⟨x17, ex17, h⟩ := rq_bv h
      refine rx_inc (w := 1) (v := x17) (L2 := [some (.ref 115), some (.int x17), o2, o3, o4]) (pc2 := 56) op174_53 rfl (by decide) ex17 rfl rfl ?_
      refine ry_go (tgt := 34) op174_56 (by decide) (by decide) ?_
      exact ih _ _ _ _ _ h
    · have h := (if_neg b12).symm.trans h
      cases h
      exact hr _ rfl _ _ _ _
set_option maxHeartbeats 4000000 in
set_option maxRecDepth 20000 in
theorem mo_findPlays_l85_ok (xs : List Int32) {d : Nat} (hd : 6 ≤ d + 1) {a2 : Int32} {r : Option Value} {τ : rn_H} {out : Int32 × rn_Mem} (hr : ∀ (z1 : Int32) (mO : rn_Mem), out = (z1, mO) → ∀ (o3 o4 : Option Value), rn_R xs (d + 1) 174 185 [some (.ref 115), some (.int z1), some (.int a2), o3, o4] [] (rn_SH, mO) r τ) : ∀ (n : Nat) (a1 : Int32) (a3 : Int32) (o4 : Option Value) (m : rn_Mem), mo_findPlays_l85 a2 n a1 a3 m = some out → rn_R xs (d + 1) 174 85 [some (.ref 115), some (.int a1), some (.int a2), some (.int a3), o4] [] (rn_SH, m) r τ := by
  intro n
  induction n with
  | zero =>
    intro _ _ _ _ h
    cases h
  | succ n ih =>
    intro a1 a3 o4 m h
    unfold mo_findPlays_l85 at h
    try dsimp only at h
    refine rx_p (L2 := [some (.ref 115), some (.int a1), some (.int a2), some (.int a3), o4]) (S2 := [.int a3]) (pc2 := 86) op174_85 rfl rfl ?_
    refine rx_p (L2 := [some (.ref 115), some (.int a1), some (.int a2), some (.int a3), o4]) (S2 := [.ref 115, .int a3]) (pc2 := 87) op174_86 rfl rfl ?_
    refine rx_gf (v := .ref 116) (pc2 := 90) op174_87 sp_115 rfl rfl rfl ?_
    refine rx_bp (v := 12) (pc2 := 92) op174_90 (by decide) rfl ?_
    refine rx_p (L2 := [some (.ref 115), some (.int a1), some (.int a2), some (.int a3), o4]) (S2 := [.int a2, .int 12, .ref 116, .int a3]) (pc2 := 93) op174_92 rfl rfl ?_
    refine rx_p (L2 := [some (.ref 115), some (.int a1), some (.int a2), some (.int a3), o4]) (S2 := [.int ((12 : Int32) + a2), .ref 116, .int a3]) (pc2 := 94) op174_93 rfl rfl ?_
    obtain ⟨k26, h⟩ := rq_chk h
    refine rx_ia (pc2 := 95) op174_94 (rn_shlt sp_116) sp_116 k26 rfl rfl ?_
    refine ry_ic_ge (tgt := 185) (pc2 := 98) op174_95 (by decide) (by decide) rfl (fun b27 => ?_) (fun b27 => ?_)
    · have h := (if_pos b27).symm.trans h
      refine rx_p (L2 := [some (.ref 115), some (.int a1), some (.int a2), some (.int a3), o4]) (S2 := [.ref 115]) (pc2 := 99) op174_98 rfl rfl ?_
      refine rx_gf (v := .ref 116) (pc2 := 102) op174_99 sp_115 rfl rfl rfl ?_
      refine rx_bp (v := 16) (pc2 := 104) op174_102 (by decide) rfl ?_
      refine rx_bp (v := 12) (pc2 := 106) op174_104 (by decide) rfl ?_
      refine rx_p (L2 := [some (.ref 115), some (.int a1), some (.int a2), some (.int a3), o4]) (S2 := [.int a2, .int 12, .int 16, .ref 116]) (pc2 := 107) op174_106 rfl rfl ?_
      refine rx_p (L2 := [some (.ref 115), some (.int a1), some (.int a2), some (.int a3), o4]) (S2 := [.int ((12 : Int32) * a2), .int 16, .ref 116]) (pc2 := 108) op174_107 rfl rfl ?_
      refine rx_p (L2 := [some (.ref 115), some (.int a1), some (.int a2), some (.int a3), o4]) (S2 := [.int ((16 : Int32) + ((12 : Int32) * a2)), .ref 116]) (pc2 := 109) op174_108 rfl rfl ?_
      refine rx_p (L2 := [some (.ref 115), some (.int a1), some (.int a2), some (.int a3), o4]) (S2 := [.int a3, .int ((16 : Int32) + ((12 : Int32) * a2)), .ref 116]) (pc2 := 110) op174_109 rfl rfl ?_
      refine rx_p (L2 := [some (.ref 115), some (.int a1), some (.int a2), some (.int a3), o4]) (S2 := [.int (((16 : Int32) + ((12 : Int32) * a2)) + a3), .ref 116]) (pc2 := 111) op174_110 rfl rfl ?_
      obtain ⟨k28, h⟩ := rq_chk h
      refine rx_ia (pc2 := 112) op174_111 (rn_shlt sp_116) sp_116 k28 rfl rfl ?_
      obtain ⟨x29, ex29, h⟩ := rq_bv h
      refine rx_s (v := x29) (L2 := [some (.ref 115), some (.int a1), some (.int a2), some (.int a3), some (.int x29)]) (pc2 := 114) op174_112 ex29 rfl rfl ?_
      refine rx_p (L2 := [some (.ref 115), some (.int a1), some (.int a2), some (.int a3), some (.int x29)]) (S2 := [.ref 115]) (pc2 := 115) op174_114 rfl rfl ?_
      refine rx_gf (v := .ref 127) (pc2 := 118) op174_115 sp_115 rfl rfl rfl ?_
      refine rx_bp (v := 12) (pc2 := 120) op174_118 (by decide) rfl ?_
      refine rx_p (L2 := [some (.ref 115), some (.int a1), some (.int a2), some (.int a3), some (.int x29)]) (S2 := [.int a2, .int 12, .ref 127]) (pc2 := 121) op174_120 rfl rfl ?_
      refine rx_p (L2 := [some (.ref 115), some (.int a1), some (.int a2), some (.int a3), some (.int x29)]) (S2 := [.int ((12 : Int32) * a2), .ref 127]) (pc2 := 122) op174_121 rfl rfl ?_
      refine rx_p (L2 := [some (.ref 115), some (.int a1), some (.int a2), some (.int a3), some (.int x29)]) (S2 := [.int a3, .int ((12 : Int32) * a2), .ref 127]) (pc2 := 123) op174_122 rfl rfl ?_
      refine rx_p (L2 := [some (.ref 115), some (.int a1), some (.int a2), some (.int a3), some (.int x29)]) (S2 := [.int (((12 : Int32) * a2) + a3), .ref 127]) (pc2 := 124) op174_123 rfl rfl ?_
      refine rx_p (L2 := [some (.ref 115), some (.int a1), some (.int a2), some (.int a3), some (.int x29)]) (S2 := [.int x29, .int (((12 : Int32) * a2) + a3), .ref 127]) (pc2 := 126) op174_124 rfl rfl ?_
      obtain ⟨k31, h⟩ := rq_chk h
      obtain ⟨m30, em30, h⟩ := rq_bv h
      refine rx_is (m2 := m30) (pc2 := 127) op174_126 sp_127 k31 rfl em30 rfl ?_
      refine rx_p (L2 := [some (.ref 115), some (.int a1), some (.int a2), some (.int a3), some (.int x29)]) (S2 := [.int x29]) (pc2 := 129) op174_127 rfl rfl ?_
      obtain ⟨⟨x39, m41⟩, gc43, h⟩ := rq_bind h
      try dsimp only at h
      have c43 : ∀ (o40 : Option Value), rn_R xs (d + 1) 174 179 [some (.ref 115), some (.int x39), some (.int a2), some (.int a3), o40] [] (rn_SH, m41) r τ := by
        intro o40
        obtain ⟨x42, ex42, h⟩ := rq_bv h
        refine rx_inc (w := 1) (v := x42) (L2 := [some (.ref 115), some (.int x39), some (.int a2), some (.int x42), o40]) (pc2 := 182) op174_179 rfl (by decide) ex42 rfl rfl ?_
        refine ry_go (tgt := 85) op174_182 (by decide) (by decide) ?_
        exact ih _ _ _ _ h
      refine ry_if_ge (tgt := 170) (pc2 := 132) op174_129 (by decide) (by decide) rfl (fun b32 => ?_) (fun b32 => ?_)
      · have gc43 := (if_pos b32).symm.trans gc43
        refine rx_p (L2 := [some (.ref 115), some (.int a1), some (.int a2), some (.int a3), some (.int x29)]) (S2 := [.ref 115]) (pc2 := 133) op174_132 rfl rfl ?_
        refine rx_gf (v := .ref 125) (pc2 := 136) op174_133 sp_115 rfl rfl rfl ?_
        refine rx_p (L2 := [some (.ref 115), some (.int a1), some (.int a2), some (.int a3), some (.int x29)]) (S2 := [.ref 115, .ref 125]) (pc2 := 137) op174_136 rfl rfl ?_
        refine rx_gf (v := .int (m30.1 115 21)) (pc2 := 140) op174_137 sp_115 rfl rfl rfl ?_
        refine rx_bp (v := 12) (pc2 := 142) op174_140 (by decide) rfl ?_
        refine rx_p (L2 := [some (.ref 115), some (.int a1), some (.int a2), some (.int a3), some (.int x29)]) (S2 := [.int a2, .int 12, .int (m30.1 115 21), .ref 125]) (pc2 := 143) op174_142 rfl rfl ?_
        refine rx_p (L2 := [some (.ref 115), some (.int a1), some (.int a2), some (.int a3), some (.int x29)]) (S2 := [.int ((12 : Int32) * a2), .int (m30.1 115 21), .ref 125]) (pc2 := 144) op174_143 rfl rfl ?_
        refine rx_p (L2 := [some (.ref 115), some (.int a1), some (.int a2), some (.int a3), some (.int x29)]) (S2 := [.int a3, .int ((12 : Int32) * a2), .int (m30.1 115 21), .ref 125]) (pc2 := 145) op174_144 rfl rfl ?_
        refine rx_p (L2 := [some (.ref 115), some (.int a1), some (.int a2), some (.int a3), some (.int x29)]) (S2 := [.int (((12 : Int32) * a2) + a3), .int (m30.1 115 21), .ref 125]) (pc2 := 146) op174_145 rfl rfl ?_
        obtain ⟨k34, gc43⟩ := rq_chk gc43
        obtain ⟨m33, em33, gc43⟩ := rq_bv gc43
        refine rx_is (m2 := m33) (pc2 := 147) op174_146 sp_125 k34 rfl em33 rfl ?_
        refine rx_p (L2 := [some (.ref 115), some (.int a1), some (.int a2), some (.int a3), some (.int x29)]) (S2 := [.ref 115]) (pc2 := 148) op174_147 rfl rfl ?_
        refine rx_gf (v := .ref 121) (pc2 := 151) op174_148 sp_115 rfl rfl rfl ?_
        refine rx_p (L2 := [some (.ref 115), some (.int a1), some (.int a2), some (.int a3), some (.int x29)]) (S2 := [.ref 115, .ref 121]) (pc2 := 152) op174_151 rfl rfl ?_
        refine rx_gf (v := .int (m33.1 115 21)) (pc2 := 155) op174_152 sp_115 rfl rfl rfl ?_
        refine rx_ic (v := 0) (pc2 := 156) op174_155 (by decide) rfl ?_
        obtain ⟨k36, gc43⟩ := rq_chk gc43
        obtain ⟨m35, em35, gc43⟩ := rq_bv gc43
        refine rx_is (m2 := m35) (pc2 := 157) op174_156 sp_121 k36 rfl em35 rfl ?_
        refine rx_p (L2 := [some (.ref 115), some (.int a1), some (.int a2), some (.int a3), some (.int x29)]) (S2 := [.ref 115]) (pc2 := 158) op174_157 rfl rfl ?_
        refine rx_p (L2 := [some (.ref 115), some (.int a1), some (.int a2), some (.int a3), some (.int x29)]) (S2 := [.ref 115, .ref 115]) (pc2 := 159) op174_158 rfl rfl ?_
        refine rx_gf (v := .int (m35.1 115 21)) (pc2 := 162) op174_159 sp_115 rfl rfl rfl ?_
        refine rx_ic (v := 1) (pc2 := 163) op174_162 (by decide) rfl ?_
        refine rx_p (L2 := [some (.ref 115), some (.int a1), some (.int a2), some (.int a3), some (.int x29)]) (S2 := [.int ((m35.1 115 21) + 1), .ref 115]) (pc2 := 164) op174_163 rfl rfl ?_
        obtain ⟨m37, em37, gc43⟩ := rq_bv gc43
        refine rx_pf (m2 := m37) (pc2 := 167) op174_164 sp_115 rfl em37 rfl ?_
        refine ry_go (tgt := 179) op174_167 (by decide) (by decide) ?_
        cases gc43
        exact c43 _
      · have gc43 := (if_neg b32).symm.trans gc43
        refine rx_p (L2 := [some (.ref 115), some (.int a1), some (.int a2), some (.int a3), some (.int x29)]) (S2 := [.int a1]) (pc2 := 171) op174_170 rfl rfl ?_
        refine rx_ic (v := 1) (pc2 := 172) op174_171 (by decide) rfl ?_
        refine rx_p (L2 := [some (.ref 115), some (.int a1), some (.int a2), some (.int a3), some (.int x29)]) (S2 := [.int x29, .int 1, .int a1]) (pc2 := 174) op174_172 rfl rfl ?_
        refine rx_p (L2 := [some (.ref 115), some (.int a1), some (.int a2), some (.int a3), some (.int x29)]) (S2 := [.int ((1 : Int32) <<< (x29 &&& 31)), .int a1]) (pc2 := 175) op174_174 rfl rfl ?_
        refine rx_ic (v := (-1)) (pc2 := 176) op174_175 (by decide) rfl ?_
        refine rx_p (L2 := [some (.ref 115), some (.int a1), some (.int a2), some (.int a3), some (.int x29)]) (S2 := [.int (((1 : Int32) <<< (x29 &&& 31)) ^^^ (-1)), .int a1]) (pc2 := 177) op174_176 rfl rfl ?_
        refine rx_p (L2 := [some (.ref 115), some (.int a1), some (.int a2), some (.int a3), some (.int x29)]) (S2 := [.int (a1 &&& (((1 : Int32) <<< (x29 &&& 31)) ^^^ (-1)))]) (pc2 := 178) op174_177 rfl rfl ?_
        obtain ⟨x38, ex38, gc43⟩ := rq_bv gc43
        refine rx_s (v := x38) (L2 := [some (.ref 115), some (.int x38), some (.int a2), some (.int a3), some (.int x29)]) (pc2 := 179) op174_178 ex38 rfl rfl ?_
        cases gc43
        exact c43 _
    · have h := (if_neg b27).symm.trans h
      cases h
      exact hr _ _ rfl _ _
set_option maxHeartbeats 4000000 in
set_option maxRecDepth 20000 in
theorem mo_findPlays_l73_ok (xs : List Int32) {d : Nat} (hd : 6 ≤ d + 1) {r : Option Value} {τ : rn_H} {out : Int32 × rn_Mem} (hr : ∀ (z1 : Int32) (mO : rn_Mem), out = (z1, mO) → ∀ (o2 o3 o4 : Option Value), rn_R xs (d + 1) 174 191 [some (.ref 115), some (.int z1), o2, o3, o4] [] (rn_SH, mO) r τ) : ∀ (n : Nat) (a1 : Int32) (a2 : Int32) (o3 o4 : Option Value) (m : rn_Mem), mo_findPlays_l73 n a1 a2 m = some out → rn_R xs (d + 1) 174 73 [some (.ref 115), some (.int a1), some (.int a2), o3, o4] [] (rn_SH, m) r τ := by
  intro n
  induction n with
  | zero =>
    intro _ _ _ _ _ h
    cases h
  | succ n ih =>
    intro a1 a2 o3 o4 m h
    unfold mo_findPlays_l73 at h
    try dsimp only at h
    refine rx_p (L2 := [some (.ref 115), some (.int a1), some (.int a2), o3, o4]) (S2 := [.int a2]) (pc2 := 74) op174_73 rfl rfl ?_
    refine rx_p (L2 := [some (.ref 115), some (.int a1), some (.int a2), o3, o4]) (S2 := [.ref 115, .int a2]) (pc2 := 75) op174_74 rfl rfl ?_
    refine rx_gf (v := .ref 116) (pc2 := 78) op174_75 sp_115 rfl rfl rfl ?_
    refine rx_ic (v := 1) (pc2 := 79) op174_78 (by decide) rfl ?_
    refine rx_ia (j := 1) (pc2 := 80) op174_79 (rn_shlt sp_116) sp_116 (by decide) (by decide) rfl ?_
    refine ry_ic_ge (tgt := 191) (pc2 := 83) op174_80 (by decide) (by decide) rfl (fun b25 => ?_) (fun b25 => ?_)
    · have h := (if_pos b25).symm.trans h
      refine rx_ic (v := 0) (pc2 := 84) op174_83 (by decide) rfl ?_
      refine rx_s (L2 := [some (.ref 115), some (.int a1), some (.int a2), some (.int 0), o4]) (pc2 := 85) op174_84 rfl rfl rfl ?_
      obtain ⟨wf49, f49, h⟩ := rq_bind h
      refine mo_findPlays_l85_ok xs hd (fun x45 m44 eq => ?_) _ _ _ _ _  f49
      subst eq
      try dsimp only at h
      intro o46 o47
      obtain ⟨x48, ex48, h⟩ := rq_bv h
      refine rx_inc (w := 1) (v := x48) (L2 := [some (.ref 115), some (.int x45), some (.int x48), o46, o47]) (pc2 := 188) op174_185 rfl (by decide) ex48 rfl rfl ?_
      refine ry_go (tgt := 73) op174_188 (by decide) (by decide) ?_
      exact ih _ _ _ _ _ h
    · have h := (if_neg b25).symm.trans h
      cases h
      exact hr _ _ rfl _ _ _
set_option maxHeartbeats 4000000 in
set_option maxRecDepth 20000 in
theorem mo_findPlays_l195_ok (xs : List Int32) {d : Nat} (hd : 6 ≤ d + 1) {a1 : Int32} {r : Option Value} {τ : rn_H} {out : rn_Mem} (hr : ∀ (mO : rn_Mem), out = mO → ∀ (o1 o2 o3 o4 : Option Value), rn_R xs (d + 1) 174 226 [some (.ref 115), o1, o2, o3, o4] [] (rn_SH, mO) r τ) : ∀ (n : Nat) (a2 : Int32) (a3 : Int32) (o4 : Option Value) (m : rn_Mem), mo_findPlays_l195 a1 n a2 a3 m = some out → rn_R xs (d + 1) 174 195 [some (.ref 115), some (.int a1), some (.int a2), some (.int a3), o4] [] (rn_SH, m) r τ := by
  intro n
  induction n with
  | zero =>
    intro _ _ _ _ h
    cases h
  | succ n ih =>
    intro a2 a3 o4 m h
    unfold mo_findPlays_l195 at h
    try dsimp only at h
    refine rx_p (L2 := [some (.ref 115), some (.int a1), some (.int a2), some (.int a3), o4]) (S2 := [.int a3]) (pc2 := 196) op174_195 rfl rfl ?_
    refine rx_bp (v := 16) (pc2 := 198) op174_196 (by decide) rfl ?_
    refine ry_ic_ge (tgt := 226) (pc2 := 201) op174_198 (by decide) (by decide) rfl (fun b55 => ?_) (fun b55 => ?_)
    · have h := (if_pos b55).symm.trans h
      refine rx_p (L2 := [some (.ref 115), some (.int a1), some (.int a2), some (.int a3), o4]) (S2 := [.int a1]) (pc2 := 202) op174_201 rfl rfl ?_
      refine rx_p (L2 := [some (.ref 115), some (.int a1), some (.int a2), some (.int a3), o4]) (S2 := [.int a3, .int a1]) (pc2 := 203) op174_202 rfl rfl ?_
      refine rx_p (L2 := [some (.ref 115), some (.int a1), some (.int a2), some (.int a3), o4]) (S2 := [.int (a1 >>> (a3 &&& 31))]) (pc2 := 204) op174_203 rfl rfl ?_
      refine rx_ic (v := 1) (pc2 := 205) op174_204 (by decide) rfl ?_
      refine rx_p (L2 := [some (.ref 115), some (.int a1), some (.int a2), some (.int a3), o4]) (S2 := [.int ((a1 >>> (a3 &&& 31)) &&& 1)]) (pc2 := 206) op174_205 rfl rfl ?_
      refine rx_ic (v := 1) (pc2 := 207) op174_206 (by decide) rfl ?_
      obtain ⟨⟨x60, m62⟩, gc64, h⟩ := rq_bind h
      try dsimp only at h
      have c64 : ∀ (o61 : Option Value), rn_R xs (d + 1) 174 220 [some (.ref 115), some (.int a1), some (.int x60), some (.int a3), o61] [] (rn_SH, m62) r τ := by
        intro o61
        obtain ⟨x63, ex63, h⟩ := rq_bv h
        refine rx_inc (w := 1) (v := x63) (L2 := [some (.ref 115), some (.int a1), some (.int x60), some (.int x63), o61]) (pc2 := 223) op174_220 rfl (by decide) ex63 rfl rfl ?_
        refine ry_go (tgt := 195) op174_223 (by decide) (by decide) ?_
        exact ih _ _ _ _ h
      refine ry_ic_ne (tgt := 220) (pc2 := 210) op174_207 (by decide) (by decide) rfl (fun b56 => ?_) (fun b56 => ?_)
      · have gc64 := (if_pos b56).symm.trans gc64
        refine rx_p (L2 := [some (.ref 115), some (.int a1), some (.int a2), some (.int a3), o4]) (S2 := [.ref 115]) (pc2 := 211) op174_210 rfl rfl ?_
        refine rx_gf (v := .ref 126) (pc2 := 214) op174_211 sp_115 rfl rfl rfl ?_
        refine rx_p (L2 := [some (.ref 115), some (.int a1), some (.int a2), some (.int a3), o4]) (S2 := [.int a2, .ref 126]) (pc2 := 215) op174_214 rfl rfl ?_
        refine rx_p (L2 := [some (.ref 115), some (.int a1), some (.int a2), some (.int a3), o4]) (S2 := [.int a3, .int a2, .ref 126]) (pc2 := 216) op174_215 rfl rfl ?_
        obtain ⟨k58, gc64⟩ := rq_chk gc64
        obtain ⟨m57, em57, gc64⟩ := rq_bv gc64
        refine rx_is (m2 := m57) (pc2 := 217) op174_216 sp_126 k58 rfl em57 rfl ?_
        obtain ⟨x59, ex59, gc64⟩ := rq_bv gc64
        refine rx_inc (w := 1) (v := x59) (L2 := [some (.ref 115), some (.int a1), some (.int x59), some (.int a3), o4]) (pc2 := 220) op174_217 rfl (by decide) ex59 rfl rfl ?_
        cases gc64
        exact c64 _
      · have gc64 := (if_neg b56).symm.trans gc64
        cases gc64
        exact c64 _
    · have h := (if_neg b55).symm.trans h
      cases h
      exact hr _ rfl _ _ _ _
set_option maxHeartbeats 4000000 in
set_option maxRecDepth 20000 in
theorem mo_findPlays_l249_ok (xs : List Int32) {d : Nat} (hd : 6 ≤ d + 1) {a3 : Int32} {r : Option Value} {τ : rn_H} {out : rn_Mem} (hr : ∀ (mO : rn_Mem), out = mO → ∀ (o1 o2 o4 : Option Value), rn_R xs (d + 1) 174 291 [some (.ref 115), o1, o2, some (.int a3), o4] [] (rn_SH, mO) r τ) : ∀ (n : Nat) (a4 : Int32) (o1 o2 : Option Value) (m : rn_Mem), mo_findPlays_l249 a3 n a4 m = some out → rn_R xs (d + 1) 174 249 [some (.ref 115), o1, o2, some (.int a3), some (.int a4)] [] (rn_SH, m) r τ := by
  intro n
  induction n with
  | zero =>
    intro _ _ _ _ h
    cases h
  | succ n ih =>
    intro a4 o1 o2 m h
    unfold mo_findPlays_l249 at h
    try dsimp only at h
    refine rx_p (L2 := [some (.ref 115), o1, o2, some (.int a3), some (.int a4)]) (S2 := [.int a4]) (pc2 := 251) op174_249 rfl rfl ?_
    refine rx_p (L2 := [some (.ref 115), o1, o2, some (.int a3), some (.int a4)]) (S2 := [.ref 115, .int a4]) (pc2 := 252) op174_251 rfl rfl ?_
    refine rx_gf (v := .int (m.1 115 21)) (pc2 := 255) op174_252 sp_115 rfl rfl rfl ?_
    refine ry_ic_ge (tgt := 291) (pc2 := 258) op174_255 (by decide) (by decide) rfl (fun b79 => ?_) (fun b79 => ?_)
    · have h := (if_pos b79).symm.trans h
      refine rx_p (L2 := [some (.ref 115), o1, o2, some (.int a3), some (.int a4)]) (S2 := [.ref 115]) (pc2 := 259) op174_258 rfl rfl ?_
      refine rx_gf (v := .ref 127) (pc2 := 262) op174_259 sp_115 rfl rfl rfl ?_
      refine rx_p (L2 := [some (.ref 115), o1, o2, some (.int a3), some (.int a4)]) (S2 := [.ref 115, .ref 127]) (pc2 := 263) op174_262 rfl rfl ?_
      refine rx_gf (v := .ref 125) (pc2 := 266) op174_263 sp_115 rfl rfl rfl ?_
      refine rx_p (L2 := [some (.ref 115), o1, o2, some (.int a3), some (.int a4)]) (S2 := [.int a4, .ref 125, .ref 127]) (pc2 := 268) op174_266 rfl rfl ?_
      obtain ⟨k80, h⟩ := rq_chk h
      refine rx_ia (pc2 := 269) op174_268 (rn_shlt sp_125) sp_125 k80 rfl rfl ?_
      refine rx_p (L2 := [some (.ref 115), o1, o2, some (.int a3), some (.int a4)]) (S2 := [.ref 115, .int (m.1 125 a4.toNatClampNeg), .ref 127]) (pc2 := 270) op174_269 rfl rfl ?_
      refine rx_gf (v := .ref 126) (pc2 := 273) op174_270 sp_115 rfl rfl rfl ?_
      refine rx_p (L2 := [some (.ref 115), o1, o2, some (.int a3), some (.int a4)]) (S2 := [.ref 115, .ref 126, .int (m.1 125 a4.toNatClampNeg), .ref 127]) (pc2 := 274) op174_273 rfl rfl ?_
      refine rx_gf (v := .int (m.1 115 21)) (pc2 := 277) op174_274 sp_115 rfl rfl rfl ?_
      refine rx_p (L2 := [some (.ref 115), o1, o2, some (.int a3), some (.int a4)]) (S2 := [.int a3, .int (m.1 115 21), .ref 126, .int (m.1 125 a4.toNatClampNeg), .ref 127]) (pc2 := 278) op174_277 rfl rfl ?_
      refine rx_p (L2 := [some (.ref 115), o1, o2, some (.int a3), some (.int a4)]) (S2 := [.int a4, .int a3, .int (m.1 115 21), .ref 126, .int (m.1 125 a4.toNatClampNeg), .ref 127]) (pc2 := 280) op174_278 rfl rfl ?_
      obtain ⟨⟨r82, m81⟩, f83, h⟩ := rq_bind h
      try dsimp only at h
      refine ry_is (vs := [.int (m.1 115 21), .int a3, .int a4]) (T := [.ref 126, .int (m.1 125 a4.toNatClampNeg), .ref 127]) (pc2 := 283) op174_280 (by decide) ms_177 (by decide) rfl rfl (Nat.le_of_ble_eq_true rfl) (Nat.le_of_ble_eq_true rfl) (mo_ordered_ok xs (by omega)  f83) rfl ?_
      show rn_R _ _ _ _ _ [.int r82, .ref 126, .int (m.1 125 a4.toNatClampNeg), .ref 127] _ _ _
      obtain ⟨k84, h⟩ := rq_chk h
      refine rx_ia (pc2 := 284) op174_283 (rn_shlt sp_126) sp_126 k84 rfl rfl ?_
      obtain ⟨k86, h⟩ := rq_chk h
      obtain ⟨m85, em85, h⟩ := rq_bv h
      refine rx_is (m2 := m85) (pc2 := 285) op174_284 sp_127 k86 rfl em85 rfl ?_
      obtain ⟨x87, ex87, h⟩ := rq_bv h
      refine rx_inc (w := 1) (v := x87) (L2 := [some (.ref 115), o1, o2, some (.int a3), some (.int x87)]) (pc2 := 288) op174_285 rfl (by decide) ex87 rfl rfl ?_
      refine ry_go (tgt := 249) op174_288 (by decide) (by decide) ?_
      exact ih _ _ _ _ h
    · have h := (if_neg b79).symm.trans h
      cases h
      exact hr _ rfl _ _ _
set_option maxHeartbeats 4000000 in
set_option maxRecDepth 20000 in
theorem mo_findPlays_l294_ok (xs : List Int32) {d : Nat} (hd : 6 ≤ d + 1) {a3 : Int32} {r : Option Value} {τ : rn_H} {out : rn_Mem} (hr : ∀ (mO : rn_Mem), out = mO → ∀ (o1 o2 o4 : Option Value), rn_R xs (d + 1) 174 346 [some (.ref 115), o1, o2, some (.int a3), o4] [] (rn_SH, mO) r τ) : ∀ (n : Nat) (a4 : Int32) (o1 o2 : Option Value) (m : rn_Mem), mo_findPlays_l294 a3 n a4 m = some out → rn_R xs (d + 1) 174 294 [some (.ref 115), o1, o2, some (.int a3), some (.int a4)] [] (rn_SH, m) r τ := by
  intro n
  induction n with
  | zero =>
    intro _ _ _ _ h
    cases h
  | succ n ih =>
    intro a4 o1 o2 m h
    unfold mo_findPlays_l294 at h
    try dsimp only at h
    refine rx_p (L2 := [some (.ref 115), o1, o2, some (.int a3), some (.int a4)]) (S2 := [.int a4]) (pc2 := 296) op174_294 rfl rfl ?_
    refine rx_p (L2 := [some (.ref 115), o1, o2, some (.int a3), some (.int a4)]) (S2 := [.ref 115, .int a4]) (pc2 := 297) op174_296 rfl rfl ?_
    refine rx_gf (v := .ref 116) (pc2 := 300) op174_297 sp_115 rfl rfl rfl ?_
    refine rx_ic (v := 1) (pc2 := 301) op174_300 (by decide) rfl ?_
    refine rx_ia (j := 1) (pc2 := 302) op174_301 (rn_shlt sp_116) sp_116 (by decide) (by decide) rfl ?_
    refine ry_ic_ge (tgt := 346) (pc2 := 305) op174_302 (by decide) (by decide) rfl (fun b92 => ?_) (fun b92 => ?_)
    · have h := (if_pos b92).symm.trans h
      refine rx_p (L2 := [some (.ref 115), o1, o2, some (.int a3), some (.int a4)]) (S2 := [.ref 115]) (pc2 := 306) op174_305 rfl rfl ?_
      obtain ⟨⟨r94, m93⟩, f95, h⟩ := rq_bind h
      try dsimp only at h
      refine ry_iv (p := 115) (vs := []) (T := []) (pc2 := 309) op174_306 ms_176 (by decide) rfl rfl (Nat.le_of_ble_eq_true rfl) (Nat.le_of_ble_eq_true rfl) sp_115 (mo_isDone_ok xs (by omega)  f95) rfl ?_
      show rn_R _ _ _ _ _ [.int r94] _ _ _
      refine ry_if_ne (tgt := 346) (pc2 := 312) op174_309 (by decide) (by decide) rfl (fun b96 => ?_) (fun b96 => ?_)
      · have h := (if_pos b96).symm.trans h
        refine rx_p (L2 := [some (.ref 115), o1, o2, some (.int a3), some (.int a4)]) (S2 := [.ref 115]) (pc2 := 313) op174_312 rfl rfl ?_
        refine rx_gf (v := .ref 116) (pc2 := 316) op174_313 sp_115 rfl rfl rfl ?_
        refine rx_bp (v := 8) (pc2 := 318) op174_316 (by decide) rfl ?_
        refine rx_ia (j := 8) (pc2 := 319) op174_318 (rn_shlt sp_116) sp_116 (by decide) (by decide) rfl ?_
        obtain ⟨m105, gc107, h⟩ := rq_bind h
        try dsimp only at h
        have c107 : ∀ (o103 o104 : Option Value), rn_R xs (d + 1) 174 340 [some (.ref 115), o103, o104, some (.int a3), some (.int a4)] [] (rn_SH, m105) r τ := by
          intro o103 o104
          obtain ⟨x106, ex106, h⟩ := rq_bv h
          refine rx_inc (w := 1) (v := x106) (L2 := [some (.ref 115), o103, o104, some (.int a3), some (.int x106)]) (pc2 := 343) op174_340 rfl (by decide) ex106 rfl rfl ?_
          refine ry_go (tgt := 294) op174_343 (by decide) (by decide) ?_
          exact ih _ _ _ _ h
        refine ry_if_lt (tgt := 334) (pc2 := 322) op174_319 (by decide) (by decide) rfl (fun b97 => ?_) (fun b97 => ?_)
        · have gc107 := (if_pos b97).symm.trans gc107
          refine rx_p (L2 := [some (.ref 115), o1, o2, some (.int a3), some (.int a4)]) (S2 := [.ref 115]) (pc2 := 335) op174_334 rfl rfl ?_
          refine rx_p (L2 := [some (.ref 115), o1, o2, some (.int a3), some (.int a4)]) (S2 := [.int a4, .ref 115]) (pc2 := 337) op174_335 rfl rfl ?_
          obtain ⟨m98, f99, gc107⟩ := rq_bind gc107
          try dsimp only at gc107
          refine ry_iv (p := 115) (vs := [.int a4]) (T := []) (pc2 := 340) op174_337 ms_178 (by decide) rfl rfl (Nat.le_of_ble_eq_true rfl) (Nat.le_of_ble_eq_true rfl) sp_115 (mo_findWinners_ok xs (by omega)  f99) rfl ?_
          show rn_R _ _ _ _ _ [] _ _ _
          cases gc107
          exact c107 _ _
        · have gc107 := (if_neg b97).symm.trans gc107
          refine rx_p (L2 := [some (.ref 115), o1, o2, some (.int a3), some (.int a4)]) (S2 := [.ref 115]) (pc2 := 323) op174_322 rfl rfl ?_
          refine rx_gf (v := .ref 116) (pc2 := 326) op174_323 sp_115 rfl rfl rfl ?_
          refine rx_bp (v := 8) (pc2 := 328) op174_326 (by decide) rfl ?_
          refine rx_ia (j := 8) (pc2 := 329) op174_328 (rn_shlt sp_116) sp_116 (by decide) (by decide) rfl ?_
          refine rx_p (L2 := [some (.ref 115), o1, o2, some (.int a3), some (.int a4)]) (S2 := [.int a4, .int (m93.1 116 8)]) (pc2 := 331) op174_329 rfl rfl ?_
          refine ry_ic_ne (tgt := 340) (pc2 := 334) op174_331 (by decide) (by decide) rfl (fun b100 => ?_) (fun b100 => ?_)
          · have gc107 := (if_pos b100).symm.trans gc107
            refine rx_p (L2 := [some (.ref 115), o1, o2, some (.int a3), some (.int a4)]) (S2 := [.ref 115]) (pc2 := 335) op174_334 rfl rfl ?_
            refine rx_p (L2 := [some (.ref 115), o1, o2, some (.int a3), some (.int a4)]) (S2 := [.int a4, .ref 115]) (pc2 := 337) op174_335 rfl rfl ?_
            obtain ⟨m101, f102, gc107⟩ := rq_bind gc107
            try dsimp only at gc107
            refine ry_iv (p := 115) (vs := [.int a4]) (T := []) (pc2 := 340) op174_337 ms_178 (by decide) rfl rfl (Nat.le_of_ble_eq_true rfl) (Nat.le_of_ble_eq_true rfl) sp_115 (mo_findWinners_ok xs (by omega)  f102) rfl ?_
            show rn_R _ _ _ _ _ [] _ _ _
            cases gc107
            exact c107 _ _
          · have gc107 := (if_neg b100).symm.trans gc107
            cases gc107
            exact c107 _ _
      · have h := (if_neg b96).symm.trans h
        cases h
        exact hr _ rfl _ _ _
    · have h := (if_neg b92).symm.trans h
      cases h
      exact hr _ rfl _ _ _
set_option maxHeartbeats 4000000 in
set_option maxRecDepth 20000 in
theorem mo_findPlays_l228_ok (xs : List Int32) {d : Nat} (hd : 6 ≤ d + 1) {r : Option Value} {τ : rn_H} {out : rn_Mem} (hr : ∀ (mO : rn_Mem), out = mO → ∀ (o0 o1 o2 o3 o4 : Option Value), rn_R xs (d + 1) 174 352 [o0, o1, o2, o3, o4] [] (rn_SH, mO) r τ) : ∀ (n : Nat) (a3 : Int32) (o1 o2 o4 : Option Value) (m : rn_Mem), mo_findPlays_l228 n a3 m = some out → rn_R xs (d + 1) 174 228 [some (.ref 115), o1, o2, some (.int a3), o4] [] (rn_SH, m) r τ := by
  intro n
  induction n with
  | zero =>
    intro _ _ _ _ _ h
    cases h
  | succ n ih =>
    intro a3 o1 o2 o4 m h
    unfold mo_findPlays_l228 at h
    try dsimp only at h
    refine rx_p (L2 := [some (.ref 115), o1, o2, some (.int a3), o4]) (S2 := [.int a3]) (pc2 := 229) op174_228 rfl rfl ?_
    refine rx_p (L2 := [some (.ref 115), o1, o2, some (.int a3), o4]) (S2 := [.ref 115, .int a3]) (pc2 := 230) op174_229 rfl rfl ?_
    refine rx_gf (v := .int (m.1 115 21)) (pc2 := 233) op174_230 sp_115 rfl rfl rfl ?_
    obtain ⟨⟨r72, m71⟩, f73, h⟩ := rq_bind h
    try dsimp only at h
    refine ry_is (vs := [.int (m.1 115 21)]) (T := [.int a3]) (pc2 := 236) op174_233 (by decide) ms_175 (by decide) rfl rfl (Nat.le_of_ble_eq_true rfl) (Nat.le_of_ble_eq_true rfl) (mo_ordersOf_ok xs (by omega)  f73) rfl ?_
    show rn_R _ _ _ _ _ [.int r72, .int a3] _ _ _
    refine ry_ic_ge (tgt := 352) (pc2 := 239) op174_236 (by decide) (by decide) rfl (fun b74 => ?_) (fun b74 => ?_)
    · have h := (if_pos b74).symm.trans h
      refine rx_p (L2 := [some (.ref 115), o1, o2, some (.int a3), o4]) (S2 := [.ref 115]) (pc2 := 240) op174_239 rfl rfl ?_
      obtain ⟨⟨r76, m75⟩, f77, h⟩ := rq_bind h
      try dsimp only at h
      refine ry_iv (p := 115) (vs := []) (T := []) (pc2 := 243) op174_240 ms_176 (by decide) rfl rfl (Nat.le_of_ble_eq_true rfl) (Nat.le_of_ble_eq_true rfl) sp_115 (mo_isDone_ok xs (by omega)  f77) rfl ?_
      show rn_R _ _ _ _ _ [.int r76] _ _ _
      refine ry_if_ne (tgt := 352) (pc2 := 246) op174_243 (by decide) (by decide) rfl (fun b78 => ?_) (fun b78 => ?_)
      · have h := (if_pos b78).symm.trans h
        refine rx_ic (v := 0) (pc2 := 247) op174_246 (by decide) rfl ?_
        refine rx_s (L2 := [some (.ref 115), o1, o2, some (.int a3), some (.int 0)]) (pc2 := 249) op174_247 rfl rfl rfl ?_
        obtain ⟨m88, f115, h⟩ := rq_bind h
        refine mo_findPlays_l249_ok xs hd (fun m0 eq => ?_) _ _ _ _ _  f115
        subst eq
        try dsimp only at h
        intro o89 o90 o91
        refine rx_ic (v := 0) (pc2 := 292) op174_291 (by decide) rfl ?_
        refine rx_s (L2 := [some (.ref 115), o89, o90, some (.int a3), some (.int 0)]) (pc2 := 294) op174_292 rfl rfl rfl ?_
        obtain ⟨m108, f114, h⟩ := rq_bind h
        refine mo_findPlays_l294_ok xs hd (fun m0 eq => ?_) _ _ _ _ _  f114
        subst eq
        try dsimp only at h
        intro o109 o110 o111
        obtain ⟨x112, ex112, h⟩ := rq_bv h
        refine rx_incd (w := 1) (v := x112) (j := 2) (pc2 := 349) op174_346 rfl (by decide) ex112 rfl (fun o113 => ?_)
        show rn_R _ _ _ _ [some (.ref 115), o109, o113, some (.int x112), o111] _ _ _ _
        refine ry_go (tgt := 228) op174_349 (by decide) (by decide) ?_
        exact ih _ _ _ _ _ h
      · have h := (if_neg b78).symm.trans h
        cases h
        exact hr _ rfl _ _ _ _ _
    · have h := (if_neg b74).symm.trans h
      cases h
      exact hr _ rfl _ _ _ _ _
set_option maxHeartbeats 4000000 in
set_option maxRecDepth 20000 in
theorem mo_findPlays_ok (xs : List Int32) {d : Nat} (hd : 6 ≤ d) {n : Nat} {m mO : rn_Mem} (h : mo_findPlays n  m = some mO) : rn_R xs d 174 0 (rn_ent 5 [.ref 115]) [] (rn_SH, m) none (rn_SH, mO) := by
  obtain ⟨d, rfl⟩ : ∃ e, d = e + 1 := ⟨d - 1, by omega⟩
  unfold mo_findPlays at h
  show rn_R xs (d + 1) 174 0 [some (.ref 115), none, none, none, none] [] (rn_SH, m) none (rn_SH, mO)
  refine rx_p (L2 := [some (.ref 115), none, none, none, none]) (S2 := [.ref 115]) (pc2 := 1) op174_0 rfl rfl ?_
  refine rx_lc (v := 0) (pc2 := 2) op174_1 (by decide) rfl ?_
  obtain ⟨m1, em1, h⟩ := rq_bv h
  refine rx_pj (m2 := m1) (pc2 := 5) op174_2 sp_115 rfl em1 rfl ?_
  refine rx_p (L2 := [some (.ref 115), none, none, none, none]) (S2 := [.ref 115]) (pc2 := 6) op174_5 rfl rfl ?_
  refine rx_bp (v := (-4)) (pc2 := 8) op174_6 (by decide) rfl ?_
  obtain ⟨m2, em2, h⟩ := rq_bv h
  refine rx_pf (m2 := m2) (pc2 := 11) op174_8 sp_115 rfl em2 rfl ?_
  refine rx_ic (v := 0) (pc2 := 12) op174_11 (by decide) rfl ?_
  refine rx_s (L2 := [some (.ref 115), some (.int 0), none, none, none]) (pc2 := 13) op174_12 rfl rfl rfl ?_
  obtain ⟨m7, f126, h⟩ := rq_bind h
  refine mo_findPlays_l13_ok xs hd (fun m0 eq => ?_) _ _ _ _ _ _  f126
  subst eq
  try dsimp only at h
  intro o8 o9 o10 o11
  refine rx_ic (v := 0) (pc2 := 33) op174_32 (by decide) rfl ?_
  refine rx_s (L2 := [some (.ref 115), some (.int 0), o9, o10, o11]) (pc2 := 34) op174_33 rfl rfl rfl ?_
  obtain ⟨m18, f125, h⟩ := rq_bind h
  refine mo_findPlays_l34_ok xs hd (fun m0 eq => ?_) _ _ _ _ _ _  f125
  subst eq
  try dsimp only at h
  intro o19 o20 o21 o22
  refine rx_p (L2 := [some (.ref 115), o19, o20, o21, o22]) (S2 := [.ref 115]) (pc2 := 60) op174_59 rfl rfl ?_
  refine rx_ic (v := 0) (pc2 := 61) op174_60 (by decide) rfl ?_
  obtain ⟨m23, em23, h⟩ := rq_bv h
  refine rx_pf (m2 := m23) (pc2 := 64) op174_61 sp_115 rfl em23 rfl ?_
  refine rx_p (L2 := [some (.ref 115), o19, o20, o21, o22]) (S2 := [.ref 115]) (pc2 := 65) op174_64 rfl rfl ?_
  refine rx_gf (v := .ref 116) (pc2 := 68) op174_65 sp_115 rfl rfl rfl ?_
  refine rx_ic (v := 3) (pc2 := 69) op174_68 (by decide) rfl ?_
  refine rx_ia (j := 3) (pc2 := 70) op174_69 (rn_shlt sp_116) sp_116 (by decide) (by decide) rfl ?_
  obtain ⟨x24, ex24, h⟩ := rq_bv h
  refine rx_s (v := x24) (L2 := [some (.ref 115), some (.int x24), o20, o21, o22]) (pc2 := 71) op174_70 ex24 rfl rfl ?_
  refine rx_ic (v := 0) (pc2 := 72) op174_71 (by decide) rfl ?_
  refine rx_s (L2 := [some (.ref 115), some (.int x24), some (.int 0), o21, o22]) (pc2 := 73) op174_72 rfl rfl rfl ?_
  obtain ⟨wf124, f124, h⟩ := rq_bind h
  refine mo_findPlays_l73_ok xs hd (fun x51 m50 eq => ?_) _ _ _ _ _ _  f124
  subst eq
  try dsimp only at h
  intro o52 o53 o54
  refine rx_ic (v := 0) (pc2 := 192) op174_191 (by decide) rfl ?_
  refine rx_s (L2 := [some (.ref 115), some (.int x51), some (.int 0), o53, o54]) (pc2 := 193) op174_192 rfl rfl rfl ?_
  refine rx_ic (v := 0) (pc2 := 194) op174_193 (by decide) rfl ?_
  refine rx_s (L2 := [some (.ref 115), some (.int x51), some (.int 0), some (.int 0), o54]) (pc2 := 195) op174_194 rfl rfl rfl ?_
  obtain ⟨m65, f123, h⟩ := rq_bind h
  refine mo_findPlays_l195_ok xs hd (fun m0 eq => ?_) _ _ _ _ _  f123
  subst eq
  try dsimp only at h
  intro o66 o67 o68 o69
  refine rx_ic (v := 0) (pc2 := 227) op174_226 (by decide) rfl ?_
  refine rx_sd (v := 0) (j := 2) (pc2 := 228) op174_227 rfl rfl (Nat.le_of_ble_eq_true rfl) rfl (fun o70 => ?_)
  show rn_R _ _ _ _ [some (.ref 115), o66, o70, some (.int 0), o69] _ _ _ _
  obtain ⟨m116, f122, h⟩ := rq_bind h
  refine mo_findPlays_l228_ok xs hd (fun m0 eq => ?_) _ _ _ _ _ _  f122
  subst eq
  try dsimp only at h
  intro o117 o118 o119 o120 o121
  obtain rfl := Option.some.inj h
  exact ry_rv op174_352 ms_174 rfl
/-! mo_plays -/
theorem op172_0 : rn_op 172 0 = some (.aload_n 0, 1, 0, 0, 0) := by decide +kernel
theorem op172_1 : rn_op 172 1 = some (.getfield 7, 3, 11, 0, 3) := by decide +kernel
theorem op172_4 : rn_op 172 4 = some (.bipush 9, 2, 0, 0, 0) := by decide +kernel
theorem op172_6 : rn_op 172 6 = some (.iaload, 1, 0, 0, 0) := by decide +kernel
theorem op172_7 : rn_op 172 7 = some (.ifCond .ne 7, 3, 0, 0, 0) := by decide +kernel
theorem op172_10 : rn_op 172 10 = some (.ldc2_w 266, 3, 18446744073709551614, 0, 0) := by decide +kernel
theorem op172_13 : rn_op 172 13 = some (.lreturn, 1, 0, 0, 0) := by decide +kernel
theorem op172_14 : rn_op 172 14 = some (.aload_n 0, 1, 0, 0, 0) := by decide +kernel
theorem op172_15 : rn_op 172 15 = some (.invokevirtual 268, 3, 173, 1, 11) := by decide +kernel
theorem op172_18 : rn_op 172 18 = some (.aload_n 0, 1, 0, 0, 0) := by decide +kernel
theorem op172_19 : rn_op 172 19 = some (.invokevirtual 271, 3, 174, 1, 11) := by decide +kernel
theorem op172_22 : rn_op 172 22 = some (.aload_n 0, 1, 0, 0, 0) := by decide +kernel
theorem op172_23 : rn_op 172 23 = some (.getfield 222, 3, 11, 14, 1) := by decide +kernel
theorem op172_26 : rn_op 172 26 = some (.lreturn, 1, 0, 0, 0) := by decide +kernel
def mo_plays (n : Nat)  (m : rn_Mem) : Option (Int64 × rn_Mem) :=
  if (m.1 116 9) = 0 then
    some ((-2), m)
  else
    (mo_askAll n m).bind fun m2 =>
    (mo_findPlays n m2).bind fun m4 =>
    some (m4.2 115 14, m4)
set_option maxHeartbeats 4000000 in
set_option maxRecDepth 20000 in
theorem mo_plays_ok (xs : List Int32) {d : Nat} (hd : 7 ≤ d) {n : Nat} {m mO : rn_Mem} {rO : Int64} (h : mo_plays n  m = some (rO, mO)) : rn_R xs d 172 0 (rn_ent 1 [.ref 115]) [] (rn_SH, m) (some (.long rO)) (rn_SH, mO) := by
  obtain ⟨d, rfl⟩ : ∃ e, d = e + 1 := ⟨d - 1, by omega⟩
  unfold mo_plays at h
  show rn_R xs (d + 1) 172 0 [some (.ref 115)] [] (rn_SH, m) (some (.long rO)) (rn_SH, mO)
  refine rx_p (L2 := [some (.ref 115)]) (S2 := [.ref 115]) (pc2 := 1) op172_0 rfl rfl ?_
  refine rx_gf (v := .ref 116) (pc2 := 4) op172_1 sp_115 rfl rfl rfl ?_
  refine rx_bp (v := 9) (pc2 := 6) op172_4 (by decide) rfl ?_
  refine rx_ia (j := 9) (pc2 := 7) op172_6 (rn_shlt sp_116) sp_116 (by decide) (by decide) rfl ?_
  refine ry_if_ne (tgt := 14) (pc2 := 10) op172_7 (by decide) (by decide) rfl (fun b1 => ?_) (fun b1 => ?_)
  · have h := (if_pos b1).symm.trans h
    refine rx_ld2 (v := (-2)) (pc2 := 13) op172_10 (by decide) rfl ?_
    obtain ⟨rfl, rfl⟩ := rq_ret h
    exact ry_rl op172_13 ms_172 rfl
  · have h := (if_neg b1).symm.trans h
    refine rx_p (L2 := [some (.ref 115)]) (S2 := [.ref 115]) (pc2 := 15) op172_14 rfl rfl ?_
    obtain ⟨m2, f3, h⟩ := rq_bind h
    try dsimp only at h
    refine ry_iv (p := 115) (vs := []) (T := []) (pc2 := 18) op172_15 ms_173 (by decide) rfl rfl (Nat.le_of_ble_eq_true rfl) (Nat.le_of_ble_eq_true rfl) sp_115 (mo_askAll_ok xs (by omega)  f3) rfl ?_
    show rn_R _ _ _ _ _ [] _ _ _
    refine rx_p (L2 := [some (.ref 115)]) (S2 := [.ref 115]) (pc2 := 19) op172_18 rfl rfl ?_
    obtain ⟨m4, f5, h⟩ := rq_bind h
    try dsimp only at h
    refine ry_iv (p := 115) (vs := []) (T := []) (pc2 := 22) op172_19 ms_174 (by decide) rfl rfl (Nat.le_of_ble_eq_true rfl) (Nat.le_of_ble_eq_true rfl) sp_115 (mo_findPlays_ok xs (by omega)  f5) rfl ?_
    show rn_R _ _ _ _ _ [] _ _ _
    refine rx_p (L2 := [some (.ref 115)]) (S2 := [.ref 115]) (pc2 := 23) op172_22 rfl rfl ?_
    refine rx_gf (v := .long (m4.2 115 14)) (pc2 := 26) op172_23 sp_115 rfl rfl rfl ?_
    obtain ⟨rfl, rfl⟩ := rq_ret h
    exact ry_rl op172_26 ms_172 rfl
/-! mo_may -/
theorem op186_0 : rn_op 186 0 = some (.iload_n 1, 1, 0, 0, 0) := by decide +kernel
theorem op186_1 : rn_op 186 1 = some (.i2l, 1, 0, 0, 0) := by decide +kernel
theorem op186_2 : rn_op 186 2 = some (.lconst 0, 1, 0, 0, 0) := by decide +kernel
theorem op186_3 : rn_op 186 3 = some (.ldc2_w 125, 3, 15, 0, 0) := by decide +kernel
theorem op186_6 : rn_op 186 6 = some (.invokestatic 121, 3, 147, 3, 0) := by decide +kernel
theorem op186_9 : rn_op 186 9 = some (.ifCond .ne 5, 3, 0, 0, 0) := by decide +kernel
theorem op186_12 : rn_op 186 12 = some (.iconst (-1), 1, 0, 0, 0) := by decide +kernel
theorem op186_13 : rn_op 186 13 = some (.ireturn, 1, 0, 0, 0) := by decide +kernel
theorem op186_14 : rn_op 186 14 = some (.aload_n 0, 1, 0, 0, 0) := by decide +kernel
theorem op186_15 : rn_op 186 15 = some (.getfield 7, 3, 11, 0, 3) := by decide +kernel
theorem op186_18 : rn_op 186 18 = some (.bipush 9, 2, 0, 0, 0) := by decide +kernel
theorem op186_20 : rn_op 186 20 = some (.iaload, 1, 0, 0, 0) := by decide +kernel
theorem op186_21 : rn_op 186 21 = some (.ifCond .ne 6, 3, 0, 0, 0) := by decide +kernel
theorem op186_24 : rn_op 186 24 = some (.bipush (-2), 2, 0, 0, 0) := by decide +kernel
theorem op186_26 : rn_op 186 26 = some (.ireturn, 1, 0, 0, 0) := by decide +kernel
theorem op186_27 : rn_op 186 27 = some (.aload_n 0, 1, 0, 0, 0) := by decide +kernel
theorem op186_28 : rn_op 186 28 = some (.iload_n 1, 1, 0, 0, 0) := by decide +kernel
theorem op186_29 : rn_op 186 29 = some (.invokevirtual 190, 3, 169, 2, 11) := by decide +kernel
theorem op186_32 : rn_op 186 32 = some (.ifCond .ne 5, 3, 0, 0, 0) := by decide +kernel
theorem op186_35 : rn_op 186 35 = some (.iconst (-1), 1, 0, 0, 0) := by decide +kernel
theorem op186_36 : rn_op 186 36 = some (.ireturn, 1, 0, 0, 0) := by decide +kernel
theorem op186_37 : rn_op 186 37 = some (.aload_n 0, 1, 0, 0, 0) := by decide +kernel
theorem op186_38 : rn_op 186 38 = some (.invokevirtual 268, 3, 173, 1, 11) := by decide +kernel
theorem op186_41 : rn_op 186 41 = some (.aload_n 0, 1, 0, 0, 0) := by decide +kernel
theorem op186_42 : rn_op 186 42 = some (.invokevirtual 271, 3, 174, 1, 11) := by decide +kernel
theorem op186_45 : rn_op 186 45 = some (.aload_n 0, 1, 0, 0, 0) := by decide +kernel
theorem op186_46 : rn_op 186 46 = some (.getfield 22, 3, 11, 16, 3) := by decide +kernel
theorem op186_49 : rn_op 186 49 = some (.iload_n 1, 1, 0, 0, 0) := by decide +kernel
theorem op186_50 : rn_op 186 50 = some (.iaload, 1, 0, 0, 0) := by decide +kernel
theorem op186_51 : rn_op 186 51 = some (.ireturn, 1, 0, 0, 0) := by decide +kernel
def mo_may (n : Nat) (a1 : Int32) (m : rn_Mem) : Option (Int32 × rn_Mem) :=
  (mo_in n (a1.toInt64) 0 15 m).bind fun (r2, m1) =>
  if r2 = 0 then
    some ((-1), m1)
  else
    if (m1.1 116 9) = 0 then
      some ((-2), m1)
    else
      (mo_isInPack n a1 m1).bind fun (r7, m6) =>
      if r7 = 0 then
        some ((-1), m6)
      else
        (mo_askAll n m6).bind fun m10 =>
        (mo_findPlays n m10).bind fun m12 =>
        if rn_in a1 16 = true then
          some (m12.1 120 a1.toNatClampNeg, m12)
        else none
set_option maxHeartbeats 4000000 in
set_option maxRecDepth 20000 in
theorem mo_may_ok (xs : List Int32) {d : Nat} (hd : 7 ≤ d) {n : Nat} {a1 : Int32} {m mO : rn_Mem} {rO : Int32} (h : mo_may n a1 m = some (rO, mO)) : rn_R xs d 186 0 (rn_ent 2 [.ref 115, .int a1]) [] (rn_SH, m) (some (.int rO)) (rn_SH, mO) := by
  obtain ⟨d, rfl⟩ : ∃ e, d = e + 1 := ⟨d - 1, by omega⟩
  unfold mo_may at h
  show rn_R xs (d + 1) 186 0 [some (.ref 115), some (.int a1)] [] (rn_SH, m) (some (.int rO)) (rn_SH, mO)
  refine rx_p (L2 := [some (.ref 115), some (.int a1)]) (S2 := [.int a1]) (pc2 := 1) op186_0 rfl rfl ?_
  refine rx_p (L2 := [some (.ref 115), some (.int a1)]) (S2 := [.long (a1.toInt64)]) (pc2 := 2) op186_1 rfl rfl ?_
  refine rx_lc (v := 0) (pc2 := 3) op186_2 (by decide) rfl ?_
  refine rx_ld2 (v := 15) (pc2 := 6) op186_3 (by decide) rfl ?_
  obtain ⟨⟨r2, m1⟩, f3, h⟩ := rq_bind h
  try dsimp only at h
  refine ry_is (vs := [.long (a1.toInt64), .long 0, .long 15]) (T := []) (pc2 := 9) op186_6 (by decide) ms_147 (by decide) rfl rfl (Nat.le_of_ble_eq_true rfl) (Nat.le_of_ble_eq_true rfl) (mo_in_ok xs (by omega)  f3) rfl ?_
  show rn_R _ _ _ _ _ [.int r2] _ _ _
  refine ry_if_ne (tgt := 14) (pc2 := 12) op186_9 (by decide) (by decide) rfl (fun b4 => ?_) (fun b4 => ?_)
  · have h := (if_pos b4).symm.trans h
    refine rx_ic (v := (-1)) (pc2 := 13) op186_12 (by decide) rfl ?_
    obtain ⟨rfl, rfl⟩ := rq_ret h
    exact ry_ri op186_13 ms_186 rfl
  · have h := (if_neg b4).symm.trans h
    refine rx_p (L2 := [some (.ref 115), some (.int a1)]) (S2 := [.ref 115]) (pc2 := 15) op186_14 rfl rfl ?_
    refine rx_gf (v := .ref 116) (pc2 := 18) op186_15 sp_115 rfl rfl rfl ?_
    refine rx_bp (v := 9) (pc2 := 20) op186_18 (by decide) rfl ?_
    refine rx_ia (j := 9) (pc2 := 21) op186_20 (rn_shlt sp_116) sp_116 (by decide) (by decide) rfl ?_
    refine ry_if_ne (tgt := 27) (pc2 := 24) op186_21 (by decide) (by decide) rfl (fun b5 => ?_) (fun b5 => ?_)
    · have h := (if_pos b5).symm.trans h
      refine rx_bp (v := (-2)) (pc2 := 26) op186_24 (by decide) rfl ?_
      obtain ⟨rfl, rfl⟩ := rq_ret h
      exact ry_ri op186_26 ms_186 rfl
    · have h := (if_neg b5).symm.trans h
      refine rx_p (L2 := [some (.ref 115), some (.int a1)]) (S2 := [.ref 115]) (pc2 := 28) op186_27 rfl rfl ?_
      refine rx_p (L2 := [some (.ref 115), some (.int a1)]) (S2 := [.int a1, .ref 115]) (pc2 := 29) op186_28 rfl rfl ?_
      obtain ⟨⟨r7, m6⟩, f8, h⟩ := rq_bind h
      try dsimp only at h
      refine ry_iv (p := 115) (vs := [.int a1]) (T := []) (pc2 := 32) op186_29 ms_169 (by decide) rfl rfl (Nat.le_of_ble_eq_true rfl) (Nat.le_of_ble_eq_true rfl) sp_115 (mo_isInPack_ok xs (by omega)  f8) rfl ?_
      show rn_R _ _ _ _ _ [.int r7] _ _ _
      refine ry_if_ne (tgt := 37) (pc2 := 35) op186_32 (by decide) (by decide) rfl (fun b9 => ?_) (fun b9 => ?_)
      · have h := (if_pos b9).symm.trans h
        refine rx_ic (v := (-1)) (pc2 := 36) op186_35 (by decide) rfl ?_
        obtain ⟨rfl, rfl⟩ := rq_ret h
        exact ry_ri op186_36 ms_186 rfl
      · have h := (if_neg b9).symm.trans h
        refine rx_p (L2 := [some (.ref 115), some (.int a1)]) (S2 := [.ref 115]) (pc2 := 38) op186_37 rfl rfl ?_
        obtain ⟨m10, f11, h⟩ := rq_bind h
        try dsimp only at h
        refine ry_iv (p := 115) (vs := []) (T := []) (pc2 := 41) op186_38 ms_173 (by decide) rfl rfl (Nat.le_of_ble_eq_true rfl) (Nat.le_of_ble_eq_true rfl) sp_115 (mo_askAll_ok xs (by omega)  f11) rfl ?_
        show rn_R _ _ _ _ _ [] _ _ _
        refine rx_p (L2 := [some (.ref 115), some (.int a1)]) (S2 := [.ref 115]) (pc2 := 42) op186_41 rfl rfl ?_
        obtain ⟨m12, f13, h⟩ := rq_bind h
        try dsimp only at h
        refine ry_iv (p := 115) (vs := []) (T := []) (pc2 := 45) op186_42 ms_174 (by decide) rfl rfl (Nat.le_of_ble_eq_true rfl) (Nat.le_of_ble_eq_true rfl) sp_115 (mo_findPlays_ok xs (by omega)  f13) rfl ?_
        show rn_R _ _ _ _ _ [] _ _ _
        refine rx_p (L2 := [some (.ref 115), some (.int a1)]) (S2 := [.ref 115]) (pc2 := 46) op186_45 rfl rfl ?_
        refine rx_gf (v := .ref 120) (pc2 := 49) op186_46 sp_115 rfl rfl rfl ?_
        refine rx_p (L2 := [some (.ref 115), some (.int a1)]) (S2 := [.int a1, .ref 120]) (pc2 := 50) op186_49 rfl rfl ?_
        obtain ⟨k14, h⟩ := rq_chk h
        refine rx_ia (pc2 := 51) op186_50 (rn_shlt sp_120) sp_120 k14 rfl rfl ?_
        obtain ⟨rfl, rfl⟩ := rq_ret h
        exact ry_ri op186_51 ms_186 rfl
/-! mo_sure -/
theorem op187_0 : rn_op 187 0 = some (.aload_n 0, 1, 0, 0, 0) := by decide +kernel
theorem op187_1 : rn_op 187 1 = some (.iload_n 1, 1, 0, 0, 0) := by decide +kernel
theorem op187_2 : rn_op 187 2 = some (.invokevirtual 274, 3, 186, 2, 11) := by decide +kernel
theorem op187_5 : rn_op 187 5 = some (.istore_n 2, 1, 0, 0, 0) := by decide +kernel
theorem op187_6 : rn_op 187 6 = some (.iload_n 2, 1, 0, 0, 0) := by decide +kernel
theorem op187_7 : rn_op 187 7 = some (.ifCond .ge 5, 3, 0, 0, 0) := by decide +kernel
theorem op187_10 : rn_op 187 10 = some (.iload_n 2, 1, 0, 0, 0) := by decide +kernel
theorem op187_11 : rn_op 187 11 = some (.ireturn, 1, 0, 0, 0) := by decide +kernel
theorem op187_12 : rn_op 187 12 = some (.iconst 0, 1, 0, 0, 0) := by decide +kernel
theorem op187_13 : rn_op 187 13 = some (.istore_n 3, 1, 0, 0, 0) := by decide +kernel
theorem op187_14 : rn_op 187 14 = some (.iload_n 3, 1, 0, 0, 0) := by decide +kernel
theorem op187_15 : rn_op 187 15 = some (.aload_n 0, 1, 0, 0, 0) := by decide +kernel
theorem op187_16 : rn_op 187 16 = some (.getfield 7, 3, 11, 0, 3) := by decide +kernel
theorem op187_19 : rn_op 187 19 = some (.iconst 1, 1, 0, 0, 0) := by decide +kernel
theorem op187_20 : rn_op 187 20 = some (.iaload, 1, 0, 0, 0) := by decide +kernel
theorem op187_21 : rn_op 187 21 = some (.if_icmp .ge 18, 3, 0, 0, 0) := by decide +kernel
theorem op187_24 : rn_op 187 24 = some (.iload_n 2, 1, 0, 0, 0) := by decide +kernel
theorem op187_25 : rn_op 187 25 = some (.iconst 1, 1, 0, 0, 0) := by decide +kernel
theorem op187_26 : rn_op 187 26 = some (.iload_n 3, 1, 0, 0, 0) := by decide +kernel
theorem op187_27 : rn_op 187 27 = some (.ishl, 1, 0, 0, 0) := by decide +kernel
theorem op187_28 : rn_op 187 28 = some (.if_icmp .ne 5, 3, 0, 0, 0) := by decide +kernel
theorem op187_31 : rn_op 187 31 = some (.iload_n 3, 1, 0, 0, 0) := by decide +kernel
theorem op187_32 : rn_op 187 32 = some (.ireturn, 1, 0, 0, 0) := by decide +kernel
theorem op187_33 : rn_op 187 33 = some (.iinc 3 1, 3, 0, 0, 0) := by decide +kernel
theorem op187_36 : rn_op 187 36 = some (.goto (-22), 3, 0, 0, 0) := by decide +kernel
theorem op187_39 : rn_op 187 39 = some (.bipush (-4), 2, 0, 0, 0) := by decide +kernel
theorem op187_41 : rn_op 187 41 = some (.ireturn, 1, 0, 0, 0) := by decide +kernel
def mo_sure_l14 (a2 : Int32) : Nat → Int32 → rn_Mem → Option ((Int32 × rn_Mem) ⊕ (rn_Mem))
  | 0, _, _ => none
  | n + 1, a3, m =>
    if a3 < (m.1 116 1) then
      if a2 = ((1 : Int32) <<< (a3 &&& 31)) then
        some (.inl (a3, m))
      else
        (some (a3 + 1)).bind fun (x7 : Int32) =>
        mo_sure_l14 a2 n x7 m
    else
      some (.inr m)
def mo_sure (n : Nat) (a1 : Int32) (m : rn_Mem) : Option (Int32 × rn_Mem) :=
  (mo_may n a1 m).bind fun (r2, m1) =>
  if r2 < 0 then
    some (r2, m1)
  else
    (mo_sure_l14 r2 n 0 m1).bind fun q => match q with
    | .inl o => some o
    | .inr m8 =>
    some ((-4), m8)
set_option maxHeartbeats 4000000 in
set_option maxRecDepth 20000 in
theorem mo_sure_l14_ok (xs : List Int32) {d : Nat} (hd : 8 ≤ d + 1) {a2 : Int32} {r : Option Value} {τ : rn_H} {out : (Int32 × rn_Mem) ⊕ (rn_Mem)} (hl : ∀ (rO : Int32) (mO : rn_Mem), out = .inl (rO, mO) → r = (some (.int rO)) ∧ τ = (rn_SH, mO)) (hr : ∀ (mO : rn_Mem), out = .inr mO → ∀ (o0 o1 o2 o3 : Option Value), rn_R xs (d + 1) 187 39 [o0, o1, o2, o3] [] (rn_SH, mO) r τ) : ∀ (n : Nat) (a3 : Int32) (o1 : Option Value) (m : rn_Mem), mo_sure_l14 a2 n a3 m = some out → rn_R xs (d + 1) 187 14 [some (.ref 115), o1, some (.int a2), some (.int a3)] [] (rn_SH, m) r τ := by
  intro n
  induction n with
  | zero =>
    intro _ _ _ h
    cases h
  | succ n ih =>
    intro a3 o1 m h
    unfold mo_sure_l14 at h
    try dsimp only at h
    refine rx_p (L2 := [some (.ref 115), o1, some (.int a2), some (.int a3)]) (S2 := [.int a3]) (pc2 := 15) op187_14 rfl rfl ?_
    refine rx_p (L2 := [some (.ref 115), o1, some (.int a2), some (.int a3)]) (S2 := [.ref 115, .int a3]) (pc2 := 16) op187_15 rfl rfl ?_
    refine rx_gf (v := .ref 116) (pc2 := 19) op187_16 sp_115 rfl rfl rfl ?_
    refine rx_ic (v := 1) (pc2 := 20) op187_19 (by decide) rfl ?_
    refine rx_ia (j := 1) (pc2 := 21) op187_20 (rn_shlt sp_116) sp_116 (by decide) (by decide) rfl ?_
    refine ry_ic_ge (tgt := 39) (pc2 := 24) op187_21 (by decide) (by decide) rfl (fun b5 => ?_) (fun b5 => ?_)
    · have h := (if_pos b5).symm.trans h
      refine rx_p (L2 := [some (.ref 115), o1, some (.int a2), some (.int a3)]) (S2 := [.int a2]) (pc2 := 25) op187_24 rfl rfl ?_
      refine rx_ic (v := 1) (pc2 := 26) op187_25 (by decide) rfl ?_
      refine rx_p (L2 := [some (.ref 115), o1, some (.int a2), some (.int a3)]) (S2 := [.int a3, .int 1, .int a2]) (pc2 := 27) op187_26 rfl rfl ?_
      refine rx_p (L2 := [some (.ref 115), o1, some (.int a2), some (.int a3)]) (S2 := [.int ((1 : Int32) <<< (a3 &&& 31)), .int a2]) (pc2 := 28) op187_27 rfl rfl ?_
      refine ry_ic_ne (tgt := 33) (pc2 := 31) op187_28 (by decide) (by decide) rfl (fun b6 => ?_) (fun b6 => ?_)
      · have h := (if_pos b6).symm.trans h
        refine rx_p (L2 := [some (.ref 115), o1, some (.int a2), some (.int a3)]) (S2 := [.int a3]) (pc2 := 32) op187_31 rfl rfl ?_
        cases h
        obtain ⟨rfl, rfl⟩ := hl _ _ rfl
        exact ry_ri op187_32 ms_187 rfl
      · have h := (if_neg b6).symm.trans h
        obtain ⟨x7, ex7, h⟩ := rq_bv h
        refine rx_inc (w := 1) (v := x7) (L2 := [some (.ref 115), o1, some (.int a2), some (.int x7)]) (pc2 := 36) op187_33 rfl (by decide) ex7 rfl rfl ?_
        refine ry_go (tgt := 14) op187_36 (by decide) (by decide) ?_
        exact ih _ _ _ h
    · have h := (if_neg b5).symm.trans h
      cases h
      exact hr _ rfl _ _ _ _
set_option maxHeartbeats 4000000 in
set_option maxRecDepth 20000 in
theorem mo_sure_ok (xs : List Int32) {d : Nat} (hd : 8 ≤ d) {n : Nat} {a1 : Int32} {m mO : rn_Mem} {rO : Int32} (h : mo_sure n a1 m = some (rO, mO)) : rn_R xs d 187 0 (rn_ent 4 [.ref 115, .int a1]) [] (rn_SH, m) (some (.int rO)) (rn_SH, mO) := by
  obtain ⟨d, rfl⟩ : ∃ e, d = e + 1 := ⟨d - 1, by omega⟩
  unfold mo_sure at h
  show rn_R xs (d + 1) 187 0 [some (.ref 115), some (.int a1), none, none] [] (rn_SH, m) (some (.int rO)) (rn_SH, mO)
  refine rx_p (L2 := [some (.ref 115), some (.int a1), none, none]) (S2 := [.ref 115]) (pc2 := 1) op187_0 rfl rfl ?_
  refine rx_p (L2 := [some (.ref 115), some (.int a1), none, none]) (S2 := [.int a1, .ref 115]) (pc2 := 2) op187_1 rfl rfl ?_
  obtain ⟨⟨r2, m1⟩, f3, h⟩ := rq_bind h
  try dsimp only at h
  refine ry_iv (p := 115) (vs := [.int a1]) (T := []) (pc2 := 5) op187_2 ms_186 (by decide) rfl rfl (Nat.le_of_ble_eq_true rfl) (Nat.le_of_ble_eq_true rfl) sp_115 (mo_may_ok xs (by omega)  f3) rfl ?_
  show rn_R _ _ _ _ _ [.int r2] _ _ _
  refine rx_s (L2 := [some (.ref 115), some (.int a1), some (.int r2), none]) (pc2 := 6) op187_5 rfl rfl rfl ?_
  refine rx_p (L2 := [some (.ref 115), some (.int a1), some (.int r2), none]) (S2 := [.int r2]) (pc2 := 7) op187_6 rfl rfl ?_
  refine ry_if_ge (tgt := 12) (pc2 := 10) op187_7 (by decide) (by decide) rfl (fun b4 => ?_) (fun b4 => ?_)
  · have h := (if_pos b4).symm.trans h
    refine rx_p (L2 := [some (.ref 115), some (.int a1), some (.int r2), none]) (S2 := [.int r2]) (pc2 := 11) op187_10 rfl rfl ?_
    obtain ⟨rfl, rfl⟩ := rq_ret h
    exact ry_ri op187_11 ms_187 rfl
  · have h := (if_neg b4).symm.trans h
    refine rx_ic (v := 0) (pc2 := 13) op187_12 (by decide) rfl ?_
    refine rx_s (L2 := [some (.ref 115), some (.int a1), some (.int r2), some (.int 0)]) (pc2 := 14) op187_13 rfl rfl rfl ?_
    obtain ⟨wf13, f13, h⟩ := rq_bind h
    refine mo_sure_l14_ok xs hd (fun v0 m0 eq => ?_) (fun m8 eq => ?_) _ _ _ _  f13
    · subst eq
      try dsimp only at h
      cases h
      exact ⟨rfl, rfl⟩
    · subst eq
      try dsimp only at h
      intro o9 o10 o11 o12
      refine rx_bp (v := (-4)) (pc2 := 41) op187_39 (by decide) rfl ?_
      obtain ⟨rfl, rfl⟩ := rq_ret h
      exact ry_ri op187_41 ms_187 rfl
/-! mo_under -/
theorem op188_0 : rn_op 188 0 = some (.iload_n 1, 1, 0, 0, 0) := by decide +kernel
theorem op188_1 : rn_op 188 1 = some (.i2l, 1, 0, 0, 0) := by decide +kernel
theorem op188_2 : rn_op 188 2 = some (.lconst 0, 1, 0, 0, 0) := by decide +kernel
theorem op188_3 : rn_op 188 3 = some (.ldc2_w 153, 3, 3, 0, 0) := by decide +kernel
theorem op188_6 : rn_op 188 6 = some (.invokestatic 121, 3, 147, 3, 0) := by decide +kernel
theorem op188_9 : rn_op 188 9 = some (.ifCond .eq 15, 3, 0, 0, 0) := by decide +kernel
theorem op188_12 : rn_op 188 12 = some (.iload_n 2, 1, 0, 0, 0) := by decide +kernel
theorem op188_13 : rn_op 188 13 = some (.i2l, 1, 0, 0, 0) := by decide +kernel
theorem op188_14 : rn_op 188 14 = some (.lconst 0, 1, 0, 0, 0) := by decide +kernel
theorem op188_15 : rn_op 188 15 = some (.ldc2_w 180, 3, 11, 0, 0) := by decide +kernel
theorem op188_18 : rn_op 188 18 = some (.invokestatic 121, 3, 147, 3, 0) := by decide +kernel
theorem op188_21 : rn_op 188 21 = some (.ifCond .ne 5, 3, 0, 0, 0) := by decide +kernel
theorem op188_24 : rn_op 188 24 = some (.iconst (-1), 1, 0, 0, 0) := by decide +kernel
theorem op188_25 : rn_op 188 25 = some (.ireturn, 1, 0, 0, 0) := by decide +kernel
theorem op188_26 : rn_op 188 26 = some (.aload_n 0, 1, 0, 0, 0) := by decide +kernel
theorem op188_27 : rn_op 188 27 = some (.getfield 7, 3, 11, 0, 3) := by decide +kernel
theorem op188_30 : rn_op 188 30 = some (.bipush 9, 2, 0, 0, 0) := by decide +kernel
theorem op188_32 : rn_op 188 32 = some (.iaload, 1, 0, 0, 0) := by decide +kernel
theorem op188_33 : rn_op 188 33 = some (.ifCond .ne 6, 3, 0, 0, 0) := by decide +kernel
theorem op188_36 : rn_op 188 36 = some (.bipush (-2), 2, 0, 0, 0) := by decide +kernel
theorem op188_38 : rn_op 188 38 = some (.ireturn, 1, 0, 0, 0) := by decide +kernel
theorem op188_39 : rn_op 188 39 = some (.aload_n 0, 1, 0, 0, 0) := by decide +kernel
theorem op188_40 : rn_op 188 40 = some (.iload_n 1, 1, 0, 0, 0) := by decide +kernel
theorem op188_41 : rn_op 188 41 = some (.invokevirtual 182, 3, 167, 2, 11) := by decide +kernel
theorem op188_44 : rn_op 188 44 = some (.ifCond .eq 16, 3, 0, 0, 0) := by decide +kernel
theorem op188_47 : rn_op 188 47 = some (.iload_n 2, 1, 0, 0, 0) := by decide +kernel
theorem op188_48 : rn_op 188 48 = some (.aload_n 0, 1, 0, 0, 0) := by decide +kernel
theorem op188_49 : rn_op 188 49 = some (.getfield 7, 3, 11, 0, 3) := by decide +kernel
theorem op188_52 : rn_op 188 52 = some (.bipush 12, 2, 0, 0, 0) := by decide +kernel
theorem op188_54 : rn_op 188 54 = some (.iload_n 1, 1, 0, 0, 0) := by decide +kernel
theorem op188_55 : rn_op 188 55 = some (.iadd, 1, 0, 0, 0) := by decide +kernel
theorem op188_56 : rn_op 188 56 = some (.iaload, 1, 0, 0, 0) := by decide +kernel
theorem op188_57 : rn_op 188 57 = some (.if_icmp .lt 5, 3, 0, 0, 0) := by decide +kernel
theorem op188_60 : rn_op 188 60 = some (.iconst (-1), 1, 0, 0, 0) := by decide +kernel
theorem op188_61 : rn_op 188 61 = some (.ireturn, 1, 0, 0, 0) := by decide +kernel
theorem op188_62 : rn_op 188 62 = some (.aload_n 0, 1, 0, 0, 0) := by decide +kernel
theorem op188_63 : rn_op 188 63 = some (.getfield 7, 3, 11, 0, 3) := by decide +kernel
theorem op188_66 : rn_op 188 66 = some (.bipush 16, 2, 0, 0, 0) := by decide +kernel
theorem op188_68 : rn_op 188 68 = some (.bipush 12, 2, 0, 0, 0) := by decide +kernel
theorem op188_70 : rn_op 188 70 = some (.iload_n 1, 1, 0, 0, 0) := by decide +kernel
theorem op188_71 : rn_op 188 71 = some (.imul, 1, 0, 0, 0) := by decide +kernel
theorem op188_72 : rn_op 188 72 = some (.iadd, 1, 0, 0, 0) := by decide +kernel
theorem op188_73 : rn_op 188 73 = some (.iload_n 2, 1, 0, 0, 0) := by decide +kernel
theorem op188_74 : rn_op 188 74 = some (.iadd, 1, 0, 0, 0) := by decide +kernel
theorem op188_75 : rn_op 188 75 = some (.iaload, 1, 0, 0, 0) := by decide +kernel
theorem op188_76 : rn_op 188 76 = some (.ifCond .lt 6, 3, 0, 0, 0) := by decide +kernel
theorem op188_79 : rn_op 188 79 = some (.bipush (-2), 2, 0, 0, 0) := by decide +kernel
theorem op188_81 : rn_op 188 81 = some (.ireturn, 1, 0, 0, 0) := by decide +kernel
theorem op188_82 : rn_op 188 82 = some (.aload_n 0, 1, 0, 0, 0) := by decide +kernel
theorem op188_83 : rn_op 188 83 = some (.invokevirtual 268, 3, 173, 1, 11) := by decide +kernel
theorem op188_86 : rn_op 188 86 = some (.aload_n 0, 1, 0, 0, 0) := by decide +kernel
theorem op188_87 : rn_op 188 87 = some (.invokevirtual 271, 3, 174, 1, 11) := by decide +kernel
theorem op188_90 : rn_op 188 90 = some (.iconst 0, 1, 0, 0, 0) := by decide +kernel
theorem op188_91 : rn_op 188 91 = some (.istore_n 3, 1, 0, 0, 0) := by decide +kernel
theorem op188_92 : rn_op 188 92 = some (.iload_n 3, 1, 0, 0, 0) := by decide +kernel
theorem op188_93 : rn_op 188 93 = some (.aload_n 0, 1, 0, 0, 0) := by decide +kernel
theorem op188_94 : rn_op 188 94 = some (.getfield 229, 3, 11, 21, 0) := by decide +kernel
theorem op188_97 : rn_op 188 97 = some (.if_icmp .ge 31, 3, 0, 0, 0) := by decide +kernel
theorem op188_100 : rn_op 188 100 = some (.aload_n 0, 1, 0, 0, 0) := by decide +kernel
theorem op188_101 : rn_op 188 101 = some (.getfield 37, 3, 11, 22, 3) := by decide +kernel
theorem op188_104 : rn_op 188 104 = some (.iload_n 3, 1, 0, 0, 0) := by decide +kernel
theorem op188_105 : rn_op 188 105 = some (.iaload, 1, 0, 0, 0) := by decide +kernel
theorem op188_106 : rn_op 188 106 = some (.bipush 12, 2, 0, 0, 0) := by decide +kernel
theorem op188_108 : rn_op 188 108 = some (.iload_n 1, 1, 0, 0, 0) := by decide +kernel
theorem op188_109 : rn_op 188 109 = some (.imul, 1, 0, 0, 0) := by decide +kernel
theorem op188_110 : rn_op 188 110 = some (.iload_n 2, 1, 0, 0, 0) := by decide +kernel
theorem op188_111 : rn_op 188 111 = some (.iadd, 1, 0, 0, 0) := by decide +kernel
theorem op188_112 : rn_op 188 112 = some (.if_icmp .ne 10, 3, 0, 0, 0) := by decide +kernel
theorem op188_115 : rn_op 188 115 = some (.aload_n 0, 1, 0, 0, 0) := by decide +kernel
theorem op188_116 : rn_op 188 116 = some (.getfield 25, 3, 11, 17, 3) := by decide +kernel
theorem op188_119 : rn_op 188 119 = some (.iload_n 3, 1, 0, 0, 0) := by decide +kernel
theorem op188_120 : rn_op 188 120 = some (.iaload, 1, 0, 0, 0) := by decide +kernel
theorem op188_121 : rn_op 188 121 = some (.ireturn, 1, 0, 0, 0) := by decide +kernel
theorem op188_122 : rn_op 188 122 = some (.iinc 3 1, 3, 0, 0, 0) := by decide +kernel
theorem op188_125 : rn_op 188 125 = some (.goto (-33), 3, 0, 0, 0) := by decide +kernel
theorem op188_128 : rn_op 188 128 = some (.bipush (-2), 2, 0, 0, 0) := by decide +kernel
theorem op188_130 : rn_op 188 130 = some (.ireturn, 1, 0, 0, 0) := by decide +kernel
def mo_under_l92 (a1 : Int32) (a2 : Int32) : Nat → Int32 → rn_Mem → Option ((Int32 × rn_Mem) ⊕ (rn_Mem))
  | 0, _, _ => none
  | n + 1, a3, m =>
    if a3 < (m.1 115 21) then
      if rn_in a3 3 = true then
        if (m.1 125 a3.toNatClampNeg) = (((12 : Int32) * a1) + a2) then
          if rn_in a3 3 = true then
            some (.inl (m.1 121 a3.toNatClampNeg, m))
          else none
        else
          (some (a3 + 1)).bind fun (x26 : Int32) =>
          mo_under_l92 a1 a2 n x26 m
      else none
    else
      some (.inr m)
def mo_under (n : Nat) (a1 : Int32) (a2 : Int32) (m : rn_Mem) : Option (Int32 × rn_Mem) :=
  (mo_in n (a1.toInt64) 0 3 m).bind fun (r2, m1) =>
  if r2 = 0 then
    some ((-1), m1)
  else
    (mo_in n (a2.toInt64) 0 11 m1).bind fun (r6, m5) =>
    if r6 = 0 then
      some ((-1), m5)
    else
      if (m5.1 116 9) = 0 then
        some ((-2), m5)
      else
        (mo_isChair n a1 m5).bind fun (r11, m10) =>
        if r11 = 0 then
          some ((-1), m10)
        else
          if rn_in ((12 : Int32) + a1) 101 = true then
            if a2 < (m10.1 116 ((12 : Int32) + a1).toNatClampNeg) then
              if rn_in (((16 : Int32) + ((12 : Int32) * a1)) + a2) 101 = true then
                if (m10.1 116 (((16 : Int32) + ((12 : Int32) * a1)) + a2).toNatClampNeg) < 0 then
                  (mo_askAll n m10).bind fun m18 =>
                  (mo_findPlays n m18).bind fun m20 =>
                  (mo_under_l92 a1 a2 n 0 m20).bind fun q => match q with
                  | .inl o => some o
                  | .inr m27 =>
                  some ((-2), m27)
                else
                  some ((-2), m10)
              else none
            else
              some ((-1), m10)
          else none
set_option maxHeartbeats 4000000 in
set_option maxRecDepth 20000 in
theorem mo_under_l92_ok (xs : List Int32) {d : Nat} (hd : 7 ≤ d + 1) {a1 : Int32} {a2 : Int32} {r : Option Value} {τ : rn_H} {out : (Int32 × rn_Mem) ⊕ (rn_Mem)} (hl : ∀ (rO : Int32) (mO : rn_Mem), out = .inl (rO, mO) → r = (some (.int rO)) ∧ τ = (rn_SH, mO)) (hr : ∀ (mO : rn_Mem), out = .inr mO → ∀ (o0 o1 o2 o3 : Option Value), rn_R xs (d + 1) 188 128 [o0, o1, o2, o3] [] (rn_SH, mO) r τ) : ∀ (n : Nat) (a3 : Int32) (m : rn_Mem), mo_under_l92 a1 a2 n a3 m = some out → rn_R xs (d + 1) 188 92 [some (.ref 115), some (.int a1), some (.int a2), some (.int a3)] [] (rn_SH, m) r τ := by
  intro n
  induction n with
  | zero =>
    intro _ _ h
    cases h
  | succ n ih =>
    intro a3 m h
    unfold mo_under_l92 at h
    try dsimp only at h
    refine rx_p (L2 := [some (.ref 115), some (.int a1), some (.int a2), some (.int a3)]) (S2 := [.int a3]) (pc2 := 93) op188_92 rfl rfl ?_
    refine rx_p (L2 := [some (.ref 115), some (.int a1), some (.int a2), some (.int a3)]) (S2 := [.ref 115, .int a3]) (pc2 := 94) op188_93 rfl rfl ?_
    refine rx_gf (v := .int (m.1 115 21)) (pc2 := 97) op188_94 sp_115 rfl rfl rfl ?_
    refine ry_ic_ge (tgt := 128) (pc2 := 100) op188_97 (by decide) (by decide) rfl (fun b22 => ?_) (fun b22 => ?_)
    · have h := (if_pos b22).symm.trans h
      refine rx_p (L2 := [some (.ref 115), some (.int a1), some (.int a2), some (.int a3)]) (S2 := [.ref 115]) (pc2 := 101) op188_100 rfl rfl ?_
      refine rx_gf (v := .ref 125) (pc2 := 104) op188_101 sp_115 rfl rfl rfl ?_
      refine rx_p (L2 := [some (.ref 115), some (.int a1), some (.int a2), some (.int a3)]) (S2 := [.int a3, .ref 125]) (pc2 := 105) op188_104 rfl rfl ?_
      obtain ⟨k23, h⟩ := rq_chk h
      refine rx_ia (pc2 := 106) op188_105 (rn_shlt sp_125) sp_125 k23 rfl rfl ?_
      refine rx_bp (v := 12) (pc2 := 108) op188_106 (by decide) rfl ?_
      refine rx_p (L2 := [some (.ref 115), some (.int a1), some (.int a2), some (.int a3)]) (S2 := [.int a1, .int 12, .int (m.1 125 a3.toNatClampNeg)]) (pc2 := 109) op188_108 rfl rfl ?_
      refine rx_p (L2 := [some (.ref 115), some (.int a1), some (.int a2), some (.int a3)]) (S2 := [.int ((12 : Int32) * a1), .int (m.1 125 a3.toNatClampNeg)]) (pc2 := 110) op188_109 rfl rfl ?_
      refine rx_p (L2 := [some (.ref 115), some (.int a1), some (.int a2), some (.int a3)]) (S2 := [.int a2, .int ((12 : Int32) * a1), .int (m.1 125 a3.toNatClampNeg)]) (pc2 := 111) op188_110 rfl rfl ?_
      refine rx_p (L2 := [some (.ref 115), some (.int a1), some (.int a2), some (.int a3)]) (S2 := [.int (((12 : Int32) * a1) + a2), .int (m.1 125 a3.toNatClampNeg)]) (pc2 := 112) op188_111 rfl rfl ?_
      refine ry_ic_ne (tgt := 122) (pc2 := 115) op188_112 (by decide) (by decide) rfl (fun b24 => ?_) (fun b24 => ?_)
      · have h := (if_pos b24).symm.trans h
        refine rx_p (L2 := [some (.ref 115), some (.int a1), some (.int a2), some (.int a3)]) (S2 := [.ref 115]) (pc2 := 116) op188_115 rfl rfl ?_
        refine rx_gf (v := .ref 121) (pc2 := 119) op188_116 sp_115 rfl rfl rfl ?_
        refine rx_p (L2 := [some (.ref 115), some (.int a1), some (.int a2), some (.int a3)]) (S2 := [.int a3, .ref 121]) (pc2 := 120) op188_119 rfl rfl ?_
        obtain ⟨k25, h⟩ := rq_chk h
        refine rx_ia (pc2 := 121) op188_120 (rn_shlt sp_121) sp_121 k25 rfl rfl ?_
        cases h
        obtain ⟨rfl, rfl⟩ := hl _ _ rfl
        exact ry_ri op188_121 ms_188 rfl
      · have h := (if_neg b24).symm.trans h
        obtain ⟨x26, ex26, h⟩ := rq_bv h
        refine rx_inc (w := 1) (v := x26) (L2 := [some (.ref 115), some (.int a1), some (.int a2), some (.int x26)]) (pc2 := 125) op188_122 rfl (by decide) ex26 rfl rfl ?_
        refine ry_go (tgt := 92) op188_125 (by decide) (by decide) ?_
        exact ih _ _ h
    · have h := (if_neg b22).symm.trans h
      cases h
      exact hr _ rfl _ _ _ _
set_option maxHeartbeats 4000000 in
set_option maxRecDepth 20000 in
theorem mo_under_ok (xs : List Int32) {d : Nat} (hd : 7 ≤ d) {n : Nat} {a1 : Int32} {a2 : Int32} {m mO : rn_Mem} {rO : Int32} (h : mo_under n a1 a2 m = some (rO, mO)) : rn_R xs d 188 0 (rn_ent 4 [.ref 115, .int a1, .int a2]) [] (rn_SH, m) (some (.int rO)) (rn_SH, mO) := by
  obtain ⟨d, rfl⟩ : ∃ e, d = e + 1 := ⟨d - 1, by omega⟩
  unfold mo_under at h
  show rn_R xs (d + 1) 188 0 [some (.ref 115), some (.int a1), some (.int a2), none] [] (rn_SH, m) (some (.int rO)) (rn_SH, mO)
  refine rx_p (L2 := [some (.ref 115), some (.int a1), some (.int a2), none]) (S2 := [.int a1]) (pc2 := 1) op188_0 rfl rfl ?_
  refine rx_p (L2 := [some (.ref 115), some (.int a1), some (.int a2), none]) (S2 := [.long (a1.toInt64)]) (pc2 := 2) op188_1 rfl rfl ?_
  refine rx_lc (v := 0) (pc2 := 3) op188_2 (by decide) rfl ?_
  refine rx_ld2 (v := 3) (pc2 := 6) op188_3 (by decide) rfl ?_
  obtain ⟨⟨r2, m1⟩, f3, h⟩ := rq_bind h
  try dsimp only at h
  refine ry_is (vs := [.long (a1.toInt64), .long 0, .long 3]) (T := []) (pc2 := 9) op188_6 (by decide) ms_147 (by decide) rfl rfl (Nat.le_of_ble_eq_true rfl) (Nat.le_of_ble_eq_true rfl) (mo_in_ok xs (by omega)  f3) rfl ?_
  show rn_R _ _ _ _ _ [.int r2] _ _ _
  refine ry_if_eq (tgt := 24) (pc2 := 12) op188_9 (by decide) (by decide) rfl (fun b4 => ?_) (fun b4 => ?_)
  · have h := (if_pos b4).symm.trans h
    refine rx_ic (v := (-1)) (pc2 := 25) op188_24 (by decide) rfl ?_
    obtain ⟨rfl, rfl⟩ := rq_ret h
    exact ry_ri op188_25 ms_188 rfl
  · have h := (if_neg b4).symm.trans h
    refine rx_p (L2 := [some (.ref 115), some (.int a1), some (.int a2), none]) (S2 := [.int a2]) (pc2 := 13) op188_12 rfl rfl ?_
    refine rx_p (L2 := [some (.ref 115), some (.int a1), some (.int a2), none]) (S2 := [.long (a2.toInt64)]) (pc2 := 14) op188_13 rfl rfl ?_
    refine rx_lc (v := 0) (pc2 := 15) op188_14 (by decide) rfl ?_
    refine rx_ld2 (v := 11) (pc2 := 18) op188_15 (by decide) rfl ?_
    obtain ⟨⟨r6, m5⟩, f7, h⟩ := rq_bind h
    try dsimp only at h
    refine ry_is (vs := [.long (a2.toInt64), .long 0, .long 11]) (T := []) (pc2 := 21) op188_18 (by decide) ms_147 (by decide) rfl rfl (Nat.le_of_ble_eq_true rfl) (Nat.le_of_ble_eq_true rfl) (mo_in_ok xs (by omega)  f7) rfl ?_
    show rn_R _ _ _ _ _ [.int r6] _ _ _
    refine ry_if_ne (tgt := 26) (pc2 := 24) op188_21 (by decide) (by decide) rfl (fun b8 => ?_) (fun b8 => ?_)
    · have h := (if_pos b8).symm.trans h
      refine rx_ic (v := (-1)) (pc2 := 25) op188_24 (by decide) rfl ?_
      obtain ⟨rfl, rfl⟩ := rq_ret h
      exact ry_ri op188_25 ms_188 rfl
    · have h := (if_neg b8).symm.trans h
      refine rx_p (L2 := [some (.ref 115), some (.int a1), some (.int a2), none]) (S2 := [.ref 115]) (pc2 := 27) op188_26 rfl rfl ?_
      refine rx_gf (v := .ref 116) (pc2 := 30) op188_27 sp_115 rfl rfl rfl ?_
      refine rx_bp (v := 9) (pc2 := 32) op188_30 (by decide) rfl ?_
      refine rx_ia (j := 9) (pc2 := 33) op188_32 (rn_shlt sp_116) sp_116 (by decide) (by decide) rfl ?_
      refine ry_if_ne (tgt := 39) (pc2 := 36) op188_33 (by decide) (by decide) rfl (fun b9 => ?_) (fun b9 => ?_)
      · have h := (if_pos b9).symm.trans h
        refine rx_bp (v := (-2)) (pc2 := 38) op188_36 (by decide) rfl ?_
        obtain ⟨rfl, rfl⟩ := rq_ret h
        exact ry_ri op188_38 ms_188 rfl
      · have h := (if_neg b9).symm.trans h
        refine rx_p (L2 := [some (.ref 115), some (.int a1), some (.int a2), none]) (S2 := [.ref 115]) (pc2 := 40) op188_39 rfl rfl ?_
        refine rx_p (L2 := [some (.ref 115), some (.int a1), some (.int a2), none]) (S2 := [.int a1, .ref 115]) (pc2 := 41) op188_40 rfl rfl ?_
        obtain ⟨⟨r11, m10⟩, f12, h⟩ := rq_bind h
        try dsimp only at h
        refine ry_iv (p := 115) (vs := [.int a1]) (T := []) (pc2 := 44) op188_41 ms_167 (by decide) rfl rfl (Nat.le_of_ble_eq_true rfl) (Nat.le_of_ble_eq_true rfl) sp_115 (mo_isChair_ok xs (by omega)  f12) rfl ?_
        show rn_R _ _ _ _ _ [.int r11] _ _ _
        refine ry_if_eq (tgt := 60) (pc2 := 47) op188_44 (by decide) (by decide) rfl (fun b13 => ?_) (fun b13 => ?_)
        · have h := (if_pos b13).symm.trans h
          refine rx_ic (v := (-1)) (pc2 := 61) op188_60 (by decide) rfl ?_
          obtain ⟨rfl, rfl⟩ := rq_ret h
          exact ry_ri op188_61 ms_188 rfl
        · have h := (if_neg b13).symm.trans h
          refine rx_p (L2 := [some (.ref 115), some (.int a1), some (.int a2), none]) (S2 := [.int a2]) (pc2 := 48) op188_47 rfl rfl ?_
          refine rx_p (L2 := [some (.ref 115), some (.int a1), some (.int a2), none]) (S2 := [.ref 115, .int a2]) (pc2 := 49) op188_48 rfl rfl ?_
          refine rx_gf (v := .ref 116) (pc2 := 52) op188_49 sp_115 rfl rfl rfl ?_
          refine rx_bp (v := 12) (pc2 := 54) op188_52 (by decide) rfl ?_
          refine rx_p (L2 := [some (.ref 115), some (.int a1), some (.int a2), none]) (S2 := [.int a1, .int 12, .ref 116, .int a2]) (pc2 := 55) op188_54 rfl rfl ?_
          refine rx_p (L2 := [some (.ref 115), some (.int a1), some (.int a2), none]) (S2 := [.int ((12 : Int32) + a1), .ref 116, .int a2]) (pc2 := 56) op188_55 rfl rfl ?_
          obtain ⟨k14, h⟩ := rq_chk h
          refine rx_ia (pc2 := 57) op188_56 (rn_shlt sp_116) sp_116 k14 rfl rfl ?_
          refine ry_ic_lt (tgt := 62) (pc2 := 60) op188_57 (by decide) (by decide) rfl (fun b15 => ?_) (fun b15 => ?_)
          · have h := (if_pos b15).symm.trans h
            refine rx_p (L2 := [some (.ref 115), some (.int a1), some (.int a2), none]) (S2 := [.ref 115]) (pc2 := 63) op188_62 rfl rfl ?_
            refine rx_gf (v := .ref 116) (pc2 := 66) op188_63 sp_115 rfl rfl rfl ?_
            refine rx_bp (v := 16) (pc2 := 68) op188_66 (by decide) rfl ?_
            refine rx_bp (v := 12) (pc2 := 70) op188_68 (by decide) rfl ?_
            refine rx_p (L2 := [some (.ref 115), some (.int a1), some (.int a2), none]) (S2 := [.int a1, .int 12, .int 16, .ref 116]) (pc2 := 71) op188_70 rfl rfl ?_
            refine rx_p (L2 := [some (.ref 115), some (.int a1), some (.int a2), none]) (S2 := [.int ((12 : Int32) * a1), .int 16, .ref 116]) (pc2 := 72) op188_71 rfl rfl ?_
            refine rx_p (L2 := [some (.ref 115), some (.int a1), some (.int a2), none]) (S2 := [.int ((16 : Int32) + ((12 : Int32) * a1)), .ref 116]) (pc2 := 73) op188_72 rfl rfl ?_
            refine rx_p (L2 := [some (.ref 115), some (.int a1), some (.int a2), none]) (S2 := [.int a2, .int ((16 : Int32) + ((12 : Int32) * a1)), .ref 116]) (pc2 := 74) op188_73 rfl rfl ?_
            refine rx_p (L2 := [some (.ref 115), some (.int a1), some (.int a2), none]) (S2 := [.int (((16 : Int32) + ((12 : Int32) * a1)) + a2), .ref 116]) (pc2 := 75) op188_74 rfl rfl ?_
            obtain ⟨k16, h⟩ := rq_chk h
            refine rx_ia (pc2 := 76) op188_75 (rn_shlt sp_116) sp_116 k16 rfl rfl ?_
            refine ry_if_lt (tgt := 82) (pc2 := 79) op188_76 (by decide) (by decide) rfl (fun b17 => ?_) (fun b17 => ?_)
            · have h := (if_pos b17).symm.trans h
              refine rx_p (L2 := [some (.ref 115), some (.int a1), some (.int a2), none]) (S2 := [.ref 115]) (pc2 := 83) op188_82 rfl rfl ?_
              obtain ⟨m18, f19, h⟩ := rq_bind h
              try dsimp only at h
              refine ry_iv (p := 115) (vs := []) (T := []) (pc2 := 86) op188_83 ms_173 (by decide) rfl rfl (Nat.le_of_ble_eq_true rfl) (Nat.le_of_ble_eq_true rfl) sp_115 (mo_askAll_ok xs (by omega)  f19) rfl ?_
              show rn_R _ _ _ _ _ [] _ _ _
              refine rx_p (L2 := [some (.ref 115), some (.int a1), some (.int a2), none]) (S2 := [.ref 115]) (pc2 := 87) op188_86 rfl rfl ?_
              obtain ⟨m20, f21, h⟩ := rq_bind h
              try dsimp only at h
              refine ry_iv (p := 115) (vs := []) (T := []) (pc2 := 90) op188_87 ms_174 (by decide) rfl rfl (Nat.le_of_ble_eq_true rfl) (Nat.le_of_ble_eq_true rfl) sp_115 (mo_findPlays_ok xs (by omega)  f21) rfl ?_
              show rn_R _ _ _ _ _ [] _ _ _
              refine rx_ic (v := 0) (pc2 := 91) op188_90 (by decide) rfl ?_
              refine rx_s (L2 := [some (.ref 115), some (.int a1), some (.int a2), some (.int 0)]) (pc2 := 92) op188_91 rfl rfl rfl ?_
              obtain ⟨wf32, f32, h⟩ := rq_bind h
              refine mo_under_l92_ok xs hd (fun v0 m0 eq => ?_) (fun m27 eq => ?_) _ _ _  f32
              · subst eq
                try dsimp only at h
                cases h
                exact ⟨rfl, rfl⟩
              · subst eq
                try dsimp only at h
                intro o28 o29 o30 o31
                refine rx_bp (v := (-2)) (pc2 := 130) op188_128 (by decide) rfl ?_
                obtain ⟨rfl, rfl⟩ := rq_ret h
                exact ry_ri op188_130 ms_188 rfl
            · have h := (if_neg b17).symm.trans h
              refine rx_bp (v := (-2)) (pc2 := 81) op188_79 (by decide) rfl ?_
              obtain ⟨rfl, rfl⟩ := rq_ret h
              exact ry_ri op188_81 ms_188 rfl
          · have h := (if_neg b15).symm.trans h
            refine rx_ic (v := (-1)) (pc2 := 61) op188_60 (by decide) rfl ?_
            obtain ⟨rfl, rfl⟩ := rq_ret h
            exact ry_ri op188_61 ms_188 rfl
/-! mo_trick -/
theorem op189_0 : rn_op 189 0 = some (.iload_n 1, 1, 0, 0, 0) := by decide +kernel
theorem op189_1 : rn_op 189 1 = some (.i2l, 1, 0, 0, 0) := by decide +kernel
theorem op189_2 : rn_op 189 2 = some (.lconst 0, 1, 0, 0, 0) := by decide +kernel
theorem op189_3 : rn_op 189 3 = some (.ldc2_w 153, 3, 3, 0, 0) := by decide +kernel
theorem op189_6 : rn_op 189 6 = some (.invokestatic 121, 3, 147, 3, 0) := by decide +kernel
theorem op189_9 : rn_op 189 9 = some (.ifCond .eq 13, 3, 0, 0, 0) := by decide +kernel
theorem op189_12 : rn_op 189 12 = some (.iload_n 2, 1, 0, 0, 0) := by decide +kernel
theorem op189_13 : rn_op 189 13 = some (.i2l, 1, 0, 0, 0) := by decide +kernel
theorem op189_14 : rn_op 189 14 = some (.lconst 0, 1, 0, 0, 0) := by decide +kernel
theorem op189_15 : rn_op 189 15 = some (.lconst 1, 1, 0, 0, 0) := by decide +kernel
theorem op189_16 : rn_op 189 16 = some (.invokestatic 121, 3, 147, 3, 0) := by decide +kernel
theorem op189_19 : rn_op 189 19 = some (.ifCond .ne 5, 3, 0, 0, 0) := by decide +kernel
theorem op189_22 : rn_op 189 22 = some (.iconst (-1), 1, 0, 0, 0) := by decide +kernel
theorem op189_23 : rn_op 189 23 = some (.ireturn, 1, 0, 0, 0) := by decide +kernel
theorem op189_24 : rn_op 189 24 = some (.aload_n 0, 1, 0, 0, 0) := by decide +kernel
theorem op189_25 : rn_op 189 25 = some (.getfield 7, 3, 11, 0, 3) := by decide +kernel
theorem op189_28 : rn_op 189 28 = some (.bipush 9, 2, 0, 0, 0) := by decide +kernel
theorem op189_30 : rn_op 189 30 = some (.iaload, 1, 0, 0, 0) := by decide +kernel
theorem op189_31 : rn_op 189 31 = some (.ifCond .ne 6, 3, 0, 0, 0) := by decide +kernel
theorem op189_34 : rn_op 189 34 = some (.bipush (-2), 2, 0, 0, 0) := by decide +kernel
theorem op189_36 : rn_op 189 36 = some (.ireturn, 1, 0, 0, 0) := by decide +kernel
theorem op189_37 : rn_op 189 37 = some (.iload_n 1, 1, 0, 0, 0) := by decide +kernel
theorem op189_38 : rn_op 189 38 = some (.aload_n 0, 1, 0, 0, 0) := by decide +kernel
theorem op189_39 : rn_op 189 39 = some (.getfield 7, 3, 11, 0, 3) := by decide +kernel
theorem op189_42 : rn_op 189 42 = some (.iconst 2, 1, 0, 0, 0) := by decide +kernel
theorem op189_43 : rn_op 189 43 = some (.iaload, 1, 0, 0, 0) := by decide +kernel
theorem op189_44 : rn_op 189 44 = some (.if_icmp .lt 5, 3, 0, 0, 0) := by decide +kernel
theorem op189_47 : rn_op 189 47 = some (.iconst (-1), 1, 0, 0, 0) := by decide +kernel
theorem op189_48 : rn_op 189 48 = some (.ireturn, 1, 0, 0, 0) := by decide +kernel
theorem op189_49 : rn_op 189 49 = some (.aload_n 0, 1, 0, 0, 0) := by decide +kernel
theorem op189_50 : rn_op 189 50 = some (.invokevirtual 268, 3, 173, 1, 11) := by decide +kernel
theorem op189_53 : rn_op 189 53 = some (.aload_n 0, 1, 0, 0, 0) := by decide +kernel
theorem op189_54 : rn_op 189 54 = some (.invokevirtual 271, 3, 174, 1, 11) := by decide +kernel
theorem op189_57 : rn_op 189 57 = some (.iload_n 2, 1, 0, 0, 0) := by decide +kernel
theorem op189_58 : rn_op 189 58 = some (.ifCond .ne 12, 3, 0, 0, 0) := by decide +kernel
theorem op189_61 : rn_op 189 61 = some (.aload_n 0, 1, 0, 0, 0) := by decide +kernel
theorem op189_62 : rn_op 189 62 = some (.getfield 28, 3, 11, 18, 3) := by decide +kernel
theorem op189_65 : rn_op 189 65 = some (.iload_n 1, 1, 0, 0, 0) := by decide +kernel
theorem op189_66 : rn_op 189 66 = some (.iaload, 1, 0, 0, 0) := by decide +kernel
theorem op189_67 : rn_op 189 67 = some (.goto 9, 3, 0, 0, 0) := by decide +kernel
theorem op189_70 : rn_op 189 70 = some (.aload_n 0, 1, 0, 0, 0) := by decide +kernel
theorem op189_71 : rn_op 189 71 = some (.getfield 31, 3, 11, 19, 3) := by decide +kernel
theorem op189_74 : rn_op 189 74 = some (.iload_n 1, 1, 0, 0, 0) := by decide +kernel
theorem op189_75 : rn_op 189 75 = some (.iaload, 1, 0, 0, 0) := by decide +kernel
theorem op189_76 : rn_op 189 76 = some (.ireturn, 1, 0, 0, 0) := by decide +kernel
def mo_trick (n : Nat) (a1 : Int32) (a2 : Int32) (m : rn_Mem) : Option (Int32 × rn_Mem) :=
  (mo_in n (a1.toInt64) 0 3 m).bind fun (r2, m1) =>
  if r2 = 0 then
    some ((-1), m1)
  else
    (mo_in n (a2.toInt64) 0 1 m1).bind fun (r6, m5) =>
    if r6 = 0 then
      some ((-1), m5)
    else
      if (m5.1 116 9) = 0 then
        some ((-2), m5)
      else
        if a1 < (m5.1 116 2) then
          (mo_askAll n m5).bind fun m11 =>
          (mo_findPlays n m11).bind fun m13 =>
          if a2 = 0 then
            if rn_in a1 4 = true then
              some (m13.1 122 a1.toNatClampNeg, m13)
            else none
          else
            if rn_in a1 4 = true then
              some (m13.1 123 a1.toNatClampNeg, m13)
            else none
        else
          some ((-1), m5)
set_option maxHeartbeats 4000000 in
set_option maxRecDepth 20000 in
theorem mo_trick_ok (xs : List Int32) {d : Nat} (hd : 7 ≤ d) {n : Nat} {a1 : Int32} {a2 : Int32} {m mO : rn_Mem} {rO : Int32} (h : mo_trick n a1 a2 m = some (rO, mO)) : rn_R xs d 189 0 (rn_ent 3 [.ref 115, .int a1, .int a2]) [] (rn_SH, m) (some (.int rO)) (rn_SH, mO) := by
  obtain ⟨d, rfl⟩ : ∃ e, d = e + 1 := ⟨d - 1, by omega⟩
  unfold mo_trick at h
  show rn_R xs (d + 1) 189 0 [some (.ref 115), some (.int a1), some (.int a2)] [] (rn_SH, m) (some (.int rO)) (rn_SH, mO)
  refine rx_p (L2 := [some (.ref 115), some (.int a1), some (.int a2)]) (S2 := [.int a1]) (pc2 := 1) op189_0 rfl rfl ?_
  refine rx_p (L2 := [some (.ref 115), some (.int a1), some (.int a2)]) (S2 := [.long (a1.toInt64)]) (pc2 := 2) op189_1 rfl rfl ?_
  refine rx_lc (v := 0) (pc2 := 3) op189_2 (by decide) rfl ?_
  refine rx_ld2 (v := 3) (pc2 := 6) op189_3 (by decide) rfl ?_
  obtain ⟨⟨r2, m1⟩, f3, h⟩ := rq_bind h
  try dsimp only at h
  refine ry_is (vs := [.long (a1.toInt64), .long 0, .long 3]) (T := []) (pc2 := 9) op189_6 (by decide) ms_147 (by decide) rfl rfl (Nat.le_of_ble_eq_true rfl) (Nat.le_of_ble_eq_true rfl) (mo_in_ok xs (by omega)  f3) rfl ?_
  show rn_R _ _ _ _ _ [.int r2] _ _ _
  refine ry_if_eq (tgt := 22) (pc2 := 12) op189_9 (by decide) (by decide) rfl (fun b4 => ?_) (fun b4 => ?_)
  · have h := (if_pos b4).symm.trans h
    refine rx_ic (v := (-1)) (pc2 := 23) op189_22 (by decide) rfl ?_
    obtain ⟨rfl, rfl⟩ := rq_ret h
    exact ry_ri op189_23 ms_189 rfl
  · have h := (if_neg b4).symm.trans h
    refine rx_p (L2 := [some (.ref 115), some (.int a1), some (.int a2)]) (S2 := [.int a2]) (pc2 := 13) op189_12 rfl rfl ?_
    refine rx_p (L2 := [some (.ref 115), some (.int a1), some (.int a2)]) (S2 := [.long (a2.toInt64)]) (pc2 := 14) op189_13 rfl rfl ?_
    refine rx_lc (v := 0) (pc2 := 15) op189_14 (by decide) rfl ?_
    refine rx_lc (v := 1) (pc2 := 16) op189_15 (by decide) rfl ?_
    obtain ⟨⟨r6, m5⟩, f7, h⟩ := rq_bind h
    try dsimp only at h
    refine ry_is (vs := [.long (a2.toInt64), .long 0, .long 1]) (T := []) (pc2 := 19) op189_16 (by decide) ms_147 (by decide) rfl rfl (Nat.le_of_ble_eq_true rfl) (Nat.le_of_ble_eq_true rfl) (mo_in_ok xs (by omega)  f7) rfl ?_
    show rn_R _ _ _ _ _ [.int r6] _ _ _
    refine ry_if_ne (tgt := 24) (pc2 := 22) op189_19 (by decide) (by decide) rfl (fun b8 => ?_) (fun b8 => ?_)
    · have h := (if_pos b8).symm.trans h
      refine rx_ic (v := (-1)) (pc2 := 23) op189_22 (by decide) rfl ?_
      obtain ⟨rfl, rfl⟩ := rq_ret h
      exact ry_ri op189_23 ms_189 rfl
    · have h := (if_neg b8).symm.trans h
      refine rx_p (L2 := [some (.ref 115), some (.int a1), some (.int a2)]) (S2 := [.ref 115]) (pc2 := 25) op189_24 rfl rfl ?_
      refine rx_gf (v := .ref 116) (pc2 := 28) op189_25 sp_115 rfl rfl rfl ?_
      refine rx_bp (v := 9) (pc2 := 30) op189_28 (by decide) rfl ?_
      refine rx_ia (j := 9) (pc2 := 31) op189_30 (rn_shlt sp_116) sp_116 (by decide) (by decide) rfl ?_
      refine ry_if_ne (tgt := 37) (pc2 := 34) op189_31 (by decide) (by decide) rfl (fun b9 => ?_) (fun b9 => ?_)
      · have h := (if_pos b9).symm.trans h
        refine rx_bp (v := (-2)) (pc2 := 36) op189_34 (by decide) rfl ?_
        obtain ⟨rfl, rfl⟩ := rq_ret h
        exact ry_ri op189_36 ms_189 rfl
      · have h := (if_neg b9).symm.trans h
        refine rx_p (L2 := [some (.ref 115), some (.int a1), some (.int a2)]) (S2 := [.int a1]) (pc2 := 38) op189_37 rfl rfl ?_
        refine rx_p (L2 := [some (.ref 115), some (.int a1), some (.int a2)]) (S2 := [.ref 115, .int a1]) (pc2 := 39) op189_38 rfl rfl ?_
        refine rx_gf (v := .ref 116) (pc2 := 42) op189_39 sp_115 rfl rfl rfl ?_
        refine rx_ic (v := 2) (pc2 := 43) op189_42 (by decide) rfl ?_
        refine rx_ia (j := 2) (pc2 := 44) op189_43 (rn_shlt sp_116) sp_116 (by decide) (by decide) rfl ?_
        refine ry_ic_lt (tgt := 49) (pc2 := 47) op189_44 (by decide) (by decide) rfl (fun b10 => ?_) (fun b10 => ?_)
        · have h := (if_pos b10).symm.trans h
          refine rx_p (L2 := [some (.ref 115), some (.int a1), some (.int a2)]) (S2 := [.ref 115]) (pc2 := 50) op189_49 rfl rfl ?_
          obtain ⟨m11, f12, h⟩ := rq_bind h
          try dsimp only at h
          refine ry_iv (p := 115) (vs := []) (T := []) (pc2 := 53) op189_50 ms_173 (by decide) rfl rfl (Nat.le_of_ble_eq_true rfl) (Nat.le_of_ble_eq_true rfl) sp_115 (mo_askAll_ok xs (by omega)  f12) rfl ?_
          show rn_R _ _ _ _ _ [] _ _ _
          refine rx_p (L2 := [some (.ref 115), some (.int a1), some (.int a2)]) (S2 := [.ref 115]) (pc2 := 54) op189_53 rfl rfl ?_
          obtain ⟨m13, f14, h⟩ := rq_bind h
          try dsimp only at h
          refine ry_iv (p := 115) (vs := []) (T := []) (pc2 := 57) op189_54 ms_174 (by decide) rfl rfl (Nat.le_of_ble_eq_true rfl) (Nat.le_of_ble_eq_true rfl) sp_115 (mo_findPlays_ok xs (by omega)  f14) rfl ?_
          show rn_R _ _ _ _ _ [] _ _ _
          refine rx_p (L2 := [some (.ref 115), some (.int a1), some (.int a2)]) (S2 := [.int a2]) (pc2 := 58) op189_57 rfl rfl ?_
          refine ry_if_ne (tgt := 70) (pc2 := 61) op189_58 (by decide) (by decide) rfl (fun b15 => ?_) (fun b15 => ?_)
          · have h := (if_pos b15).symm.trans h
            refine rx_p (L2 := [some (.ref 115), some (.int a1), some (.int a2)]) (S2 := [.ref 115]) (pc2 := 62) op189_61 rfl rfl ?_
            refine rx_gf (v := .ref 122) (pc2 := 65) op189_62 sp_115 rfl rfl rfl ?_
            refine rx_p (L2 := [some (.ref 115), some (.int a1), some (.int a2)]) (S2 := [.int a1, .ref 122]) (pc2 := 66) op189_65 rfl rfl ?_
            obtain ⟨k16, h⟩ := rq_chk h
            refine rx_ia (pc2 := 67) op189_66 (rn_shlt sp_122) sp_122 k16 rfl rfl ?_
            refine ry_go (tgt := 76) op189_67 (by decide) (by decide) ?_
            obtain ⟨rfl, rfl⟩ := rq_ret h
            exact ry_ri op189_76 ms_189 rfl
          · have h := (if_neg b15).symm.trans h
            refine rx_p (L2 := [some (.ref 115), some (.int a1), some (.int a2)]) (S2 := [.ref 115]) (pc2 := 71) op189_70 rfl rfl ?_
            refine rx_gf (v := .ref 123) (pc2 := 74) op189_71 sp_115 rfl rfl rfl ?_
            refine rx_p (L2 := [some (.ref 115), some (.int a1), some (.int a2)]) (S2 := [.int a1, .ref 123]) (pc2 := 75) op189_74 rfl rfl ?_
            obtain ⟨k17, h⟩ := rq_chk h
            refine rx_ia (pc2 := 76) op189_75 (rn_shlt sp_123) sp_123 k17 rfl rfl ?_
            obtain ⟨rfl, rfl⟩ := rq_ret h
            exact ry_ri op189_76 ms_189 rfl
        · have h := (if_neg b10).symm.trans h
          refine rx_ic (v := (-1)) (pc2 := 48) op189_47 (by decide) rfl ?_
          obtain ⟨rfl, rfl⟩ := rq_ret h
          exact ry_ri op189_48 ms_189 rfl
/-! mo_first -/
theorem op190_0 : rn_op 190 0 = some (.iload_n 1, 1, 0, 0, 0) := by decide +kernel
theorem op190_1 : rn_op 190 1 = some (.i2l, 1, 0, 0, 0) := by decide +kernel
theorem op190_2 : rn_op 190 2 = some (.ldc2_w 178, 3, 18446744073709551615, 0, 0) := by decide +kernel
theorem op190_5 : rn_op 190 5 = some (.ldc2_w 180, 3, 11, 0, 0) := by decide +kernel
theorem op190_8 : rn_op 190 8 = some (.invokestatic 121, 3, 147, 3, 0) := by decide +kernel
theorem op190_11 : rn_op 190 11 = some (.ifCond .ne 5, 3, 0, 0, 0) := by decide +kernel
theorem op190_14 : rn_op 190 14 = some (.iconst (-1), 1, 0, 0, 0) := by decide +kernel
theorem op190_15 : rn_op 190 15 = some (.ireturn, 1, 0, 0, 0) := by decide +kernel
theorem op190_16 : rn_op 190 16 = some (.aload_n 0, 1, 0, 0, 0) := by decide +kernel
theorem op190_17 : rn_op 190 17 = some (.getfield 7, 3, 11, 0, 3) := by decide +kernel
theorem op190_20 : rn_op 190 20 = some (.bipush 9, 2, 0, 0, 0) := by decide +kernel
theorem op190_22 : rn_op 190 22 = some (.iaload, 1, 0, 0, 0) := by decide +kernel
theorem op190_23 : rn_op 190 23 = some (.ifCond .ne 6, 3, 0, 0, 0) := by decide +kernel
theorem op190_26 : rn_op 190 26 = some (.bipush (-2), 2, 0, 0, 0) := by decide +kernel
theorem op190_28 : rn_op 190 28 = some (.ireturn, 1, 0, 0, 0) := by decide +kernel
theorem op190_29 : rn_op 190 29 = some (.iload_n 1, 1, 0, 0, 0) := by decide +kernel
theorem op190_30 : rn_op 190 30 = some (.aload_n 0, 1, 0, 0, 0) := by decide +kernel
theorem op190_31 : rn_op 190 31 = some (.invokevirtual 167, 3, 155, 1, 11) := by decide +kernel
theorem op190_34 : rn_op 190 34 = some (.if_icmp .lt 5, 3, 0, 0, 0) := by decide +kernel
theorem op190_37 : rn_op 190 37 = some (.iconst (-1), 1, 0, 0, 0) := by decide +kernel
theorem op190_38 : rn_op 190 38 = some (.ireturn, 1, 0, 0, 0) := by decide +kernel
theorem op190_39 : rn_op 190 39 = some (.aload_n 0, 1, 0, 0, 0) := by decide +kernel
theorem op190_40 : rn_op 190 40 = some (.invokevirtual 268, 3, 173, 1, 11) := by decide +kernel
theorem op190_43 : rn_op 190 43 = some (.aload_n 0, 1, 0, 0, 0) := by decide +kernel
theorem op190_44 : rn_op 190 44 = some (.invokevirtual 271, 3, 174, 1, 11) := by decide +kernel
theorem op190_47 : rn_op 190 47 = some (.aload_n 0, 1, 0, 0, 0) := by decide +kernel
theorem op190_48 : rn_op 190 48 = some (.getfield 222, 3, 11, 14, 1) := by decide +kernel
theorem op190_51 : rn_op 190 51 = some (.lconst 0, 1, 0, 0, 0) := by decide +kernel
theorem op190_52 : rn_op 190 52 = some (.lcmp, 1, 0, 0, 0) := by decide +kernel
theorem op190_53 : rn_op 190 53 = some (.ifCond .ne 8, 3, 0, 0, 0) := by decide +kernel
theorem op190_56 : rn_op 190 56 = some (.bipush (-4), 2, 0, 0, 0) := by decide +kernel
theorem op190_58 : rn_op 190 58 = some (.goto 11, 3, 0, 0, 0) := by decide +kernel
theorem op190_61 : rn_op 190 61 = some (.aload_n 0, 1, 0, 0, 0) := by decide +kernel
theorem op190_62 : rn_op 190 62 = some (.getfield 34, 3, 11, 20, 3) := by decide +kernel
theorem op190_65 : rn_op 190 65 = some (.iconst 1, 1, 0, 0, 0) := by decide +kernel
theorem op190_66 : rn_op 190 66 = some (.iload_n 1, 1, 0, 0, 0) := by decide +kernel
theorem op190_67 : rn_op 190 67 = some (.iadd, 1, 0, 0, 0) := by decide +kernel
theorem op190_68 : rn_op 190 68 = some (.iaload, 1, 0, 0, 0) := by decide +kernel
theorem op190_69 : rn_op 190 69 = some (.ireturn, 1, 0, 0, 0) := by decide +kernel
def mo_first (n : Nat) (a1 : Int32) (m : rn_Mem) : Option (Int32 × rn_Mem) :=
  (mo_in n (a1.toInt64) (-1) 11 m).bind fun (r2, m1) =>
  if r2 = 0 then
    some ((-1), m1)
  else
    if (m1.1 116 9) = 0 then
      some ((-2), m1)
    else
      (mo_size n m1).bind fun (r7, m6) =>
      if a1 < r7 then
        (mo_askAll n m6).bind fun m10 =>
        (mo_findPlays n m10).bind fun m12 =>
        if (lg_cmp (m12.2 115 14) 0) = 0 then
          some ((-4), m12)
        else
          if rn_in ((1 : Int32) + a1) 13 = true then
            some (m12.1 124 ((1 : Int32) + a1).toNatClampNeg, m12)
          else none
      else
        some ((-1), m6)
set_option maxHeartbeats 4000000 in
set_option maxRecDepth 20000 in
theorem mo_first_ok (xs : List Int32) {d : Nat} (hd : 7 ≤ d) {n : Nat} {a1 : Int32} {m mO : rn_Mem} {rO : Int32} (h : mo_first n a1 m = some (rO, mO)) : rn_R xs d 190 0 (rn_ent 2 [.ref 115, .int a1]) [] (rn_SH, m) (some (.int rO)) (rn_SH, mO) := by
  obtain ⟨d, rfl⟩ : ∃ e, d = e + 1 := ⟨d - 1, by omega⟩
  unfold mo_first at h
  show rn_R xs (d + 1) 190 0 [some (.ref 115), some (.int a1)] [] (rn_SH, m) (some (.int rO)) (rn_SH, mO)
  refine rx_p (L2 := [some (.ref 115), some (.int a1)]) (S2 := [.int a1]) (pc2 := 1) op190_0 rfl rfl ?_
  refine rx_p (L2 := [some (.ref 115), some (.int a1)]) (S2 := [.long (a1.toInt64)]) (pc2 := 2) op190_1 rfl rfl ?_
  refine rx_ld2 (v := (-1)) (pc2 := 5) op190_2 (by decide) rfl ?_
  refine rx_ld2 (v := 11) (pc2 := 8) op190_5 (by decide) rfl ?_
  obtain ⟨⟨r2, m1⟩, f3, h⟩ := rq_bind h
  try dsimp only at h
  refine ry_is (vs := [.long (a1.toInt64), .long (-1), .long 11]) (T := []) (pc2 := 11) op190_8 (by decide) ms_147 (by decide) rfl rfl (Nat.le_of_ble_eq_true rfl) (Nat.le_of_ble_eq_true rfl) (mo_in_ok xs (by omega)  f3) rfl ?_
  show rn_R _ _ _ _ _ [.int r2] _ _ _
  refine ry_if_ne (tgt := 16) (pc2 := 14) op190_11 (by decide) (by decide) rfl (fun b4 => ?_) (fun b4 => ?_)
  · have h := (if_pos b4).symm.trans h
    refine rx_ic (v := (-1)) (pc2 := 15) op190_14 (by decide) rfl ?_
    obtain ⟨rfl, rfl⟩ := rq_ret h
    exact ry_ri op190_15 ms_190 rfl
  · have h := (if_neg b4).symm.trans h
    refine rx_p (L2 := [some (.ref 115), some (.int a1)]) (S2 := [.ref 115]) (pc2 := 17) op190_16 rfl rfl ?_
    refine rx_gf (v := .ref 116) (pc2 := 20) op190_17 sp_115 rfl rfl rfl ?_
    refine rx_bp (v := 9) (pc2 := 22) op190_20 (by decide) rfl ?_
    refine rx_ia (j := 9) (pc2 := 23) op190_22 (rn_shlt sp_116) sp_116 (by decide) (by decide) rfl ?_
    refine ry_if_ne (tgt := 29) (pc2 := 26) op190_23 (by decide) (by decide) rfl (fun b5 => ?_) (fun b5 => ?_)
    · have h := (if_pos b5).symm.trans h
      refine rx_bp (v := (-2)) (pc2 := 28) op190_26 (by decide) rfl ?_
      obtain ⟨rfl, rfl⟩ := rq_ret h
      exact ry_ri op190_28 ms_190 rfl
    · have h := (if_neg b5).symm.trans h
      refine rx_p (L2 := [some (.ref 115), some (.int a1)]) (S2 := [.int a1]) (pc2 := 30) op190_29 rfl rfl ?_
      refine rx_p (L2 := [some (.ref 115), some (.int a1)]) (S2 := [.ref 115, .int a1]) (pc2 := 31) op190_30 rfl rfl ?_
      obtain ⟨⟨r7, m6⟩, f8, h⟩ := rq_bind h
      try dsimp only at h
      refine ry_iv (p := 115) (vs := []) (T := [.int a1]) (pc2 := 34) op190_31 ms_155 (by decide) rfl rfl (Nat.le_of_ble_eq_true rfl) (Nat.le_of_ble_eq_true rfl) sp_115 (mo_size_ok xs (by omega)  f8) rfl ?_
      show rn_R _ _ _ _ _ [.int r7, .int a1] _ _ _
      refine ry_ic_lt (tgt := 39) (pc2 := 37) op190_34 (by decide) (by decide) rfl (fun b9 => ?_) (fun b9 => ?_)
      · have h := (if_pos b9).symm.trans h
        refine rx_p (L2 := [some (.ref 115), some (.int a1)]) (S2 := [.ref 115]) (pc2 := 40) op190_39 rfl rfl ?_
        obtain ⟨m10, f11, h⟩ := rq_bind h
        try dsimp only at h
        refine ry_iv (p := 115) (vs := []) (T := []) (pc2 := 43) op190_40 ms_173 (by decide) rfl rfl (Nat.le_of_ble_eq_true rfl) (Nat.le_of_ble_eq_true rfl) sp_115 (mo_askAll_ok xs (by omega)  f11) rfl ?_
        show rn_R _ _ _ _ _ [] _ _ _
        refine rx_p (L2 := [some (.ref 115), some (.int a1)]) (S2 := [.ref 115]) (pc2 := 44) op190_43 rfl rfl ?_
        obtain ⟨m12, f13, h⟩ := rq_bind h
        try dsimp only at h
        refine ry_iv (p := 115) (vs := []) (T := []) (pc2 := 47) op190_44 ms_174 (by decide) rfl rfl (Nat.le_of_ble_eq_true rfl) (Nat.le_of_ble_eq_true rfl) sp_115 (mo_findPlays_ok xs (by omega)  f13) rfl ?_
        show rn_R _ _ _ _ _ [] _ _ _
        refine rx_p (L2 := [some (.ref 115), some (.int a1)]) (S2 := [.ref 115]) (pc2 := 48) op190_47 rfl rfl ?_
        refine rx_gf (v := .long (m12.2 115 14)) (pc2 := 51) op190_48 sp_115 rfl rfl rfl ?_
        refine rx_lc (v := 0) (pc2 := 52) op190_51 (by decide) rfl ?_
        refine rx_p (L2 := [some (.ref 115), some (.int a1)]) (S2 := [.int (lg_cmp (m12.2 115 14) 0)]) (pc2 := 53) op190_52 rfl rfl ?_
        refine ry_if_ne (tgt := 61) (pc2 := 56) op190_53 (by decide) (by decide) rfl (fun b14 => ?_) (fun b14 => ?_)
        · have h := (if_pos b14).symm.trans h
          refine rx_bp (v := (-4)) (pc2 := 58) op190_56 (by decide) rfl ?_
          refine ry_go (tgt := 69) op190_58 (by decide) (by decide) ?_
          obtain ⟨rfl, rfl⟩ := rq_ret h
          exact ry_ri op190_69 ms_190 rfl
        · have h := (if_neg b14).symm.trans h
          refine rx_p (L2 := [some (.ref 115), some (.int a1)]) (S2 := [.ref 115]) (pc2 := 62) op190_61 rfl rfl ?_
          refine rx_gf (v := .ref 124) (pc2 := 65) op190_62 sp_115 rfl rfl rfl ?_
          refine rx_ic (v := 1) (pc2 := 66) op190_65 (by decide) rfl ?_
          refine rx_p (L2 := [some (.ref 115), some (.int a1)]) (S2 := [.int a1, .int 1, .ref 124]) (pc2 := 67) op190_66 rfl rfl ?_
          refine rx_p (L2 := [some (.ref 115), some (.int a1)]) (S2 := [.int ((1 : Int32) + a1), .ref 124]) (pc2 := 68) op190_67 rfl rfl ?_
          obtain ⟨k15, h⟩ := rq_chk h
          refine rx_ia (pc2 := 69) op190_68 (rn_shlt sp_124) sp_124 k15 rfl rfl ?_
          obtain ⟨rfl, rfl⟩ := rq_ret h
          exact ry_ri op190_69 ms_190 rfl
      · have h := (if_neg b9).symm.trans h
        refine rx_ic (v := (-1)) (pc2 := 38) op190_37 (by decide) rfl ?_
        obtain ⟨rfl, rfl⟩ := rq_ret h
        exact ry_ri op190_38 ms_190 rfl
/-! mo_fewest -/
theorem op191_0 : rn_op 191 0 = some (.iload_n 1, 1, 0, 0, 0) := by decide +kernel
theorem op191_1 : rn_op 191 1 = some (.i2l, 1, 0, 0, 0) := by decide +kernel
theorem op191_2 : rn_op 191 2 = some (.ldc2_w 178, 3, 18446744073709551615, 0, 0) := by decide +kernel
theorem op191_5 : rn_op 191 5 = some (.ldc2_w 153, 3, 3, 0, 0) := by decide +kernel
theorem op191_8 : rn_op 191 8 = some (.invokestatic 121, 3, 147, 3, 0) := by decide +kernel
theorem op191_11 : rn_op 191 11 = some (.ifCond .ne 5, 3, 0, 0, 0) := by decide +kernel
theorem op191_14 : rn_op 191 14 = some (.iconst (-1), 1, 0, 0, 0) := by decide +kernel
theorem op191_15 : rn_op 191 15 = some (.ireturn, 1, 0, 0, 0) := by decide +kernel
theorem op191_16 : rn_op 191 16 = some (.aload_n 0, 1, 0, 0, 0) := by decide +kernel
theorem op191_17 : rn_op 191 17 = some (.getfield 7, 3, 11, 0, 3) := by decide +kernel
theorem op191_20 : rn_op 191 20 = some (.bipush 9, 2, 0, 0, 0) := by decide +kernel
theorem op191_22 : rn_op 191 22 = some (.iaload, 1, 0, 0, 0) := by decide +kernel
theorem op191_23 : rn_op 191 23 = some (.ifCond .ne 6, 3, 0, 0, 0) := by decide +kernel
theorem op191_26 : rn_op 191 26 = some (.bipush (-2), 2, 0, 0, 0) := by decide +kernel
theorem op191_28 : rn_op 191 28 = some (.ireturn, 1, 0, 0, 0) := by decide +kernel
theorem op191_29 : rn_op 191 29 = some (.iload_n 1, 1, 0, 0, 0) := by decide +kernel
theorem op191_30 : rn_op 191 30 = some (.aload_n 0, 1, 0, 0, 0) := by decide +kernel
theorem op191_31 : rn_op 191 31 = some (.getfield 7, 3, 11, 0, 3) := by decide +kernel
theorem op191_34 : rn_op 191 34 = some (.iconst 1, 1, 0, 0, 0) := by decide +kernel
theorem op191_35 : rn_op 191 35 = some (.iaload, 1, 0, 0, 0) := by decide +kernel
theorem op191_36 : rn_op 191 36 = some (.if_icmp .lt 5, 3, 0, 0, 0) := by decide +kernel
theorem op191_39 : rn_op 191 39 = some (.iconst (-1), 1, 0, 0, 0) := by decide +kernel
theorem op191_40 : rn_op 191 40 = some (.ireturn, 1, 0, 0, 0) := by decide +kernel
theorem op191_41 : rn_op 191 41 = some (.aload_n 0, 1, 0, 0, 0) := by decide +kernel
theorem op191_42 : rn_op 191 42 = some (.invokevirtual 268, 3, 173, 1, 11) := by decide +kernel
theorem op191_45 : rn_op 191 45 = some (.aload_n 0, 1, 0, 0, 0) := by decide +kernel
theorem op191_46 : rn_op 191 46 = some (.iconst 1, 1, 0, 0, 0) := by decide +kernel
theorem op191_47 : rn_op 191 47 = some (.putfield 212, 3, 11, 11, 2) := by decide +kernel
theorem op191_50 : rn_op 191 50 = some (.aload_n 0, 1, 0, 0, 0) := by decide +kernel
theorem op191_51 : rn_op 191 51 = some (.iload_n 1, 1, 0, 0, 0) := by decide +kernel
theorem op191_52 : rn_op 191 52 = some (.putfield 216, 3, 11, 12, 0) := by decide +kernel
theorem op191_55 : rn_op 191 55 = some (.aload_n 0, 1, 0, 0, 0) := by decide +kernel
theorem op191_56 : rn_op 191 56 = some (.iconst 1, 1, 0, 0, 0) := by decide +kernel
theorem op191_57 : rn_op 191 57 = some (.putfield 219, 3, 11, 13, 2) := by decide +kernel
theorem op191_60 : rn_op 191 60 = some (.aload_n 0, 1, 0, 0, 0) := by decide +kernel
theorem op191_61 : rn_op 191 61 = some (.invokevirtual 271, 3, 174, 1, 11) := by decide +kernel
theorem op191_64 : rn_op 191 64 = some (.aload_n 0, 1, 0, 0, 0) := by decide +kernel
theorem op191_65 : rn_op 191 65 = some (.getfield 226, 3, 11, 15, 0) := by decide +kernel
theorem op191_68 : rn_op 191 68 = some (.ireturn, 1, 0, 0, 0) := by decide +kernel
def mo_fewest (n : Nat) (a1 : Int32) (m : rn_Mem) : Option (Int32 × rn_Mem) :=
  (mo_in n (a1.toInt64) (-1) 3 m).bind fun (r2, m1) =>
  if r2 = 0 then
    some ((-1), m1)
  else
    if (m1.1 116 9) = 0 then
      some ((-2), m1)
    else
      if a1 < (m1.1 116 1) then
        (mo_askAll n m1).bind fun m7 =>
        (some (rm_i m7 115 11 1)).bind fun (m9 : rn_Mem) =>
        (some (rm_i m9 115 12 a1)).bind fun (m10 : rn_Mem) =>
        (some (rm_i m10 115 13 1)).bind fun (m11 : rn_Mem) =>
        (mo_findPlays n m11).bind fun m12 =>
        some (m12.1 115 15, m12)
      else
        some ((-1), m1)
set_option maxHeartbeats 4000000 in
set_option maxRecDepth 20000 in
theorem mo_fewest_ok (xs : List Int32) {d : Nat} (hd : 7 ≤ d) {n : Nat} {a1 : Int32} {m mO : rn_Mem} {rO : Int32} (h : mo_fewest n a1 m = some (rO, mO)) : rn_R xs d 191 0 (rn_ent 2 [.ref 115, .int a1]) [] (rn_SH, m) (some (.int rO)) (rn_SH, mO) := by
  obtain ⟨d, rfl⟩ : ∃ e, d = e + 1 := ⟨d - 1, by omega⟩
  unfold mo_fewest at h
  show rn_R xs (d + 1) 191 0 [some (.ref 115), some (.int a1)] [] (rn_SH, m) (some (.int rO)) (rn_SH, mO)
  refine rx_p (L2 := [some (.ref 115), some (.int a1)]) (S2 := [.int a1]) (pc2 := 1) op191_0 rfl rfl ?_
  refine rx_p (L2 := [some (.ref 115), some (.int a1)]) (S2 := [.long (a1.toInt64)]) (pc2 := 2) op191_1 rfl rfl ?_
  refine rx_ld2 (v := (-1)) (pc2 := 5) op191_2 (by decide) rfl ?_
  refine rx_ld2 (v := 3) (pc2 := 8) op191_5 (by decide) rfl ?_
  obtain ⟨⟨r2, m1⟩, f3, h⟩ := rq_bind h
  try dsimp only at h
  refine ry_is (vs := [.long (a1.toInt64), .long (-1), .long 3]) (T := []) (pc2 := 11) op191_8 (by decide) ms_147 (by decide) rfl rfl (Nat.le_of_ble_eq_true rfl) (Nat.le_of_ble_eq_true rfl) (mo_in_ok xs (by omega)  f3) rfl ?_
  show rn_R _ _ _ _ _ [.int r2] _ _ _
  refine ry_if_ne (tgt := 16) (pc2 := 14) op191_11 (by decide) (by decide) rfl (fun b4 => ?_) (fun b4 => ?_)
  · have h := (if_pos b4).symm.trans h
    refine rx_ic (v := (-1)) (pc2 := 15) op191_14 (by decide) rfl ?_
    obtain ⟨rfl, rfl⟩ := rq_ret h
    exact ry_ri op191_15 ms_191 rfl
  · have h := (if_neg b4).symm.trans h
    refine rx_p (L2 := [some (.ref 115), some (.int a1)]) (S2 := [.ref 115]) (pc2 := 17) op191_16 rfl rfl ?_
    refine rx_gf (v := .ref 116) (pc2 := 20) op191_17 sp_115 rfl rfl rfl ?_
    refine rx_bp (v := 9) (pc2 := 22) op191_20 (by decide) rfl ?_
    refine rx_ia (j := 9) (pc2 := 23) op191_22 (rn_shlt sp_116) sp_116 (by decide) (by decide) rfl ?_
    refine ry_if_ne (tgt := 29) (pc2 := 26) op191_23 (by decide) (by decide) rfl (fun b5 => ?_) (fun b5 => ?_)
    · have h := (if_pos b5).symm.trans h
      refine rx_bp (v := (-2)) (pc2 := 28) op191_26 (by decide) rfl ?_
      obtain ⟨rfl, rfl⟩ := rq_ret h
      exact ry_ri op191_28 ms_191 rfl
    · have h := (if_neg b5).symm.trans h
      refine rx_p (L2 := [some (.ref 115), some (.int a1)]) (S2 := [.int a1]) (pc2 := 30) op191_29 rfl rfl ?_
      refine rx_p (L2 := [some (.ref 115), some (.int a1)]) (S2 := [.ref 115, .int a1]) (pc2 := 31) op191_30 rfl rfl ?_
      refine rx_gf (v := .ref 116) (pc2 := 34) op191_31 sp_115 rfl rfl rfl ?_
      refine rx_ic (v := 1) (pc2 := 35) op191_34 (by decide) rfl ?_
      refine rx_ia (j := 1) (pc2 := 36) op191_35 (rn_shlt sp_116) sp_116 (by decide) (by decide) rfl ?_
      refine ry_ic_lt (tgt := 41) (pc2 := 39) op191_36 (by decide) (by decide) rfl (fun b6 => ?_) (fun b6 => ?_)
      · have h := (if_pos b6).symm.trans h
        refine rx_p (L2 := [some (.ref 115), some (.int a1)]) (S2 := [.ref 115]) (pc2 := 42) op191_41 rfl rfl ?_
        obtain ⟨m7, f8, h⟩ := rq_bind h
        try dsimp only at h
        refine ry_iv (p := 115) (vs := []) (T := []) (pc2 := 45) op191_42 ms_173 (by decide) rfl rfl (Nat.le_of_ble_eq_true rfl) (Nat.le_of_ble_eq_true rfl) sp_115 (mo_askAll_ok xs (by omega)  f8) rfl ?_
        show rn_R _ _ _ _ _ [] _ _ _
        refine rx_p (L2 := [some (.ref 115), some (.int a1)]) (S2 := [.ref 115]) (pc2 := 46) op191_45 rfl rfl ?_
        refine rx_ic (v := 1) (pc2 := 47) op191_46 (by decide) rfl ?_
        obtain ⟨m9, em9, h⟩ := rq_bv h
        refine rx_pz (m2 := m9) (pc2 := 50) op191_47 sp_115 rfl (by decide) em9 rfl ?_
        refine rx_p (L2 := [some (.ref 115), some (.int a1)]) (S2 := [.ref 115]) (pc2 := 51) op191_50 rfl rfl ?_
        refine rx_p (L2 := [some (.ref 115), some (.int a1)]) (S2 := [.int a1, .ref 115]) (pc2 := 52) op191_51 rfl rfl ?_
        obtain ⟨m10, em10, h⟩ := rq_bv h
        refine rx_pf (m2 := m10) (pc2 := 55) op191_52 sp_115 rfl em10 rfl ?_
        refine rx_p (L2 := [some (.ref 115), some (.int a1)]) (S2 := [.ref 115]) (pc2 := 56) op191_55 rfl rfl ?_
        refine rx_ic (v := 1) (pc2 := 57) op191_56 (by decide) rfl ?_
        obtain ⟨m11, em11, h⟩ := rq_bv h
        refine rx_pz (m2 := m11) (pc2 := 60) op191_57 sp_115 rfl (by decide) em11 rfl ?_
        refine rx_p (L2 := [some (.ref 115), some (.int a1)]) (S2 := [.ref 115]) (pc2 := 61) op191_60 rfl rfl ?_
        obtain ⟨m12, f13, h⟩ := rq_bind h
        try dsimp only at h
        refine ry_iv (p := 115) (vs := []) (T := []) (pc2 := 64) op191_61 ms_174 (by decide) rfl rfl (Nat.le_of_ble_eq_true rfl) (Nat.le_of_ble_eq_true rfl) sp_115 (mo_findPlays_ok xs (by omega)  f13) rfl ?_
        show rn_R _ _ _ _ _ [] _ _ _
        refine rx_p (L2 := [some (.ref 115), some (.int a1)]) (S2 := [.ref 115]) (pc2 := 65) op191_64 rfl rfl ?_
        refine rx_gf (v := .int (m12.1 115 15)) (pc2 := 68) op191_65 sp_115 rfl rfl rfl ?_
        obtain ⟨rfl, rfl⟩ := rq_ret h
        exact ry_ri op191_68 ms_191 rfl
      · have h := (if_neg b6).symm.trans h
        refine rx_ic (v := (-1)) (pc2 := 40) op191_39 (by decide) rfl ?_
        obtain ⟨rfl, rfl⟩ := rq_ret h
        exact ry_ri op191_40 ms_191 rfl
/-! mo_ones -/
theorem op193_0 : rn_op 193 0 = some (.iconst 0, 1, 0, 0, 0) := by decide +kernel
theorem op193_1 : rn_op 193 1 = some (.istore_n 1, 1, 0, 0, 0) := by decide +kernel
theorem op193_2 : rn_op 193 2 = some (.iload_n 0, 1, 0, 0, 0) := by decide +kernel
theorem op193_3 : rn_op 193 3 = some (.istore_n 2, 1, 0, 0, 0) := by decide +kernel
theorem op193_4 : rn_op 193 4 = some (.iload_n 2, 1, 0, 0, 0) := by decide +kernel
theorem op193_5 : rn_op 193 5 = some (.ifCond .eq 15, 3, 0, 0, 0) := by decide +kernel
theorem op193_8 : rn_op 193 8 = some (.iinc 1 1, 3, 0, 0, 0) := by decide +kernel
theorem op193_11 : rn_op 193 11 = some (.iload_n 2, 1, 0, 0, 0) := by decide +kernel
theorem op193_12 : rn_op 193 12 = some (.iload_n 2, 1, 0, 0, 0) := by decide +kernel
theorem op193_13 : rn_op 193 13 = some (.iconst 1, 1, 0, 0, 0) := by decide +kernel
theorem op193_14 : rn_op 193 14 = some (.isub, 1, 0, 0, 0) := by decide +kernel
theorem op193_15 : rn_op 193 15 = some (.iand, 1, 0, 0, 0) := by decide +kernel
theorem op193_16 : rn_op 193 16 = some (.istore_n 2, 1, 0, 0, 0) := by decide +kernel
theorem op193_17 : rn_op 193 17 = some (.goto (-13), 3, 0, 0, 0) := by decide +kernel
theorem op193_20 : rn_op 193 20 = some (.iload_n 1, 1, 0, 0, 0) := by decide +kernel
theorem op193_21 : rn_op 193 21 = some (.ireturn, 1, 0, 0, 0) := by decide +kernel
def mo_ones_l4  : Nat → Int32 → Int32 → rn_Mem → Option (Int32 × rn_Mem)
  | 0, _, _, _ => none
  | n + 1, a1, a2, m =>
    if a2 = 0 then
      some (a1, m)
    else
      (some (a1 + 1)).bind fun (x2 : Int32) =>
      (some (a2 &&& (a2 - 1))).bind fun (x4 : Int32) =>
      mo_ones_l4 n x2 x4 m
def mo_ones (n : Nat) (a0 : Int32) (m : rn_Mem) : Option (Int32 × rn_Mem) :=
  (mo_ones_l4 n 0 a0 m).bind fun (x7, m5) =>
  some (x7, m5)
set_option maxHeartbeats 4000000 in
set_option maxRecDepth 20000 in
theorem mo_ones_l4_ok (xs : List Int32) {d : Nat} {r : Option Value} {τ : rn_H} {out : Int32 × rn_Mem} (hr : ∀ (z1 : Int32) (mO : rn_Mem), out = (z1, mO) → ∀ (o0 o2 : Option Value), rn_R xs d 193 20 [o0, some (.int z1), o2] [] (rn_SH, mO) r τ) : ∀ (n : Nat) (a1 : Int32) (a2 : Int32) (o0 : Option Value) (m : rn_Mem), mo_ones_l4 n a1 a2 m = some out → rn_R xs d 193 4 [o0, some (.int a1), some (.int a2)] [] (rn_SH, m) r τ := by
  intro n
  induction n with
  | zero =>
    intro _ _ _ _ h
    cases h
  | succ n ih =>
    intro a1 a2 o0 m h
    unfold mo_ones_l4 at h
    try dsimp only at h
    refine rx_p (L2 := [o0, some (.int a1), some (.int a2)]) (S2 := [.int a2]) (pc2 := 5) op193_4 rfl rfl ?_
    refine ry_if_eq (tgt := 20) (pc2 := 8) op193_5 (by decide) (by decide) rfl (fun b1 => ?_) (fun b1 => ?_)
    · have h := (if_pos b1).symm.trans h
      cases h
      exact hr _ _ rfl _ _
    · have h := (if_neg b1).symm.trans h
      obtain ⟨x2, ex2, h⟩ := rq_bv h
      refine rx_incd (w := 1) (v := x2) (j := 0) (pc2 := 11) op193_8 rfl (by decide) ex2 rfl (fun o3 => ?_)
      show rn_R _ _ _ _ [o3, some (.int x2), some (.int a2)] _ _ _ _
      refine rx_p (L2 := [o3, some (.int x2), some (.int a2)]) (S2 := [.int a2]) (pc2 := 12) op193_11 rfl rfl ?_
      refine rx_p (L2 := [o3, some (.int x2), some (.int a2)]) (S2 := [.int a2, .int a2]) (pc2 := 13) op193_12 rfl rfl ?_
      refine rx_ic (v := 1) (pc2 := 14) op193_13 (by decide) rfl ?_
      refine rx_p (L2 := [o3, some (.int x2), some (.int a2)]) (S2 := [.int (a2 - 1), .int a2]) (pc2 := 15) op193_14 rfl rfl ?_
      refine rx_p (L2 := [o3, some (.int x2), some (.int a2)]) (S2 := [.int (a2 &&& (a2 - 1))]) (pc2 := 16) op193_15 rfl rfl ?_
      obtain ⟨x4, ex4, h⟩ := rq_bv h
      refine rx_s (v := x4) (L2 := [o3, some (.int x2), some (.int x4)]) (pc2 := 17) op193_16 ex4 rfl rfl ?_
      refine ry_go (tgt := 4) op193_17 (by decide) (by decide) ?_
      exact ih _ _ _ _ h
set_option maxHeartbeats 4000000 in
set_option maxRecDepth 20000 in
theorem mo_ones_ok (xs : List Int32) {d : Nat} (hd : 0 ≤ d) {n : Nat} {a0 : Int32} {m mO : rn_Mem} {rO : Int32} (h : mo_ones n a0 m = some (rO, mO)) : rn_R xs d 193 0 (rn_ent 3 [.int a0]) [] (rn_SH, m) (some (.int rO)) (rn_SH, mO) := by
  unfold mo_ones at h
  show rn_R xs d 193 0 [some (.int a0), none, none] [] (rn_SH, m) (some (.int rO)) (rn_SH, mO)
  refine rx_ic (v := 0) (pc2 := 1) op193_0 (by decide) rfl ?_
  refine rx_s (L2 := [some (.int a0), some (.int 0), none]) (pc2 := 2) op193_1 rfl rfl rfl ?_
  refine rx_p (L2 := [some (.int a0), some (.int 0), none]) (S2 := [.int a0]) (pc2 := 3) op193_2 rfl rfl ?_
  refine rx_s (L2 := [some (.int a0), some (.int 0), some (.int a0)]) (pc2 := 4) op193_3 rfl rfl rfl ?_
  obtain ⟨wf9, f9, h⟩ := rq_bind h
  refine mo_ones_l4_ok xs (fun x7 m5 eq => ?_) _ _ _ _ _  f9
  subst eq
  try dsimp only at h
  intro o6 o8
  refine rx_p (L2 := [o6, some (.int x7), o8]) (S2 := [.int x7]) (pc2 := 21) op193_20 rfl rfl ?_
  obtain ⟨rfl, rfl⟩ := rq_ret h
  exact ry_ri op193_21 ms_193 rfl
/-! mo_isPlay -/
theorem op194_0 : rn_op 194 0 = some (.aload_n 0, 1, 0, 0, 0) := by decide +kernel
theorem op194_1 : rn_op 194 1 = some (.iconst 1, 1, 0, 0, 0) := by decide +kernel
theorem op194_2 : rn_op 194 2 = some (.putfield 219, 3, 11, 13, 2) := by decide +kernel
theorem op194_5 : rn_op 194 5 = some (.aload_n 0, 1, 0, 0, 0) := by decide +kernel
theorem op194_6 : rn_op 194 6 = some (.invokevirtual 271, 3, 174, 1, 11) := by decide +kernel
theorem op194_9 : rn_op 194 9 = some (.aload_n 0, 1, 0, 0, 0) := by decide +kernel
theorem op194_10 : rn_op 194 10 = some (.getfield 222, 3, 11, 14, 1) := by decide +kernel
theorem op194_13 : rn_op 194 13 = some (.lconst 0, 1, 0, 0, 0) := by decide +kernel
theorem op194_14 : rn_op 194 14 = some (.lcmp, 1, 0, 0, 0) := by decide +kernel
theorem op194_15 : rn_op 194 15 = some (.ifCond .le 7, 3, 0, 0, 0) := by decide +kernel
theorem op194_18 : rn_op 194 18 = some (.iconst 1, 1, 0, 0, 0) := by decide +kernel
theorem op194_19 : rn_op 194 19 = some (.goto 4, 3, 0, 0, 0) := by decide +kernel
theorem op194_22 : rn_op 194 22 = some (.iconst 0, 1, 0, 0, 0) := by decide +kernel
theorem op194_23 : rn_op 194 23 = some (.ireturn, 1, 0, 0, 0) := by decide +kernel
def mo_isPlay (n : Nat)  (m : rn_Mem) : Option (Int32 × rn_Mem) :=
  (some (rm_i m 115 13 1)).bind fun (m1 : rn_Mem) =>
  (mo_findPlays n m1).bind fun m2 =>
  if 0 < (lg_cmp (m2.2 115 14) 0) then
    some (1, m2)
  else
    some (0, m2)
set_option maxHeartbeats 4000000 in
set_option maxRecDepth 20000 in
theorem mo_isPlay_ok (xs : List Int32) {d : Nat} (hd : 7 ≤ d) {n : Nat} {m mO : rn_Mem} {rO : Int32} (h : mo_isPlay n  m = some (rO, mO)) : rn_R xs d 194 0 (rn_ent 1 [.ref 115]) [] (rn_SH, m) (some (.int rO)) (rn_SH, mO) := by
  obtain ⟨d, rfl⟩ : ∃ e, d = e + 1 := ⟨d - 1, by omega⟩
  unfold mo_isPlay at h
  show rn_R xs (d + 1) 194 0 [some (.ref 115)] [] (rn_SH, m) (some (.int rO)) (rn_SH, mO)
  refine rx_p (L2 := [some (.ref 115)]) (S2 := [.ref 115]) (pc2 := 1) op194_0 rfl rfl ?_
  refine rx_ic (v := 1) (pc2 := 2) op194_1 (by decide) rfl ?_
  obtain ⟨m1, em1, h⟩ := rq_bv h
  refine rx_pz (m2 := m1) (pc2 := 5) op194_2 sp_115 rfl (by decide) em1 rfl ?_
  refine rx_p (L2 := [some (.ref 115)]) (S2 := [.ref 115]) (pc2 := 6) op194_5 rfl rfl ?_
  obtain ⟨m2, f3, h⟩ := rq_bind h
  try dsimp only at h
  refine ry_iv (p := 115) (vs := []) (T := []) (pc2 := 9) op194_6 ms_174 (by decide) rfl rfl (Nat.le_of_ble_eq_true rfl) (Nat.le_of_ble_eq_true rfl) sp_115 (mo_findPlays_ok xs (by omega)  f3) rfl ?_
  show rn_R _ _ _ _ _ [] _ _ _
  refine rx_p (L2 := [some (.ref 115)]) (S2 := [.ref 115]) (pc2 := 10) op194_9 rfl rfl ?_
  refine rx_gf (v := .long (m2.2 115 14)) (pc2 := 13) op194_10 sp_115 rfl rfl rfl ?_
  refine rx_lc (v := 0) (pc2 := 14) op194_13 (by decide) rfl ?_
  refine rx_p (L2 := [some (.ref 115)]) (S2 := [.int (lg_cmp (m2.2 115 14) 0)]) (pc2 := 15) op194_14 rfl rfl ?_
  refine ry_if_le (tgt := 22) (pc2 := 18) op194_15 (by decide) (by decide) rfl (fun b4 => ?_) (fun b4 => ?_)
  · have h := (if_pos b4).symm.trans h
    refine rx_ic (v := 1) (pc2 := 19) op194_18 (by decide) rfl ?_
    refine ry_go (tgt := 23) op194_19 (by decide) (by decide) ?_
    obtain ⟨rfl, rfl⟩ := rq_ret h
    exact ry_rz (x := 1) op194_23 ms_194 rfl (by decide)
  · have h := (if_neg b4).symm.trans h
    refine rx_ic (v := 0) (pc2 := 23) op194_22 (by decide) rfl ?_
    obtain ⟨rfl, rfl⟩ := rq_ret h
    exact ry_rz (x := 0) op194_23 ms_194 rfl (by decide)
/-! mo_drops -/
theorem op192_0 : rn_op 192 0 = some (.aload_n 0, 1, 0, 0, 0) := by decide +kernel
theorem op192_1 : rn_op 192 1 = some (.getfield 7, 3, 11, 0, 3) := by decide +kernel
theorem op192_4 : rn_op 192 4 = some (.bipush 9, 2, 0, 0, 0) := by decide +kernel
theorem op192_6 : rn_op 192 6 = some (.iaload, 1, 0, 0, 0) := by decide +kernel
theorem op192_7 : rn_op 192 7 = some (.ifCond .ne 6, 3, 0, 0, 0) := by decide +kernel
theorem op192_10 : rn_op 192 10 = some (.bipush (-2), 2, 0, 0, 0) := by decide +kernel
theorem op192_12 : rn_op 192 12 = some (.ireturn, 1, 0, 0, 0) := by decide +kernel
theorem op192_13 : rn_op 192 13 = some (.aload_n 0, 1, 0, 0, 0) := by decide +kernel
theorem op192_14 : rn_op 192 14 = some (.invokevirtual 268, 3, 173, 1, 11) := by decide +kernel
theorem op192_17 : rn_op 192 17 = some (.aload_n 0, 1, 0, 0, 0) := by decide +kernel
theorem op192_18 : rn_op 192 18 = some (.getfield 197, 3, 11, 6, 0) := by decide +kernel
theorem op192_21 : rn_op 192 21 = some (.istore_n 1, 1, 0, 0, 0) := by decide +kernel
theorem op192_22 : rn_op 192 22 = some (.bipush (-4), 2, 0, 0, 0) := by decide +kernel
theorem op192_24 : rn_op 192 24 = some (.istore_n 2, 1, 0, 0, 0) := by decide +kernel
theorem op192_25 : rn_op 192 25 = some (.iconst 0, 1, 0, 0, 0) := by decide +kernel
theorem op192_26 : rn_op 192 26 = some (.istore_n 3, 1, 0, 0, 0) := by decide +kernel
theorem op192_27 : rn_op 192 27 = some (.iload_n 3, 1, 0, 0, 0) := by decide +kernel
theorem op192_28 : rn_op 192 28 = some (.iload_n 1, 1, 0, 0, 0) := by decide +kernel
theorem op192_29 : rn_op 192 29 = some (.if_icmp .gt 46, 3, 0, 0, 0) := by decide +kernel
theorem op192_32 : rn_op 192 32 = some (.aload_n 0, 1, 0, 0, 0) := by decide +kernel
theorem op192_33 : rn_op 192 33 = some (.iload_n 1, 1, 0, 0, 0) := by decide +kernel
theorem op192_34 : rn_op 192 34 = some (.iload_n 3, 1, 0, 0, 0) := by decide +kernel
theorem op192_35 : rn_op 192 35 = some (.iconst (-1), 1, 0, 0, 0) := by decide +kernel
theorem op192_36 : rn_op 192 36 = some (.ixor, 1, 0, 0, 0) := by decide +kernel
theorem op192_37 : rn_op 192 37 = some (.iand, 1, 0, 0, 0) := by decide +kernel
theorem op192_38 : rn_op 192 38 = some (.putfield 197, 3, 11, 6, 0) := by decide +kernel
theorem op192_41 : rn_op 192 41 = some (.iload_n 2, 1, 0, 0, 0) := by decide +kernel
theorem op192_42 : rn_op 192 42 = some (.ifCond .lt 14, 3, 0, 0, 0) := by decide +kernel
theorem op192_45 : rn_op 192 45 = some (.iload_n 3, 1, 0, 0, 0) := by decide +kernel
theorem op192_46 : rn_op 192 46 = some (.invokestatic 277, 3, 193, 1, 0) := by decide +kernel
theorem op192_49 : rn_op 192 49 = some (.iload_n 2, 1, 0, 0, 0) := by decide +kernel
theorem op192_50 : rn_op 192 50 = some (.invokestatic 277, 3, 193, 1, 0) := by decide +kernel
theorem op192_53 : rn_op 192 53 = some (.if_icmp .ge 14, 3, 0, 0, 0) := by decide +kernel
theorem op192_56 : rn_op 192 56 = some (.aload_n 0, 1, 0, 0, 0) := by decide +kernel
theorem op192_57 : rn_op 192 57 = some (.invokevirtual 280, 3, 194, 1, 11) := by decide +kernel
theorem op192_60 : rn_op 192 60 = some (.ifCond .eq 7, 3, 0, 0, 0) := by decide +kernel
theorem op192_63 : rn_op 192 63 = some (.iload_n 3, 1, 0, 0, 0) := by decide +kernel
theorem op192_64 : rn_op 192 64 = some (.goto 4, 3, 0, 0, 0) := by decide +kernel
theorem op192_67 : rn_op 192 67 = some (.iload_n 2, 1, 0, 0, 0) := by decide +kernel
theorem op192_68 : rn_op 192 68 = some (.istore_n 2, 1, 0, 0, 0) := by decide +kernel
theorem op192_69 : rn_op 192 69 = some (.iinc 3 1, 3, 0, 0, 0) := by decide +kernel
theorem op192_72 : rn_op 192 72 = some (.goto (-45), 3, 0, 0, 0) := by decide +kernel
theorem op192_75 : rn_op 192 75 = some (.iload_n 2, 1, 0, 0, 0) := by decide +kernel
theorem op192_76 : rn_op 192 76 = some (.ireturn, 1, 0, 0, 0) := by decide +kernel
def mo_drops_l27 (a1 : Int32) : Nat → Int32 → Int32 → rn_Mem → Option (Int32 × rn_Mem)
  | 0, _, _, _ => none
  | n + 1, a2, a3, m =>
    if a1 < a3 then
      some (a2, m)
    else
      (some (rm_i m 115 6 (a1 &&& (a3 ^^^ (-1))))).bind fun (m6 : rn_Mem) =>
      (show Option (Int32 × rn_Mem) from
        if a2 < 0 then
          (mo_isPlay n m6).bind fun (r9, m8) =>
          if r9 = 0 then
            some (a2, m8)
          else
            some (a3, m8)
        else
          (mo_ones n a3 m6).bind fun (r13, m12) =>
          (mo_ones n a2 m12).bind fun (r16, m15) =>
          if r13 < r16 then
            (mo_isPlay n m15).bind fun (r20, m19) =>
            if r20 = 0 then
              some (a2, m19)
            else
              some (a3, m19)
          else
            some (a2, m15)).bind fun (x24, m25) =>
      (some (a3 + 1)).bind fun (x26 : Int32) =>
      mo_drops_l27 a1 n x24 x26 m25
def mo_drops (n : Nat)  (m : rn_Mem) : Option (Int32 × rn_Mem) :=
  if (m.1 116 9) = 0 then
    some ((-2), m)
  else
    (mo_askAll n m).bind fun m2 =>
    (some (m2.1 115 6)).bind fun (x4 : Int32) =>
    (mo_drops_l27 x4 n (-4) 0 m2).bind fun (x31, m28) =>
    some (x31, m28)
set_option maxHeartbeats 4000000 in
set_option maxRecDepth 20000 in
theorem mo_drops_l27_ok (xs : List Int32) {d : Nat} (hd : 8 ≤ d + 1) {a1 : Int32} {r : Option Value} {τ : rn_H} {out : Int32 × rn_Mem} (hr : ∀ (z2 : Int32) (mO : rn_Mem), out = (z2, mO) → ∀ (o0 o1 o3 : Option Value), rn_R xs (d + 1) 192 75 [o0, o1, some (.int z2), o3] [] (rn_SH, mO) r τ) : ∀ (n : Nat) (a2 : Int32) (a3 : Int32) (m : rn_Mem), mo_drops_l27 a1 n a2 a3 m = some out → rn_R xs (d + 1) 192 27 [some (.ref 115), some (.int a1), some (.int a2), some (.int a3)] [] (rn_SH, m) r τ := by
  intro n
  induction n with
  | zero =>
    intro _ _ _ h
    cases h
  | succ n ih =>
    intro a2 a3 m h
    unfold mo_drops_l27 at h
    try dsimp only at h
    refine rx_p (L2 := [some (.ref 115), some (.int a1), some (.int a2), some (.int a3)]) (S2 := [.int a3]) (pc2 := 28) op192_27 rfl rfl ?_
    refine rx_p (L2 := [some (.ref 115), some (.int a1), some (.int a2), some (.int a3)]) (S2 := [.int a1, .int a3]) (pc2 := 29) op192_28 rfl rfl ?_
    refine ry_ic_gt (tgt := 75) (pc2 := 32) op192_29 (by decide) (by decide) rfl (fun b5 => ?_) (fun b5 => ?_)
    · have h := (if_pos b5).symm.trans h
      cases h
      exact hr _ _ rfl _ _ _
    · have h := (if_neg b5).symm.trans h
      refine rx_p (L2 := [some (.ref 115), some (.int a1), some (.int a2), some (.int a3)]) (S2 := [.ref 115]) (pc2 := 33) op192_32 rfl rfl ?_
      refine rx_p (L2 := [some (.ref 115), some (.int a1), some (.int a2), some (.int a3)]) (S2 := [.int a1, .ref 115]) (pc2 := 34) op192_33 rfl rfl ?_
      refine rx_p (L2 := [some (.ref 115), some (.int a1), some (.int a2), some (.int a3)]) (S2 := [.int a3, .int a1, .ref 115]) (pc2 := 35) op192_34 rfl rfl ?_
      refine rx_ic (v := (-1)) (pc2 := 36) op192_35 (by decide) rfl ?_
      refine rx_p (L2 := [some (.ref 115), some (.int a1), some (.int a2), some (.int a3)]) (S2 := [.int (a3 ^^^ (-1)), .int a1, .ref 115]) (pc2 := 37) op192_36 rfl rfl ?_
      refine rx_p (L2 := [some (.ref 115), some (.int a1), some (.int a2), some (.int a3)]) (S2 := [.int (a1 &&& (a3 ^^^ (-1))), .ref 115]) (pc2 := 38) op192_37 rfl rfl ?_
      obtain ⟨m6, em6, h⟩ := rq_bv h
      refine rx_pf (m2 := m6) (pc2 := 41) op192_38 sp_115 rfl em6 rfl ?_
      refine rx_p (L2 := [some (.ref 115), some (.int a1), some (.int a2), some (.int a3)]) (S2 := [.int a2]) (pc2 := 42) op192_41 rfl rfl ?_
      obtain ⟨⟨x24, m25⟩, gc27, h⟩ := rq_bind h
      try dsimp only at h
      have c27 : ∀ (o23 : Option Value), rn_R xs (d + 1) 192 68 [some (.ref 115), some (.int a1), o23, some (.int a3)] [.int x24] (rn_SH, m25) r τ := by
        intro o23
        refine rx_s (L2 := [some (.ref 115), some (.int a1), some (.int x24), some (.int a3)]) (pc2 := 69) op192_68 rfl rfl rfl ?_
        obtain ⟨x26, ex26, h⟩ := rq_bv h
        refine rx_inc (w := 1) (v := x26) (L2 := [some (.ref 115), some (.int a1), some (.int x24), some (.int x26)]) (pc2 := 72) op192_69 rfl (by decide) ex26 rfl rfl ?_
        refine ry_go (tgt := 27) op192_72 (by decide) (by decide) ?_
        exact ih _ _ _ h
      refine ry_if_lt (tgt := 56) (pc2 := 45) op192_42 (by decide) (by decide) rfl (fun b7 => ?_) (fun b7 => ?_)
      · have gc27 := (if_pos b7).symm.trans gc27
        refine rx_p (L2 := [some (.ref 115), some (.int a1), some (.int a2), some (.int a3)]) (S2 := [.ref 115]) (pc2 := 57) op192_56 rfl rfl ?_
        obtain ⟨⟨r9, m8⟩, f10, gc27⟩ := rq_bind gc27
        try dsimp only at gc27
        refine ry_iv (p := 115) (vs := []) (T := []) (pc2 := 60) op192_57 ms_194 (by decide) rfl rfl (Nat.le_of_ble_eq_true rfl) (Nat.le_of_ble_eq_true rfl) sp_115 (mo_isPlay_ok xs (by omega)  f10) rfl ?_
        show rn_R _ _ _ _ _ [.int r9] _ _ _
        refine ry_if_eq (tgt := 67) (pc2 := 63) op192_60 (by decide) (by decide) rfl (fun b11 => ?_) (fun b11 => ?_)
        · have gc27 := (if_pos b11).symm.trans gc27
          refine rx_p (L2 := [some (.ref 115), some (.int a1), some (.int a2), some (.int a3)]) (S2 := [.int a2]) (pc2 := 68) op192_67 rfl rfl ?_
          cases gc27
          exact c27 _
        · have gc27 := (if_neg b11).symm.trans gc27
          refine rx_p (L2 := [some (.ref 115), some (.int a1), some (.int a2), some (.int a3)]) (S2 := [.int a3]) (pc2 := 64) op192_63 rfl rfl ?_
          refine ry_go (tgt := 68) op192_64 (by decide) (by decide) ?_
          cases gc27
          exact c27 _
      · have gc27 := (if_neg b7).symm.trans gc27
        refine rx_p (L2 := [some (.ref 115), some (.int a1), some (.int a2), some (.int a3)]) (S2 := [.int a3]) (pc2 := 46) op192_45 rfl rfl ?_
        obtain ⟨⟨r13, m12⟩, f14, gc27⟩ := rq_bind gc27
        try dsimp only at gc27
        refine ry_is (vs := [.int a3]) (T := []) (pc2 := 49) op192_46 (by decide) ms_193 (by decide) rfl rfl (Nat.le_of_ble_eq_true rfl) (Nat.le_of_ble_eq_true rfl) (mo_ones_ok xs (by omega)  f14) rfl ?_
        show rn_R _ _ _ _ _ [.int r13] _ _ _
        refine rx_p (L2 := [some (.ref 115), some (.int a1), some (.int a2), some (.int a3)]) (S2 := [.int a2, .int r13]) (pc2 := 50) op192_49 rfl rfl ?_
        obtain ⟨⟨r16, m15⟩, f17, gc27⟩ := rq_bind gc27
        try dsimp only at gc27
        refine ry_is (vs := [.int a2]) (T := [.int r13]) (pc2 := 53) op192_50 (by decide) ms_193 (by decide) rfl rfl (Nat.le_of_ble_eq_true rfl) (Nat.le_of_ble_eq_true rfl) (mo_ones_ok xs (by omega)  f17) rfl ?_
        show rn_R _ _ _ _ _ [.int r16, .int r13] _ _ _
        refine ry_ic_ge (tgt := 67) (pc2 := 56) op192_53 (by decide) (by decide) rfl (fun b18 => ?_) (fun b18 => ?_)
        · have gc27 := (if_pos b18).symm.trans gc27
          refine rx_p (L2 := [some (.ref 115), some (.int a1), some (.int a2), some (.int a3)]) (S2 := [.ref 115]) (pc2 := 57) op192_56 rfl rfl ?_
          obtain ⟨⟨r20, m19⟩, f21, gc27⟩ := rq_bind gc27
          try dsimp only at gc27
          refine ry_iv (p := 115) (vs := []) (T := []) (pc2 := 60) op192_57 ms_194 (by decide) rfl rfl (Nat.le_of_ble_eq_true rfl) (Nat.le_of_ble_eq_true rfl) sp_115 (mo_isPlay_ok xs (by omega)  f21) rfl ?_
          show rn_R _ _ _ _ _ [.int r20] _ _ _
          refine ry_if_eq (tgt := 67) (pc2 := 63) op192_60 (by decide) (by decide) rfl (fun b22 => ?_) (fun b22 => ?_)
          · have gc27 := (if_pos b22).symm.trans gc27
            refine rx_p (L2 := [some (.ref 115), some (.int a1), some (.int a2), some (.int a3)]) (S2 := [.int a2]) (pc2 := 68) op192_67 rfl rfl ?_
            cases gc27
            exact c27 _
          · have gc27 := (if_neg b22).symm.trans gc27
            refine rx_p (L2 := [some (.ref 115), some (.int a1), some (.int a2), some (.int a3)]) (S2 := [.int a3]) (pc2 := 64) op192_63 rfl rfl ?_
            refine ry_go (tgt := 68) op192_64 (by decide) (by decide) ?_
            cases gc27
            exact c27 _
        · have gc27 := (if_neg b18).symm.trans gc27
          refine rx_p (L2 := [some (.ref 115), some (.int a1), some (.int a2), some (.int a3)]) (S2 := [.int a2]) (pc2 := 68) op192_67 rfl rfl ?_
          cases gc27
          exact c27 _
set_option maxHeartbeats 4000000 in
set_option maxRecDepth 20000 in
theorem mo_drops_ok (xs : List Int32) {d : Nat} (hd : 8 ≤ d) {n : Nat} {m mO : rn_Mem} {rO : Int32} (h : mo_drops n  m = some (rO, mO)) : rn_R xs d 192 0 (rn_ent 4 [.ref 115]) [] (rn_SH, m) (some (.int rO)) (rn_SH, mO) := by
  obtain ⟨d, rfl⟩ : ∃ e, d = e + 1 := ⟨d - 1, by omega⟩
  unfold mo_drops at h
  show rn_R xs (d + 1) 192 0 [some (.ref 115), none, none, none] [] (rn_SH, m) (some (.int rO)) (rn_SH, mO)
  refine rx_p (L2 := [some (.ref 115), none, none, none]) (S2 := [.ref 115]) (pc2 := 1) op192_0 rfl rfl ?_
  refine rx_gf (v := .ref 116) (pc2 := 4) op192_1 sp_115 rfl rfl rfl ?_
  refine rx_bp (v := 9) (pc2 := 6) op192_4 (by decide) rfl ?_
  refine rx_ia (j := 9) (pc2 := 7) op192_6 (rn_shlt sp_116) sp_116 (by decide) (by decide) rfl ?_
  refine ry_if_ne (tgt := 13) (pc2 := 10) op192_7 (by decide) (by decide) rfl (fun b1 => ?_) (fun b1 => ?_)
  · have h := (if_pos b1).symm.trans h
    refine rx_bp (v := (-2)) (pc2 := 12) op192_10 (by decide) rfl ?_
    obtain ⟨rfl, rfl⟩ := rq_ret h
    exact ry_ri op192_12 ms_192 rfl
  · have h := (if_neg b1).symm.trans h
    refine rx_p (L2 := [some (.ref 115), none, none, none]) (S2 := [.ref 115]) (pc2 := 14) op192_13 rfl rfl ?_
    obtain ⟨m2, f3, h⟩ := rq_bind h
    try dsimp only at h
    refine ry_iv (p := 115) (vs := []) (T := []) (pc2 := 17) op192_14 ms_173 (by decide) rfl rfl (Nat.le_of_ble_eq_true rfl) (Nat.le_of_ble_eq_true rfl) sp_115 (mo_askAll_ok xs (by omega)  f3) rfl ?_
    show rn_R _ _ _ _ _ [] _ _ _
    refine rx_p (L2 := [some (.ref 115), none, none, none]) (S2 := [.ref 115]) (pc2 := 18) op192_17 rfl rfl ?_
    refine rx_gf (v := .int (m2.1 115 6)) (pc2 := 21) op192_18 sp_115 rfl rfl rfl ?_
    obtain ⟨x4, ex4, h⟩ := rq_bv h
    refine rx_s (v := x4) (L2 := [some (.ref 115), some (.int x4), none, none]) (pc2 := 22) op192_21 ex4 rfl rfl ?_
    refine rx_bp (v := (-4)) (pc2 := 24) op192_22 (by decide) rfl ?_
    refine rx_s (L2 := [some (.ref 115), some (.int x4), some (.int (-4)), none]) (pc2 := 25) op192_24 rfl rfl rfl ?_
    refine rx_ic (v := 0) (pc2 := 26) op192_25 (by decide) rfl ?_
    refine rx_s (L2 := [some (.ref 115), some (.int x4), some (.int (-4)), some (.int 0)]) (pc2 := 27) op192_26 rfl rfl rfl ?_
    obtain ⟨wf33, f33, h⟩ := rq_bind h
    refine mo_drops_l27_ok xs hd (fun x31 m28 eq => ?_) _ _ _ _  f33
    subst eq
    try dsimp only at h
    intro o29 o30 o32
    refine rx_p (L2 := [o29, o30, some (.int x31), o32]) (S2 := [.int x31]) (pc2 := 76) op192_75 rfl rfl ?_
    obtain ⟨rfl, rfl⟩ := rq_ret h
    exact ry_ri op192_76 ms_192 rfl
