theorem dX8_init_0 : decode cX8_init 0 = .ok (.aload_n 0, 1) := by decide +kernel
theorem dX8_init_1 : decode cX8_init 1 = .ok (.invokespecial 1, 3) := by decide +kernel
theorem dX8_init_4 : decode cX8_init 4 = .ok (.aload_n 0, 1) := by decide +kernel
theorem dX8_init_5 : decode cX8_init 5 = .ok (.sipush 264, 3) := by decide +kernel
theorem dX8_init_8 : decode cX8_init 8 = .ok (.newarray .int, 2) := by decide +kernel
theorem dX8_init_10 : decode cX8_init 10 = .ok (.putfield 7, 3) := by decide +kernel
theorem dX8_init_13 : decode cX8_init 13 = .ok (.aload_n 0, 1) := by decide +kernel
theorem dX8_init_14 : decode cX8_init 14 = .ok (.bipush 44, 2) := by decide +kernel
theorem dX8_init_16 : decode cX8_init 16 = .ok (.newarray .int, 2) := by decide +kernel
theorem dX8_init_18 : decode cX8_init 18 = .ok (.putfield 13, 3) := by decide +kernel
theorem dX8_init_21 : decode cX8_init 21 = .ok (.aload_n 0, 1) := by decide +kernel
theorem dX8_init_22 : decode cX8_init 22 = .ok (.sipush 160, 3) := by decide +kernel
theorem dX8_init_25 : decode cX8_init 25 = .ok (.newarray .int, 2) := by decide +kernel
theorem dX8_init_27 : decode cX8_init 27 = .ok (.putfield 16, 3) := by decide +kernel
theorem dX8_init_30 : decode cX8_init 30 = .ok (.aload_n 0, 1) := by decide +kernel
theorem dX8_init_31 : decode cX8_init 31 = .ok (.bipush 7, 2) := by decide +kernel
theorem dX8_init_33 : decode cX8_init 33 = .ok (.newarray .int, 2) := by decide +kernel
theorem dX8_init_35 : decode cX8_init 35 = .ok (.dup, 1) := by decide +kernel
theorem dX8_init_36 : decode cX8_init 36 = .ok (.iconst 0, 1) := by decide +kernel
theorem dX8_init_37 : decode cX8_init 37 = .ok (.iconst 0, 1) := by decide +kernel
theorem dX8_init_38 : decode cX8_init 38 = .ok (.iastore, 1) := by decide +kernel
theorem dX8_init_39 : decode cX8_init 39 = .ok (.dup, 1) := by decide +kernel
theorem dX8_init_40 : decode cX8_init 40 = .ok (.iconst 1, 1) := by decide +kernel
theorem dX8_init_41 : decode cX8_init 41 = .ok (.iconst 3, 1) := by decide +kernel
theorem dX8_init_42 : decode cX8_init 42 = .ok (.iastore, 1) := by decide +kernel
theorem dX8_init_43 : decode cX8_init 43 = .ok (.dup, 1) := by decide +kernel
theorem dX8_init_44 : decode cX8_init 44 = .ok (.iconst 2, 1) := by decide +kernel
theorem dX8_init_45 : decode cX8_init 45 = .ok (.bipush 6, 2) := by decide +kernel
theorem dX8_init_47 : decode cX8_init 47 = .ok (.iastore, 1) := by decide +kernel
theorem dX8_init_48 : decode cX8_init 48 = .ok (.dup, 1) := by decide +kernel
theorem dX8_init_49 : decode cX8_init 49 = .ok (.iconst 3, 1) := by decide +kernel
theorem dX8_init_50 : decode cX8_init 50 = .ok (.bipush 9, 2) := by decide +kernel
theorem dX8_init_52 : decode cX8_init 52 = .ok (.iastore, 1) := by decide +kernel
theorem dX8_init_53 : decode cX8_init 53 = .ok (.dup, 1) := by decide +kernel
theorem dX8_init_54 : decode cX8_init 54 = .ok (.iconst 4, 1) := by decide +kernel
theorem dX8_init_55 : decode cX8_init 55 = .ok (.bipush 15, 2) := by decide +kernel
theorem dX8_init_57 : decode cX8_init 57 = .ok (.iastore, 1) := by decide +kernel
theorem dX8_init_58 : decode cX8_init 58 = .ok (.dup, 1) := by decide +kernel
theorem dX8_init_59 : decode cX8_init 59 = .ok (.iconst 5, 1) := by decide +kernel
theorem dX8_init_60 : decode cX8_init 60 = .ok (.bipush 21, 2) := by decide +kernel
theorem dX8_init_62 : decode cX8_init 62 = .ok (.iastore, 1) := by decide +kernel
theorem dX8_init_63 : decode cX8_init 63 = .ok (.dup, 1) := by decide +kernel
theorem dX8_init_64 : decode cX8_init 64 = .ok (.bipush 6, 2) := by decide +kernel
theorem dX8_init_66 : decode cX8_init 66 = .ok (.bipush 25, 2) := by decide +kernel
theorem dX8_init_68 : decode cX8_init 68 = .ok (.iastore, 1) := by decide +kernel
theorem dX8_init_69 : decode cX8_init 69 = .ok (.putfield 19, 3) := by decide +kernel
theorem dX8_init_72 : decode cX8_init 72 = .ok (.aload_n 0, 1) := by decide +kernel
theorem dX8_init_73 : decode cX8_init 73 = .ok (.bipush 25, 2) := by decide +kernel
theorem dX8_init_75 : decode cX8_init 75 = .ok (.newarray .int, 2) := by decide +kernel
theorem dX8_init_77 : decode cX8_init 77 = .ok (.dup, 1) := by decide +kernel
theorem dX8_init_78 : decode cX8_init 78 = .ok (.iconst 0, 1) := by decide +kernel
theorem dX8_init_79 : decode cX8_init 79 = .ok (.bipush 110, 2) := by decide +kernel
theorem dX8_init_81 : decode cX8_init 81 = .ok (.iastore, 1) := by decide +kernel
theorem dX8_init_82 : decode cX8_init 82 = .ok (.dup, 1) := by decide +kernel
theorem dX8_init_83 : decode cX8_init 83 = .ok (.iconst 1, 1) := by decide +kernel
theorem dX8_init_84 : decode cX8_init 84 = .ok (.bipush 101, 2) := by decide +kernel
theorem dX8_init_86 : decode cX8_init 86 = .ok (.iastore, 1) := by decide +kernel
theorem dX8_init_87 : decode cX8_init 87 = .ok (.dup, 1) := by decide +kernel
theorem dX8_init_88 : decode cX8_init 88 = .ok (.iconst 2, 1) := by decide +kernel
theorem dX8_init_89 : decode cX8_init 89 = .ok (.bipush 116, 2) := by decide +kernel
theorem dX8_init_91 : decode cX8_init 91 = .ok (.iastore, 1) := by decide +kernel
theorem dX8_init_92 : decode cX8_init 92 = .ok (.dup, 1) := by decide +kernel
theorem dX8_init_93 : decode cX8_init 93 = .ok (.iconst 3, 1) := by decide +kernel
theorem dX8_init_94 : decode cX8_init 94 = .ok (.bipush 100, 2) := by decide +kernel
theorem dX8_init_96 : decode cX8_init 96 = .ok (.iastore, 1) := by decide +kernel
theorem dX8_init_97 : decode cX8_init 97 = .ok (.dup, 1) := by decide +kernel
theorem dX8_init_98 : decode cX8_init 98 = .ok (.iconst 4, 1) := by decide +kernel
theorem dX8_init_99 : decode cX8_init 99 = .ok (.bipush 111, 2) := by decide +kernel
theorem dX8_init_101 : decode cX8_init 101 = .ok (.iastore, 1) := by decide +kernel
theorem dX8_init_102 : decode cX8_init 102 = .ok (.dup, 1) := by decide +kernel
theorem dX8_init_103 : decode cX8_init 103 = .ok (.iconst 5, 1) := by decide +kernel
theorem dX8_init_104 : decode cX8_init 104 = .ok (.bipush 103, 2) := by decide +kernel
theorem dX8_init_106 : decode cX8_init 106 = .ok (.iastore, 1) := by decide +kernel
theorem dX8_init_107 : decode cX8_init 107 = .ok (.dup, 1) := by decide +kernel
theorem dX8_init_108 : decode cX8_init 108 = .ok (.bipush 6, 2) := by decide +kernel
theorem dX8_init_110 : decode cX8_init 110 = .ok (.bipush 98, 2) := by decide +kernel
theorem dX8_init_112 : decode cX8_init 112 = .ok (.iastore, 1) := by decide +kernel
theorem dX8_init_113 : decode cX8_init 113 = .ok (.dup, 1) := by decide +kernel
theorem dX8_init_114 : decode cX8_init 114 = .ok (.bipush 7, 2) := by decide +kernel
theorem dX8_init_116 : decode cX8_init 116 = .ok (.bipush 111, 2) := by decide +kernel
theorem dX8_init_118 : decode cX8_init 118 = .ok (.iastore, 1) := by decide +kernel
theorem dX8_init_119 : decode cX8_init 119 = .ok (.dup, 1) := by decide +kernel
theorem dX8_init_120 : decode cX8_init 120 = .ok (.bipush 8, 2) := by decide +kernel
theorem dX8_init_122 : decode cX8_init 122 = .ok (.bipush 121, 2) := by decide +kernel
theorem dX8_init_124 : decode cX8_init 124 = .ok (.iastore, 1) := by decide +kernel
theorem dX8_init_125 : decode cX8_init 125 = .ok (.dup, 1) := by decide +kernel
theorem dX8_init_126 : decode cX8_init 126 = .ok (.bipush 9, 2) := by decide +kernel
theorem dX8_init_128 : decode cX8_init 128 = .ok (.bipush 115, 2) := by decide +kernel
theorem dX8_init_130 : decode cX8_init 130 = .ok (.iastore, 1) := by decide +kernel
theorem dX8_init_131 : decode cX8_init 131 = .ok (.dup, 1) := by decide +kernel
theorem dX8_init_132 : decode cX8_init 132 = .ok (.bipush 10, 2) := by decide +kernel
theorem dX8_init_134 : decode cX8_init 134 = .ok (.bipush 113, 2) := by decide +kernel
theorem dX8_init_136 : decode cX8_init 136 = .ok (.iastore, 1) := by decide +kernel
theorem dX8_init_137 : decode cX8_init 137 = .ok (.dup, 1) := by decide +kernel
theorem dX8_init_138 : decode cX8_init 138 = .ok (.bipush 11, 2) := by decide +kernel
theorem dX8_init_140 : decode cX8_init 140 = .ok (.bipush 117, 2) := by decide +kernel
theorem dX8_init_142 : decode cX8_init 142 = .ok (.iastore, 1) := by decide +kernel
theorem dX8_init_143 : decode cX8_init 143 = .ok (.dup, 1) := by decide +kernel
theorem dX8_init_144 : decode cX8_init 144 = .ok (.bipush 12, 2) := by decide +kernel
theorem dX8_init_146 : decode cX8_init 146 = .ok (.bipush 105, 2) := by decide +kernel
theorem dX8_init_148 : decode cX8_init 148 = .ok (.iastore, 1) := by decide +kernel
theorem dX8_init_149 : decode cX8_init 149 = .ok (.dup, 1) := by decide +kernel
theorem dX8_init_150 : decode cX8_init 150 = .ok (.bipush 13, 2) := by decide +kernel
theorem dX8_init_152 : decode cX8_init 152 = .ok (.bipush 114, 2) := by decide +kernel
theorem dX8_init_154 : decode cX8_init 154 = .ok (.iastore, 1) := by decide +kernel
theorem dX8_init_155 : decode cX8_init 155 = .ok (.dup, 1) := by decide +kernel
theorem dX8_init_156 : decode cX8_init 156 = .ok (.bipush 14, 2) := by decide +kernel
theorem dX8_init_158 : decode cX8_init 158 = .ok (.bipush 101, 2) := by decide +kernel
theorem dX8_init_160 : decode cX8_init 160 = .ok (.iastore, 1) := by decide +kernel
theorem dX8_init_161 : decode cX8_init 161 = .ok (.dup, 1) := by decide +kernel
theorem dX8_init_162 : decode cX8_init 162 = .ok (.bipush 15, 2) := by decide +kernel
theorem dX8_init_164 : decode cX8_init 164 = .ok (.bipush 107, 2) := by decide +kernel
theorem dX8_init_166 : decode cX8_init 166 = .ok (.iastore, 1) := by decide +kernel
theorem dX8_init_167 : decode cX8_init 167 = .ok (.dup, 1) := by decide +kernel
theorem dX8_init_168 : decode cX8_init 168 = .ok (.bipush 16, 2) := by decide +kernel
theorem dX8_init_170 : decode cX8_init 170 = .ok (.bipush 101, 2) := by decide +kernel
theorem dX8_init_172 : decode cX8_init 172 = .ok (.iastore, 1) := by decide +kernel
theorem dX8_init_173 : decode cX8_init 173 = .ok (.dup, 1) := by decide +kernel
theorem dX8_init_174 : decode cX8_init 174 = .ok (.bipush 17, 2) := by decide +kernel
theorem dX8_init_176 : decode cX8_init 176 = .ok (.bipush 101, 2) := by decide +kernel
theorem dX8_init_178 : decode cX8_init 178 = .ok (.iastore, 1) := by decide +kernel
theorem dX8_init_179 : decode cX8_init 179 = .ok (.dup, 1) := by decide +kernel
theorem dX8_init_180 : decode cX8_init 180 = .ok (.bipush 18, 2) := by decide +kernel
theorem dX8_init_182 : decode cX8_init 182 = .ok (.bipush 112, 2) := by decide +kernel
theorem dX8_init_184 : decode cX8_init 184 = .ok (.iastore, 1) := by decide +kernel
theorem dX8_init_185 : decode cX8_init 185 = .ok (.dup, 1) := by decide +kernel
theorem dX8_init_186 : decode cX8_init 186 = .ok (.bipush 19, 2) := by decide +kernel
theorem dX8_init_188 : decode cX8_init 188 = .ok (.bipush 101, 2) := by decide +kernel
theorem dX8_init_190 : decode cX8_init 190 = .ok (.iastore, 1) := by decide +kernel
theorem dX8_init_191 : decode cX8_init 191 = .ok (.dup, 1) := by decide +kernel
theorem dX8_init_192 : decode cX8_init 192 = .ok (.bipush 20, 2) := by decide +kernel
theorem dX8_init_194 : decode cX8_init 194 = .ok (.bipush 114, 2) := by decide +kernel
theorem dX8_init_196 : decode cX8_init 196 = .ok (.iastore, 1) := by decide +kernel
theorem dX8_init_197 : decode cX8_init 197 = .ok (.dup, 1) := by decide +kernel
theorem dX8_init_198 : decode cX8_init 198 = .ok (.bipush 21, 2) := by decide +kernel
theorem dX8_init_200 : decode cX8_init 200 = .ok (.bipush 103, 2) := by decide +kernel
theorem dX8_init_202 : decode cX8_init 202 = .ok (.iastore, 1) := by decide +kernel
theorem dX8_init_203 : decode cX8_init 203 = .ok (.dup, 1) := by decide +kernel
theorem dX8_init_204 : decode cX8_init 204 = .ok (.bipush 22, 2) := by decide +kernel
theorem dX8_init_206 : decode cX8_init 206 = .ok (.bipush 97, 2) := by decide +kernel
theorem dX8_init_208 : decode cX8_init 208 = .ok (.iastore, 1) := by decide +kernel
theorem dX8_init_209 : decode cX8_init 209 = .ok (.dup, 1) := by decide +kernel
theorem dX8_init_210 : decode cX8_init 210 = .ok (.bipush 23, 2) := by decide +kernel
theorem dX8_init_212 : decode cX8_init 212 = .ok (.bipush 116, 2) := by decide +kernel
theorem dX8_init_214 : decode cX8_init 214 = .ok (.iastore, 1) := by decide +kernel
theorem dX8_init_215 : decode cX8_init 215 = .ok (.dup, 1) := by decide +kernel
theorem dX8_init_216 : decode cX8_init 216 = .ok (.bipush 24, 2) := by decide +kernel
theorem dX8_init_218 : decode cX8_init 218 = .ok (.bipush 101, 2) := by decide +kernel
theorem dX8_init_220 : decode cX8_init 220 = .ok (.iastore, 1) := by decide +kernel
theorem dX8_init_221 : decode cX8_init 221 = .ok (.putfield 22, 3) := by decide +kernel
theorem dX8_init_224 : decode cX8_init 224 = .ok (.aload_n 0, 1) := by decide +kernel
theorem dX8_init_225 : decode cX8_init 225 = .ok (.bipush 18, 2) := by decide +kernel
theorem dX8_init_227 : decode cX8_init 227 = .ok (.newarray .int, 2) := by decide +kernel
theorem dX8_init_229 : decode cX8_init 229 = .ok (.putfield 25, 3) := by decide +kernel
theorem dX8_init_232 : decode cX8_init 232 = .ok (.aload_n 0, 1) := by decide +kernel
theorem dX8_init_233 : decode cX8_init 233 = .ok (.sipush 756, 3) := by decide +kernel
theorem dX8_init_236 : decode cX8_init 236 = .ok (.newarray .int, 2) := by decide +kernel
theorem dX8_init_238 : decode cX8_init 238 = .ok (.putfield 28, 3) := by decide +kernel
theorem dX8_init_241 : decode cX8_init 241 = .ok (.aload_n 0, 1) := by decide +kernel
theorem dX8_init_242 : decode cX8_init 242 = .ok (.iconst 2, 1) := by decide +kernel
theorem dX8_init_243 : decode cX8_init 243 = .ok (.newarray .boolean, 2) := by decide +kernel
theorem dX8_init_245 : decode cX8_init 245 = .ok (.putfield 31, 3) := by decide +kernel
theorem dX8_init_248 : decode cX8_init 248 = .ok (.aload_n 0, 1) := by decide +kernel
theorem dX8_init_249 : decode cX8_init 249 = .ok (.iconst 4, 1) := by decide +kernel
theorem dX8_init_250 : decode cX8_init 250 = .ok (.newarray .int, 2) := by decide +kernel
theorem dX8_init_252 : decode cX8_init 252 = .ok (.dup, 1) := by decide +kernel
theorem dX8_init_253 : decode cX8_init 253 = .ok (.iconst 0, 1) := by decide +kernel
theorem dX8_init_254 : decode cX8_init 254 = .ok (.bipush (-4), 2) := by decide +kernel
theorem dX8_init_256 : decode cX8_init 256 = .ok (.iastore, 1) := by decide +kernel
theorem dX8_init_257 : decode cX8_init 257 = .ok (.dup, 1) := by decide +kernel
theorem dX8_init_258 : decode cX8_init 258 = .ok (.iconst 1, 1) := by decide +kernel
theorem dX8_init_259 : decode cX8_init 259 = .ok (.bipush (-4), 2) := by decide +kernel
theorem dX8_init_261 : decode cX8_init 261 = .ok (.iastore, 1) := by decide +kernel
theorem dX8_init_262 : decode cX8_init 262 = .ok (.dup, 1) := by decide +kernel
theorem dX8_init_263 : decode cX8_init 263 = .ok (.iconst 2, 1) := by decide +kernel
theorem dX8_init_264 : decode cX8_init 264 = .ok (.bipush (-4), 2) := by decide +kernel
theorem dX8_init_266 : decode cX8_init 266 = .ok (.iastore, 1) := by decide +kernel
theorem dX8_init_267 : decode cX8_init 267 = .ok (.dup, 1) := by decide +kernel
theorem dX8_init_268 : decode cX8_init 268 = .ok (.iconst 3, 1) := by decide +kernel
theorem dX8_init_269 : decode cX8_init 269 = .ok (.bipush (-4), 2) := by decide +kernel
theorem dX8_init_271 : decode cX8_init 271 = .ok (.iastore, 1) := by decide +kernel
theorem dX8_init_272 : decode cX8_init 272 = .ok (.putfield 35, 3) := by decide +kernel
theorem dX8_init_275 : decode cX8_init 275 = .ok (.aload_n 0, 1) := by decide +kernel
theorem dX8_init_276 : decode cX8_init 276 = .ok (.iconst 4, 1) := by decide +kernel
theorem dX8_init_277 : decode cX8_init 277 = .ok (.newarray .int, 2) := by decide +kernel
theorem dX8_init_279 : decode cX8_init 279 = .ok (.putfield 38, 3) := by decide +kernel
theorem dX8_init_282 : decode cX8_init 282 = .ok (.aload_n 0, 1) := by decide +kernel
theorem dX8_init_283 : decode cX8_init 283 = .ok (.sipush 160, 3) := by decide +kernel
theorem dX8_init_286 : decode cX8_init 286 = .ok (.newarray .int, 2) := by decide +kernel
theorem dX8_init_288 : decode cX8_init 288 = .ok (.putfield 41, 3) := by decide +kernel
theorem dX8_init_291 : decode cX8_init 291 = .ok (.return_, 1) := by decide +kernel
theorem dX8_in_0 : decode cX8_in 0 = .ok (.lload_n 0, 1) := by decide +kernel
theorem dX8_in_1 : decode cX8_in 1 = .ok (.lload_n 2, 1) := by decide +kernel
theorem dX8_in_2 : decode cX8_in 2 = .ok (.lcmp, 1) := by decide +kernel
theorem dX8_in_3 : decode cX8_in 3 = .ok (.ifCond .lt 14, 3) := by decide +kernel
theorem dX8_in_6 : decode cX8_in 6 = .ok (.lload_n 0, 1) := by decide +kernel
theorem dX8_in_7 : decode cX8_in 7 = .ok (.lload 4, 2) := by decide +kernel
theorem dX8_in_9 : decode cX8_in 9 = .ok (.lcmp, 1) := by decide +kernel
theorem dX8_in_10 : decode cX8_in 10 = .ok (.ifCond .gt 7, 3) := by decide +kernel
theorem dX8_in_13 : decode cX8_in 13 = .ok (.iconst 1, 1) := by decide +kernel
theorem dX8_in_14 : decode cX8_in 14 = .ok (.goto 4, 3) := by decide +kernel
theorem dX8_in_17 : decode cX8_in 17 = .ok (.iconst 0, 1) := by decide +kernel
theorem dX8_in_18 : decode cX8_in 18 = .ok (.ireturn, 1) := by decide +kernel
theorem dX8_feed_0 : decode cX8_feed 0 = .ok (.iload_n 1, 1) := by decide +kernel
theorem dX8_feed_1 : decode cX8_feed 1 = .ok (.i2l, 1) := by decide +kernel
theorem dX8_feed_2 : decode cX8_feed 2 = .ok (.lconst 0, 1) := by decide +kernel
theorem dX8_feed_3 : decode cX8_feed 3 = .ok (.ldc2_w 44, 3) := by decide +kernel
theorem dX8_feed_6 : decode cX8_feed 6 = .ok (.invokestatic 46, 3) := by decide +kernel
theorem dX8_feed_9 : decode cX8_feed 9 = .ok (.ifCond .ne 5, 3) := by decide +kernel
theorem dX8_feed_12 : decode cX8_feed 12 = .ok (.iconst (-1), 1) := by decide +kernel
theorem dX8_feed_13 : decode cX8_feed 13 = .ok (.ireturn, 1) := by decide +kernel
theorem dX8_feed_14 : decode cX8_feed 14 = .ok (.aload_n 0, 1) := by decide +kernel
theorem dX8_feed_15 : decode cX8_feed 15 = .ok (.getfield 50, 3) := by decide +kernel
theorem dX8_feed_18 : decode cX8_feed 18 = .ok (.sipush 160, 3) := by decide +kernel
theorem dX8_feed_21 : decode cX8_feed 21 = .ok (.if_icmp .ne 6, 3) := by decide +kernel
theorem dX8_feed_24 : decode cX8_feed 24 = .ok (.bipush (-3), 2) := by decide +kernel
theorem dX8_feed_26 : decode cX8_feed 26 = .ok (.ireturn, 1) := by decide +kernel
theorem dX8_feed_27 : decode cX8_feed 27 = .ok (.aload_n 0, 1) := by decide +kernel
theorem dX8_feed_28 : decode cX8_feed 28 = .ok (.getfield 16, 3) := by decide +kernel
theorem dX8_feed_31 : decode cX8_feed 31 = .ok (.aload_n 0, 1) := by decide +kernel
theorem dX8_feed_32 : decode cX8_feed 32 = .ok (.getfield 50, 3) := by decide +kernel
theorem dX8_feed_35 : decode cX8_feed 35 = .ok (.iload_n 1, 1) := by decide +kernel
theorem dX8_feed_36 : decode cX8_feed 36 = .ok (.iastore, 1) := by decide +kernel
theorem dX8_feed_37 : decode cX8_feed 37 = .ok (.aload_n 0, 1) := by decide +kernel
theorem dX8_feed_38 : decode cX8_feed 38 = .ok (.dup, 1) := by decide +kernel
theorem dX8_feed_39 : decode cX8_feed 39 = .ok (.getfield 50, 3) := by decide +kernel
theorem dX8_feed_42 : decode cX8_feed 42 = .ok (.iconst 1, 1) := by decide +kernel
theorem dX8_feed_43 : decode cX8_feed 43 = .ok (.iadd, 1) := by decide +kernel
theorem dX8_feed_44 : decode cX8_feed 44 = .ok (.putfield 50, 3) := by decide +kernel
theorem dX8_feed_47 : decode cX8_feed 47 = .ok (.aload_n 0, 1) := by decide +kernel
theorem dX8_feed_48 : decode cX8_feed 48 = .ok (.getfield 50, 3) := by decide +kernel
theorem dX8_feed_51 : decode cX8_feed 51 = .ok (.ireturn, 1) := by decide +kernel
theorem dX8_end_0 : decode cX8_end 0 = .ok (.iload_n 1, 1) := by decide +kernel
theorem dX8_end_1 : decode cX8_end 1 = .ok (.i2l, 1) := by decide +kernel
theorem dX8_end_2 : decode cX8_end 2 = .ok (.lconst 0, 1) := by decide +kernel
theorem dX8_end_3 : decode cX8_end 3 = .ok (.aload_n 0, 1) := by decide +kernel
theorem dX8_end_4 : decode cX8_end 4 = .ok (.getfield 50, 3) := by decide +kernel
theorem dX8_end_7 : decode cX8_end 7 = .ok (.i2l, 1) := by decide +kernel
theorem dX8_end_8 : decode cX8_end 8 = .ok (.invokestatic 46, 3) := by decide +kernel
theorem dX8_end_11 : decode cX8_end 11 = .ok (.ifCond .ne 5, 3) := by decide +kernel
theorem dX8_end_14 : decode cX8_end 14 = .ok (.iconst (-1), 1) := by decide +kernel
theorem dX8_end_15 : decode cX8_end 15 = .ok (.ireturn, 1) := by decide +kernel
theorem dX8_end_16 : decode cX8_end 16 = .ok (.aload_n 0, 1) := by decide +kernel
theorem dX8_end_17 : decode cX8_end 17 = .ok (.getfield 50, 3) := by decide +kernel
theorem dX8_end_20 : decode cX8_end 20 = .ok (.istore_n 2, 1) := by decide +kernel
theorem dX8_end_21 : decode cX8_end 21 = .ok (.aload_n 0, 1) := by decide +kernel
theorem dX8_end_22 : decode cX8_end 22 = .ok (.iload_n 1, 1) := by decide +kernel
theorem dX8_end_23 : decode cX8_end 23 = .ok (.putfield 50, 3) := by decide +kernel
theorem dX8_end_26 : decode cX8_end 26 = .ok (.iload_n 2, 1) := by decide +kernel
theorem dX8_end_27 : decode cX8_end 27 = .ok (.ireturn, 1) := by decide +kernel
theorem dX8_byteAt_0 : decode cX8_byteAt 0 = .ok (.iload_n 1, 1) := by decide +kernel
theorem dX8_byteAt_1 : decode cX8_byteAt 1 = .ok (.aload_n 0, 1) := by decide +kernel
theorem dX8_byteAt_2 : decode cX8_byteAt 2 = .ok (.getfield 50, 3) := by decide +kernel
theorem dX8_byteAt_5 : decode cX8_byteAt 5 = .ok (.if_icmp .ge 12, 3) := by decide +kernel
theorem dX8_byteAt_8 : decode cX8_byteAt 8 = .ok (.aload_n 0, 1) := by decide +kernel
theorem dX8_byteAt_9 : decode cX8_byteAt 9 = .ok (.getfield 16, 3) := by decide +kernel
theorem dX8_byteAt_12 : decode cX8_byteAt 12 = .ok (.iload_n 1, 1) := by decide +kernel
theorem dX8_byteAt_13 : decode cX8_byteAt 13 = .ok (.iaload, 1) := by decide +kernel
theorem dX8_byteAt_14 : decode cX8_byteAt 14 = .ok (.goto 5, 3) := by decide +kernel
theorem dX8_byteAt_17 : decode cX8_byteAt 17 = .ok (.bipush (-4), 2) := by decide +kernel
theorem dX8_byteAt_19 : decode cX8_byteAt 19 = .ok (.ireturn, 1) := by decide +kernel
theorem dX8_fails_0 : decode cX8_fails 0 = .ok (.aload_n 0, 1) := by decide +kernel
theorem dX8_fails_1 : decode cX8_fails 1 = .ok (.getfield 54, 3) := by decide +kernel
theorem dX8_fails_4 : decode cX8_fails 4 = .ok (.ifCond .ne 16, 3) := by decide +kernel
theorem dX8_fails_7 : decode cX8_fails 7 = .ok (.aload_n 0, 1) := by decide +kernel
theorem dX8_fails_8 : decode cX8_fails 8 = .ok (.iload_n 1, 1) := by decide +kernel
theorem dX8_fails_9 : decode cX8_fails 9 = .ok (.putfield 54, 3) := by decide +kernel
theorem dX8_fails_12 : decode cX8_fails 12 = .ok (.aload_n 0, 1) := by decide +kernel
theorem dX8_fails_13 : decode cX8_fails 13 = .ok (.aload_n 0, 1) := by decide +kernel
theorem dX8_fails_14 : decode cX8_fails 14 = .ok (.getfield 57, 3) := by decide +kernel
theorem dX8_fails_17 : decode cX8_fails 17 = .ok (.putfield 60, 3) := by decide +kernel
theorem dX8_fails_20 : decode cX8_fails 20 = .ok (.return_, 1) := by decide +kernel
theorem dX8_nameHere_0 : decode cX8_nameHere 0 = .ok (.iconst 0, 1) := by decide +kernel
theorem dX8_nameHere_1 : decode cX8_nameHere 1 = .ok (.istore_n 1, 1) := by decide +kernel
theorem dX8_nameHere_2 : decode cX8_nameHere 2 = .ok (.iload_n 1, 1) := by decide +kernel
theorem dX8_nameHere_3 : decode cX8_nameHere 3 = .ok (.bipush 6, 2) := by decide +kernel
theorem dX8_nameHere_5 : decode cX8_nameHere 5 = .ok (.if_icmp .ge 113, 3) := by decide +kernel
theorem dX8_nameHere_8 : decode cX8_nameHere 8 = .ok (.aload_n 0, 1) := by decide +kernel
theorem dX8_nameHere_9 : decode cX8_nameHere 9 = .ok (.getfield 63, 3) := by decide +kernel
theorem dX8_nameHere_12 : decode cX8_nameHere 12 = .ok (.iconst 1, 1) := by decide +kernel
theorem dX8_nameHere_13 : decode cX8_nameHere 13 = .ok (.if_icmp .ne 105, 3) := by decide +kernel
theorem dX8_nameHere_16 : decode cX8_nameHere 16 = .ok (.aload_n 0, 1) := by decide +kernel
theorem dX8_nameHere_17 : decode cX8_nameHere 17 = .ok (.getfield 66, 3) := by decide +kernel
theorem dX8_nameHere_20 : decode cX8_nameHere 20 = .ok (.aload_n 0, 1) := by decide +kernel
theorem dX8_nameHere_21 : decode cX8_nameHere 21 = .ok (.getfield 57, 3) := by decide +kernel
theorem dX8_nameHere_24 : decode cX8_nameHere 24 = .ok (.isub, 1) := by decide +kernel
theorem dX8_nameHere_25 : decode cX8_nameHere 25 = .ok (.aload_n 0, 1) := by decide +kernel
theorem dX8_nameHere_26 : decode cX8_nameHere 26 = .ok (.getfield 19, 3) := by decide +kernel
theorem dX8_nameHere_29 : decode cX8_nameHere 29 = .ok (.iload_n 1, 1) := by decide +kernel
theorem dX8_nameHere_30 : decode cX8_nameHere 30 = .ok (.iconst 1, 1) := by decide +kernel
theorem dX8_nameHere_31 : decode cX8_nameHere 31 = .ok (.iadd, 1) := by decide +kernel
theorem dX8_nameHere_32 : decode cX8_nameHere 32 = .ok (.iaload, 1) := by decide +kernel
theorem dX8_nameHere_33 : decode cX8_nameHere 33 = .ok (.aload_n 0, 1) := by decide +kernel
theorem dX8_nameHere_34 : decode cX8_nameHere 34 = .ok (.getfield 19, 3) := by decide +kernel
theorem dX8_nameHere_37 : decode cX8_nameHere 37 = .ok (.iload_n 1, 1) := by decide +kernel
theorem dX8_nameHere_38 : decode cX8_nameHere 38 = .ok (.iaload, 1) := by decide +kernel
theorem dX8_nameHere_39 : decode cX8_nameHere 39 = .ok (.isub, 1) := by decide +kernel
theorem dX8_nameHere_40 : decode cX8_nameHere 40 = .ok (.if_icmp .ne 7, 3) := by decide +kernel
theorem dX8_nameHere_43 : decode cX8_nameHere 43 = .ok (.iconst 1, 1) := by decide +kernel
theorem dX8_nameHere_44 : decode cX8_nameHere 44 = .ok (.goto 4, 3) := by decide +kernel
theorem dX8_nameHere_47 : decode cX8_nameHere 47 = .ok (.iconst 0, 1) := by decide +kernel
theorem dX8_nameHere_48 : decode cX8_nameHere 48 = .ok (.istore_n 2, 1) := by decide +kernel
theorem dX8_nameHere_49 : decode cX8_nameHere 49 = .ok (.iconst 0, 1) := by decide +kernel
theorem dX8_nameHere_50 : decode cX8_nameHere 50 = .ok (.istore_n 3, 1) := by decide +kernel
theorem dX8_nameHere_51 : decode cX8_nameHere 51 = .ok (.iload_n 2, 1) := by decide +kernel
theorem dX8_nameHere_52 : decode cX8_nameHere 52 = .ok (.ifCond .eq 54, 3) := by decide +kernel
theorem dX8_nameHere_55 : decode cX8_nameHere 55 = .ok (.iload_n 3, 1) := by decide +kernel
theorem dX8_nameHere_56 : decode cX8_nameHere 56 = .ok (.aload_n 0, 1) := by decide +kernel
theorem dX8_nameHere_57 : decode cX8_nameHere 57 = .ok (.getfield 66, 3) := by decide +kernel
theorem dX8_nameHere_60 : decode cX8_nameHere 60 = .ok (.aload_n 0, 1) := by decide +kernel
theorem dX8_nameHere_61 : decode cX8_nameHere 61 = .ok (.getfield 57, 3) := by decide +kernel
theorem dX8_nameHere_64 : decode cX8_nameHere 64 = .ok (.isub, 1) := by decide +kernel
theorem dX8_nameHere_65 : decode cX8_nameHere 65 = .ok (.if_icmp .ge 41, 3) := by decide +kernel
theorem dX8_nameHere_68 : decode cX8_nameHere 68 = .ok (.aload_n 0, 1) := by decide +kernel
theorem dX8_nameHere_69 : decode cX8_nameHere 69 = .ok (.aload_n 0, 1) := by decide +kernel
theorem dX8_nameHere_70 : decode cX8_nameHere 70 = .ok (.getfield 57, 3) := by decide +kernel
theorem dX8_nameHere_73 : decode cX8_nameHere 73 = .ok (.iload_n 3, 1) := by decide +kernel
theorem dX8_nameHere_74 : decode cX8_nameHere 74 = .ok (.iadd, 1) := by decide +kernel
theorem dX8_nameHere_75 : decode cX8_nameHere 75 = .ok (.invokevirtual 69, 3) := by decide +kernel
theorem dX8_nameHere_78 : decode cX8_nameHere 78 = .ok (.aload_n 0, 1) := by decide +kernel
theorem dX8_nameHere_79 : decode cX8_nameHere 79 = .ok (.getfield 22, 3) := by decide +kernel
theorem dX8_nameHere_82 : decode cX8_nameHere 82 = .ok (.aload_n 0, 1) := by decide +kernel
theorem dX8_nameHere_83 : decode cX8_nameHere 83 = .ok (.getfield 19, 3) := by decide +kernel
theorem dX8_nameHere_86 : decode cX8_nameHere 86 = .ok (.iload_n 1, 1) := by decide +kernel
theorem dX8_nameHere_87 : decode cX8_nameHere 87 = .ok (.iaload, 1) := by decide +kernel
theorem dX8_nameHere_88 : decode cX8_nameHere 88 = .ok (.iload_n 3, 1) := by decide +kernel
theorem dX8_nameHere_89 : decode cX8_nameHere 89 = .ok (.iadd, 1) := by decide +kernel
theorem dX8_nameHere_90 : decode cX8_nameHere 90 = .ok (.iaload, 1) := by decide +kernel
theorem dX8_nameHere_91 : decode cX8_nameHere 91 = .ok (.if_icmp .ne 7, 3) := by decide +kernel
theorem dX8_nameHere_94 : decode cX8_nameHere 94 = .ok (.iconst 1, 1) := by decide +kernel
theorem dX8_nameHere_95 : decode cX8_nameHere 95 = .ok (.goto 4, 3) := by decide +kernel
theorem dX8_nameHere_98 : decode cX8_nameHere 98 = .ok (.iconst 0, 1) := by decide +kernel
theorem dX8_nameHere_99 : decode cX8_nameHere 99 = .ok (.istore_n 2, 1) := by decide +kernel
theorem dX8_nameHere_100 : decode cX8_nameHere 100 = .ok (.iinc 3 1, 3) := by decide +kernel
theorem dX8_nameHere_103 : decode cX8_nameHere 103 = .ok (.goto (-52), 3) := by decide +kernel
theorem dX8_nameHere_106 : decode cX8_nameHere 106 = .ok (.iload_n 2, 1) := by decide +kernel
theorem dX8_nameHere_107 : decode cX8_nameHere 107 = .ok (.ifCond .eq 5, 3) := by decide +kernel
theorem dX8_nameHere_110 : decode cX8_nameHere 110 = .ok (.iload_n 1, 1) := by decide +kernel
theorem dX8_nameHere_111 : decode cX8_nameHere 111 = .ok (.ireturn, 1) := by decide +kernel
theorem dX8_nameHere_112 : decode cX8_nameHere 112 = .ok (.iinc 1 1, 3) := by decide +kernel
theorem dX8_nameHere_115 : decode cX8_nameHere 115 = .ok (.goto (-113), 3) := by decide +kernel
theorem dX8_nameHere_118 : decode cX8_nameHere 118 = .ok (.bipush (-4), 2) := by decide +kernel
theorem dX8_nameHere_120 : decode cX8_nameHere 120 = .ok (.ireturn, 1) := by decide +kernel
theorem dX8_step_0 : decode cX8_step 0 = .ok (.aload_n 0, 1) := by decide +kernel
theorem dX8_step_1 : decode cX8_step 1 = .ok (.getfield 54, 3) := by decide +kernel
theorem dX8_step_4 : decode cX8_step 4 = .ok (.ifCond .le 4, 3) := by decide +kernel
theorem dX8_step_7 : decode cX8_step 7 = .ok (.return_, 1) := by decide +kernel
theorem dX8_step_8 : decode cX8_step 8 = .ok (.aload_n 0, 1) := by decide +kernel
theorem dX8_step_9 : decode cX8_step 9 = .ok (.aload_n 0, 1) := by decide +kernel
theorem dX8_step_10 : decode cX8_step 10 = .ok (.getfield 66, 3) := by decide +kernel
theorem dX8_step_13 : decode cX8_step 13 = .ok (.invokevirtual 69, 3) := by decide +kernel
theorem dX8_step_16 : decode cX8_step 16 = .ok (.bipush 32, 2) := by decide +kernel
theorem dX8_step_18 : decode cX8_step 18 = .ok (.if_icmp .ne 16, 3) := by decide +kernel
theorem dX8_step_21 : decode cX8_step 21 = .ok (.aload_n 0, 1) := by decide +kernel
theorem dX8_step_22 : decode cX8_step 22 = .ok (.dup, 1) := by decide +kernel
theorem dX8_step_23 : decode cX8_step 23 = .ok (.getfield 66, 3) := by decide +kernel
theorem dX8_step_26 : decode cX8_step 26 = .ok (.iconst 1, 1) := by decide +kernel
theorem dX8_step_27 : decode cX8_step 27 = .ok (.iadd, 1) := by decide +kernel
theorem dX8_step_28 : decode cX8_step 28 = .ok (.putfield 66, 3) := by decide +kernel
theorem dX8_step_31 : decode cX8_step 31 = .ok (.goto (-23), 3) := by decide +kernel
theorem dX8_step_34 : decode cX8_step 34 = .ok (.aload_n 0, 1) := by decide +kernel
theorem dX8_step_35 : decode cX8_step 35 = .ok (.aload_n 0, 1) := by decide +kernel
theorem dX8_step_36 : decode cX8_step 36 = .ok (.getfield 66, 3) := by decide +kernel
theorem dX8_step_39 : decode cX8_step 39 = .ok (.putfield 57, 3) := by decide +kernel
theorem dX8_step_42 : decode cX8_step 42 = .ok (.aload_n 0, 1) := by decide +kernel
theorem dX8_step_43 : decode cX8_step 43 = .ok (.aload_n 0, 1) := by decide +kernel
theorem dX8_step_44 : decode cX8_step 44 = .ok (.getfield 66, 3) := by decide +kernel
theorem dX8_step_47 : decode cX8_step 47 = .ok (.invokevirtual 69, 3) := by decide +kernel
theorem dX8_step_50 : decode cX8_step 50 = .ok (.istore_n 1, 1) := by decide +kernel
theorem dX8_step_51 : decode cX8_step 51 = .ok (.aload_n 0, 1) := by decide +kernel
theorem dX8_step_52 : decode cX8_step 52 = .ok (.iconst 0, 1) := by decide +kernel
theorem dX8_step_53 : decode cX8_step 53 = .ok (.putfield 73, 3) := by decide +kernel
theorem dX8_step_56 : decode cX8_step 56 = .ok (.iload_n 1, 1) := by decide +kernel
theorem dX8_step_57 : decode cX8_step 57 = .ok (.bipush (-4), 2) := by decide +kernel
theorem dX8_step_59 : decode cX8_step 59 = .ok (.if_icmp .ne 11, 3) := by decide +kernel
theorem dX8_step_62 : decode cX8_step 62 = .ok (.aload_n 0, 1) := by decide +kernel
theorem dX8_step_63 : decode cX8_step 63 = .ok (.iconst 0, 1) := by decide +kernel
theorem dX8_step_64 : decode cX8_step 64 = .ok (.putfield 63, 3) := by decide +kernel
theorem dX8_step_67 : decode cX8_step 67 = .ok (.goto 202, 3) := by decide +kernel
theorem dX8_step_70 : decode cX8_step 70 = .ok (.iload_n 1, 1) := by decide +kernel
theorem dX8_step_71 : decode cX8_step 71 = .ok (.i2l, 1) := by decide +kernel
theorem dX8_step_72 : decode cX8_step 72 = .ok (.ldc2_w 76, 3) := by decide +kernel
theorem dX8_step_75 : decode cX8_step 75 = .ok (.ldc2_w 78, 3) := by decide +kernel
theorem dX8_step_78 : decode cX8_step 78 = .ok (.invokestatic 46, 3) := by decide +kernel
theorem dX8_step_81 : decode cX8_step 81 = .ok (.ifCond .eq 45, 3) := by decide +kernel
theorem dX8_step_84 : decode cX8_step 84 = .ok (.aload_n 0, 1) := by decide +kernel
theorem dX8_step_85 : decode cX8_step 85 = .ok (.aload_n 0, 1) := by decide +kernel
theorem dX8_step_86 : decode cX8_step 86 = .ok (.getfield 66, 3) := by decide +kernel
theorem dX8_step_89 : decode cX8_step 89 = .ok (.invokevirtual 69, 3) := by decide +kernel
theorem dX8_step_92 : decode cX8_step 92 = .ok (.i2l, 1) := by decide +kernel
theorem dX8_step_93 : decode cX8_step 93 = .ok (.ldc2_w 76, 3) := by decide +kernel
theorem dX8_step_96 : decode cX8_step 96 = .ok (.ldc2_w 78, 3) := by decide +kernel
theorem dX8_step_99 : decode cX8_step 99 = .ok (.invokestatic 46, 3) := by decide +kernel
theorem dX8_step_102 : decode cX8_step 102 = .ok (.ifCond .eq 16, 3) := by decide +kernel
theorem dX8_step_105 : decode cX8_step 105 = .ok (.aload_n 0, 1) := by decide +kernel
theorem dX8_step_106 : decode cX8_step 106 = .ok (.dup, 1) := by decide +kernel
theorem dX8_step_107 : decode cX8_step 107 = .ok (.getfield 66, 3) := by decide +kernel
theorem dX8_step_110 : decode cX8_step 110 = .ok (.iconst 1, 1) := by decide +kernel
theorem dX8_step_111 : decode cX8_step 111 = .ok (.iadd, 1) := by decide +kernel
theorem dX8_step_112 : decode cX8_step 112 = .ok (.putfield 66, 3) := by decide +kernel
theorem dX8_step_115 : decode cX8_step 115 = .ok (.goto (-31), 3) := by decide +kernel
theorem dX8_step_118 : decode cX8_step 118 = .ok (.aload_n 0, 1) := by decide +kernel
theorem dX8_step_119 : decode cX8_step 119 = .ok (.iconst 1, 1) := by decide +kernel
theorem dX8_step_120 : decode cX8_step 120 = .ok (.putfield 63, 3) := by decide +kernel
theorem dX8_step_123 : decode cX8_step 123 = .ok (.goto 146, 3) := by decide +kernel
theorem dX8_step_126 : decode cX8_step 126 = .ok (.iload_n 1, 1) := by decide +kernel
theorem dX8_step_127 : decode cX8_step 127 = .ok (.i2l, 1) := by decide +kernel
theorem dX8_step_128 : decode cX8_step 128 = .ok (.ldc2_w 80, 3) := by decide +kernel
theorem dX8_step_131 : decode cX8_step 131 = .ok (.ldc2_w 82, 3) := by decide +kernel
theorem dX8_step_134 : decode cX8_step 134 = .ok (.invokestatic 46, 3) := by decide +kernel
theorem dX8_step_137 : decode cX8_step 137 = .ok (.ifCond .eq 106, 3) := by decide +kernel
theorem dX8_step_140 : decode cX8_step 140 = .ok (.aload_n 0, 1) := by decide +kernel
theorem dX8_step_141 : decode cX8_step 141 = .ok (.aload_n 0, 1) := by decide +kernel
theorem dX8_step_142 : decode cX8_step 142 = .ok (.getfield 66, 3) := by decide +kernel
theorem dX8_step_145 : decode cX8_step 145 = .ok (.invokevirtual 69, 3) := by decide +kernel
theorem dX8_step_148 : decode cX8_step 148 = .ok (.i2l, 1) := by decide +kernel
theorem dX8_step_149 : decode cX8_step 149 = .ok (.ldc2_w 80, 3) := by decide +kernel
theorem dX8_step_152 : decode cX8_step 152 = .ok (.ldc2_w 82, 3) := by decide +kernel
theorem dX8_step_155 : decode cX8_step 155 = .ok (.invokestatic 46, 3) := by decide +kernel
theorem dX8_step_158 : decode cX8_step 158 = .ok (.ifCond .eq 59, 3) := by decide +kernel
theorem dX8_step_161 : decode cX8_step 161 = .ok (.aload_n 0, 1) := by decide +kernel
theorem dX8_step_162 : decode cX8_step 162 = .ok (.aload_n 0, 1) := by decide +kernel
theorem dX8_step_163 : decode cX8_step 163 = .ok (.getfield 66, 3) := by decide +kernel
theorem dX8_step_166 : decode cX8_step 166 = .ok (.aload_n 0, 1) := by decide +kernel
theorem dX8_step_167 : decode cX8_step 167 = .ok (.getfield 57, 3) := by decide +kernel
theorem dX8_step_170 : decode cX8_step 170 = .ok (.isub, 1) := by decide +kernel
theorem dX8_step_171 : decode cX8_step 171 = .ok (.iconst 2, 1) := by decide +kernel
theorem dX8_step_172 : decode cX8_step 172 = .ok (.if_icmp .ge 25, 3) := by decide +kernel
theorem dX8_step_175 : decode cX8_step 175 = .ok (.bipush 10, 2) := by decide +kernel
theorem dX8_step_177 : decode cX8_step 177 = .ok (.aload_n 0, 1) := by decide +kernel
theorem dX8_step_178 : decode cX8_step 178 = .ok (.getfield 73, 3) := by decide +kernel
theorem dX8_step_181 : decode cX8_step 181 = .ok (.imul, 1) := by decide +kernel
theorem dX8_step_182 : decode cX8_step 182 = .ok (.aload_n 0, 1) := by decide +kernel
theorem dX8_step_183 : decode cX8_step 183 = .ok (.aload_n 0, 1) := by decide +kernel
theorem dX8_step_184 : decode cX8_step 184 = .ok (.getfield 66, 3) := by decide +kernel
theorem dX8_step_187 : decode cX8_step 187 = .ok (.invokevirtual 69, 3) := by decide +kernel
theorem dX8_step_190 : decode cX8_step 190 = .ok (.iadd, 1) := by decide +kernel
theorem dX8_step_191 : decode cX8_step 191 = .ok (.bipush 48, 2) := by decide +kernel
theorem dX8_step_193 : decode cX8_step 193 = .ok (.isub, 1) := by decide +kernel
theorem dX8_step_194 : decode cX8_step 194 = .ok (.goto 7, 3) := by decide +kernel
theorem dX8_step_197 : decode cX8_step 197 = .ok (.aload_n 0, 1) := by decide +kernel
theorem dX8_step_198 : decode cX8_step 198 = .ok (.getfield 73, 3) := by decide +kernel
theorem dX8_step_201 : decode cX8_step 201 = .ok (.putfield 73, 3) := by decide +kernel
theorem dX8_step_204 : decode cX8_step 204 = .ok (.aload_n 0, 1) := by decide +kernel
theorem dX8_step_205 : decode cX8_step 205 = .ok (.dup, 1) := by decide +kernel
theorem dX8_step_206 : decode cX8_step 206 = .ok (.getfield 66, 3) := by decide +kernel
theorem dX8_step_209 : decode cX8_step 209 = .ok (.iconst 1, 1) := by decide +kernel
theorem dX8_step_210 : decode cX8_step 210 = .ok (.iadd, 1) := by decide +kernel
theorem dX8_step_211 : decode cX8_step 211 = .ok (.putfield 66, 3) := by decide +kernel
theorem dX8_step_214 : decode cX8_step 214 = .ok (.goto (-74), 3) := by decide +kernel
theorem dX8_step_217 : decode cX8_step 217 = .ok (.aload_n 0, 1) := by decide +kernel
theorem dX8_step_218 : decode cX8_step 218 = .ok (.iconst 2, 1) := by decide +kernel
theorem dX8_step_219 : decode cX8_step 219 = .ok (.putfield 63, 3) := by decide +kernel
theorem dX8_step_222 : decode cX8_step 222 = .ok (.aload_n 0, 1) := by decide +kernel
theorem dX8_step_223 : decode cX8_step 223 = .ok (.getfield 66, 3) := by decide +kernel
theorem dX8_step_226 : decode cX8_step 226 = .ok (.aload_n 0, 1) := by decide +kernel
theorem dX8_step_227 : decode cX8_step 227 = .ok (.getfield 57, 3) := by decide +kernel
theorem dX8_step_230 : decode cX8_step 230 = .ok (.isub, 1) := by decide +kernel
theorem dX8_step_231 : decode cX8_step 231 = .ok (.iconst 2, 1) := by decide +kernel
theorem dX8_step_232 : decode cX8_step 232 = .ok (.if_icmp .le 37, 3) := by decide +kernel
theorem dX8_step_235 : decode cX8_step 235 = .ok (.aload_n 0, 1) := by decide +kernel
theorem dX8_step_236 : decode cX8_step 236 = .ok (.iconst 1, 1) := by decide +kernel
theorem dX8_step_237 : decode cX8_step 237 = .ok (.invokevirtual 84, 3) := by decide +kernel
theorem dX8_step_240 : decode cX8_step 240 = .ok (.goto 29, 3) := by decide +kernel
theorem dX8_step_243 : decode cX8_step 243 = .ok (.aload_n 0, 1) := by decide +kernel
theorem dX8_step_244 : decode cX8_step 244 = .ok (.iconst 3, 1) := by decide +kernel
theorem dX8_step_245 : decode cX8_step 245 = .ok (.putfield 63, 3) := by decide +kernel
theorem dX8_step_248 : decode cX8_step 248 = .ok (.aload_n 0, 1) := by decide +kernel
theorem dX8_step_249 : decode cX8_step 249 = .ok (.dup, 1) := by decide +kernel
theorem dX8_step_250 : decode cX8_step 250 = .ok (.getfield 66, 3) := by decide +kernel
theorem dX8_step_253 : decode cX8_step 253 = .ok (.iconst 1, 1) := by decide +kernel
theorem dX8_step_254 : decode cX8_step 254 = .ok (.iadd, 1) := by decide +kernel
theorem dX8_step_255 : decode cX8_step 255 = .ok (.putfield 66, 3) := by decide +kernel
theorem dX8_step_258 : decode cX8_step 258 = .ok (.iload_n 1, 1) := by decide +kernel
theorem dX8_step_259 : decode cX8_step 259 = .ok (.bipush 59, 2) := by decide +kernel
theorem dX8_step_261 : decode cX8_step 261 = .ok (.if_icmp .eq 8, 3) := by decide +kernel
theorem dX8_step_264 : decode cX8_step 264 = .ok (.aload_n 0, 1) := by decide +kernel
theorem dX8_step_265 : decode cX8_step 265 = .ok (.iconst 1, 1) := by decide +kernel
theorem dX8_step_266 : decode cX8_step 266 = .ok (.invokevirtual 84, 3) := by decide +kernel
theorem dX8_step_269 : decode cX8_step 269 = .ok (.return_, 1) := by decide +kernel
theorem dX8_number_0 : decode cX8_number 0 = .ok (.aload_n 0, 1) := by decide +kernel
theorem dX8_number_1 : decode cX8_number 1 = .ok (.getfield 54, 3) := by decide +kernel
theorem dX8_number_4 : decode cX8_number 4 = .ok (.ifCond .ne 16, 3) := by decide +kernel
theorem dX8_number_7 : decode cX8_number 7 = .ok (.aload_n 0, 1) := by decide +kernel
theorem dX8_number_8 : decode cX8_number 8 = .ok (.getfield 63, 3) := by decide +kernel
theorem dX8_number_11 : decode cX8_number 11 = .ok (.iconst 2, 1) := by decide +kernel
theorem dX8_number_12 : decode cX8_number 12 = .ok (.if_icmp .eq 8, 3) := by decide +kernel
theorem dX8_number_15 : decode cX8_number 15 = .ok (.aload_n 0, 1) := by decide +kernel
theorem dX8_number_16 : decode cX8_number 16 = .ok (.iconst 2, 1) := by decide +kernel
theorem dX8_number_17 : decode cX8_number 17 = .ok (.invokevirtual 84, 3) := by decide +kernel
theorem dX8_number_20 : decode cX8_number 20 = .ok (.aload_n 0, 1) := by decide +kernel
theorem dX8_number_21 : decode cX8_number 21 = .ok (.getfield 54, 3) := by decide +kernel
theorem dX8_number_24 : decode cX8_number 24 = .ok (.ifCond .ne 23, 3) := by decide +kernel
theorem dX8_number_27 : decode cX8_number 27 = .ok (.aload_n 0, 1) := by decide +kernel
theorem dX8_number_28 : decode cX8_number 28 = .ok (.getfield 73, 3) := by decide +kernel
theorem dX8_number_31 : decode cX8_number 31 = .ok (.i2l, 1) := by decide +kernel
theorem dX8_number_32 : decode cX8_number 32 = .ok (.iload_n 1, 1) := by decide +kernel
theorem dX8_number_33 : decode cX8_number 33 = .ok (.i2l, 1) := by decide +kernel
theorem dX8_number_34 : decode cX8_number 34 = .ok (.iload_n 2, 1) := by decide +kernel
theorem dX8_number_35 : decode cX8_number 35 = .ok (.i2l, 1) := by decide +kernel
theorem dX8_number_36 : decode cX8_number 36 = .ok (.invokestatic 46, 3) := by decide +kernel
theorem dX8_number_39 : decode cX8_number 39 = .ok (.ifCond .ne 8, 3) := by decide +kernel
theorem dX8_number_42 : decode cX8_number 42 = .ok (.aload_n 0, 1) := by decide +kernel
theorem dX8_number_43 : decode cX8_number 43 = .ok (.iconst 3, 1) := by decide +kernel
theorem dX8_number_44 : decode cX8_number 44 = .ok (.invokevirtual 84, 3) := by decide +kernel
theorem dX8_number_47 : decode cX8_number 47 = .ok (.aload_n 0, 1) := by decide +kernel
theorem dX8_number_48 : decode cX8_number 48 = .ok (.getfield 54, 3) := by decide +kernel
theorem dX8_number_51 : decode cX8_number 51 = .ok (.ifCond .ne 10, 3) := by decide +kernel
theorem dX8_number_54 : decode cX8_number 54 = .ok (.aload_n 0, 1) := by decide +kernel
theorem dX8_number_55 : decode cX8_number 55 = .ok (.getfield 73, 3) := by decide +kernel
theorem dX8_number_58 : decode cX8_number 58 = .ok (.goto 4, 3) := by decide +kernel
theorem dX8_number_61 : decode cX8_number 61 = .ok (.iload_n 1, 1) := by decide +kernel
theorem dX8_number_62 : decode cX8_number 62 = .ok (.istore_n 3, 1) := by decide +kernel
theorem dX8_number_63 : decode cX8_number 63 = .ok (.aload_n 0, 1) := by decide +kernel
theorem dX8_number_64 : decode cX8_number 64 = .ok (.invokevirtual 88, 3) := by decide +kernel
theorem dX8_number_67 : decode cX8_number 67 = .ok (.iload_n 3, 1) := by decide +kernel
theorem dX8_number_68 : decode cX8_number 68 = .ok (.ireturn, 1) := by decide +kernel
theorem dX8_readMore_0 : decode cX8_readMore 0 = .ok (.iload_n 1, 1) := by decide +kernel
theorem dX8_readMore_1 : decode cX8_readMore 1 = .ok (.iconst 3, 1) := by decide +kernel
theorem dX8_readMore_2 : decode cX8_readMore 2 = .ok (.if_icmp .gt 47, 3) := by decide +kernel
theorem dX8_readMore_5 : decode cX8_readMore 5 = .ok (.aload_n 0, 1) := by decide +kernel
theorem dX8_readMore_6 : decode cX8_readMore 6 = .ok (.getfield 13, 3) := by decide +kernel
theorem dX8_readMore_9 : decode cX8_readMore 9 = .ok (.bipush 12, 2) := by decide +kernel
theorem dX8_readMore_11 : decode cX8_readMore 11 = .ok (.aload_n 0, 1) := by decide +kernel
theorem dX8_readMore_12 : decode cX8_readMore 12 = .ok (.getfield 91, 3) := by decide +kernel
theorem dX8_readMore_15 : decode cX8_readMore 15 = .ok (.iadd, 1) := by decide +kernel
theorem dX8_readMore_16 : decode cX8_readMore 16 = .ok (.iload_n 1, 1) := by decide +kernel
theorem dX8_readMore_17 : decode cX8_readMore 17 = .ok (.iastore, 1) := by decide +kernel
theorem dX8_readMore_18 : decode cX8_readMore 18 = .ok (.aload_n 0, 1) := by decide +kernel
theorem dX8_readMore_19 : decode cX8_readMore 19 = .ok (.getfield 13, 3) := by decide +kernel
theorem dX8_readMore_22 : decode cX8_readMore 22 = .ok (.bipush 17, 2) := by decide +kernel
theorem dX8_readMore_24 : decode cX8_readMore 24 = .ok (.aload_n 0, 1) := by decide +kernel
theorem dX8_readMore_25 : decode cX8_readMore 25 = .ok (.getfield 91, 3) := by decide +kernel
theorem dX8_readMore_28 : decode cX8_readMore 28 = .ok (.iadd, 1) := by decide +kernel
theorem dX8_readMore_29 : decode cX8_readMore 29 = .ok (.aload_n 0, 1) := by decide +kernel
theorem dX8_readMore_30 : decode cX8_readMore 30 = .ok (.iconst 0, 1) := by decide +kernel
theorem dX8_readMore_31 : decode cX8_readMore 31 = .ok (.iconst 5, 1) := by decide +kernel
theorem dX8_readMore_32 : decode cX8_readMore 32 = .ok (.invokevirtual 94, 3) := by decide +kernel
theorem dX8_readMore_35 : decode cX8_readMore 35 = .ok (.iastore, 1) := by decide +kernel
theorem dX8_readMore_36 : decode cX8_readMore 36 = .ok (.aload_n 0, 1) := by decide +kernel
theorem dX8_readMore_37 : decode cX8_readMore 37 = .ok (.dup, 1) := by decide +kernel
theorem dX8_readMore_38 : decode cX8_readMore 38 = .ok (.getfield 91, 3) := by decide +kernel
theorem dX8_readMore_41 : decode cX8_readMore 41 = .ok (.iconst 1, 1) := by decide +kernel
theorem dX8_readMore_42 : decode cX8_readMore 42 = .ok (.iadd, 1) := by decide +kernel
theorem dX8_readMore_43 : decode cX8_readMore 43 = .ok (.putfield 91, 3) := by decide +kernel
theorem dX8_readMore_46 : decode cX8_readMore 46 = .ok (.goto 179, 3) := by decide +kernel
theorem dX8_readMore_49 : decode cX8_readMore 49 = .ok (.iload_n 1, 1) := by decide +kernel
theorem dX8_readMore_50 : decode cX8_readMore 50 = .ok (.iconst 4, 1) := by decide +kernel
theorem dX8_readMore_51 : decode cX8_readMore 51 = .ok (.if_icmp .ne 71, 3) := by decide +kernel
theorem dX8_readMore_54 : decode cX8_readMore 54 = .ok (.aload_n 0, 1) := by decide +kernel
theorem dX8_readMore_55 : decode cX8_readMore 55 = .ok (.getfield 13, 3) := by decide +kernel
theorem dX8_readMore_58 : decode cX8_readMore 58 = .ok (.bipush 41, 2) := by decide +kernel
theorem dX8_readMore_60 : decode cX8_readMore 60 = .ok (.iaload, 1) := by decide +kernel
theorem dX8_readMore_61 : decode cX8_readMore 61 = .ok (.istore_n 2, 1) := by decide +kernel
theorem dX8_readMore_62 : decode cX8_readMore 62 = .ok (.aload_n 0, 1) := by decide +kernel
theorem dX8_readMore_63 : decode cX8_readMore 63 = .ok (.getfield 13, 3) := by decide +kernel
theorem dX8_readMore_66 : decode cX8_readMore 66 = .ok (.bipush 32, 2) := by decide +kernel
theorem dX8_readMore_68 : decode cX8_readMore 68 = .ok (.iload_n 2, 1) := by decide +kernel
theorem dX8_readMore_69 : decode cX8_readMore 69 = .ok (.iadd, 1) := by decide +kernel
theorem dX8_readMore_70 : decode cX8_readMore 70 = .ok (.aload_n 0, 1) := by decide +kernel
theorem dX8_readMore_71 : decode cX8_readMore 71 = .ok (.iconst 0, 1) := by decide +kernel
theorem dX8_readMore_72 : decode cX8_readMore 72 = .ok (.iconst 5, 1) := by decide +kernel
theorem dX8_readMore_73 : decode cX8_readMore 73 = .ok (.invokevirtual 94, 3) := by decide +kernel
theorem dX8_readMore_76 : decode cX8_readMore 76 = .ok (.iastore, 1) := by decide +kernel
theorem dX8_readMore_77 : decode cX8_readMore 77 = .ok (.aload_n 0, 1) := by decide +kernel
theorem dX8_readMore_78 : decode cX8_readMore 78 = .ok (.getfield 13, 3) := by decide +kernel
theorem dX8_readMore_81 : decode cX8_readMore 81 = .ok (.bipush 35, 2) := by decide +kernel
theorem dX8_readMore_83 : decode cX8_readMore 83 = .ok (.iload_n 2, 1) := by decide +kernel
theorem dX8_readMore_84 : decode cX8_readMore 84 = .ok (.iadd, 1) := by decide +kernel
theorem dX8_readMore_85 : decode cX8_readMore 85 = .ok (.aload_n 0, 1) := by decide +kernel
theorem dX8_readMore_86 : decode cX8_readMore 86 = .ok (.iconst 0, 1) := by decide +kernel
theorem dX8_readMore_87 : decode cX8_readMore 87 = .ok (.iconst 5, 1) := by decide +kernel
theorem dX8_readMore_88 : decode cX8_readMore 88 = .ok (.invokevirtual 94, 3) := by decide +kernel
theorem dX8_readMore_91 : decode cX8_readMore 91 = .ok (.iastore, 1) := by decide +kernel
theorem dX8_readMore_92 : decode cX8_readMore 92 = .ok (.aload_n 0, 1) := by decide +kernel
theorem dX8_readMore_93 : decode cX8_readMore 93 = .ok (.getfield 13, 3) := by decide +kernel
theorem dX8_readMore_96 : decode cX8_readMore 96 = .ok (.bipush 38, 2) := by decide +kernel
theorem dX8_readMore_98 : decode cX8_readMore 98 = .ok (.iload_n 2, 1) := by decide +kernel
theorem dX8_readMore_99 : decode cX8_readMore 99 = .ok (.iadd, 1) := by decide +kernel
theorem dX8_readMore_100 : decode cX8_readMore 100 = .ok (.aload_n 0, 1) := by decide +kernel
theorem dX8_readMore_101 : decode cX8_readMore 101 = .ok (.iconst 1, 1) := by decide +kernel
theorem dX8_readMore_102 : decode cX8_readMore 102 = .ok (.bipush 9, 2) := by decide +kernel
theorem dX8_readMore_104 : decode cX8_readMore 104 = .ok (.invokevirtual 94, 3) := by decide +kernel
theorem dX8_readMore_107 : decode cX8_readMore 107 = .ok (.iastore, 1) := by decide +kernel
theorem dX8_readMore_108 : decode cX8_readMore 108 = .ok (.aload_n 0, 1) := by decide +kernel
theorem dX8_readMore_109 : decode cX8_readMore 109 = .ok (.getfield 13, 3) := by decide +kernel
theorem dX8_readMore_112 : decode cX8_readMore 112 = .ok (.bipush 41, 2) := by decide +kernel
theorem dX8_readMore_114 : decode cX8_readMore 114 = .ok (.dup2, 1) := by decide +kernel
theorem dX8_readMore_115 : decode cX8_readMore 115 = .ok (.iaload, 1) := by decide +kernel
theorem dX8_readMore_116 : decode cX8_readMore 116 = .ok (.iconst 1, 1) := by decide +kernel
theorem dX8_readMore_117 : decode cX8_readMore 117 = .ok (.iadd, 1) := by decide +kernel
theorem dX8_readMore_118 : decode cX8_readMore 118 = .ok (.iastore, 1) := by decide +kernel
theorem dX8_readMore_119 : decode cX8_readMore 119 = .ok (.goto 106, 3) := by decide +kernel
theorem dX8_readMore_122 : decode cX8_readMore 122 = .ok (.aload_n 0, 1) := by decide +kernel
theorem dX8_readMore_123 : decode cX8_readMore 123 = .ok (.getfield 54, 3) := by decide +kernel
theorem dX8_readMore_126 : decode cX8_readMore 126 = .ok (.ifCond .ne 46, 3) := by decide +kernel
theorem dX8_readMore_129 : decode cX8_readMore 129 = .ok (.aload_n 0, 1) := by decide +kernel
theorem dX8_readMore_130 : decode cX8_readMore 130 = .ok (.getfield 63, 3) := by decide +kernel
theorem dX8_readMore_133 : decode cX8_readMore 133 = .ok (.iconst 2, 1) := by decide +kernel
theorem dX8_readMore_134 : decode cX8_readMore 134 = .ok (.if_icmp .ne 38, 3) := by decide +kernel
theorem dX8_readMore_137 : decode cX8_readMore 137 = .ok (.aload_n 0, 1) := by decide +kernel
theorem dX8_readMore_138 : decode cX8_readMore 138 = .ok (.getfield 73, 3) := by decide +kernel
theorem dX8_readMore_141 : decode cX8_readMore 141 = .ok (.i2l, 1) := by decide +kernel
theorem dX8_readMore_142 : decode cX8_readMore 142 = .ok (.lconst 0, 1) := by decide +kernel
theorem dX8_readMore_143 : decode cX8_readMore 143 = .ok (.ldc2_w 98, 3) := by decide +kernel
theorem dX8_readMore_146 : decode cX8_readMore 146 = .ok (.invokestatic 46, 3) := by decide +kernel
theorem dX8_readMore_149 : decode cX8_readMore 149 = .ok (.ifCond .eq 23, 3) := by decide +kernel
theorem dX8_readMore_152 : decode cX8_readMore 152 = .ok (.aload_n 0, 1) := by decide +kernel
theorem dX8_readMore_153 : decode cX8_readMore 153 = .ok (.getfield 100, 3) := by decide +kernel
theorem dX8_readMore_156 : decode cX8_readMore 156 = .ok (.aload_n 0, 1) := by decide +kernel
theorem dX8_readMore_157 : decode cX8_readMore 157 = .ok (.getfield 73, 3) := by decide +kernel
theorem dX8_readMore_160 : decode cX8_readMore 160 = .ok (.ishr, 1) := by decide +kernel
theorem dX8_readMore_161 : decode cX8_readMore 161 = .ok (.iconst 1, 1) := by decide +kernel
theorem dX8_readMore_162 : decode cX8_readMore 162 = .ok (.iand, 1) := by decide +kernel
theorem dX8_readMore_163 : decode cX8_readMore 163 = .ok (.iconst 1, 1) := by decide +kernel
theorem dX8_readMore_164 : decode cX8_readMore 164 = .ok (.if_icmp .ne 8, 3) := by decide +kernel
theorem dX8_readMore_167 : decode cX8_readMore 167 = .ok (.aload_n 0, 1) := by decide +kernel
theorem dX8_readMore_168 : decode cX8_readMore 168 = .ok (.iconst 4, 1) := by decide +kernel
theorem dX8_readMore_169 : decode cX8_readMore 169 = .ok (.invokevirtual 84, 3) := by decide +kernel
theorem dX8_readMore_172 : decode cX8_readMore 172 = .ok (.aload_n 0, 1) := by decide +kernel
theorem dX8_readMore_173 : decode cX8_readMore 173 = .ok (.iconst 0, 1) := by decide +kernel
theorem dX8_readMore_174 : decode cX8_readMore 174 = .ok (.iconst 5, 1) := by decide +kernel
theorem dX8_readMore_175 : decode cX8_readMore 175 = .ok (.invokevirtual 94, 3) := by decide +kernel
theorem dX8_readMore_178 : decode cX8_readMore 178 = .ok (.istore_n 2, 1) := by decide +kernel
theorem dX8_readMore_179 : decode cX8_readMore 179 = .ok (.aload_n 0, 1) := by decide +kernel
theorem dX8_readMore_180 : decode cX8_readMore 180 = .ok (.dup, 1) := by decide +kernel
theorem dX8_readMore_181 : decode cX8_readMore 181 = .ok (.getfield 100, 3) := by decide +kernel
theorem dX8_readMore_184 : decode cX8_readMore 184 = .ok (.iconst 1, 1) := by decide +kernel
theorem dX8_readMore_185 : decode cX8_readMore 185 = .ok (.iload_n 2, 1) := by decide +kernel
theorem dX8_readMore_186 : decode cX8_readMore 186 = .ok (.ishl, 1) := by decide +kernel
theorem dX8_readMore_187 : decode cX8_readMore 187 = .ok (.ior, 1) := by decide +kernel
theorem dX8_readMore_188 : decode cX8_readMore 188 = .ok (.putfield 100, 3) := by decide +kernel
theorem dX8_readMore_191 : decode cX8_readMore 191 = .ok (.aload_n 0, 1) := by decide +kernel
theorem dX8_readMore_192 : decode cX8_readMore 192 = .ok (.getfield 13, 3) := by decide +kernel
theorem dX8_readMore_195 : decode cX8_readMore 195 = .ok (.iload_n 2, 1) := by decide +kernel
theorem dX8_readMore_196 : decode cX8_readMore 196 = .ok (.aload_n 0, 1) := by decide +kernel
theorem dX8_readMore_197 : decode cX8_readMore 197 = .ok (.iconst 0, 1) := by decide +kernel
theorem dX8_readMore_198 : decode cX8_readMore 198 = .ok (.bipush 60, 2) := by decide +kernel
theorem dX8_readMore_200 : decode cX8_readMore 200 = .ok (.invokevirtual 94, 3) := by decide +kernel
theorem dX8_readMore_203 : decode cX8_readMore 203 = .ok (.bipush 30, 2) := by decide +kernel
theorem dX8_readMore_205 : decode cX8_readMore 205 = .ok (.isub, 1) := by decide +kernel
theorem dX8_readMore_206 : decode cX8_readMore 206 = .ok (.iastore, 1) := by decide +kernel
theorem dX8_readMore_207 : decode cX8_readMore 207 = .ok (.aload_n 0, 1) := by decide +kernel
theorem dX8_readMore_208 : decode cX8_readMore 208 = .ok (.getfield 13, 3) := by decide +kernel
theorem dX8_readMore_211 : decode cX8_readMore 211 = .ok (.bipush 6, 2) := by decide +kernel
theorem dX8_readMore_213 : decode cX8_readMore 213 = .ok (.iload_n 2, 1) := by decide +kernel
theorem dX8_readMore_214 : decode cX8_readMore 214 = .ok (.iadd, 1) := by decide +kernel
theorem dX8_readMore_215 : decode cX8_readMore 215 = .ok (.aload_n 0, 1) := by decide +kernel
theorem dX8_readMore_216 : decode cX8_readMore 216 = .ok (.iconst 0, 1) := by decide +kernel
theorem dX8_readMore_217 : decode cX8_readMore 217 = .ok (.bipush 9, 2) := by decide +kernel
theorem dX8_readMore_219 : decode cX8_readMore 219 = .ok (.invokevirtual 94, 3) := by decide +kernel
theorem dX8_readMore_222 : decode cX8_readMore 222 = .ok (.iconst 2, 1) := by decide +kernel
theorem dX8_readMore_223 : decode cX8_readMore 223 = .ok (.isub, 1) := by decide +kernel
theorem dX8_readMore_224 : decode cX8_readMore 224 = .ok (.iastore, 1) := by decide +kernel
theorem dX8_readMore_225 : decode cX8_readMore 225 = .ok (.return_, 1) := by decide +kernel
theorem dX8_readLine_0 : decode cX8_readLine 0 = .ok (.aload_n 0, 1) := by decide +kernel
theorem dX8_readLine_1 : decode cX8_readLine 1 = .ok (.invokevirtual 103, 3) := by decide +kernel
theorem dX8_readLine_4 : decode cX8_readLine 4 = .ok (.istore_n 1, 1) := by decide +kernel
theorem dX8_readLine_5 : decode cX8_readLine 5 = .ok (.iload_n 1, 1) := by decide +kernel
theorem dX8_readLine_6 : decode cX8_readLine 6 = .ok (.i2l, 1) := by decide +kernel
theorem dX8_readLine_7 : decode cX8_readLine 7 = .ok (.lconst 0, 1) := by decide +kernel
theorem dX8_readLine_8 : decode cX8_readLine 8 = .ok (.ldc2_w 98, 3) := by decide +kernel
theorem dX8_readLine_11 : decode cX8_readLine 11 = .ok (.invokestatic 46, 3) := by decide +kernel
theorem dX8_readLine_14 : decode cX8_readLine 14 = .ok (.ifCond .ne 9, 3) := by decide +kernel
theorem dX8_readLine_17 : decode cX8_readLine 17 = .ok (.aload_n 0, 1) := by decide +kernel
theorem dX8_readLine_18 : decode cX8_readLine 18 = .ok (.iconst 2, 1) := by decide +kernel
theorem dX8_readLine_19 : decode cX8_readLine 19 = .ok (.invokevirtual 84, 3) := by decide +kernel
theorem dX8_readLine_22 : decode cX8_readLine 22 = .ok (.return_, 1) := by decide +kernel
theorem dX8_readLine_23 : decode cX8_readLine 23 = .ok (.iload_n 1, 1) := by decide +kernel
theorem dX8_readLine_24 : decode cX8_readLine 24 = .ok (.iconst 3, 1) := by decide +kernel
theorem dX8_readLine_25 : decode cX8_readLine 25 = .ok (.if_icmp .gt 11, 3) := by decide +kernel
theorem dX8_readLine_28 : decode cX8_readLine 28 = .ok (.aload_n 0, 1) := by decide +kernel
theorem dX8_readLine_29 : decode cX8_readLine 29 = .ok (.getfield 91, 3) := by decide +kernel
theorem dX8_readLine_32 : decode cX8_readLine 32 = .ok (.iconst 5, 1) := by decide +kernel
theorem dX8_readLine_33 : decode cX8_readLine 33 = .ok (.if_icmp .eq 19, 3) := by decide +kernel
theorem dX8_readLine_36 : decode cX8_readLine 36 = .ok (.iload_n 1, 1) := by decide +kernel
theorem dX8_readLine_37 : decode cX8_readLine 37 = .ok (.iconst 4, 1) := by decide +kernel
theorem dX8_readLine_38 : decode cX8_readLine 38 = .ok (.if_icmp .ne 19, 3) := by decide +kernel
theorem dX8_readLine_41 : decode cX8_readLine 41 = .ok (.aload_n 0, 1) := by decide +kernel
theorem dX8_readLine_42 : decode cX8_readLine 42 = .ok (.getfield 13, 3) := by decide +kernel
theorem dX8_readLine_45 : decode cX8_readLine 45 = .ok (.bipush 41, 2) := by decide +kernel
theorem dX8_readLine_47 : decode cX8_readLine 47 = .ok (.iaload, 1) := by decide +kernel
theorem dX8_readLine_48 : decode cX8_readLine 48 = .ok (.iconst 3, 1) := by decide +kernel
theorem dX8_readLine_49 : decode cX8_readLine 49 = .ok (.if_icmp .ne 8, 3) := by decide +kernel
theorem dX8_readLine_52 : decode cX8_readLine 52 = .ok (.aload_n 0, 1) := by decide +kernel
theorem dX8_readLine_53 : decode cX8_readLine 53 = .ok (.iconst 5, 1) := by decide +kernel
theorem dX8_readLine_54 : decode cX8_readLine 54 = .ok (.invokevirtual 84, 3) := by decide +kernel
theorem dX8_readLine_57 : decode cX8_readLine 57 = .ok (.aload_n 0, 1) := by decide +kernel
theorem dX8_readLine_58 : decode cX8_readLine 58 = .ok (.invokevirtual 88, 3) := by decide +kernel
theorem dX8_readLine_61 : decode cX8_readLine 61 = .ok (.aload_n 0, 1) := by decide +kernel
theorem dX8_readLine_62 : decode cX8_readLine 62 = .ok (.getfield 54, 3) := by decide +kernel
theorem dX8_readLine_65 : decode cX8_readLine 65 = .ok (.ifCond .le 4, 3) := by decide +kernel
theorem dX8_readLine_68 : decode cX8_readLine 68 = .ok (.return_, 1) := by decide +kernel
theorem dX8_readLine_69 : decode cX8_readLine 69 = .ok (.aload_n 0, 1) := by decide +kernel
theorem dX8_readLine_70 : decode cX8_readLine 70 = .ok (.iload_n 1, 1) := by decide +kernel
theorem dX8_readLine_71 : decode cX8_readLine 71 = .ok (.invokevirtual 107, 3) := by decide +kernel
theorem dX8_readLine_74 : decode cX8_readLine 74 = .ok (.aload_n 0, 1) := by decide +kernel
theorem dX8_readLine_75 : decode cX8_readLine 75 = .ok (.getfield 54, 3) := by decide +kernel
theorem dX8_readLine_78 : decode cX8_readLine 78 = .ok (.ifCond .ne 16, 3) := by decide +kernel
theorem dX8_readLine_81 : decode cX8_readLine 81 = .ok (.aload_n 0, 1) := by decide +kernel
theorem dX8_readLine_82 : decode cX8_readLine 82 = .ok (.getfield 63, 3) := by decide +kernel
theorem dX8_readLine_85 : decode cX8_readLine 85 = .ok (.iconst 3, 1) := by decide +kernel
theorem dX8_readLine_86 : decode cX8_readLine 86 = .ok (.if_icmp .eq 8, 3) := by decide +kernel
theorem dX8_readLine_89 : decode cX8_readLine 89 = .ok (.aload_n 0, 1) := by decide +kernel
theorem dX8_readLine_90 : decode cX8_readLine 90 = .ok (.iconst 2, 1) := by decide +kernel
theorem dX8_readLine_91 : decode cX8_readLine 91 = .ok (.invokevirtual 84, 3) := by decide +kernel
theorem dX8_readLine_94 : decode cX8_readLine 94 = .ok (.aload_n 0, 1) := by decide +kernel
theorem dX8_readLine_95 : decode cX8_readLine 95 = .ok (.invokevirtual 88, 3) := by decide +kernel
theorem dX8_readLine_98 : decode cX8_readLine 98 = .ok (.return_, 1) := by decide +kernel
theorem dX8_text_0 : decode cX8_text 0 = .ok (.aload_n 0, 1) := by decide +kernel
theorem dX8_text_1 : decode cX8_text 1 = .ok (.iconst 0, 1) := by decide +kernel
theorem dX8_text_2 : decode cX8_text 2 = .ok (.putfield 54, 3) := by decide +kernel
theorem dX8_text_5 : decode cX8_text 5 = .ok (.aload_n 0, 1) := by decide +kernel
theorem dX8_text_6 : decode cX8_text 6 = .ok (.iconst 0, 1) := by decide +kernel
theorem dX8_text_7 : decode cX8_text 7 = .ok (.putfield 66, 3) := by decide +kernel
theorem dX8_text_10 : decode cX8_text 10 = .ok (.aload_n 0, 1) := by decide +kernel
theorem dX8_text_11 : decode cX8_text 11 = .ok (.iconst 0, 1) := by decide +kernel
theorem dX8_text_12 : decode cX8_text 12 = .ok (.putfield 91, 3) := by decide +kernel
theorem dX8_text_15 : decode cX8_text 15 = .ok (.aload_n 0, 1) := by decide +kernel
theorem dX8_text_16 : decode cX8_text 16 = .ok (.iconst 0, 1) := by decide +kernel
theorem dX8_text_17 : decode cX8_text 17 = .ok (.putfield 100, 3) := by decide +kernel
theorem dX8_text_20 : decode cX8_text 20 = .ok (.iconst 0, 1) := by decide +kernel
theorem dX8_text_21 : decode cX8_text 21 = .ok (.istore_n 1, 1) := by decide +kernel
theorem dX8_text_22 : decode cX8_text 22 = .ok (.iconst 0, 1) := by decide +kernel
theorem dX8_text_23 : decode cX8_text 23 = .ok (.istore_n 2, 1) := by decide +kernel
theorem dX8_text_24 : decode cX8_text 24 = .ok (.iload_n 2, 1) := by decide +kernel
theorem dX8_text_25 : decode cX8_text 25 = .ok (.bipush 44, 2) := by decide +kernel
theorem dX8_text_27 : decode cX8_text 27 = .ok (.if_icmp .ge 16, 3) := by decide +kernel
theorem dX8_text_30 : decode cX8_text 30 = .ok (.aload_n 0, 1) := by decide +kernel
theorem dX8_text_31 : decode cX8_text 31 = .ok (.getfield 13, 3) := by decide +kernel
theorem dX8_text_34 : decode cX8_text 34 = .ok (.iload_n 2, 1) := by decide +kernel
theorem dX8_text_35 : decode cX8_text 35 = .ok (.iconst 0, 1) := by decide +kernel
theorem dX8_text_36 : decode cX8_text 36 = .ok (.iastore, 1) := by decide +kernel
theorem dX8_text_37 : decode cX8_text 37 = .ok (.iinc 2 1, 3) := by decide +kernel
theorem dX8_text_40 : decode cX8_text 40 = .ok (.goto (-16), 3) := by decide +kernel
theorem dX8_text_43 : decode cX8_text 43 = .ok (.aload_n 0, 1) := by decide +kernel
theorem dX8_text_44 : decode cX8_text 44 = .ok (.invokevirtual 88, 3) := by decide +kernel
theorem dX8_text_47 : decode cX8_text 47 = .ok (.aload_n 0, 1) := by decide +kernel
theorem dX8_text_48 : decode cX8_text 48 = .ok (.getfield 54, 3) := by decide +kernel
theorem dX8_text_51 : decode cX8_text 51 = .ok (.ifCond .ne 20, 3) := by decide +kernel
theorem dX8_text_54 : decode cX8_text 54 = .ok (.aload_n 0, 1) := by decide +kernel
theorem dX8_text_55 : decode cX8_text 55 = .ok (.getfield 63, 3) := by decide +kernel
theorem dX8_text_58 : decode cX8_text 58 = .ok (.ifCond .eq 13, 3) := by decide +kernel
theorem dX8_text_61 : decode cX8_text 61 = .ok (.aload_n 0, 1) := by decide +kernel
theorem dX8_text_62 : decode cX8_text 62 = .ok (.invokevirtual 110, 3) := by decide +kernel
theorem dX8_text_65 : decode cX8_text 65 = .ok (.iinc 1 1, 3) := by decide +kernel
theorem dX8_text_68 : decode cX8_text 68 = .ok (.goto (-21), 3) := by decide +kernel
theorem dX8_text_71 : decode cX8_text 71 = .ok (.aload_n 0, 1) := by decide +kernel
theorem dX8_text_72 : decode cX8_text 72 = .ok (.iconst 0, 1) := by decide +kernel
theorem dX8_text_73 : decode cX8_text 73 = .ok (.putfield 50, 3) := by decide +kernel
theorem dX8_text_76 : decode cX8_text 76 = .ok (.aload_n 0, 1) := by decide +kernel
theorem dX8_text_77 : decode cX8_text 77 = .ok (.aload_n 0, 1) := by decide +kernel
theorem dX8_text_78 : decode cX8_text 78 = .ok (.getfield 54, 3) := by decide +kernel
theorem dX8_text_81 : decode cX8_text 81 = .ok (.putfield 113, 3) := by decide +kernel
theorem dX8_text_84 : decode cX8_text 84 = .ok (.aload_n 0, 1) := by decide +kernel
theorem dX8_text_85 : decode cX8_text 85 = .ok (.getfield 54, 3) := by decide +kernel
theorem dX8_text_88 : decode cX8_text 88 = .ok (.ifCond .le 11, 3) := by decide +kernel
theorem dX8_text_91 : decode cX8_text 91 = .ok (.bipush (-10), 2) := by decide +kernel
theorem dX8_text_93 : decode cX8_text 93 = .ok (.aload_n 0, 1) := by decide +kernel
theorem dX8_text_94 : decode cX8_text 94 = .ok (.getfield 60, 3) := by decide +kernel
theorem dX8_text_97 : decode cX8_text 97 = .ok (.isub, 1) := by decide +kernel
theorem dX8_text_98 : decode cX8_text 98 = .ok (.ireturn, 1) := by decide +kernel
theorem dX8_text_99 : decode cX8_text 99 = .ok (.iconst 0, 1) := by decide +kernel
theorem dX8_text_100 : decode cX8_text 100 = .ok (.istore_n 2, 1) := by decide +kernel
theorem dX8_text_101 : decode cX8_text 101 = .ok (.iload_n 2, 1) := by decide +kernel
theorem dX8_text_102 : decode cX8_text 102 = .ok (.bipush 44, 2) := by decide +kernel
theorem dX8_text_104 : decode cX8_text 104 = .ok (.if_icmp .ge 21, 3) := by decide +kernel
theorem dX8_text_107 : decode cX8_text 107 = .ok (.aload_n 0, 1) := by decide +kernel
theorem dX8_text_108 : decode cX8_text 108 = .ok (.getfield 7, 3) := by decide +kernel
theorem dX8_text_111 : decode cX8_text 111 = .ok (.iload_n 2, 1) := by decide +kernel
theorem dX8_text_112 : decode cX8_text 112 = .ok (.aload_n 0, 1) := by decide +kernel
theorem dX8_text_113 : decode cX8_text 113 = .ok (.getfield 13, 3) := by decide +kernel
theorem dX8_text_116 : decode cX8_text 116 = .ok (.iload_n 2, 1) := by decide +kernel
theorem dX8_text_117 : decode cX8_text 117 = .ok (.iaload, 1) := by decide +kernel
theorem dX8_text_118 : decode cX8_text 118 = .ok (.iastore, 1) := by decide +kernel
theorem dX8_text_119 : decode cX8_text 119 = .ok (.iinc 2 1, 3) := by decide +kernel
theorem dX8_text_122 : decode cX8_text 122 = .ok (.goto (-21), 3) := by decide +kernel
theorem dX8_text_125 : decode cX8_text 125 = .ok (.aload_n 0, 1) := by decide +kernel
theorem dX8_text_126 : decode cX8_text 126 = .ok (.aload_n 0, 1) := by decide +kernel
theorem dX8_text_127 : decode cX8_text 127 = .ok (.getfield 91, 3) := by decide +kernel
theorem dX8_text_130 : decode cX8_text 130 = .ok (.putfield 116, 3) := by decide +kernel
theorem dX8_text_133 : decode cX8_text 133 = .ok (.aload_n 0, 1) := by decide +kernel
theorem dX8_text_134 : decode cX8_text 134 = .ok (.iconst 0, 1) := by decide +kernel
theorem dX8_text_135 : decode cX8_text 135 = .ok (.putfield 119, 3) := by decide +kernel
theorem dX8_text_138 : decode cX8_text 138 = .ok (.aload_n 0, 1) := by decide +kernel
theorem dX8_text_139 : decode cX8_text 139 = .ok (.getfield 31, 3) := by decide +kernel
theorem dX8_text_142 : decode cX8_text 142 = .ok (.iconst 0, 1) := by decide +kernel
theorem dX8_text_143 : decode cX8_text 143 = .ok (.iconst 0, 1) := by decide +kernel
theorem dX8_text_144 : decode cX8_text 144 = .ok (.bastore, 1) := by decide +kernel
theorem dX8_text_145 : decode cX8_text 145 = .ok (.aload_n 0, 1) := by decide +kernel
theorem dX8_text_146 : decode cX8_text 146 = .ok (.getfield 31, 3) := by decide +kernel
theorem dX8_text_149 : decode cX8_text 149 = .ok (.iconst 1, 1) := by decide +kernel
theorem dX8_text_150 : decode cX8_text 150 = .ok (.iconst 0, 1) := by decide +kernel
theorem dX8_text_151 : decode cX8_text 151 = .ok (.bastore, 1) := by decide +kernel
theorem dX8_text_152 : decode cX8_text 152 = .ok (.iload_n 1, 1) := by decide +kernel
theorem dX8_text_153 : decode cX8_text 153 = .ok (.ireturn, 1) := by decide +kernel
theorem dX8_fault_0 : decode cX8_fault 0 = .ok (.aload_n 0, 1) := by decide +kernel
theorem dX8_fault_1 : decode cX8_fault 1 = .ok (.getfield 113, 3) := by decide +kernel
theorem dX8_fault_4 : decode cX8_fault 4 = .ok (.ireturn, 1) := by decide +kernel
theorem dX8_isGate_0 : decode cX8_isGate 0 = .ok (.iload_n 0, 1) := by decide +kernel
theorem dX8_isGate_1 : decode cX8_isGate 1 = .ok (.i2l, 1) := by decide +kernel
theorem dX8_isGate_2 : decode cX8_isGate 2 = .ok (.lconst 0, 1) := by decide +kernel
theorem dX8_isGate_3 : decode cX8_isGate 3 = .ok (.ldc2_w 98, 3) := by decide +kernel
theorem dX8_isGate_6 : decode cX8_isGate 6 = .ok (.invokestatic 46, 3) := by decide +kernel
theorem dX8_isGate_9 : decode cX8_isGate 9 = .ok (.ireturn, 1) := by decide +kernel
theorem dX8_isTaker_0 : decode cX8_isTaker 0 = .ok (.iload_n 1, 1) := by decide +kernel
theorem dX8_isTaker_1 : decode cX8_isTaker 1 = .ok (.i2l, 1) := by decide +kernel
theorem dX8_isTaker_2 : decode cX8_isTaker 2 = .ok (.lconst 0, 1) := by decide +kernel
theorem dX8_isTaker_3 : decode cX8_isTaker 3 = .ok (.aload_n 0, 1) := by decide +kernel
theorem dX8_isTaker_4 : decode cX8_isTaker 4 = .ok (.getfield 116, 3) := by decide +kernel
theorem dX8_isTaker_7 : decode cX8_isTaker 7 = .ok (.iconst 1, 1) := by decide +kernel
theorem dX8_isTaker_8 : decode cX8_isTaker 8 = .ok (.isub, 1) := by decide +kernel
theorem dX8_isTaker_9 : decode cX8_isTaker 9 = .ok (.i2l, 1) := by decide +kernel
theorem dX8_isTaker_10 : decode cX8_isTaker 10 = .ok (.invokestatic 46, 3) := by decide +kernel
theorem dX8_isTaker_13 : decode cX8_isTaker 13 = .ok (.ireturn, 1) := by decide +kernel
theorem dX8_isKeeper_0 : decode cX8_isKeeper 0 = .ok (.iload_n 1, 1) := by decide +kernel
theorem dX8_isKeeper_1 : decode cX8_isKeeper 1 = .ok (.i2l, 1) := by decide +kernel
theorem dX8_isKeeper_2 : decode cX8_isKeeper 2 = .ok (.lconst 0, 1) := by decide +kernel
theorem dX8_isKeeper_3 : decode cX8_isKeeper 3 = .ok (.aload_n 0, 1) := by decide +kernel
theorem dX8_isKeeper_4 : decode cX8_isKeeper 4 = .ok (.getfield 7, 3) := by decide +kernel
theorem dX8_isKeeper_7 : decode cX8_isKeeper 7 = .ok (.bipush 41, 2) := by decide +kernel
theorem dX8_isKeeper_9 : decode cX8_isKeeper 9 = .ok (.iaload, 1) := by decide +kernel
theorem dX8_isKeeper_10 : decode cX8_isKeeper 10 = .ok (.iconst 1, 1) := by decide +kernel
theorem dX8_isKeeper_11 : decode cX8_isKeeper 11 = .ok (.isub, 1) := by decide +kernel
theorem dX8_isKeeper_12 : decode cX8_isKeeper 12 = .ok (.i2l, 1) := by decide +kernel
theorem dX8_isKeeper_13 : decode cX8_isKeeper 13 = .ok (.invokestatic 46, 3) := by decide +kernel
theorem dX8_isKeeper_16 : decode cX8_isKeeper 16 = .ok (.ireturn, 1) := by decide +kernel
theorem dX8_takesOn_0 : decode cX8_takesOn 0 = .ok (.aload_n 0, 1) := by decide +kernel
theorem dX8_takesOn_1 : decode cX8_takesOn 1 = .ok (.getfield 7, 3) := by decide +kernel
theorem dX8_takesOn_4 : decode cX8_takesOn 4 = .ok (.iload_n 1, 1) := by decide +kernel
theorem dX8_takesOn_5 : decode cX8_takesOn 5 = .ok (.bipush 12, 2) := by decide +kernel
theorem dX8_takesOn_7 : decode cX8_takesOn 7 = .ok (.iadd, 1) := by decide +kernel
theorem dX8_takesOn_8 : decode cX8_takesOn 8 = .ok (.iload_n 2, 1) := by decide +kernel
theorem dX8_takesOn_9 : decode cX8_takesOn 9 = .ok (.iadd, 1) := by decide +kernel
theorem dX8_takesOn_10 : decode cX8_takesOn 10 = .ok (.iaload, 1) := by decide +kernel
theorem dX8_takesOn_11 : decode cX8_takesOn 11 = .ok (.istore_n 3, 1) := by decide +kernel
theorem dX8_takesOn_12 : decode cX8_takesOn 12 = .ok (.iload_n 3, 1) := by decide +kernel
theorem dX8_takesOn_13 : decode cX8_takesOn 13 = .ok (.iconst 3, 1) := by decide +kernel
theorem dX8_takesOn_14 : decode cX8_takesOn 14 = .ok (.if_icmp .ne 8, 3) := by decide +kernel
theorem dX8_takesOn_17 : decode cX8_takesOn 17 = .ok (.bipush 12, 2) := by decide +kernel
theorem dX8_takesOn_19 : decode cX8_takesOn 19 = .ok (.goto 14, 3) := by decide +kernel
theorem dX8_takesOn_22 : decode cX8_takesOn 22 = .ok (.iload_n 3, 1) := by decide +kernel
theorem dX8_takesOn_23 : decode cX8_takesOn 23 = .ok (.iconst 2, 1) := by decide +kernel
theorem dX8_takesOn_24 : decode cX8_takesOn 24 = .ok (.if_icmp .ne 7, 3) := by decide +kernel
theorem dX8_takesOn_27 : decode cX8_takesOn 27 = .ok (.iconst 3, 1) := by decide +kernel
theorem dX8_takesOn_28 : decode cX8_takesOn 28 = .ok (.goto 5, 3) := by decide +kernel
theorem dX8_takesOn_31 : decode cX8_takesOn 31 = .ok (.bipush 6, 2) := by decide +kernel
theorem dX8_takesOn_33 : decode cX8_takesOn 33 = .ok (.ireturn, 1) := by decide +kernel
theorem dX8_noiseOn_0 : decode cX8_noiseOn 0 = .ok (.aload_n 0, 1) := by decide +kernel
theorem dX8_noiseOn_1 : decode cX8_noiseOn 1 = .ok (.getfield 7, 3) := by decide +kernel
theorem dX8_noiseOn_4 : decode cX8_noiseOn 4 = .ok (.iload_n 1, 1) := by decide +kernel
theorem dX8_noiseOn_5 : decode cX8_noiseOn 5 = .ok (.bipush 12, 2) := by decide +kernel
theorem dX8_noiseOn_7 : decode cX8_noiseOn 7 = .ok (.iadd, 1) := by decide +kernel
theorem dX8_noiseOn_8 : decode cX8_noiseOn 8 = .ok (.iload_n 2, 1) := by decide +kernel
theorem dX8_noiseOn_9 : decode cX8_noiseOn 9 = .ok (.iadd, 1) := by decide +kernel
theorem dX8_noiseOn_10 : decode cX8_noiseOn 10 = .ok (.iaload, 1) := by decide +kernel
theorem dX8_noiseOn_11 : decode cX8_noiseOn 11 = .ok (.istore_n 3, 1) := by decide +kernel
theorem dX8_noiseOn_12 : decode cX8_noiseOn 12 = .ok (.iload_n 3, 1) := by decide +kernel
theorem dX8_noiseOn_13 : decode cX8_noiseOn 13 = .ok (.ifCond .ne 7, 3) := by decide +kernel
theorem dX8_noiseOn_16 : decode cX8_noiseOn 16 = .ok (.iconst 3, 1) := by decide +kernel
theorem dX8_noiseOn_17 : decode cX8_noiseOn 17 = .ok (.goto 13, 3) := by decide +kernel
theorem dX8_noiseOn_20 : decode cX8_noiseOn 20 = .ok (.iload_n 3, 1) := by decide +kernel
theorem dX8_noiseOn_21 : decode cX8_noiseOn 21 = .ok (.iconst 1, 1) := by decide +kernel
theorem dX8_noiseOn_22 : decode cX8_noiseOn 22 = .ok (.if_icmp .ne 7, 3) := by decide +kernel
theorem dX8_noiseOn_25 : decode cX8_noiseOn 25 = .ok (.iconst 1, 1) := by decide +kernel
theorem dX8_noiseOn_26 : decode cX8_noiseOn 26 = .ok (.goto 4, 3) := by decide +kernel
theorem dX8_noiseOn_29 : decode cX8_noiseOn 29 = .ok (.iconst 5, 1) := by decide +kernel
theorem dX8_noiseOn_30 : decode cX8_noiseOn 30 = .ok (.ireturn, 1) := by decide +kernel
theorem dX8_atOn_0 : decode cX8_atOn 0 = .ok (.aload_n 0, 1) := by decide +kernel
theorem dX8_atOn_1 : decode cX8_atOn 1 = .ok (.getfield 7, 3) := by decide +kernel
theorem dX8_atOn_4 : decode cX8_atOn 4 = .ok (.iload_n 1, 1) := by decide +kernel
theorem dX8_atOn_5 : decode cX8_atOn 5 = .ok (.bipush 32, 2) := by decide +kernel
theorem dX8_atOn_7 : decode cX8_atOn 7 = .ok (.iadd, 1) := by decide +kernel
theorem dX8_atOn_8 : decode cX8_atOn 8 = .ok (.iload_n 2, 1) := by decide +kernel
theorem dX8_atOn_9 : decode cX8_atOn 9 = .ok (.iadd, 1) := by decide +kernel
theorem dX8_atOn_10 : decode cX8_atOn 10 = .ok (.iaload, 1) := by decide +kernel
theorem dX8_atOn_11 : decode cX8_atOn 11 = .ok (.aload_n 0, 1) := by decide +kernel
theorem dX8_atOn_12 : decode cX8_atOn 12 = .ok (.getfield 7, 3) := by decide +kernel
theorem dX8_atOn_15 : decode cX8_atOn 15 = .ok (.iload_n 1, 1) := by decide +kernel
theorem dX8_atOn_16 : decode cX8_atOn 16 = .ok (.bipush 42, 2) := by decide +kernel
theorem dX8_atOn_18 : decode cX8_atOn 18 = .ok (.iadd, 1) := by decide +kernel
theorem dX8_atOn_19 : decode cX8_atOn 19 = .ok (.iaload, 1) := by decide +kernel
theorem dX8_atOn_20 : decode cX8_atOn 20 = .ok (.aload_n 0, 1) := by decide +kernel
theorem dX8_atOn_21 : decode cX8_atOn 21 = .ok (.getfield 7, 3) := by decide +kernel
theorem dX8_atOn_24 : decode cX8_atOn 24 = .ok (.iload_n 1, 1) := by decide +kernel
theorem dX8_atOn_25 : decode cX8_atOn 25 = .ok (.bipush 35, 2) := by decide +kernel
theorem dX8_atOn_27 : decode cX8_atOn 27 = .ok (.iadd, 1) := by decide +kernel
theorem dX8_atOn_28 : decode cX8_atOn 28 = .ok (.iload_n 2, 1) := by decide +kernel
theorem dX8_atOn_29 : decode cX8_atOn 29 = .ok (.iadd, 1) := by decide +kernel
theorem dX8_atOn_30 : decode cX8_atOn 30 = .ok (.iaload, 1) := by decide +kernel
theorem dX8_atOn_31 : decode cX8_atOn 31 = .ok (.imul, 1) := by decide +kernel
theorem dX8_atOn_32 : decode cX8_atOn 32 = .ok (.iadd, 1) := by decide +kernel
theorem dX8_atOn_33 : decode cX8_atOn 33 = .ok (.bipush 6, 2) := by decide +kernel
theorem dX8_atOn_35 : decode cX8_atOn 35 = .ok (.irem, 1) := by decide +kernel
theorem dX8_atOn_36 : decode cX8_atOn 36 = .ok (.ireturn, 1) := by decide +kernel
theorem dX8_isHeardOn_0 : decode cX8_isHeardOn 0 = .ok (.iconst 0, 1) := by decide +kernel
theorem dX8_isHeardOn_1 : decode cX8_isHeardOn 1 = .ok (.istore_n 3, 1) := by decide +kernel
theorem dX8_isHeardOn_2 : decode cX8_isHeardOn 2 = .ok (.iconst 0, 1) := by decide +kernel
theorem dX8_isHeardOn_3 : decode cX8_isHeardOn 3 = .ok (.istore 4, 2) := by decide +kernel
theorem dX8_isHeardOn_5 : decode cX8_isHeardOn 5 = .ok (.iload 4, 2) := by decide +kernel
theorem dX8_isHeardOn_7 : decode cX8_isHeardOn 7 = .ok (.aload_n 0, 1) := by decide +kernel
theorem dX8_isHeardOn_8 : decode cX8_isHeardOn 8 = .ok (.getfield 7, 3) := by decide +kernel
theorem dX8_isHeardOn_11 : decode cX8_isHeardOn 11 = .ok (.iload_n 1, 1) := by decide +kernel
theorem dX8_isHeardOn_12 : decode cX8_isHeardOn 12 = .ok (.bipush 41, 2) := by decide +kernel
theorem dX8_isHeardOn_14 : decode cX8_isHeardOn 14 = .ok (.iadd, 1) := by decide +kernel
theorem dX8_isHeardOn_15 : decode cX8_isHeardOn 15 = .ok (.iaload, 1) := by decide +kernel
theorem dX8_isHeardOn_16 : decode cX8_isHeardOn 16 = .ok (.if_icmp .ge 61, 3) := by decide +kernel
theorem dX8_isHeardOn_19 : decode cX8_isHeardOn 19 = .ok (.iload_n 3, 1) := by decide +kernel
theorem dX8_isHeardOn_20 : decode cX8_isHeardOn 20 = .ok (.ifCond .ne 45, 3) := by decide +kernel
theorem dX8_isHeardOn_23 : decode cX8_isHeardOn 23 = .ok (.aload_n 0, 1) := by decide +kernel
theorem dX8_isHeardOn_24 : decode cX8_isHeardOn 24 = .ok (.iload_n 1, 1) := by decide +kernel
theorem dX8_isHeardOn_25 : decode cX8_isHeardOn 25 = .ok (.iload 4, 2) := by decide +kernel
theorem dX8_isHeardOn_27 : decode cX8_isHeardOn 27 = .ok (.invokevirtual 122, 3) := by decide +kernel
theorem dX8_isHeardOn_30 : decode cX8_isHeardOn 30 = .ok (.aload_n 0, 1) := by decide +kernel
theorem dX8_isHeardOn_31 : decode cX8_isHeardOn 31 = .ok (.getfield 7, 3) := by decide +kernel
theorem dX8_isHeardOn_34 : decode cX8_isHeardOn 34 = .ok (.iload_n 1, 1) := by decide +kernel
theorem dX8_isHeardOn_35 : decode cX8_isHeardOn 35 = .ok (.bipush 17, 2) := by decide +kernel
theorem dX8_isHeardOn_37 : decode cX8_isHeardOn 37 = .ok (.iadd, 1) := by decide +kernel
theorem dX8_isHeardOn_38 : decode cX8_isHeardOn 38 = .ok (.iload_n 2, 1) := by decide +kernel
theorem dX8_isHeardOn_39 : decode cX8_isHeardOn 39 = .ok (.iadd, 1) := by decide +kernel
theorem dX8_isHeardOn_40 : decode cX8_isHeardOn 40 = .ok (.iaload, 1) := by decide +kernel
theorem dX8_isHeardOn_41 : decode cX8_isHeardOn 41 = .ok (.if_icmp .ne 28, 3) := by decide +kernel
theorem dX8_isHeardOn_44 : decode cX8_isHeardOn 44 = .ok (.aload_n 0, 1) := by decide +kernel
theorem dX8_isHeardOn_45 : decode cX8_isHeardOn 45 = .ok (.iload_n 1, 1) := by decide +kernel
theorem dX8_isHeardOn_46 : decode cX8_isHeardOn 46 = .ok (.iload_n 2, 1) := by decide +kernel
theorem dX8_isHeardOn_47 : decode cX8_isHeardOn 47 = .ok (.invokevirtual 125, 3) := by decide +kernel
theorem dX8_isHeardOn_50 : decode cX8_isHeardOn 50 = .ok (.aload_n 0, 1) := by decide +kernel
theorem dX8_isHeardOn_51 : decode cX8_isHeardOn 51 = .ok (.getfield 7, 3) := by decide +kernel
theorem dX8_isHeardOn_54 : decode cX8_isHeardOn 54 = .ok (.iload_n 1, 1) := by decide +kernel
theorem dX8_isHeardOn_55 : decode cX8_isHeardOn 55 = .ok (.bipush 38, 2) := by decide +kernel
theorem dX8_isHeardOn_57 : decode cX8_isHeardOn 57 = .ok (.iadd, 1) := by decide +kernel
theorem dX8_isHeardOn_58 : decode cX8_isHeardOn 58 = .ok (.iload 4, 2) := by decide +kernel
theorem dX8_isHeardOn_60 : decode cX8_isHeardOn 60 = .ok (.iadd, 1) := by decide +kernel
theorem dX8_isHeardOn_61 : decode cX8_isHeardOn 61 = .ok (.iaload, 1) := by decide +kernel
theorem dX8_isHeardOn_62 : decode cX8_isHeardOn 62 = .ok (.if_icmp .lt 7, 3) := by decide +kernel
theorem dX8_isHeardOn_65 : decode cX8_isHeardOn 65 = .ok (.iconst 1, 1) := by decide +kernel
theorem dX8_isHeardOn_66 : decode cX8_isHeardOn 66 = .ok (.goto 4, 3) := by decide +kernel
theorem dX8_isHeardOn_69 : decode cX8_isHeardOn 69 = .ok (.iconst 0, 1) := by decide +kernel
theorem dX8_isHeardOn_70 : decode cX8_isHeardOn 70 = .ok (.istore_n 3, 1) := by decide +kernel
theorem dX8_isHeardOn_71 : decode cX8_isHeardOn 71 = .ok (.iinc 4 1, 3) := by decide +kernel
theorem dX8_isHeardOn_74 : decode cX8_isHeardOn 74 = .ok (.goto (-69), 3) := by decide +kernel
theorem dX8_isHeardOn_77 : decode cX8_isHeardOn 77 = .ok (.iload_n 3, 1) := by decide +kernel
theorem dX8_isHeardOn_78 : decode cX8_isHeardOn 78 = .ok (.ireturn, 1) := by decide +kernel
theorem dX8_lightOn_0 : decode cX8_lightOn 0 = .ok (.iconst 0, 1) := by decide +kernel
theorem dX8_lightOn_1 : decode cX8_lightOn 1 = .ok (.istore_n 2, 1) := by decide +kernel
theorem dX8_lightOn_2 : decode cX8_lightOn 2 = .ok (.iconst 0, 1) := by decide +kernel
theorem dX8_lightOn_3 : decode cX8_lightOn 3 = .ok (.istore_n 3, 1) := by decide +kernel
theorem dX8_lightOn_4 : decode cX8_lightOn 4 = .ok (.iload_n 3, 1) := by decide +kernel
theorem dX8_lightOn_5 : decode cX8_lightOn 5 = .ok (.bipush 6, 2) := by decide +kernel
theorem dX8_lightOn_7 : decode cX8_lightOn 7 = .ok (.if_icmp .ge 23, 3) := by decide +kernel
theorem dX8_lightOn_10 : decode cX8_lightOn 10 = .ok (.iload_n 2, 1) := by decide +kernel
theorem dX8_lightOn_11 : decode cX8_lightOn 11 = .ok (.aload_n 0, 1) := by decide +kernel
theorem dX8_lightOn_12 : decode cX8_lightOn 12 = .ok (.getfield 7, 3) := by decide +kernel
theorem dX8_lightOn_15 : decode cX8_lightOn 15 = .ok (.iload_n 1, 1) := by decide +kernel
theorem dX8_lightOn_16 : decode cX8_lightOn 16 = .ok (.iload_n 3, 1) := by decide +kernel
theorem dX8_lightOn_17 : decode cX8_lightOn 17 = .ok (.iadd, 1) := by decide +kernel
theorem dX8_lightOn_18 : decode cX8_lightOn 18 = .ok (.iaload, 1) := by decide +kernel
theorem dX8_lightOn_19 : decode cX8_lightOn 19 = .ok (.bipush 30, 2) := by decide +kernel
theorem dX8_lightOn_21 : decode cX8_lightOn 21 = .ok (.iadd, 1) := by decide +kernel
theorem dX8_lightOn_22 : decode cX8_lightOn 22 = .ok (.iadd, 1) := by decide +kernel
theorem dX8_lightOn_23 : decode cX8_lightOn 23 = .ok (.istore_n 2, 1) := by decide +kernel
theorem dX8_lightOn_24 : decode cX8_lightOn 24 = .ok (.iinc 3 1, 3) := by decide +kernel
theorem dX8_lightOn_27 : decode cX8_lightOn 27 = .ok (.goto (-23), 3) := by decide +kernel
theorem dX8_lightOn_30 : decode cX8_lightOn 30 = .ok (.iload_n 2, 1) := by decide +kernel
theorem dX8_lightOn_31 : decode cX8_lightOn 31 = .ok (.ireturn, 1) := by decide +kernel
theorem dX8_startCounts_0 : decode cX8_startCounts 0 = .ok (.aload_n 0, 1) := by decide +kernel
theorem dX8_startCounts_1 : decode cX8_startCounts 1 = .ok (.iconst 0, 1) := by decide +kernel
theorem dX8_startCounts_2 : decode cX8_startCounts 2 = .ok (.putfield 128, 3) := by decide +kernel
theorem dX8_startCounts_5 : decode cX8_startCounts 5 = .ok (.aload_n 0, 1) := by decide +kernel
theorem dX8_startCounts_6 : decode cX8_startCounts 6 = .ok (.iconst 0, 1) := by decide +kernel
theorem dX8_startCounts_7 : decode cX8_startCounts 7 = .ok (.putfield 131, 3) := by decide +kernel
theorem dX8_startCounts_10 : decode cX8_startCounts 10 = .ok (.aload_n 0, 1) := by decide +kernel
theorem dX8_startCounts_11 : decode cX8_startCounts 11 = .ok (.iconst 0, 1) := by decide +kernel
theorem dX8_startCounts_12 : decode cX8_startCounts 12 = .ok (.putfield 134, 3) := by decide +kernel
theorem dX8_startCounts_15 : decode cX8_startCounts 15 = .ok (.return_, 1) := by decide +kernel
theorem dX8_goesIn_0 : decode cX8_goesIn 0 = .ok (.aload_n 0, 1) := by decide +kernel
theorem dX8_goesIn_1 : decode cX8_goesIn 1 = .ok (.getfield 7, 3) := by decide +kernel
theorem dX8_goesIn_4 : decode cX8_goesIn 4 = .ok (.iload_n 1, 1) := by decide +kernel
theorem dX8_goesIn_5 : decode cX8_goesIn 5 = .ok (.bipush 27, 2) := by decide +kernel
theorem dX8_goesIn_7 : decode cX8_goesIn 7 = .ok (.iadd, 1) := by decide +kernel
theorem dX8_goesIn_8 : decode cX8_goesIn 8 = .ok (.iload_n 2, 1) := by decide +kernel
theorem dX8_goesIn_9 : decode cX8_goesIn 9 = .ok (.iadd, 1) := by decide +kernel
theorem dX8_goesIn_10 : decode cX8_goesIn 10 = .ok (.iaload, 1) := by decide +kernel
theorem dX8_goesIn_11 : decode cX8_goesIn 11 = .ok (.ifCond .le 21, 3) := by decide +kernel
theorem dX8_goesIn_14 : decode cX8_goesIn 14 = .ok (.aload_n 0, 1) := by decide +kernel
theorem dX8_goesIn_15 : decode cX8_goesIn 15 = .ok (.getfield 7, 3) := by decide +kernel
theorem dX8_goesIn_18 : decode cX8_goesIn 18 = .ok (.iload_n 1, 1) := by decide +kernel
theorem dX8_goesIn_19 : decode cX8_goesIn 19 = .ok (.bipush 27, 2) := by decide +kernel
theorem dX8_goesIn_21 : decode cX8_goesIn 21 = .ok (.iadd, 1) := by decide +kernel
theorem dX8_goesIn_22 : decode cX8_goesIn 22 = .ok (.iload_n 2, 1) := by decide +kernel
theorem dX8_goesIn_23 : decode cX8_goesIn 23 = .ok (.iadd, 1) := by decide +kernel
theorem dX8_goesIn_24 : decode cX8_goesIn 24 = .ok (.dup2, 1) := by decide +kernel
theorem dX8_goesIn_25 : decode cX8_goesIn 25 = .ok (.iaload, 1) := by decide +kernel
theorem dX8_goesIn_26 : decode cX8_goesIn 26 = .ok (.iconst 1, 1) := by decide +kernel
theorem dX8_goesIn_27 : decode cX8_goesIn 27 = .ok (.isub, 1) := by decide +kernel
theorem dX8_goesIn_28 : decode cX8_goesIn 28 = .ok (.iastore, 1) := by decide +kernel
theorem dX8_goesIn_29 : decode cX8_goesIn 29 = .ok (.goto 207, 3) := by decide +kernel
theorem dX8_goesIn_32 : decode cX8_goesIn 32 = .ok (.iload_n 3, 1) := by decide +kernel
theorem dX8_goesIn_33 : decode cX8_goesIn 33 = .ok (.ifCond .ne 82, 3) := by decide +kernel
theorem dX8_goesIn_36 : decode cX8_goesIn 36 = .ok (.aload_n 0, 1) := by decide +kernel
theorem dX8_goesIn_37 : decode cX8_goesIn 37 = .ok (.iload_n 1, 1) := by decide +kernel
theorem dX8_goesIn_38 : decode cX8_goesIn 38 = .ok (.iload_n 2, 1) := by decide +kernel
theorem dX8_goesIn_39 : decode cX8_goesIn 39 = .ok (.invokevirtual 137, 3) := by decide +kernel
theorem dX8_goesIn_42 : decode cX8_goesIn 42 = .ok (.ifCond .eq 73, 3) := by decide +kernel
theorem dX8_goesIn_45 : decode cX8_goesIn 45 = .ok (.aload_n 0, 1) := by decide +kernel
theorem dX8_goesIn_46 : decode cX8_goesIn 46 = .ok (.getfield 7, 3) := by decide +kernel
theorem dX8_goesIn_49 : decode cX8_goesIn 49 = .ok (.iload_n 1, 1) := by decide +kernel
theorem dX8_goesIn_50 : decode cX8_goesIn 50 = .ok (.bipush 27, 2) := by decide +kernel
theorem dX8_goesIn_52 : decode cX8_goesIn 52 = .ok (.iadd, 1) := by decide +kernel
theorem dX8_goesIn_53 : decode cX8_goesIn 53 = .ok (.iload_n 2, 1) := by decide +kernel
theorem dX8_goesIn_54 : decode cX8_goesIn 54 = .ok (.iadd, 1) := by decide +kernel
theorem dX8_goesIn_55 : decode cX8_goesIn 55 = .ok (.bipush 7, 2) := by decide +kernel
theorem dX8_goesIn_57 : decode cX8_goesIn 57 = .ok (.iastore, 1) := by decide +kernel
theorem dX8_goesIn_58 : decode cX8_goesIn 58 = .ok (.aload_n 0, 1) := by decide +kernel
theorem dX8_goesIn_59 : decode cX8_goesIn 59 = .ok (.getfield 7, 3) := by decide +kernel
theorem dX8_goesIn_62 : decode cX8_goesIn 62 = .ok (.iload_n 1, 1) := by decide +kernel
theorem dX8_goesIn_63 : decode cX8_goesIn 63 = .ok (.bipush 43, 2) := by decide +kernel
theorem dX8_goesIn_65 : decode cX8_goesIn 65 = .ok (.iadd, 1) := by decide +kernel
theorem dX8_goesIn_66 : decode cX8_goesIn 66 = .ok (.dup2, 1) := by decide +kernel
theorem dX8_goesIn_67 : decode cX8_goesIn 67 = .ok (.iaload, 1) := by decide +kernel
theorem dX8_goesIn_68 : decode cX8_goesIn 68 = .ok (.aload_n 0, 1) := by decide +kernel
theorem dX8_goesIn_69 : decode cX8_goesIn 69 = .ok (.getfield 7, 3) := by decide +kernel
theorem dX8_goesIn_72 : decode cX8_goesIn 72 = .ok (.iload_n 1, 1) := by decide +kernel
theorem dX8_goesIn_73 : decode cX8_goesIn 73 = .ok (.bipush 43, 2) := by decide +kernel
theorem dX8_goesIn_75 : decode cX8_goesIn 75 = .ok (.iadd, 1) := by decide +kernel
theorem dX8_goesIn_76 : decode cX8_goesIn 76 = .ok (.iaload, 1) := by decide +kernel
theorem dX8_goesIn_77 : decode cX8_goesIn 77 = .ok (.sipush 999, 3) := by decide +kernel
theorem dX8_goesIn_80 : decode cX8_goesIn 80 = .ok (.if_icmp .ge 7, 3) := by decide +kernel
theorem dX8_goesIn_83 : decode cX8_goesIn 83 = .ok (.iconst 1, 1) := by decide +kernel
theorem dX8_goesIn_84 : decode cX8_goesIn 84 = .ok (.goto 4, 3) := by decide +kernel
theorem dX8_goesIn_87 : decode cX8_goesIn 87 = .ok (.iconst 0, 1) := by decide +kernel
theorem dX8_goesIn_88 : decode cX8_goesIn 88 = .ok (.iadd, 1) := by decide +kernel
theorem dX8_goesIn_89 : decode cX8_goesIn 89 = .ok (.iastore, 1) := by decide +kernel
theorem dX8_goesIn_90 : decode cX8_goesIn 90 = .ok (.aload_n 0, 1) := by decide +kernel
theorem dX8_goesIn_91 : decode cX8_goesIn 91 = .ok (.dup, 1) := by decide +kernel
theorem dX8_goesIn_92 : decode cX8_goesIn 92 = .ok (.getfield 131, 3) := by decide +kernel
theorem dX8_goesIn_95 : decode cX8_goesIn 95 = .ok (.iconst 1, 1) := by decide +kernel
theorem dX8_goesIn_96 : decode cX8_goesIn 96 = .ok (.iload_n 2, 1) := by decide +kernel
theorem dX8_goesIn_97 : decode cX8_goesIn 97 = .ok (.ishl, 1) := by decide +kernel
theorem dX8_goesIn_98 : decode cX8_goesIn 98 = .ok (.ior, 1) := by decide +kernel
theorem dX8_goesIn_99 : decode cX8_goesIn 99 = .ok (.putfield 131, 3) := by decide +kernel
theorem dX8_goesIn_102 : decode cX8_goesIn 102 = .ok (.aload_n 0, 1) := by decide +kernel
theorem dX8_goesIn_103 : decode cX8_goesIn 103 = .ok (.dup, 1) := by decide +kernel
theorem dX8_goesIn_104 : decode cX8_goesIn 104 = .ok (.getfield 134, 3) := by decide +kernel
theorem dX8_goesIn_107 : decode cX8_goesIn 107 = .ok (.iconst 1, 1) := by decide +kernel
theorem dX8_goesIn_108 : decode cX8_goesIn 108 = .ok (.iadd, 1) := by decide +kernel
theorem dX8_goesIn_109 : decode cX8_goesIn 109 = .ok (.putfield 134, 3) := by decide +kernel
theorem dX8_goesIn_112 : decode cX8_goesIn 112 = .ok (.goto 124, 3) := by decide +kernel
theorem dX8_goesIn_115 : decode cX8_goesIn 115 = .ok (.iload_n 1, 1) := by decide +kernel
theorem dX8_goesIn_116 : decode cX8_goesIn 116 = .ok (.aload_n 0, 1) := by decide +kernel
theorem dX8_goesIn_117 : decode cX8_goesIn 117 = .ok (.getfield 7, 3) := by decide +kernel
theorem dX8_goesIn_120 : decode cX8_goesIn 120 = .ok (.iload_n 1, 1) := by decide +kernel
theorem dX8_goesIn_121 : decode cX8_goesIn 121 = .ok (.bipush 17, 2) := by decide +kernel
theorem dX8_goesIn_123 : decode cX8_goesIn 123 = .ok (.iadd, 1) := by decide +kernel
theorem dX8_goesIn_124 : decode cX8_goesIn 124 = .ok (.iload_n 2, 1) := by decide +kernel
theorem dX8_goesIn_125 : decode cX8_goesIn 125 = .ok (.iadd, 1) := by decide +kernel
theorem dX8_goesIn_126 : decode cX8_goesIn 126 = .ok (.iaload, 1) := by decide +kernel
theorem dX8_goesIn_127 : decode cX8_goesIn 127 = .ok (.iadd, 1) := by decide +kernel
theorem dX8_goesIn_128 : decode cX8_goesIn 128 = .ok (.istore 4, 2) := by decide +kernel
theorem dX8_goesIn_130 : decode cX8_goesIn 130 = .ok (.aload_n 0, 1) := by decide +kernel
theorem dX8_goesIn_131 : decode cX8_goesIn 131 = .ok (.iload_n 1, 1) := by decide +kernel
theorem dX8_goesIn_132 : decode cX8_goesIn 132 = .ok (.iload_n 2, 1) := by decide +kernel
theorem dX8_goesIn_133 : decode cX8_goesIn 133 = .ok (.invokevirtual 141, 3) := by decide +kernel
theorem dX8_goesIn_136 : decode cX8_goesIn 136 = .ok (.aload_n 0, 1) := by decide +kernel
theorem dX8_goesIn_137 : decode cX8_goesIn 137 = .ok (.getfield 7, 3) := by decide +kernel
theorem dX8_goesIn_140 : decode cX8_goesIn 140 = .ok (.iload 4, 2) := by decide +kernel
theorem dX8_goesIn_142 : decode cX8_goesIn 142 = .ok (.iaload, 1) := by decide +kernel
theorem dX8_goesIn_143 : decode cX8_goesIn 143 = .ok (.bipush 30, 2) := by decide +kernel
theorem dX8_goesIn_145 : decode cX8_goesIn 145 = .ok (.iadd, 1) := by decide +kernel
theorem dX8_goesIn_146 : decode cX8_goesIn 146 = .ok (.if_icmp .ge 12, 3) := by decide +kernel
theorem dX8_goesIn_149 : decode cX8_goesIn 149 = .ok (.aload_n 0, 1) := by decide +kernel
theorem dX8_goesIn_150 : decode cX8_goesIn 150 = .ok (.iload_n 1, 1) := by decide +kernel
theorem dX8_goesIn_151 : decode cX8_goesIn 151 = .ok (.iload_n 2, 1) := by decide +kernel
theorem dX8_goesIn_152 : decode cX8_goesIn 152 = .ok (.invokevirtual 141, 3) := by decide +kernel
theorem dX8_goesIn_155 : decode cX8_goesIn 155 = .ok (.goto 13, 3) := by decide +kernel
theorem dX8_goesIn_158 : decode cX8_goesIn 158 = .ok (.aload_n 0, 1) := by decide +kernel
theorem dX8_goesIn_159 : decode cX8_goesIn 159 = .ok (.getfield 7, 3) := by decide +kernel
theorem dX8_goesIn_162 : decode cX8_goesIn 162 = .ok (.iload 4, 2) := by decide +kernel
theorem dX8_goesIn_164 : decode cX8_goesIn 164 = .ok (.iaload, 1) := by decide +kernel
theorem dX8_goesIn_165 : decode cX8_goesIn 165 = .ok (.bipush 30, 2) := by decide +kernel
theorem dX8_goesIn_167 : decode cX8_goesIn 167 = .ok (.iadd, 1) := by decide +kernel
theorem dX8_goesIn_168 : decode cX8_goesIn 168 = .ok (.istore 5, 2) := by decide +kernel
theorem dX8_goesIn_170 : decode cX8_goesIn 170 = .ok (.aload_n 0, 1) := by decide +kernel
theorem dX8_goesIn_171 : decode cX8_goesIn 171 = .ok (.getfield 7, 3) := by decide +kernel
theorem dX8_goesIn_174 : decode cX8_goesIn 174 = .ok (.iload_n 1, 1) := by decide +kernel
theorem dX8_goesIn_175 : decode cX8_goesIn 175 = .ok (.bipush 22, 2) := by decide +kernel
theorem dX8_goesIn_177 : decode cX8_goesIn 177 = .ok (.iadd, 1) := by decide +kernel
theorem dX8_goesIn_178 : decode cX8_goesIn 178 = .ok (.iload_n 2, 1) := by decide +kernel
theorem dX8_goesIn_179 : decode cX8_goesIn 179 = .ok (.iadd, 1) := by decide +kernel
theorem dX8_goesIn_180 : decode cX8_goesIn 180 = .ok (.iaload, 1) := by decide +kernel
theorem dX8_goesIn_181 : decode cX8_goesIn 181 = .ok (.iload 5, 2) := by decide +kernel
theorem dX8_goesIn_183 : decode cX8_goesIn 183 = .ok (.iadd, 1) := by decide +kernel
theorem dX8_goesIn_184 : decode cX8_goesIn 184 = .ok (.istore 6, 2) := by decide +kernel
theorem dX8_goesIn_186 : decode cX8_goesIn 186 = .ok (.aload_n 0, 1) := by decide +kernel
theorem dX8_goesIn_187 : decode cX8_goesIn 187 = .ok (.getfield 7, 3) := by decide +kernel
theorem dX8_goesIn_190 : decode cX8_goesIn 190 = .ok (.iload 4, 2) := by decide +kernel
theorem dX8_goesIn_192 : decode cX8_goesIn 192 = .ok (.dup2, 1) := by decide +kernel
theorem dX8_goesIn_193 : decode cX8_goesIn 193 = .ok (.iaload, 1) := by decide +kernel
theorem dX8_goesIn_194 : decode cX8_goesIn 194 = .ok (.iload 5, 2) := by decide +kernel
theorem dX8_goesIn_196 : decode cX8_goesIn 196 = .ok (.isub, 1) := by decide +kernel
theorem dX8_goesIn_197 : decode cX8_goesIn 197 = .ok (.iastore, 1) := by decide +kernel
theorem dX8_goesIn_198 : decode cX8_goesIn 198 = .ok (.aload_n 0, 1) := by decide +kernel
theorem dX8_goesIn_199 : decode cX8_goesIn 199 = .ok (.getfield 7, 3) := by decide +kernel
theorem dX8_goesIn_202 : decode cX8_goesIn 202 = .ok (.iload_n 1, 1) := by decide +kernel
theorem dX8_goesIn_203 : decode cX8_goesIn 203 = .ok (.bipush 22, 2) := by decide +kernel
theorem dX8_goesIn_205 : decode cX8_goesIn 205 = .ok (.iadd, 1) := by decide +kernel
theorem dX8_goesIn_206 : decode cX8_goesIn 206 = .ok (.iload_n 2, 1) := by decide +kernel
theorem dX8_goesIn_207 : decode cX8_goesIn 207 = .ok (.iadd, 1) := by decide +kernel
theorem dX8_goesIn_208 : decode cX8_goesIn 208 = .ok (.iload 6, 2) := by decide +kernel
theorem dX8_goesIn_210 : decode cX8_goesIn 210 = .ok (.sipush 999, 3) := by decide +kernel
theorem dX8_goesIn_213 : decode cX8_goesIn 213 = .ok (.if_icmp .le 9, 3) := by decide +kernel
theorem dX8_goesIn_216 : decode cX8_goesIn 216 = .ok (.sipush 999, 3) := by decide +kernel
theorem dX8_goesIn_219 : decode cX8_goesIn 219 = .ok (.goto 5, 3) := by decide +kernel
theorem dX8_goesIn_222 : decode cX8_goesIn 222 = .ok (.iload 6, 2) := by decide +kernel
theorem dX8_goesIn_224 : decode cX8_goesIn 224 = .ok (.iastore, 1) := by decide +kernel
theorem dX8_goesIn_225 : decode cX8_goesIn 225 = .ok (.aload_n 0, 1) := by decide +kernel
theorem dX8_goesIn_226 : decode cX8_goesIn 226 = .ok (.dup, 1) := by decide +kernel
theorem dX8_goesIn_227 : decode cX8_goesIn 227 = .ok (.getfield 128, 3) := by decide +kernel
theorem dX8_goesIn_230 : decode cX8_goesIn 230 = .ok (.iload 5, 2) := by decide +kernel
theorem dX8_goesIn_232 : decode cX8_goesIn 232 = .ok (.iadd, 1) := by decide +kernel
theorem dX8_goesIn_233 : decode cX8_goesIn 233 = .ok (.putfield 128, 3) := by decide +kernel
theorem dX8_goesIn_236 : decode cX8_goesIn 236 = .ok (.return_, 1) := by decide +kernel
theorem dX8_nightOn_0 : decode cX8_nightOn 0 = .ok (.iconst 0, 1) := by decide +kernel
theorem dX8_nightOn_1 : decode cX8_nightOn 1 = .ok (.istore_n 3, 1) := by decide +kernel
theorem dX8_nightOn_2 : decode cX8_nightOn 2 = .ok (.iload_n 3, 1) := by decide +kernel
theorem dX8_nightOn_3 : decode cX8_nightOn 3 = .ok (.aload_n 0, 1) := by decide +kernel
theorem dX8_nightOn_4 : decode cX8_nightOn 4 = .ok (.getfield 116, 3) := by decide +kernel
theorem dX8_nightOn_7 : decode cX8_nightOn 7 = .ok (.if_icmp .ge 16, 3) := by decide +kernel
theorem dX8_nightOn_10 : decode cX8_nightOn 10 = .ok (.aload_n 0, 1) := by decide +kernel
theorem dX8_nightOn_11 : decode cX8_nightOn 11 = .ok (.iload_n 1, 1) := by decide +kernel
theorem dX8_nightOn_12 : decode cX8_nightOn 12 = .ok (.iload_n 3, 1) := by decide +kernel
theorem dX8_nightOn_13 : decode cX8_nightOn 13 = .ok (.iload_n 2, 1) := by decide +kernel
theorem dX8_nightOn_14 : decode cX8_nightOn 14 = .ok (.invokevirtual 144, 3) := by decide +kernel
theorem dX8_nightOn_17 : decode cX8_nightOn 17 = .ok (.iinc 3 1, 3) := by decide +kernel
theorem dX8_nightOn_20 : decode cX8_nightOn 20 = .ok (.goto (-18), 3) := by decide +kernel
theorem dX8_nightOn_23 : decode cX8_nightOn 23 = .ok (.iconst 0, 1) := by decide +kernel
theorem dX8_nightOn_24 : decode cX8_nightOn 24 = .ok (.istore_n 3, 1) := by decide +kernel
theorem dX8_nightOn_25 : decode cX8_nightOn 25 = .ok (.iload_n 3, 1) := by decide +kernel
theorem dX8_nightOn_26 : decode cX8_nightOn 26 = .ok (.bipush 6, 2) := by decide +kernel
theorem dX8_nightOn_28 : decode cX8_nightOn 28 = .ok (.if_icmp .ge 55, 3) := by decide +kernel
theorem dX8_nightOn_31 : decode cX8_nightOn 31 = .ok (.aload_n 0, 1) := by decide +kernel
theorem dX8_nightOn_32 : decode cX8_nightOn 32 = .ok (.getfield 7, 3) := by decide +kernel
theorem dX8_nightOn_35 : decode cX8_nightOn 35 = .ok (.iload_n 1, 1) := by decide +kernel
theorem dX8_nightOn_36 : decode cX8_nightOn 36 = .ok (.iload_n 3, 1) := by decide +kernel
theorem dX8_nightOn_37 : decode cX8_nightOn 37 = .ok (.iadd, 1) := by decide +kernel
theorem dX8_nightOn_38 : decode cX8_nightOn 38 = .ok (.iaload, 1) := by decide +kernel
theorem dX8_nightOn_39 : decode cX8_nightOn 39 = .ok (.aload_n 0, 1) := by decide +kernel
theorem dX8_nightOn_40 : decode cX8_nightOn 40 = .ok (.getfield 7, 3) := by decide +kernel
theorem dX8_nightOn_43 : decode cX8_nightOn 43 = .ok (.iload_n 1, 1) := by decide +kernel
theorem dX8_nightOn_44 : decode cX8_nightOn 44 = .ok (.bipush 6, 2) := by decide +kernel
theorem dX8_nightOn_46 : decode cX8_nightOn 46 = .ok (.iadd, 1) := by decide +kernel
theorem dX8_nightOn_47 : decode cX8_nightOn 47 = .ok (.iload_n 3, 1) := by decide +kernel
theorem dX8_nightOn_48 : decode cX8_nightOn 48 = .ok (.iadd, 1) := by decide +kernel
theorem dX8_nightOn_49 : decode cX8_nightOn 49 = .ok (.iaload, 1) := by decide +kernel
theorem dX8_nightOn_50 : decode cX8_nightOn 50 = .ok (.iadd, 1) := by decide +kernel
theorem dX8_nightOn_51 : decode cX8_nightOn 51 = .ok (.iconst 2, 1) := by decide +kernel
theorem dX8_nightOn_52 : decode cX8_nightOn 52 = .ok (.iadd, 1) := by decide +kernel
theorem dX8_nightOn_53 : decode cX8_nightOn 53 = .ok (.istore 4, 2) := by decide +kernel
theorem dX8_nightOn_55 : decode cX8_nightOn 55 = .ok (.aload_n 0, 1) := by decide +kernel
theorem dX8_nightOn_56 : decode cX8_nightOn 56 = .ok (.getfield 7, 3) := by decide +kernel
theorem dX8_nightOn_59 : decode cX8_nightOn 59 = .ok (.iload_n 1, 1) := by decide +kernel
theorem dX8_nightOn_60 : decode cX8_nightOn 60 = .ok (.iload_n 3, 1) := by decide +kernel
theorem dX8_nightOn_61 : decode cX8_nightOn 61 = .ok (.iadd, 1) := by decide +kernel
theorem dX8_nightOn_62 : decode cX8_nightOn 62 = .ok (.iload 4, 2) := by decide +kernel
theorem dX8_nightOn_64 : decode cX8_nightOn 64 = .ok (.bipush 30, 2) := by decide +kernel
theorem dX8_nightOn_66 : decode cX8_nightOn 66 = .ok (.if_icmp .le 8, 3) := by decide +kernel
theorem dX8_nightOn_69 : decode cX8_nightOn 69 = .ok (.bipush 30, 2) := by decide +kernel
theorem dX8_nightOn_71 : decode cX8_nightOn 71 = .ok (.goto 5, 3) := by decide +kernel
theorem dX8_nightOn_74 : decode cX8_nightOn 74 = .ok (.iload 4, 2) := by decide +kernel
theorem dX8_nightOn_76 : decode cX8_nightOn 76 = .ok (.iastore, 1) := by decide +kernel
theorem dX8_nightOn_77 : decode cX8_nightOn 77 = .ok (.iinc 3 1, 3) := by decide +kernel
theorem dX8_nightOn_80 : decode cX8_nightOn 80 = .ok (.goto (-55), 3) := by decide +kernel
theorem dX8_nightOn_83 : decode cX8_nightOn 83 = .ok (.aload_n 0, 1) := by decide +kernel
theorem dX8_nightOn_84 : decode cX8_nightOn 84 = .ok (.getfield 7, 3) := by decide +kernel
theorem dX8_nightOn_87 : decode cX8_nightOn 87 = .ok (.iload_n 1, 1) := by decide +kernel
theorem dX8_nightOn_88 : decode cX8_nightOn 88 = .ok (.bipush 42, 2) := by decide +kernel
theorem dX8_nightOn_90 : decode cX8_nightOn 90 = .ok (.iadd, 1) := by decide +kernel
theorem dX8_nightOn_91 : decode cX8_nightOn 91 = .ok (.dup2, 1) := by decide +kernel
theorem dX8_nightOn_92 : decode cX8_nightOn 92 = .ok (.iaload, 1) := by decide +kernel
theorem dX8_nightOn_93 : decode cX8_nightOn 93 = .ok (.iconst 1, 1) := by decide +kernel
theorem dX8_nightOn_94 : decode cX8_nightOn 94 = .ok (.iadd, 1) := by decide +kernel
theorem dX8_nightOn_95 : decode cX8_nightOn 95 = .ok (.iastore, 1) := by decide +kernel
theorem dX8_nightOn_96 : decode cX8_nightOn 96 = .ok (.return_, 1) := by decide +kernel
theorem dX8_rule_0 : decode cX8_rule 0 = .ok (.iconst 0, 1) := by decide +kernel
theorem dX8_rule_1 : decode cX8_rule 1 = .ok (.istore_n 2, 1) := by decide +kernel
theorem dX8_rule_2 : decode cX8_rule 2 = .ok (.iconst 0, 1) := by decide +kernel
theorem dX8_rule_3 : decode cX8_rule 3 = .ok (.istore_n 3, 1) := by decide +kernel
theorem dX8_rule_4 : decode cX8_rule 4 = .ok (.iconst 0, 1) := by decide +kernel
theorem dX8_rule_5 : decode cX8_rule 5 = .ok (.istore 4, 2) := by decide +kernel
theorem dX8_rule_7 : decode cX8_rule 7 = .ok (.iconst 0, 1) := by decide +kernel
theorem dX8_rule_8 : decode cX8_rule 8 = .ok (.istore 5, 2) := by decide +kernel
theorem dX8_rule_10 : decode cX8_rule 10 = .ok (.iload 5, 2) := by decide +kernel
theorem dX8_rule_12 : decode cX8_rule 12 = .ok (.aload_n 0, 1) := by decide +kernel
theorem dX8_rule_13 : decode cX8_rule 13 = .ok (.getfield 116, 3) := by decide +kernel
theorem dX8_rule_16 : decode cX8_rule 16 = .ok (.if_icmp .ge 86, 3) := by decide +kernel
theorem dX8_rule_19 : decode cX8_rule 19 = .ok (.aload_n 0, 1) := by decide +kernel
theorem dX8_rule_20 : decode cX8_rule 20 = .ok (.getfield 7, 3) := by decide +kernel
theorem dX8_rule_23 : decode cX8_rule 23 = .ok (.bipush 27, 2) := by decide +kernel
theorem dX8_rule_25 : decode cX8_rule 25 = .ok (.iload 5, 2) := by decide +kernel
theorem dX8_rule_27 : decode cX8_rule 27 = .ok (.iadd, 1) := by decide +kernel
theorem dX8_rule_28 : decode cX8_rule 28 = .ok (.iaload, 1) := by decide +kernel
theorem dX8_rule_29 : decode cX8_rule 29 = .ok (.ifCond .le 7, 3) := by decide +kernel
theorem dX8_rule_32 : decode cX8_rule 32 = .ok (.iconst 1, 1) := by decide +kernel
theorem dX8_rule_33 : decode cX8_rule 33 = .ok (.goto 4, 3) := by decide +kernel
theorem dX8_rule_36 : decode cX8_rule 36 = .ok (.iconst 0, 1) := by decide +kernel
theorem dX8_rule_37 : decode cX8_rule 37 = .ok (.istore 6, 2) := by decide +kernel
theorem dX8_rule_39 : decode cX8_rule 39 = .ok (.iload_n 2, 1) := by decide +kernel
theorem dX8_rule_40 : decode cX8_rule 40 = .ok (.aload_n 0, 1) := by decide +kernel
theorem dX8_rule_41 : decode cX8_rule 41 = .ok (.getfield 7, 3) := by decide +kernel
theorem dX8_rule_44 : decode cX8_rule 44 = .ok (.bipush 22, 2) := by decide +kernel
theorem dX8_rule_46 : decode cX8_rule 46 = .ok (.iload 5, 2) := by decide +kernel
theorem dX8_rule_48 : decode cX8_rule 48 = .ok (.iadd, 1) := by decide +kernel
theorem dX8_rule_49 : decode cX8_rule 49 = .ok (.iaload, 1) := by decide +kernel
theorem dX8_rule_50 : decode cX8_rule 50 = .ok (.iadd, 1) := by decide +kernel
theorem dX8_rule_51 : decode cX8_rule 51 = .ok (.istore_n 2, 1) := by decide +kernel
theorem dX8_rule_52 : decode cX8_rule 52 = .ok (.iload_n 3, 1) := by decide +kernel
theorem dX8_rule_53 : decode cX8_rule 53 = .ok (.iload 6, 2) := by decide +kernel
theorem dX8_rule_55 : decode cX8_rule 55 = .ok (.ifCond .eq 10, 3) := by decide +kernel
theorem dX8_rule_58 : decode cX8_rule 58 = .ok (.iconst 1, 1) := by decide +kernel
theorem dX8_rule_59 : decode cX8_rule 59 = .ok (.iload 5, 2) := by decide +kernel
theorem dX8_rule_61 : decode cX8_rule 61 = .ok (.ishl, 1) := by decide +kernel
theorem dX8_rule_62 : decode cX8_rule 62 = .ok (.goto 4, 3) := by decide +kernel
theorem dX8_rule_65 : decode cX8_rule 65 = .ok (.iconst 0, 1) := by decide +kernel
theorem dX8_rule_66 : decode cX8_rule 66 = .ok (.ior, 1) := by decide +kernel
theorem dX8_rule_67 : decode cX8_rule 67 = .ok (.istore_n 3, 1) := by decide +kernel
theorem dX8_rule_68 : decode cX8_rule 68 = .ok (.iload 4, 2) := by decide +kernel
theorem dX8_rule_70 : decode cX8_rule 70 = .ok (.iload 6, 2) := by decide +kernel
theorem dX8_rule_72 : decode cX8_rule 72 = .ok (.ifCond .ne 20, 3) := by decide +kernel
theorem dX8_rule_75 : decode cX8_rule 75 = .ok (.aload_n 0, 1) := by decide +kernel
theorem dX8_rule_76 : decode cX8_rule 76 = .ok (.iconst 0, 1) := by decide +kernel
theorem dX8_rule_77 : decode cX8_rule 77 = .ok (.iload 5, 2) := by decide +kernel
theorem dX8_rule_79 : decode cX8_rule 79 = .ok (.invokevirtual 137, 3) := by decide +kernel
theorem dX8_rule_82 : decode cX8_rule 82 = .ok (.ifCond .eq 10, 3) := by decide +kernel
theorem dX8_rule_85 : decode cX8_rule 85 = .ok (.iconst 1, 1) := by decide +kernel
theorem dX8_rule_86 : decode cX8_rule 86 = .ok (.iload 5, 2) := by decide +kernel
theorem dX8_rule_88 : decode cX8_rule 88 = .ok (.ishl, 1) := by decide +kernel
theorem dX8_rule_89 : decode cX8_rule 89 = .ok (.goto 4, 3) := by decide +kernel
theorem dX8_rule_92 : decode cX8_rule 92 = .ok (.iconst 0, 1) := by decide +kernel
theorem dX8_rule_93 : decode cX8_rule 93 = .ok (.ior, 1) := by decide +kernel
theorem dX8_rule_94 : decode cX8_rule 94 = .ok (.istore 4, 2) := by decide +kernel
theorem dX8_rule_96 : decode cX8_rule 96 = .ok (.iinc 5 1, 3) := by decide +kernel
theorem dX8_rule_99 : decode cX8_rule 99 = .ok (.goto (-89), 3) := by decide +kernel
theorem dX8_rule_102 : decode cX8_rule 102 = .ok (.iload_n 1, 1) := by decide +kernel
theorem dX8_rule_103 : decode cX8_rule 103 = .ok (.tableswitch 87 0 7 #[45, 50, 58, 66, 74, 80, 82, 84], 45) := by decide +kernel
theorem dX8_rule_148 : decode cX8_rule 148 = .ok (.aload_n 0, 1) := by decide +kernel
theorem dX8_rule_149 : decode cX8_rule 149 = .ok (.getfield 116, 3) := by decide +kernel
theorem dX8_rule_152 : decode cX8_rule 152 = .ok (.ireturn, 1) := by decide +kernel
theorem dX8_rule_153 : decode cX8_rule 153 = .ok (.aload_n 0, 1) := by decide +kernel
theorem dX8_rule_154 : decode cX8_rule 154 = .ok (.getfield 7, 3) := by decide +kernel
theorem dX8_rule_157 : decode cX8_rule 157 = .ok (.bipush 41, 2) := by decide +kernel
theorem dX8_rule_159 : decode cX8_rule 159 = .ok (.iaload, 1) := by decide +kernel
theorem dX8_rule_160 : decode cX8_rule 160 = .ok (.ireturn, 1) := by decide +kernel
theorem dX8_rule_161 : decode cX8_rule 161 = .ok (.aload_n 0, 1) := by decide +kernel
theorem dX8_rule_162 : decode cX8_rule 162 = .ok (.getfield 7, 3) := by decide +kernel
theorem dX8_rule_165 : decode cX8_rule 165 = .ok (.bipush 42, 2) := by decide +kernel
theorem dX8_rule_167 : decode cX8_rule 167 = .ok (.iaload, 1) := by decide +kernel
theorem dX8_rule_168 : decode cX8_rule 168 = .ok (.ireturn, 1) := by decide +kernel
theorem dX8_rule_169 : decode cX8_rule 169 = .ok (.aload_n 0, 1) := by decide +kernel
theorem dX8_rule_170 : decode cX8_rule 170 = .ok (.getfield 7, 3) := by decide +kernel
theorem dX8_rule_173 : decode cX8_rule 173 = .ok (.bipush 43, 2) := by decide +kernel
theorem dX8_rule_175 : decode cX8_rule 175 = .ok (.iaload, 1) := by decide +kernel
theorem dX8_rule_176 : decode cX8_rule 176 = .ok (.ireturn, 1) := by decide +kernel
theorem dX8_rule_177 : decode cX8_rule 177 = .ok (.aload_n 0, 1) := by decide +kernel
theorem dX8_rule_178 : decode cX8_rule 178 = .ok (.iconst 0, 1) := by decide +kernel
theorem dX8_rule_179 : decode cX8_rule 179 = .ok (.invokevirtual 148, 3) := by decide +kernel
theorem dX8_rule_182 : decode cX8_rule 182 = .ok (.ireturn, 1) := by decide +kernel
theorem dX8_rule_183 : decode cX8_rule 183 = .ok (.iload_n 2, 1) := by decide +kernel
theorem dX8_rule_184 : decode cX8_rule 184 = .ok (.ireturn, 1) := by decide +kernel
theorem dX8_rule_185 : decode cX8_rule 185 = .ok (.iload_n 3, 1) := by decide +kernel
theorem dX8_rule_186 : decode cX8_rule 186 = .ok (.ireturn, 1) := by decide +kernel
theorem dX8_rule_187 : decode cX8_rule 187 = .ok (.iload 4, 2) := by decide +kernel
theorem dX8_rule_189 : decode cX8_rule 189 = .ok (.ireturn, 1) := by decide +kernel
theorem dX8_rule_190 : decode cX8_rule 190 = .ok (.iconst (-1), 1) := by decide +kernel
theorem dX8_rule_191 : decode cX8_rule 191 = .ok (.ireturn, 1) := by decide +kernel
theorem dX8_gate_0 : decode cX8_gate 0 = .ok (.iload_n 1, 1) := by decide +kernel
theorem dX8_gate_1 : decode cX8_gate 1 = .ok (.invokestatic 151, 3) := by decide +kernel
theorem dX8_gate_4 : decode cX8_gate 4 = .ok (.ifCond .eq 15, 3) := by decide +kernel
theorem dX8_gate_7 : decode cX8_gate 7 = .ok (.iload_n 2, 1) := by decide +kernel
theorem dX8_gate_8 : decode cX8_gate 8 = .ok (.i2l, 1) := by decide +kernel
theorem dX8_gate_9 : decode cX8_gate 9 = .ok (.lconst 0, 1) := by decide +kernel
theorem dX8_gate_10 : decode cX8_gate 10 = .ok (.ldc2_w 155, 3) := by decide +kernel
theorem dX8_gate_13 : decode cX8_gate 13 = .ok (.invokestatic 46, 3) := by decide +kernel
theorem dX8_gate_16 : decode cX8_gate 16 = .ok (.ifCond .ne 5, 3) := by decide +kernel
theorem dX8_gate_19 : decode cX8_gate 19 = .ok (.iconst (-1), 1) := by decide +kernel
theorem dX8_gate_20 : decode cX8_gate 20 = .ok (.ireturn, 1) := by decide +kernel
theorem dX8_gate_21 : decode cX8_gate 21 = .ok (.iconst 0, 1) := by decide +kernel
theorem dX8_gate_22 : decode cX8_gate 22 = .ok (.istore_n 3, 1) := by decide +kernel
theorem dX8_gate_23 : decode cX8_gate 23 = .ok (.iconst 0, 1) := by decide +kernel
theorem dX8_gate_24 : decode cX8_gate 24 = .ok (.istore 4, 2) := by decide +kernel
theorem dX8_gate_26 : decode cX8_gate 26 = .ok (.iload 4, 2) := by decide +kernel
theorem dX8_gate_28 : decode cX8_gate 28 = .ok (.aload_n 0, 1) := by decide +kernel
theorem dX8_gate_29 : decode cX8_gate 29 = .ok (.getfield 116, 3) := by decide +kernel
theorem dX8_gate_32 : decode cX8_gate 32 = .ok (.if_icmp .ge 39, 3) := by decide +kernel
theorem dX8_gate_35 : decode cX8_gate 35 = .ok (.iload_n 2, 1) := by decide +kernel
theorem dX8_gate_36 : decode cX8_gate 36 = .ok (.iconst 2, 1) := by decide +kernel
theorem dX8_gate_37 : decode cX8_gate 37 = .ok (.if_icmp .ne 34, 3) := by decide +kernel
theorem dX8_gate_40 : decode cX8_gate 40 = .ok (.iload_n 3, 1) := by decide +kernel
theorem dX8_gate_41 : decode cX8_gate 41 = .ok (.aload_n 0, 1) := by decide +kernel
theorem dX8_gate_42 : decode cX8_gate 42 = .ok (.getfield 7, 3) := by decide +kernel
theorem dX8_gate_45 : decode cX8_gate 45 = .ok (.bipush 17, 2) := by decide +kernel
theorem dX8_gate_47 : decode cX8_gate 47 = .ok (.iload 4, 2) := by decide +kernel
theorem dX8_gate_49 : decode cX8_gate 49 = .ok (.iadd, 1) := by decide +kernel
theorem dX8_gate_50 : decode cX8_gate 50 = .ok (.iaload, 1) := by decide +kernel
theorem dX8_gate_51 : decode cX8_gate 51 = .ok (.iload_n 1, 1) := by decide +kernel
theorem dX8_gate_52 : decode cX8_gate 52 = .ok (.if_icmp .ne 10, 3) := by decide +kernel
theorem dX8_gate_55 : decode cX8_gate 55 = .ok (.iconst 1, 1) := by decide +kernel
theorem dX8_gate_56 : decode cX8_gate 56 = .ok (.iload 4, 2) := by decide +kernel
theorem dX8_gate_58 : decode cX8_gate 58 = .ok (.ishl, 1) := by decide +kernel
theorem dX8_gate_59 : decode cX8_gate 59 = .ok (.goto 4, 3) := by decide +kernel
theorem dX8_gate_62 : decode cX8_gate 62 = .ok (.iconst 0, 1) := by decide +kernel
theorem dX8_gate_63 : decode cX8_gate 63 = .ok (.ior, 1) := by decide +kernel
theorem dX8_gate_64 : decode cX8_gate 64 = .ok (.istore_n 3, 1) := by decide +kernel
theorem dX8_gate_65 : decode cX8_gate 65 = .ok (.iinc 4 1, 3) := by decide +kernel
theorem dX8_gate_68 : decode cX8_gate 68 = .ok (.goto (-42), 3) := by decide +kernel
theorem dX8_gate_71 : decode cX8_gate 71 = .ok (.iconst 0, 1) := by decide +kernel
theorem dX8_gate_72 : decode cX8_gate 72 = .ok (.istore 4, 2) := by decide +kernel
theorem dX8_gate_74 : decode cX8_gate 74 = .ok (.iload 4, 2) := by decide +kernel
theorem dX8_gate_76 : decode cX8_gate 76 = .ok (.aload_n 0, 1) := by decide +kernel
theorem dX8_gate_77 : decode cX8_gate 77 = .ok (.getfield 7, 3) := by decide +kernel
theorem dX8_gate_80 : decode cX8_gate 80 = .ok (.bipush 41, 2) := by decide +kernel
theorem dX8_gate_82 : decode cX8_gate 82 = .ok (.iaload, 1) := by decide +kernel
theorem dX8_gate_83 : decode cX8_gate 83 = .ok (.if_icmp .ge 36, 3) := by decide +kernel
theorem dX8_gate_86 : decode cX8_gate 86 = .ok (.iload_n 2, 1) := by decide +kernel
theorem dX8_gate_87 : decode cX8_gate 87 = .ok (.iconst 3, 1) := by decide +kernel
theorem dX8_gate_88 : decode cX8_gate 88 = .ok (.if_icmp .ne 31, 3) := by decide +kernel
theorem dX8_gate_91 : decode cX8_gate 91 = .ok (.iload_n 3, 1) := by decide +kernel
theorem dX8_gate_92 : decode cX8_gate 92 = .ok (.aload_n 0, 1) := by decide +kernel
theorem dX8_gate_93 : decode cX8_gate 93 = .ok (.iconst 0, 1) := by decide +kernel
theorem dX8_gate_94 : decode cX8_gate 94 = .ok (.iload 4, 2) := by decide +kernel
theorem dX8_gate_96 : decode cX8_gate 96 = .ok (.invokevirtual 122, 3) := by decide +kernel
theorem dX8_gate_99 : decode cX8_gate 99 = .ok (.iload_n 1, 1) := by decide +kernel
theorem dX8_gate_100 : decode cX8_gate 100 = .ok (.if_icmp .ne 10, 3) := by decide +kernel
theorem dX8_gate_103 : decode cX8_gate 103 = .ok (.iconst 1, 1) := by decide +kernel
theorem dX8_gate_104 : decode cX8_gate 104 = .ok (.iload 4, 2) := by decide +kernel
theorem dX8_gate_106 : decode cX8_gate 106 = .ok (.ishl, 1) := by decide +kernel
theorem dX8_gate_107 : decode cX8_gate 107 = .ok (.goto 4, 3) := by decide +kernel
theorem dX8_gate_110 : decode cX8_gate 110 = .ok (.iconst 0, 1) := by decide +kernel
theorem dX8_gate_111 : decode cX8_gate 111 = .ok (.ior, 1) := by decide +kernel
theorem dX8_gate_112 : decode cX8_gate 112 = .ok (.istore_n 3, 1) := by decide +kernel
theorem dX8_gate_113 : decode cX8_gate 113 = .ok (.iinc 4 1, 3) := by decide +kernel
theorem dX8_gate_116 : decode cX8_gate 116 = .ok (.goto (-42), 3) := by decide +kernel
theorem dX8_gate_119 : decode cX8_gate 119 = .ok (.iload_n 2, 1) := by decide +kernel
theorem dX8_gate_120 : decode cX8_gate 120 = .ok (.ifCond .ne 15, 3) := by decide +kernel
theorem dX8_gate_123 : decode cX8_gate 123 = .ok (.aload_n 0, 1) := by decide +kernel
theorem dX8_gate_124 : decode cX8_gate 124 = .ok (.getfield 7, 3) := by decide +kernel
theorem dX8_gate_127 : decode cX8_gate 127 = .ok (.iload_n 1, 1) := by decide +kernel
theorem dX8_gate_128 : decode cX8_gate 128 = .ok (.iaload, 1) := by decide +kernel
theorem dX8_gate_129 : decode cX8_gate 129 = .ok (.bipush 30, 2) := by decide +kernel
theorem dX8_gate_131 : decode cX8_gate 131 = .ok (.iadd, 1) := by decide +kernel
theorem dX8_gate_132 : decode cX8_gate 132 = .ok (.goto 23, 3) := by decide +kernel
theorem dX8_gate_135 : decode cX8_gate 135 = .ok (.iload_n 2, 1) := by decide +kernel
theorem dX8_gate_136 : decode cX8_gate 136 = .ok (.iconst 1, 1) := by decide +kernel
theorem dX8_gate_137 : decode cX8_gate 137 = .ok (.if_icmp .ne 17, 3) := by decide +kernel
theorem dX8_gate_140 : decode cX8_gate 140 = .ok (.aload_n 0, 1) := by decide +kernel
theorem dX8_gate_141 : decode cX8_gate 141 = .ok (.getfield 7, 3) := by decide +kernel
theorem dX8_gate_144 : decode cX8_gate 144 = .ok (.bipush 6, 2) := by decide +kernel
theorem dX8_gate_146 : decode cX8_gate 146 = .ok (.iload_n 1, 1) := by decide +kernel
theorem dX8_gate_147 : decode cX8_gate 147 = .ok (.iadd, 1) := by decide +kernel
theorem dX8_gate_148 : decode cX8_gate 148 = .ok (.iaload, 1) := by decide +kernel
theorem dX8_gate_149 : decode cX8_gate 149 = .ok (.iconst 2, 1) := by decide +kernel
theorem dX8_gate_150 : decode cX8_gate 150 = .ok (.iadd, 1) := by decide +kernel
theorem dX8_gate_151 : decode cX8_gate 151 = .ok (.goto 4, 3) := by decide +kernel
theorem dX8_gate_154 : decode cX8_gate 154 = .ok (.iload_n 3, 1) := by decide +kernel
theorem dX8_gate_155 : decode cX8_gate 155 = .ok (.ireturn, 1) := by decide +kernel
theorem dX8_taker_0 : decode cX8_taker 0 = .ok (.aload_n 0, 1) := by decide +kernel
theorem dX8_taker_1 : decode cX8_taker 1 = .ok (.iload_n 1, 1) := by decide +kernel
theorem dX8_taker_2 : decode cX8_taker 2 = .ok (.invokevirtual 157, 3) := by decide +kernel
theorem dX8_taker_5 : decode cX8_taker 5 = .ok (.ifCond .eq 15, 3) := by decide +kernel
theorem dX8_taker_8 : decode cX8_taker 8 = .ok (.iload_n 2, 1) := by decide +kernel
theorem dX8_taker_9 : decode cX8_taker 9 = .ok (.i2l, 1) := by decide +kernel
theorem dX8_taker_10 : decode cX8_taker 10 = .ok (.lconst 0, 1) := by decide +kernel
theorem dX8_taker_11 : decode cX8_taker 11 = .ok (.ldc2_w 98, 3) := by decide +kernel
theorem dX8_taker_14 : decode cX8_taker 14 = .ok (.invokestatic 46, 3) := by decide +kernel
theorem dX8_taker_17 : decode cX8_taker 17 = .ok (.ifCond .ne 5, 3) := by decide +kernel
theorem dX8_taker_20 : decode cX8_taker 20 = .ok (.iconst (-1), 1) := by decide +kernel
theorem dX8_taker_21 : decode cX8_taker 21 = .ok (.ireturn, 1) := by decide +kernel
theorem dX8_taker_22 : decode cX8_taker 22 = .ok (.iload_n 2, 1) := by decide +kernel
theorem dX8_taker_23 : decode cX8_taker 23 = .ok (.iconst 4, 1) := by decide +kernel
theorem dX8_taker_24 : decode cX8_taker 24 = .ok (.if_icmp .ge 19, 3) := by decide +kernel
theorem dX8_taker_27 : decode cX8_taker 27 = .ok (.aload_n 0, 1) := by decide +kernel
theorem dX8_taker_28 : decode cX8_taker 28 = .ok (.getfield 7, 3) := by decide +kernel
theorem dX8_taker_31 : decode cX8_taker 31 = .ok (.bipush 12, 2) := by decide +kernel
theorem dX8_taker_33 : decode cX8_taker 33 = .ok (.iconst 5, 1) := by decide +kernel
theorem dX8_taker_34 : decode cX8_taker 34 = .ok (.iload_n 2, 1) := by decide +kernel
theorem dX8_taker_35 : decode cX8_taker 35 = .ok (.imul, 1) := by decide +kernel
theorem dX8_taker_36 : decode cX8_taker 36 = .ok (.iadd, 1) := by decide +kernel
theorem dX8_taker_37 : decode cX8_taker 37 = .ok (.iload_n 1, 1) := by decide +kernel
theorem dX8_taker_38 : decode cX8_taker 38 = .ok (.iadd, 1) := by decide +kernel
theorem dX8_taker_39 : decode cX8_taker 39 = .ok (.iaload, 1) := by decide +kernel
theorem dX8_taker_40 : decode cX8_taker 40 = .ok (.goto 23, 3) := by decide +kernel
theorem dX8_taker_43 : decode cX8_taker 43 = .ok (.iload_n 2, 1) := by decide +kernel
theorem dX8_taker_44 : decode cX8_taker 44 = .ok (.iconst 4, 1) := by decide +kernel
theorem dX8_taker_45 : decode cX8_taker 45 = .ok (.if_icmp .ne 12, 3) := by decide +kernel
theorem dX8_taker_48 : decode cX8_taker 48 = .ok (.aload_n 0, 1) := by decide +kernel
theorem dX8_taker_49 : decode cX8_taker 49 = .ok (.iconst 0, 1) := by decide +kernel
theorem dX8_taker_50 : decode cX8_taker 50 = .ok (.iload_n 1, 1) := by decide +kernel
theorem dX8_taker_51 : decode cX8_taker 51 = .ok (.invokevirtual 141, 3) := by decide +kernel
theorem dX8_taker_54 : decode cX8_taker 54 = .ok (.goto 9, 3) := by decide +kernel
theorem dX8_taker_57 : decode cX8_taker 57 = .ok (.aload_n 0, 1) := by decide +kernel
theorem dX8_taker_58 : decode cX8_taker 58 = .ok (.iconst 0, 1) := by decide +kernel
theorem dX8_taker_59 : decode cX8_taker 59 = .ok (.iload_n 1, 1) := by decide +kernel
theorem dX8_taker_60 : decode cX8_taker 60 = .ok (.invokevirtual 125, 3) := by decide +kernel
theorem dX8_taker_63 : decode cX8_taker 63 = .ok (.ireturn, 1) := by decide +kernel
theorem dX8_keeper_0 : decode cX8_keeper 0 = .ok (.aload_n 0, 1) := by decide +kernel
theorem dX8_keeper_1 : decode cX8_keeper 1 = .ok (.iload_n 1, 1) := by decide +kernel
theorem dX8_keeper_2 : decode cX8_keeper 2 = .ok (.invokevirtual 160, 3) := by decide +kernel
theorem dX8_keeper_5 : decode cX8_keeper 5 = .ok (.ifCond .eq 15, 3) := by decide +kernel
theorem dX8_keeper_8 : decode cX8_keeper 8 = .ok (.iload_n 2, 1) := by decide +kernel
theorem dX8_keeper_9 : decode cX8_keeper 9 = .ok (.i2l, 1) := by decide +kernel
theorem dX8_keeper_10 : decode cX8_keeper 10 = .ok (.lconst 0, 1) := by decide +kernel
theorem dX8_keeper_11 : decode cX8_keeper 11 = .ok (.ldc2_w 155, 3) := by decide +kernel
theorem dX8_keeper_14 : decode cX8_keeper 14 = .ok (.invokestatic 46, 3) := by decide +kernel
theorem dX8_keeper_17 : decode cX8_keeper 17 = .ok (.ifCond .ne 5, 3) := by decide +kernel
theorem dX8_keeper_20 : decode cX8_keeper 20 = .ok (.iconst (-1), 1) := by decide +kernel
theorem dX8_keeper_21 : decode cX8_keeper 21 = .ok (.ireturn, 1) := by decide +kernel
theorem dX8_keeper_22 : decode cX8_keeper 22 = .ok (.iload_n 2, 1) := by decide +kernel
theorem dX8_keeper_23 : decode cX8_keeper 23 = .ok (.iconst 3, 1) := by decide +kernel
theorem dX8_keeper_24 : decode cX8_keeper 24 = .ok (.if_icmp .ge 19, 3) := by decide +kernel
theorem dX8_keeper_27 : decode cX8_keeper 27 = .ok (.aload_n 0, 1) := by decide +kernel
theorem dX8_keeper_28 : decode cX8_keeper 28 = .ok (.getfield 7, 3) := by decide +kernel
theorem dX8_keeper_31 : decode cX8_keeper 31 = .ok (.bipush 32, 2) := by decide +kernel
theorem dX8_keeper_33 : decode cX8_keeper 33 = .ok (.iconst 3, 1) := by decide +kernel
theorem dX8_keeper_34 : decode cX8_keeper 34 = .ok (.iload_n 2, 1) := by decide +kernel
theorem dX8_keeper_35 : decode cX8_keeper 35 = .ok (.imul, 1) := by decide +kernel
theorem dX8_keeper_36 : decode cX8_keeper 36 = .ok (.iadd, 1) := by decide +kernel
theorem dX8_keeper_37 : decode cX8_keeper 37 = .ok (.iload_n 1, 1) := by decide +kernel
theorem dX8_keeper_38 : decode cX8_keeper 38 = .ok (.iadd, 1) := by decide +kernel
theorem dX8_keeper_39 : decode cX8_keeper 39 = .ok (.iaload, 1) := by decide +kernel
theorem dX8_keeper_40 : decode cX8_keeper 40 = .ok (.goto 9, 3) := by decide +kernel
theorem dX8_keeper_43 : decode cX8_keeper 43 = .ok (.aload_n 0, 1) := by decide +kernel
theorem dX8_keeper_44 : decode cX8_keeper 44 = .ok (.iconst 0, 1) := by decide +kernel
theorem dX8_keeper_45 : decode cX8_keeper 45 = .ok (.iload_n 1, 1) := by decide +kernel
theorem dX8_keeper_46 : decode cX8_keeper 46 = .ok (.invokevirtual 122, 3) := by decide +kernel
theorem dX8_keeper_49 : decode cX8_keeper 49 = .ok (.ireturn, 1) := by decide +kernel
theorem dX8_puts_0 : decode cX8_puts 0 = .ok (.iload_n 1, 1) := by decide +kernel
theorem dX8_puts_1 : decode cX8_puts 1 = .ok (.ifCond .ne 5, 3) := by decide +kernel
theorem dX8_puts_4 : decode cX8_puts 4 = .ok (.iconst (-1), 1) := by decide +kernel
theorem dX8_puts_5 : decode cX8_puts 5 = .ok (.ireturn, 1) := by decide +kernel
theorem dX8_puts_6 : decode cX8_puts 6 = .ok (.aload_n 0, 1) := by decide +kernel
theorem dX8_puts_7 : decode cX8_puts 7 = .ok (.getfield 7, 3) := by decide +kernel
theorem dX8_puts_10 : decode cX8_puts 10 = .ok (.iload_n 2, 1) := by decide +kernel
theorem dX8_puts_11 : decode cX8_puts 11 = .ok (.iaload, 1) := by decide +kernel
theorem dX8_puts_12 : decode cX8_puts 12 = .ok (.iload 4, 2) := by decide +kernel
theorem dX8_puts_14 : decode cX8_puts 14 = .ok (.iadd, 1) := by decide +kernel
theorem dX8_puts_15 : decode cX8_puts 15 = .ok (.istore 5, 2) := by decide +kernel
theorem dX8_puts_17 : decode cX8_puts 17 = .ok (.aload_n 0, 1) := by decide +kernel
theorem dX8_puts_18 : decode cX8_puts 18 = .ok (.getfield 7, 3) := by decide +kernel
theorem dX8_puts_21 : decode cX8_puts 21 = .ok (.iload_n 2, 1) := by decide +kernel
theorem dX8_puts_22 : decode cX8_puts 22 = .ok (.iload_n 3, 1) := by decide +kernel
theorem dX8_puts_23 : decode cX8_puts 23 = .ok (.iload 4, 2) := by decide +kernel
theorem dX8_puts_25 : decode cX8_puts 25 = .ok (.isub, 1) := by decide +kernel
theorem dX8_puts_26 : decode cX8_puts 26 = .ok (.iastore, 1) := by decide +kernel
theorem dX8_puts_27 : decode cX8_puts 27 = .ok (.iload 5, 2) := by decide +kernel
theorem dX8_puts_29 : decode cX8_puts 29 = .ok (.ireturn, 1) := by decide +kernel
theorem dX8_alters_0 : decode cX8_alters 0 = .ok (.iload_n 2, 1) := by decide +kernel
theorem dX8_alters_1 : decode cX8_alters 1 = .ok (.ifCond .ne 15, 3) := by decide +kernel
theorem dX8_alters_4 : decode cX8_alters 4 = .ok (.iload_n 3, 1) := by decide +kernel
theorem dX8_alters_5 : decode cX8_alters 5 = .ok (.i2l, 1) := by decide +kernel
theorem dX8_alters_6 : decode cX8_alters 6 = .ok (.lconst 0, 1) := by decide +kernel
theorem dX8_alters_7 : decode cX8_alters 7 = .ok (.ldc2_w 155, 3) := by decide +kernel
theorem dX8_alters_10 : decode cX8_alters 10 = .ok (.invokestatic 46, 3) := by decide +kernel
theorem dX8_alters_13 : decode cX8_alters 13 = .ok (.goto 37, 3) := by decide +kernel
theorem dX8_alters_16 : decode cX8_alters 16 = .ok (.iload_n 2, 1) := by decide +kernel
theorem dX8_alters_17 : decode cX8_alters 17 = .ok (.iconst 1, 1) := by decide +kernel
theorem dX8_alters_18 : decode cX8_alters 18 = .ok (.if_icmp .ne 10, 3) := by decide +kernel
theorem dX8_alters_21 : decode cX8_alters 21 = .ok (.iload_n 3, 1) := by decide +kernel
theorem dX8_alters_22 : decode cX8_alters 22 = .ok (.invokestatic 151, 3) := by decide +kernel
theorem dX8_alters_25 : decode cX8_alters 25 = .ok (.goto 25, 3) := by decide +kernel
theorem dX8_alters_28 : decode cX8_alters 28 = .ok (.iload_n 2, 1) := by decide +kernel
theorem dX8_alters_29 : decode cX8_alters 29 = .ok (.iconst 2, 1) := by decide +kernel
theorem dX8_alters_30 : decode cX8_alters 30 = .ok (.if_icmp .ne 19, 3) := by decide +kernel
theorem dX8_alters_33 : decode cX8_alters 33 = .ok (.iload_n 3, 1) := by decide +kernel
theorem dX8_alters_34 : decode cX8_alters 34 = .ok (.i2l, 1) := by decide +kernel
theorem dX8_alters_35 : decode cX8_alters 35 = .ok (.lconst 0, 1) := by decide +kernel
theorem dX8_alters_36 : decode cX8_alters 36 = .ok (.ldc2_w 163, 3) := by decide +kernel
theorem dX8_alters_39 : decode cX8_alters 39 = .ok (.invokestatic 46, 3) := by decide +kernel
theorem dX8_alters_42 : decode cX8_alters 42 = .ok (.ifCond .eq 7, 3) := by decide +kernel
theorem dX8_alters_45 : decode cX8_alters 45 = .ok (.iconst 1, 1) := by decide +kernel
theorem dX8_alters_46 : decode cX8_alters 46 = .ok (.goto 4, 3) := by decide +kernel
theorem dX8_alters_49 : decode cX8_alters 49 = .ok (.iconst 0, 1) := by decide +kernel
theorem dX8_alters_50 : decode cX8_alters 50 = .ok (.istore 4, 2) := by decide +kernel
theorem dX8_alters_52 : decode cX8_alters 52 = .ok (.aload_n 0, 1) := by decide +kernel
theorem dX8_alters_53 : decode cX8_alters 53 = .ok (.aload_n 0, 1) := by decide +kernel
theorem dX8_alters_54 : decode cX8_alters 54 = .ok (.iload_n 1, 1) := by decide +kernel
theorem dX8_alters_55 : decode cX8_alters 55 = .ok (.invokevirtual 157, 3) := by decide +kernel
theorem dX8_alters_58 : decode cX8_alters 58 = .ok (.ifCond .eq 12, 3) := by decide +kernel
theorem dX8_alters_61 : decode cX8_alters 61 = .ok (.iload 4, 2) := by decide +kernel
theorem dX8_alters_63 : decode cX8_alters 63 = .ok (.ifCond .eq 7, 3) := by decide +kernel
theorem dX8_alters_66 : decode cX8_alters 66 = .ok (.iconst 1, 1) := by decide +kernel
theorem dX8_alters_67 : decode cX8_alters 67 = .ok (.goto 4, 3) := by decide +kernel
theorem dX8_alters_70 : decode cX8_alters 70 = .ok (.iconst 0, 1) := by decide +kernel
theorem dX8_alters_71 : decode cX8_alters 71 = .ok (.bipush 12, 2) := by decide +kernel
theorem dX8_alters_73 : decode cX8_alters 73 = .ok (.iconst 5, 1) := by decide +kernel
theorem dX8_alters_74 : decode cX8_alters 74 = .ok (.iload_n 2, 1) := by decide +kernel
theorem dX8_alters_75 : decode cX8_alters 75 = .ok (.imul, 1) := by decide +kernel
theorem dX8_alters_76 : decode cX8_alters 76 = .ok (.iadd, 1) := by decide +kernel
theorem dX8_alters_77 : decode cX8_alters 77 = .ok (.iload_n 1, 1) := by decide +kernel
theorem dX8_alters_78 : decode cX8_alters 78 = .ok (.iadd, 1) := by decide +kernel
theorem dX8_alters_79 : decode cX8_alters 79 = .ok (.iload_n 3, 1) := by decide +kernel
theorem dX8_alters_80 : decode cX8_alters 80 = .ok (.iconst 0, 1) := by decide +kernel
theorem dX8_alters_81 : decode cX8_alters 81 = .ok (.invokevirtual 165, 3) := by decide +kernel
theorem dX8_alters_84 : decode cX8_alters 84 = .ok (.ireturn, 1) := by decide +kernel
theorem dX8_alter_0 : decode cX8_alter 0 = .ok (.aload_n 0, 1) := by decide +kernel
theorem dX8_alter_1 : decode cX8_alter 1 = .ok (.iload_n 1, 1) := by decide +kernel
theorem dX8_alter_2 : decode cX8_alter 2 = .ok (.iload_n 2, 1) := by decide +kernel
theorem dX8_alter_3 : decode cX8_alter 3 = .ok (.iload_n 3, 1) := by decide +kernel
theorem dX8_alter_4 : decode cX8_alter 4 = .ok (.invokevirtual 169, 3) := by decide +kernel
theorem dX8_alter_7 : decode cX8_alter 7 = .ok (.ireturn, 1) := by decide +kernel
theorem dX8_order_0 : decode cX8_order 0 = .ok (.iload_n 2, 1) := by decide +kernel
theorem dX8_order_1 : decode cX8_order 1 = .ok (.iconst 2, 1) := by decide +kernel
theorem dX8_order_2 : decode cX8_order 2 = .ok (.if_icmp .ne 15, 3) := by decide +kernel
theorem dX8_order_5 : decode cX8_order 5 = .ok (.iload_n 3, 1) := by decide +kernel
theorem dX8_order_6 : decode cX8_order 6 = .ok (.i2l, 1) := by decide +kernel
theorem dX8_order_7 : decode cX8_order 7 = .ok (.lconst 1, 1) := by decide +kernel
theorem dX8_order_8 : decode cX8_order 8 = .ok (.ldc2_w 173, 3) := by decide +kernel
theorem dX8_order_11 : decode cX8_order 11 = .ok (.invokestatic 46, 3) := by decide +kernel
theorem dX8_order_14 : decode cX8_order 14 = .ok (.goto 25, 3) := by decide +kernel
theorem dX8_order_17 : decode cX8_order 17 = .ok (.iload_n 2, 1) := by decide +kernel
theorem dX8_order_18 : decode cX8_order 18 = .ok (.i2l, 1) := by decide +kernel
theorem dX8_order_19 : decode cX8_order 19 = .ok (.lconst 0, 1) := by decide +kernel
theorem dX8_order_20 : decode cX8_order 20 = .ok (.lconst 1, 1) := by decide +kernel
theorem dX8_order_21 : decode cX8_order 21 = .ok (.invokestatic 46, 3) := by decide +kernel
theorem dX8_order_24 : decode cX8_order 24 = .ok (.ifCond .eq 14, 3) := by decide +kernel
theorem dX8_order_27 : decode cX8_order 27 = .ok (.iload_n 3, 1) := by decide +kernel
theorem dX8_order_28 : decode cX8_order 28 = .ok (.invokestatic 151, 3) := by decide +kernel
theorem dX8_order_31 : decode cX8_order 31 = .ok (.ifCond .eq 7, 3) := by decide +kernel
theorem dX8_order_34 : decode cX8_order 34 = .ok (.iconst 1, 1) := by decide +kernel
theorem dX8_order_35 : decode cX8_order 35 = .ok (.goto 4, 3) := by decide +kernel
theorem dX8_order_38 : decode cX8_order 38 = .ok (.iconst 0, 1) := by decide +kernel
theorem dX8_order_39 : decode cX8_order 39 = .ok (.istore 4, 2) := by decide +kernel
theorem dX8_order_41 : decode cX8_order 41 = .ok (.aload_n 0, 1) := by decide +kernel
theorem dX8_order_42 : decode cX8_order 42 = .ok (.aload_n 0, 1) := by decide +kernel
theorem dX8_order_43 : decode cX8_order 43 = .ok (.iload_n 1, 1) := by decide +kernel
theorem dX8_order_44 : decode cX8_order 44 = .ok (.invokevirtual 160, 3) := by decide +kernel
theorem dX8_order_47 : decode cX8_order 47 = .ok (.ifCond .eq 12, 3) := by decide +kernel
theorem dX8_order_50 : decode cX8_order 50 = .ok (.iload 4, 2) := by decide +kernel
theorem dX8_order_52 : decode cX8_order 52 = .ok (.ifCond .eq 7, 3) := by decide +kernel
theorem dX8_order_55 : decode cX8_order 55 = .ok (.iconst 1, 1) := by decide +kernel
theorem dX8_order_56 : decode cX8_order 56 = .ok (.goto 4, 3) := by decide +kernel
theorem dX8_order_59 : decode cX8_order 59 = .ok (.iconst 0, 1) := by decide +kernel
theorem dX8_order_60 : decode cX8_order 60 = .ok (.bipush 32, 2) := by decide +kernel
theorem dX8_order_62 : decode cX8_order 62 = .ok (.iconst 3, 1) := by decide +kernel
theorem dX8_order_63 : decode cX8_order 63 = .ok (.iload_n 2, 1) := by decide +kernel
theorem dX8_order_64 : decode cX8_order 64 = .ok (.imul, 1) := by decide +kernel
theorem dX8_order_65 : decode cX8_order 65 = .ok (.iadd, 1) := by decide +kernel
theorem dX8_order_66 : decode cX8_order 66 = .ok (.iload_n 1, 1) := by decide +kernel
theorem dX8_order_67 : decode cX8_order 67 = .ok (.iadd, 1) := by decide +kernel
theorem dX8_order_68 : decode cX8_order 68 = .ok (.iload_n 3, 1) := by decide +kernel
theorem dX8_order_69 : decode cX8_order 69 = .ok (.iconst 0, 1) := by decide +kernel
theorem dX8_order_70 : decode cX8_order 70 = .ok (.invokevirtual 165, 3) := by decide +kernel
theorem dX8_order_73 : decode cX8_order 73 = .ok (.ireturn, 1) := by decide +kernel
theorem dX8_tend_0 : decode cX8_tend 0 = .ok (.iload_n 2, 1) := by decide +kernel
theorem dX8_tend_1 : decode cX8_tend 1 = .ok (.ifCond .ne 15, 3) := by decide +kernel
theorem dX8_tend_4 : decode cX8_tend 4 = .ok (.iload_n 3, 1) := by decide +kernel
theorem dX8_tend_5 : decode cX8_tend 5 = .ok (.i2l, 1) := by decide +kernel
theorem dX8_tend_6 : decode cX8_tend 6 = .ok (.lconst 0, 1) := by decide +kernel
theorem dX8_tend_7 : decode cX8_tend 7 = .ok (.ldc2_w 175, 3) := by decide +kernel
theorem dX8_tend_10 : decode cX8_tend 10 = .ok (.invokestatic 46, 3) := by decide +kernel
theorem dX8_tend_13 : decode cX8_tend 13 = .ok (.goto 25, 3) := by decide +kernel
theorem dX8_tend_16 : decode cX8_tend 16 = .ok (.iload_n 2, 1) := by decide +kernel
theorem dX8_tend_17 : decode cX8_tend 17 = .ok (.iconst 1, 1) := by decide +kernel
theorem dX8_tend_18 : decode cX8_tend 18 = .ok (.if_icmp .ne 19, 3) := by decide +kernel
theorem dX8_tend_21 : decode cX8_tend 21 = .ok (.iload_n 3, 1) := by decide +kernel
theorem dX8_tend_22 : decode cX8_tend 22 = .ok (.i2l, 1) := by decide +kernel
theorem dX8_tend_23 : decode cX8_tend 23 = .ok (.lconst 0, 1) := by decide +kernel
theorem dX8_tend_24 : decode cX8_tend 24 = .ok (.ldc2_w 173, 3) := by decide +kernel
theorem dX8_tend_27 : decode cX8_tend 27 = .ok (.invokestatic 46, 3) := by decide +kernel
theorem dX8_tend_30 : decode cX8_tend 30 = .ok (.ifCond .eq 7, 3) := by decide +kernel
theorem dX8_tend_33 : decode cX8_tend 33 = .ok (.iconst 1, 1) := by decide +kernel
theorem dX8_tend_34 : decode cX8_tend 34 = .ok (.goto 4, 3) := by decide +kernel
theorem dX8_tend_37 : decode cX8_tend 37 = .ok (.iconst 0, 1) := by decide +kernel
theorem dX8_tend_38 : decode cX8_tend 38 = .ok (.istore 4, 2) := by decide +kernel
theorem dX8_tend_40 : decode cX8_tend 40 = .ok (.aload_n 0, 1) := by decide +kernel
theorem dX8_tend_41 : decode cX8_tend 41 = .ok (.iload_n 1, 1) := by decide +kernel
theorem dX8_tend_42 : decode cX8_tend 42 = .ok (.invokestatic 151, 3) := by decide +kernel
theorem dX8_tend_45 : decode cX8_tend 45 = .ok (.ifCond .eq 12, 3) := by decide +kernel
theorem dX8_tend_48 : decode cX8_tend 48 = .ok (.iload 4, 2) := by decide +kernel
theorem dX8_tend_50 : decode cX8_tend 50 = .ok (.ifCond .eq 7, 3) := by decide +kernel
theorem dX8_tend_53 : decode cX8_tend 53 = .ok (.iconst 1, 1) := by decide +kernel
theorem dX8_tend_54 : decode cX8_tend 54 = .ok (.goto 4, 3) := by decide +kernel
theorem dX8_tend_57 : decode cX8_tend 57 = .ok (.iconst 0, 1) := by decide +kernel
theorem dX8_tend_58 : decode cX8_tend 58 = .ok (.bipush 6, 2) := by decide +kernel
theorem dX8_tend_60 : decode cX8_tend 60 = .ok (.iload_n 2, 1) := by decide +kernel
theorem dX8_tend_61 : decode cX8_tend 61 = .ok (.imul, 1) := by decide +kernel
theorem dX8_tend_62 : decode cX8_tend 62 = .ok (.iload_n 1, 1) := by decide +kernel
theorem dX8_tend_63 : decode cX8_tend 63 = .ok (.iadd, 1) := by decide +kernel
theorem dX8_tend_64 : decode cX8_tend 64 = .ok (.iload_n 3, 1) := by decide +kernel
theorem dX8_tend_65 : decode cX8_tend 65 = .ok (.iload_n 2, 1) := by decide +kernel
theorem dX8_tend_66 : decode cX8_tend 66 = .ok (.ifCond .ne 8, 3) := by decide +kernel
theorem dX8_tend_69 : decode cX8_tend 69 = .ok (.bipush 30, 2) := by decide +kernel
theorem dX8_tend_71 : decode cX8_tend 71 = .ok (.goto 4, 3) := by decide +kernel
theorem dX8_tend_74 : decode cX8_tend 74 = .ok (.iconst 2, 1) := by decide +kernel
theorem dX8_tend_75 : decode cX8_tend 75 = .ok (.invokevirtual 165, 3) := by decide +kernel
theorem dX8_tend_78 : decode cX8_tend 78 = .ok (.ireturn, 1) := by decide +kernel
theorem dX8_free_0 : decode cX8_free 0 = .ok (.aload_n 0, 1) := by decide +kernel
theorem dX8_free_1 : decode cX8_free 1 = .ok (.iload_n 1, 1) := by decide +kernel
theorem dX8_free_2 : decode cX8_free 2 = .ok (.invokevirtual 157, 3) := by decide +kernel
theorem dX8_free_5 : decode cX8_free 5 = .ok (.ifCond .ne 5, 3) := by decide +kernel
theorem dX8_free_8 : decode cX8_free 8 = .ok (.iconst (-1), 1) := by decide +kernel
theorem dX8_free_9 : decode cX8_free 9 = .ok (.ireturn, 1) := by decide +kernel
theorem dX8_free_10 : decode cX8_free 10 = .ok (.aload_n 0, 1) := by decide +kernel
theorem dX8_free_11 : decode cX8_free 11 = .ok (.getfield 7, 3) := by decide +kernel
theorem dX8_free_14 : decode cX8_free 14 = .ok (.bipush 27, 2) := by decide +kernel
theorem dX8_free_16 : decode cX8_free 16 = .ok (.iload_n 1, 1) := by decide +kernel
theorem dX8_free_17 : decode cX8_free 17 = .ok (.iadd, 1) := by decide +kernel
theorem dX8_free_18 : decode cX8_free 18 = .ok (.iaload, 1) := by decide +kernel
theorem dX8_free_19 : decode cX8_free 19 = .ok (.ifCond .ne 8, 3) := by decide +kernel
theorem dX8_free_22 : decode cX8_free 22 = .ok (.bipush (-2), 2) := by decide +kernel
theorem dX8_free_24 : decode cX8_free 24 = .ok (.goto 14, 3) := by decide +kernel
theorem dX8_free_27 : decode cX8_free 27 = .ok (.aload_n 0, 1) := by decide +kernel
theorem dX8_free_28 : decode cX8_free 28 = .ok (.iconst 1, 1) := by decide +kernel
theorem dX8_free_29 : decode cX8_free 29 = .ok (.bipush 27, 2) := by decide +kernel
theorem dX8_free_31 : decode cX8_free 31 = .ok (.iload_n 1, 1) := by decide +kernel
theorem dX8_free_32 : decode cX8_free 32 = .ok (.iadd, 1) := by decide +kernel
theorem dX8_free_33 : decode cX8_free 33 = .ok (.iconst 0, 1) := by decide +kernel
theorem dX8_free_34 : decode cX8_free 34 = .ok (.iconst 0, 1) := by decide +kernel
theorem dX8_free_35 : decode cX8_free 35 = .ok (.invokevirtual 165, 3) := by decide +kernel
theorem dX8_free_38 : decode cX8_free 38 = .ok (.ireturn, 1) := by decide +kernel
theorem dX8_hiresOn_0 : decode cX8_hiresOn 0 = .ok (.aload_n 0, 1) := by decide +kernel
theorem dX8_hiresOn_1 : decode cX8_hiresOn 1 = .ok (.getfield 7, 3) := by decide +kernel
theorem dX8_hiresOn_4 : decode cX8_hiresOn 4 = .ok (.iload_n 1, 1) := by decide +kernel
theorem dX8_hiresOn_5 : decode cX8_hiresOn 5 = .ok (.bipush 41, 2) := by decide +kernel
theorem dX8_hiresOn_7 : decode cX8_hiresOn 7 = .ok (.iadd, 1) := by decide +kernel
theorem dX8_hiresOn_8 : decode cX8_hiresOn 8 = .ok (.iaload, 1) := by decide +kernel
theorem dX8_hiresOn_9 : decode cX8_hiresOn 9 = .ok (.istore 5, 2) := by decide +kernel
theorem dX8_hiresOn_11 : decode cX8_hiresOn 11 = .ok (.aload_n 0, 1) := by decide +kernel
theorem dX8_hiresOn_12 : decode cX8_hiresOn 12 = .ok (.getfield 7, 3) := by decide +kernel
theorem dX8_hiresOn_15 : decode cX8_hiresOn 15 = .ok (.iload_n 1, 1) := by decide +kernel
theorem dX8_hiresOn_16 : decode cX8_hiresOn 16 = .ok (.bipush 32, 2) := by decide +kernel
theorem dX8_hiresOn_18 : decode cX8_hiresOn 18 = .ok (.iadd, 1) := by decide +kernel
theorem dX8_hiresOn_19 : decode cX8_hiresOn 19 = .ok (.iload 5, 2) := by decide +kernel
theorem dX8_hiresOn_21 : decode cX8_hiresOn 21 = .ok (.iadd, 1) := by decide +kernel
theorem dX8_hiresOn_22 : decode cX8_hiresOn 22 = .ok (.iload_n 2, 1) := by decide +kernel
theorem dX8_hiresOn_23 : decode cX8_hiresOn 23 = .ok (.iastore, 1) := by decide +kernel
theorem dX8_hiresOn_24 : decode cX8_hiresOn 24 = .ok (.aload_n 0, 1) := by decide +kernel
theorem dX8_hiresOn_25 : decode cX8_hiresOn 25 = .ok (.getfield 7, 3) := by decide +kernel
theorem dX8_hiresOn_28 : decode cX8_hiresOn 28 = .ok (.iload_n 1, 1) := by decide +kernel
theorem dX8_hiresOn_29 : decode cX8_hiresOn 29 = .ok (.bipush 35, 2) := by decide +kernel
theorem dX8_hiresOn_31 : decode cX8_hiresOn 31 = .ok (.iadd, 1) := by decide +kernel
theorem dX8_hiresOn_32 : decode cX8_hiresOn 32 = .ok (.iload 5, 2) := by decide +kernel
theorem dX8_hiresOn_34 : decode cX8_hiresOn 34 = .ok (.iadd, 1) := by decide +kernel
theorem dX8_hiresOn_35 : decode cX8_hiresOn 35 = .ok (.iload_n 3, 1) := by decide +kernel
theorem dX8_hiresOn_36 : decode cX8_hiresOn 36 = .ok (.iastore, 1) := by decide +kernel
theorem dX8_hiresOn_37 : decode cX8_hiresOn 37 = .ok (.aload_n 0, 1) := by decide +kernel
theorem dX8_hiresOn_38 : decode cX8_hiresOn 38 = .ok (.getfield 7, 3) := by decide +kernel
theorem dX8_hiresOn_41 : decode cX8_hiresOn 41 = .ok (.iload_n 1, 1) := by decide +kernel
theorem dX8_hiresOn_42 : decode cX8_hiresOn 42 = .ok (.bipush 38, 2) := by decide +kernel
theorem dX8_hiresOn_44 : decode cX8_hiresOn 44 = .ok (.iadd, 1) := by decide +kernel
theorem dX8_hiresOn_45 : decode cX8_hiresOn 45 = .ok (.iload 5, 2) := by decide +kernel
theorem dX8_hiresOn_47 : decode cX8_hiresOn 47 = .ok (.iadd, 1) := by decide +kernel
theorem dX8_hiresOn_48 : decode cX8_hiresOn 48 = .ok (.iload 4, 2) := by decide +kernel
theorem dX8_hiresOn_50 : decode cX8_hiresOn 50 = .ok (.iastore, 1) := by decide +kernel
theorem dX8_hiresOn_51 : decode cX8_hiresOn 51 = .ok (.aload_n 0, 1) := by decide +kernel
theorem dX8_hiresOn_52 : decode cX8_hiresOn 52 = .ok (.getfield 7, 3) := by decide +kernel
theorem dX8_hiresOn_55 : decode cX8_hiresOn 55 = .ok (.iload_n 1, 1) := by decide +kernel
theorem dX8_hiresOn_56 : decode cX8_hiresOn 56 = .ok (.bipush 41, 2) := by decide +kernel
theorem dX8_hiresOn_58 : decode cX8_hiresOn 58 = .ok (.iadd, 1) := by decide +kernel
theorem dX8_hiresOn_59 : decode cX8_hiresOn 59 = .ok (.dup2, 1) := by decide +kernel
theorem dX8_hiresOn_60 : decode cX8_hiresOn 60 = .ok (.iaload, 1) := by decide +kernel
theorem dX8_hiresOn_61 : decode cX8_hiresOn 61 = .ok (.iconst 1, 1) := by decide +kernel
theorem dX8_hiresOn_62 : decode cX8_hiresOn 62 = .ok (.iadd, 1) := by decide +kernel
theorem dX8_hiresOn_63 : decode cX8_hiresOn 63 = .ok (.iastore, 1) := by decide +kernel
theorem dX8_hiresOn_64 : decode cX8_hiresOn 64 = .ok (.return_, 1) := by decide +kernel
theorem dX8_hire_0 : decode cX8_hire 0 = .ok (.iload_n 1, 1) := by decide +kernel
theorem dX8_hire_1 : decode cX8_hire 1 = .ok (.invokestatic 151, 3) := by decide +kernel
theorem dX8_hire_4 : decode cX8_hire 4 = .ok (.ifCond .eq 22, 3) := by decide +kernel
theorem dX8_hire_7 : decode cX8_hire 7 = .ok (.iload_n 2, 1) := by decide +kernel
theorem dX8_hire_8 : decode cX8_hire 8 = .ok (.invokestatic 151, 3) := by decide +kernel
theorem dX8_hire_11 : decode cX8_hire 11 = .ok (.ifCond .eq 15, 3) := by decide +kernel
theorem dX8_hire_14 : decode cX8_hire 14 = .ok (.iload_n 3, 1) := by decide +kernel
theorem dX8_hire_15 : decode cX8_hire 15 = .ok (.i2l, 1) := by decide +kernel
theorem dX8_hire_16 : decode cX8_hire 16 = .ok (.lconst 1, 1) := by decide +kernel
theorem dX8_hire_17 : decode cX8_hire 17 = .ok (.ldc2_w 173, 3) := by decide +kernel
theorem dX8_hire_20 : decode cX8_hire 20 = .ok (.invokestatic 46, 3) := by decide +kernel
theorem dX8_hire_23 : decode cX8_hire 23 = .ok (.ifCond .ne 5, 3) := by decide +kernel
theorem dX8_hire_26 : decode cX8_hire 26 = .ok (.iconst (-1), 1) := by decide +kernel
theorem dX8_hire_27 : decode cX8_hire 27 = .ok (.ireturn, 1) := by decide +kernel
theorem dX8_hire_28 : decode cX8_hire 28 = .ok (.aload_n 0, 1) := by decide +kernel
theorem dX8_hire_29 : decode cX8_hire 29 = .ok (.getfield 7, 3) := by decide +kernel
theorem dX8_hire_32 : decode cX8_hire 32 = .ok (.bipush 41, 2) := by decide +kernel
theorem dX8_hire_34 : decode cX8_hire 34 = .ok (.iaload, 1) := by decide +kernel
theorem dX8_hire_35 : decode cX8_hire 35 = .ok (.iconst 3, 1) := by decide +kernel
theorem dX8_hire_36 : decode cX8_hire 36 = .ok (.if_icmp .ne 6, 3) := by decide +kernel
theorem dX8_hire_39 : decode cX8_hire 39 = .ok (.bipush (-3), 2) := by decide +kernel
theorem dX8_hire_41 : decode cX8_hire 41 = .ok (.ireturn, 1) := by decide +kernel
theorem dX8_hire_42 : decode cX8_hire 42 = .ok (.aload_n 0, 1) := by decide +kernel
theorem dX8_hire_43 : decode cX8_hire 43 = .ok (.iconst 0, 1) := by decide +kernel
theorem dX8_hire_44 : decode cX8_hire 44 = .ok (.iload_n 1, 1) := by decide +kernel
theorem dX8_hire_45 : decode cX8_hire 45 = .ok (.iload_n 2, 1) := by decide +kernel
theorem dX8_hire_46 : decode cX8_hire 46 = .ok (.iload_n 3, 1) := by decide +kernel
theorem dX8_hire_47 : decode cX8_hire 47 = .ok (.invokevirtual 177, 3) := by decide +kernel
theorem dX8_hire_50 : decode cX8_hire 50 = .ok (.aload_n 0, 1) := by decide +kernel
theorem dX8_hire_51 : decode cX8_hire 51 = .ok (.getfield 7, 3) := by decide +kernel
theorem dX8_hire_54 : decode cX8_hire 54 = .ok (.bipush 41, 2) := by decide +kernel
theorem dX8_hire_56 : decode cX8_hire 56 = .ok (.iaload, 1) := by decide +kernel
theorem dX8_hire_57 : decode cX8_hire 57 = .ok (.ireturn, 1) := by decide +kernel
theorem dX8_dismiss_0 : decode cX8_dismiss 0 = .ok (.aload_n 0, 1) := by decide +kernel
theorem dX8_dismiss_1 : decode cX8_dismiss 1 = .ok (.iload_n 1, 1) := by decide +kernel
theorem dX8_dismiss_2 : decode cX8_dismiss 2 = .ok (.i2l, 1) := by decide +kernel
theorem dX8_dismiss_3 : decode cX8_dismiss 3 = .ok (.lconst 0, 1) := by decide +kernel
theorem dX8_dismiss_4 : decode cX8_dismiss 4 = .ok (.aload_n 0, 1) := by decide +kernel
theorem dX8_dismiss_5 : decode cX8_dismiss 5 = .ok (.getfield 7, 3) := by decide +kernel
theorem dX8_dismiss_8 : decode cX8_dismiss 8 = .ok (.bipush 41, 2) := by decide +kernel
theorem dX8_dismiss_10 : decode cX8_dismiss 10 = .ok (.iaload, 1) := by decide +kernel
theorem dX8_dismiss_11 : decode cX8_dismiss 11 = .ok (.i2l, 1) := by decide +kernel
theorem dX8_dismiss_12 : decode cX8_dismiss 12 = .ok (.invokestatic 46, 3) := by decide +kernel
theorem dX8_dismiss_15 : decode cX8_dismiss 15 = .ok (.bipush 41, 2) := by decide +kernel
theorem dX8_dismiss_17 : decode cX8_dismiss 17 = .ok (.iload_n 1, 1) := by decide +kernel
theorem dX8_dismiss_18 : decode cX8_dismiss 18 = .ok (.iconst 0, 1) := by decide +kernel
theorem dX8_dismiss_19 : decode cX8_dismiss 19 = .ok (.invokevirtual 165, 3) := by decide +kernel
theorem dX8_dismiss_22 : decode cX8_dismiss 22 = .ok (.ireturn, 1) := by decide +kernel
theorem dX8_nights_0 : decode cX8_nights 0 = .ok (.iload_n 1, 1) := by decide +kernel
theorem dX8_nights_1 : decode cX8_nights 1 = .ok (.i2l, 1) := by decide +kernel
theorem dX8_nights_2 : decode cX8_nights 2 = .ok (.lconst 0, 1) := by decide +kernel
theorem dX8_nights_3 : decode cX8_nights 3 = .ok (.ldc2_w 181, 3) := by decide +kernel
theorem dX8_nights_6 : decode cX8_nights 6 = .ok (.invokestatic 46, 3) := by decide +kernel
theorem dX8_nights_9 : decode cX8_nights 9 = .ok (.ifCond .ne 5, 3) := by decide +kernel
theorem dX8_nights_12 : decode cX8_nights 12 = .ok (.iconst (-1), 1) := by decide +kernel
theorem dX8_nights_13 : decode cX8_nights 13 = .ok (.ireturn, 1) := by decide +kernel
theorem dX8_nights_14 : decode cX8_nights 14 = .ok (.aload_n 0, 1) := by decide +kernel
theorem dX8_nights_15 : decode cX8_nights 15 = .ok (.getfield 7, 3) := by decide +kernel
theorem dX8_nights_18 : decode cX8_nights 18 = .ok (.bipush 42, 2) := by decide +kernel
theorem dX8_nights_20 : decode cX8_nights 20 = .ok (.iaload, 1) := by decide +kernel
theorem dX8_nights_21 : decode cX8_nights 21 = .ok (.iload_n 1, 1) := by decide +kernel
theorem dX8_nights_22 : decode cX8_nights 22 = .ok (.iadd, 1) := by decide +kernel
theorem dX8_nights_23 : decode cX8_nights 23 = .ok (.sipush 999, 3) := by decide +kernel
theorem dX8_nights_26 : decode cX8_nights 26 = .ok (.if_icmp .le 6, 3) := by decide +kernel
theorem dX8_nights_29 : decode cX8_nights 29 = .ok (.bipush (-3), 2) := by decide +kernel
theorem dX8_nights_31 : decode cX8_nights 31 = .ok (.ireturn, 1) := by decide +kernel
theorem dX8_nights_32 : decode cX8_nights 32 = .ok (.aload_n 0, 1) := by decide +kernel
theorem dX8_nights_33 : decode cX8_nights 33 = .ok (.invokevirtual 183, 3) := by decide +kernel
theorem dX8_nights_36 : decode cX8_nights 36 = .ok (.iconst 0, 1) := by decide +kernel
theorem dX8_nights_37 : decode cX8_nights 37 = .ok (.istore_n 2, 1) := by decide +kernel
theorem dX8_nights_38 : decode cX8_nights 38 = .ok (.iload_n 2, 1) := by decide +kernel
theorem dX8_nights_39 : decode cX8_nights 39 = .ok (.iload_n 1, 1) := by decide +kernel
theorem dX8_nights_40 : decode cX8_nights 40 = .ok (.if_icmp .ge 15, 3) := by decide +kernel
theorem dX8_nights_43 : decode cX8_nights 43 = .ok (.aload_n 0, 1) := by decide +kernel
theorem dX8_nights_44 : decode cX8_nights 44 = .ok (.iconst 0, 1) := by decide +kernel
theorem dX8_nights_45 : decode cX8_nights 45 = .ok (.iconst 0, 1) := by decide +kernel
theorem dX8_nights_46 : decode cX8_nights 46 = .ok (.invokevirtual 186, 3) := by decide +kernel
theorem dX8_nights_49 : decode cX8_nights 49 = .ok (.iinc 2 1, 3) := by decide +kernel
theorem dX8_nights_52 : decode cX8_nights 52 = .ok (.goto (-14), 3) := by decide +kernel
theorem dX8_nights_55 : decode cX8_nights 55 = .ok (.aload_n 0, 1) := by decide +kernel
theorem dX8_nights_56 : decode cX8_nights 56 = .ok (.getfield 128, 3) := by decide +kernel
theorem dX8_nights_59 : decode cX8_nights 59 = .ok (.ireturn, 1) := by decide +kernel
theorem dX8_copies_0 : decode cX8_copies 0 = .ok (.iconst 0, 1) := by decide +kernel
theorem dX8_copies_1 : decode cX8_copies 1 = .ok (.istore_n 3, 1) := by decide +kernel
theorem dX8_copies_2 : decode cX8_copies 2 = .ok (.iload_n 3, 1) := by decide +kernel
theorem dX8_copies_3 : decode cX8_copies 3 = .ok (.bipush 44, 2) := by decide +kernel
theorem dX8_copies_5 : decode cX8_copies 5 = .ok (.if_icmp .ge 25, 3) := by decide +kernel
theorem dX8_copies_8 : decode cX8_copies 8 = .ok (.aload_n 0, 1) := by decide +kernel
theorem dX8_copies_9 : decode cX8_copies 9 = .ok (.getfield 7, 3) := by decide +kernel
theorem dX8_copies_12 : decode cX8_copies 12 = .ok (.iload_n 2, 1) := by decide +kernel
theorem dX8_copies_13 : decode cX8_copies 13 = .ok (.iload_n 3, 1) := by decide +kernel
theorem dX8_copies_14 : decode cX8_copies 14 = .ok (.iadd, 1) := by decide +kernel
theorem dX8_copies_15 : decode cX8_copies 15 = .ok (.aload_n 0, 1) := by decide +kernel
theorem dX8_copies_16 : decode cX8_copies 16 = .ok (.getfield 7, 3) := by decide +kernel
theorem dX8_copies_19 : decode cX8_copies 19 = .ok (.iload_n 1, 1) := by decide +kernel
theorem dX8_copies_20 : decode cX8_copies 20 = .ok (.iload_n 3, 1) := by decide +kernel
theorem dX8_copies_21 : decode cX8_copies 21 = .ok (.iadd, 1) := by decide +kernel
theorem dX8_copies_22 : decode cX8_copies 22 = .ok (.iaload, 1) := by decide +kernel
theorem dX8_copies_23 : decode cX8_copies 23 = .ok (.iastore, 1) := by decide +kernel
theorem dX8_copies_24 : decode cX8_copies 24 = .ok (.iinc 3 1, 3) := by decide +kernel
theorem dX8_copies_27 : decode cX8_copies 27 = .ok (.goto (-25), 3) := by decide +kernel
theorem dX8_copies_30 : decode cX8_copies 30 = .ok (.return_, 1) := by decide +kernel
theorem dX8_nightsGo_0 : decode cX8_nightsGo 0 = .ok (.aload_n 0, 1) := by decide +kernel
theorem dX8_nightsGo_1 : decode cX8_nightsGo 1 = .ok (.iload_n 1, 1) := by decide +kernel
theorem dX8_nightsGo_2 : decode cX8_nightsGo 2 = .ok (.sipush 176, 3) := by decide +kernel
theorem dX8_nightsGo_5 : decode cX8_nightsGo 5 = .ok (.invokevirtual 190, 3) := by decide +kernel
theorem dX8_nightsGo_8 : decode cX8_nightsGo 8 = .ok (.aload_n 0, 1) := by decide +kernel
theorem dX8_nightsGo_9 : decode cX8_nightsGo 9 = .ok (.invokevirtual 183, 3) := by decide +kernel
theorem dX8_nightsGo_12 : decode cX8_nightsGo 12 = .ok (.aload_n 0, 1) := by decide +kernel
theorem dX8_nightsGo_13 : decode cX8_nightsGo 13 = .ok (.bipush (-4), 2) := by decide +kernel
theorem dX8_nightsGo_15 : decode cX8_nightsGo 15 = .ok (.putfield 194, 3) := by decide +kernel
theorem dX8_nightsGo_18 : decode cX8_nightsGo 18 = .ok (.iconst 1, 1) := by decide +kernel
theorem dX8_nightsGo_19 : decode cX8_nightsGo 19 = .ok (.istore_n 3, 1) := by decide +kernel
theorem dX8_nightsGo_20 : decode cX8_nightsGo 20 = .ok (.iload_n 3, 1) := by decide +kernel
theorem dX8_nightsGo_21 : decode cX8_nightsGo 21 = .ok (.iload_n 2, 1) := by decide +kernel
theorem dX8_nightsGo_22 : decode cX8_nightsGo 22 = .ok (.if_icmp .gt 45, 3) := by decide +kernel
theorem dX8_nightsGo_25 : decode cX8_nightsGo 25 = .ok (.aload_n 0, 1) := by decide +kernel
theorem dX8_nightsGo_26 : decode cX8_nightsGo 26 = .ok (.sipush 176, 3) := by decide +kernel
theorem dX8_nightsGo_29 : decode cX8_nightsGo 29 = .ok (.iconst 0, 1) := by decide +kernel
theorem dX8_nightsGo_30 : decode cX8_nightsGo 30 = .ok (.invokevirtual 186, 3) := by decide +kernel
theorem dX8_nightsGo_33 : decode cX8_nightsGo 33 = .ok (.aload_n 0, 1) := by decide +kernel
theorem dX8_nightsGo_34 : decode cX8_nightsGo 34 = .ok (.aload_n 0, 1) := by decide +kernel
theorem dX8_nightsGo_35 : decode cX8_nightsGo 35 = .ok (.getfield 194, 3) := by decide +kernel
theorem dX8_nightsGo_38 : decode cX8_nightsGo 38 = .ok (.bipush (-4), 2) := by decide +kernel
theorem dX8_nightsGo_40 : decode cX8_nightsGo 40 = .ok (.if_icmp .ne 14, 3) := by decide +kernel
theorem dX8_nightsGo_43 : decode cX8_nightsGo 43 = .ok (.aload_n 0, 1) := by decide +kernel
theorem dX8_nightsGo_44 : decode cX8_nightsGo 44 = .ok (.getfield 134, 3) := by decide +kernel
theorem dX8_nightsGo_47 : decode cX8_nightsGo 47 = .ok (.ifCond .le 7, 3) := by decide +kernel
theorem dX8_nightsGo_50 : decode cX8_nightsGo 50 = .ok (.iload_n 3, 1) := by decide +kernel
theorem dX8_nightsGo_51 : decode cX8_nightsGo 51 = .ok (.goto 7, 3) := by decide +kernel
theorem dX8_nightsGo_54 : decode cX8_nightsGo 54 = .ok (.aload_n 0, 1) := by decide +kernel
theorem dX8_nightsGo_55 : decode cX8_nightsGo 55 = .ok (.getfield 194, 3) := by decide +kernel
theorem dX8_nightsGo_58 : decode cX8_nightsGo 58 = .ok (.putfield 194, 3) := by decide +kernel
theorem dX8_nightsGo_61 : decode cX8_nightsGo 61 = .ok (.iinc 3 1, 3) := by decide +kernel
theorem dX8_nightsGo_64 : decode cX8_nightsGo 64 = .ok (.goto (-44), 3) := by decide +kernel
theorem dX8_nightsGo_67 : decode cX8_nightsGo 67 = .ok (.aload_n 0, 1) := by decide +kernel
theorem dX8_nightsGo_68 : decode cX8_nightsGo 68 = .ok (.getfield 128, 3) := by decide +kernel
theorem dX8_nightsGo_71 : decode cX8_nightsGo 71 = .ok (.ireturn, 1) := by decide +kernel
theorem dX8_runs_0 : decode cX8_runs 0 = .ok (.iload_n 1, 1) := by decide +kernel
theorem dX8_runs_1 : decode cX8_runs 1 = .ok (.i2l, 1) := by decide +kernel
theorem dX8_runs_2 : decode cX8_runs 2 = .ok (.lconst 0, 1) := by decide +kernel
theorem dX8_runs_3 : decode cX8_runs 3 = .ok (.ldc2_w 175, 3) := by decide +kernel
theorem dX8_runs_6 : decode cX8_runs 6 = .ok (.invokestatic 46, 3) := by decide +kernel
theorem dX8_runs_9 : decode cX8_runs 9 = .ok (.ifCond .eq 15, 3) := by decide +kernel
theorem dX8_runs_12 : decode cX8_runs 12 = .ok (.iload_n 2, 1) := by decide +kernel
theorem dX8_runs_13 : decode cX8_runs 13 = .ok (.i2l, 1) := by decide +kernel
theorem dX8_runs_14 : decode cX8_runs 14 = .ok (.lconst 0, 1) := by decide +kernel
theorem dX8_runs_15 : decode cX8_runs 15 = .ok (.ldc2_w 197, 3) := by decide +kernel
theorem dX8_runs_18 : decode cX8_runs 18 = .ok (.invokestatic 46, 3) := by decide +kernel
theorem dX8_runs_21 : decode cX8_runs 21 = .ok (.ifCond .ne 5, 3) := by decide +kernel
theorem dX8_runs_24 : decode cX8_runs 24 = .ok (.iconst (-1), 1) := by decide +kernel
theorem dX8_runs_25 : decode cX8_runs 25 = .ok (.ireturn, 1) := by decide +kernel
theorem dX8_runs_26 : decode cX8_runs 26 = .ok (.aload_n 0, 1) := by decide +kernel
theorem dX8_runs_27 : decode cX8_runs 27 = .ok (.iconst 0, 1) := by decide +kernel
theorem dX8_runs_28 : decode cX8_runs 28 = .ok (.iload_n 1, 1) := by decide +kernel
theorem dX8_runs_29 : decode cX8_runs 29 = .ok (.invokevirtual 199, 3) := by decide +kernel
theorem dX8_runs_32 : decode cX8_runs 32 = .ok (.istore_n 3, 1) := by decide +kernel
theorem dX8_runs_33 : decode cX8_runs 33 = .ok (.iload_n 2, 1) := by decide +kernel
theorem dX8_runs_34 : decode cX8_runs 34 = .ok (.ifCond .ne 7, 3) := by decide +kernel
theorem dX8_runs_37 : decode cX8_runs 37 = .ok (.iload_n 3, 1) := by decide +kernel
theorem dX8_runs_38 : decode cX8_runs 38 = .ok (.goto 46, 3) := by decide +kernel
theorem dX8_runs_41 : decode cX8_runs 41 = .ok (.iload_n 2, 1) := by decide +kernel
theorem dX8_runs_42 : decode cX8_runs 42 = .ok (.iconst 1, 1) := by decide +kernel
theorem dX8_runs_43 : decode cX8_runs 43 = .ok (.if_icmp .ne 10, 3) := by decide +kernel
theorem dX8_runs_46 : decode cX8_runs 46 = .ok (.aload_n 0, 1) := by decide +kernel
theorem dX8_runs_47 : decode cX8_runs 47 = .ok (.getfield 131, 3) := by decide +kernel
theorem dX8_runs_50 : decode cX8_runs 50 = .ok (.goto 34, 3) := by decide +kernel
theorem dX8_runs_53 : decode cX8_runs 53 = .ok (.iload_n 2, 1) := by decide +kernel
theorem dX8_runs_54 : decode cX8_runs 54 = .ok (.iconst 2, 1) := by decide +kernel
theorem dX8_runs_55 : decode cX8_runs 55 = .ok (.if_icmp .ne 10, 3) := by decide +kernel
theorem dX8_runs_58 : decode cX8_runs 58 = .ok (.aload_n 0, 1) := by decide +kernel
theorem dX8_runs_59 : decode cX8_runs 59 = .ok (.getfield 134, 3) := by decide +kernel
theorem dX8_runs_62 : decode cX8_runs 62 = .ok (.goto 22, 3) := by decide +kernel
theorem dX8_runs_65 : decode cX8_runs 65 = .ok (.iload_n 2, 1) := by decide +kernel
theorem dX8_runs_66 : decode cX8_runs 66 = .ok (.iconst 3, 1) := by decide +kernel
theorem dX8_runs_67 : decode cX8_runs 67 = .ok (.if_icmp .ne 13, 3) := by decide +kernel
theorem dX8_runs_70 : decode cX8_runs 70 = .ok (.aload_n 0, 1) := by decide +kernel
theorem dX8_runs_71 : decode cX8_runs 71 = .ok (.sipush 176, 3) := by decide +kernel
theorem dX8_runs_74 : decode cX8_runs 74 = .ok (.invokevirtual 148, 3) := by decide +kernel
theorem dX8_runs_77 : decode cX8_runs 77 = .ok (.goto 7, 3) := by decide +kernel
theorem dX8_runs_80 : decode cX8_runs 80 = .ok (.aload_n 0, 1) := by decide +kernel
theorem dX8_runs_81 : decode cX8_runs 81 = .ok (.getfield 194, 3) := by decide +kernel
theorem dX8_runs_84 : decode cX8_runs 84 = .ok (.ireturn, 1) := by decide +kernel
theorem dX8_ahead_0 : decode cX8_ahead 0 = .ok (.aload_n 0, 1) := by decide +kernel
theorem dX8_ahead_1 : decode cX8_ahead 1 = .ok (.iload_n 1, 1) := by decide +kernel
theorem dX8_ahead_2 : decode cX8_ahead 2 = .ok (.invokevirtual 157, 3) := by decide +kernel
theorem dX8_ahead_5 : decode cX8_ahead 5 = .ok (.ifCond .eq 25, 3) := by decide +kernel
theorem dX8_ahead_8 : decode cX8_ahead 8 = .ok (.iload_n 2, 1) := by decide +kernel
theorem dX8_ahead_9 : decode cX8_ahead 9 = .ok (.i2l, 1) := by decide +kernel
theorem dX8_ahead_10 : decode cX8_ahead 10 = .ok (.lconst 0, 1) := by decide +kernel
theorem dX8_ahead_11 : decode cX8_ahead 11 = .ok (.ldc2_w 175, 3) := by decide +kernel
theorem dX8_ahead_14 : decode cX8_ahead 14 = .ok (.invokestatic 46, 3) := by decide +kernel
theorem dX8_ahead_17 : decode cX8_ahead 17 = .ok (.ifCond .eq 13, 3) := by decide +kernel
theorem dX8_ahead_20 : decode cX8_ahead 20 = .ok (.iload_n 3, 1) := by decide +kernel
theorem dX8_ahead_21 : decode cX8_ahead 21 = .ok (.i2l, 1) := by decide +kernel
theorem dX8_ahead_22 : decode cX8_ahead 22 = .ok (.lconst 0, 1) := by decide +kernel
theorem dX8_ahead_23 : decode cX8_ahead 23 = .ok (.lconst 1, 1) := by decide +kernel
theorem dX8_ahead_24 : decode cX8_ahead 24 = .ok (.invokestatic 46, 3) := by decide +kernel
theorem dX8_ahead_27 : decode cX8_ahead 27 = .ok (.ifCond .ne 5, 3) := by decide +kernel
theorem dX8_ahead_30 : decode cX8_ahead 30 = .ok (.iconst (-1), 1) := by decide +kernel
theorem dX8_ahead_31 : decode cX8_ahead 31 = .ok (.ireturn, 1) := by decide +kernel
theorem dX8_ahead_32 : decode cX8_ahead 32 = .ok (.aload_n 0, 1) := by decide +kernel
theorem dX8_ahead_33 : decode cX8_ahead 33 = .ok (.iconst 0, 1) := by decide +kernel
theorem dX8_ahead_34 : decode cX8_ahead 34 = .ok (.iload_n 2, 1) := by decide +kernel
theorem dX8_ahead_35 : decode cX8_ahead 35 = .ok (.invokevirtual 199, 3) := by decide +kernel
theorem dX8_ahead_38 : decode cX8_ahead 38 = .ok (.pop, 1) := by decide +kernel
theorem dX8_ahead_39 : decode cX8_ahead 39 = .ok (.aload_n 0, 1) := by decide +kernel
theorem dX8_ahead_40 : decode cX8_ahead 40 = .ok (.getfield 7, 3) := by decide +kernel
theorem dX8_ahead_43 : decode cX8_ahead 43 = .ok (.sipush 198, 3) := by decide +kernel
theorem dX8_ahead_46 : decode cX8_ahead 46 = .ok (.iconst 5, 1) := by decide +kernel
theorem dX8_ahead_47 : decode cX8_ahead 47 = .ok (.iload_n 3, 1) := by decide +kernel
theorem dX8_ahead_48 : decode cX8_ahead 48 = .ok (.imul, 1) := by decide +kernel
theorem dX8_ahead_49 : decode cX8_ahead 49 = .ok (.iadd, 1) := by decide +kernel
theorem dX8_ahead_50 : decode cX8_ahead 50 = .ok (.iload_n 1, 1) := by decide +kernel
theorem dX8_ahead_51 : decode cX8_ahead 51 = .ok (.iadd, 1) := by decide +kernel
theorem dX8_ahead_52 : decode cX8_ahead 52 = .ok (.iaload, 1) := by decide +kernel
theorem dX8_ahead_53 : decode cX8_ahead 53 = .ok (.ireturn, 1) := by decide +kernel
theorem dX8_glow_0 : decode cX8_glow 0 = .ok (.iload_n 1, 1) := by decide +kernel
theorem dX8_glow_1 : decode cX8_glow 1 = .ok (.invokestatic 151, 3) := by decide +kernel
theorem dX8_glow_4 : decode cX8_glow 4 = .ok (.ifCond .eq 15, 3) := by decide +kernel
theorem dX8_glow_7 : decode cX8_glow 7 = .ok (.iload_n 2, 1) := by decide +kernel
theorem dX8_glow_8 : decode cX8_glow 8 = .ok (.i2l, 1) := by decide +kernel
theorem dX8_glow_9 : decode cX8_glow 9 = .ok (.lconst 0, 1) := by decide +kernel
theorem dX8_glow_10 : decode cX8_glow 10 = .ok (.ldc2_w 175, 3) := by decide +kernel
theorem dX8_glow_13 : decode cX8_glow 13 = .ok (.invokestatic 46, 3) := by decide +kernel
theorem dX8_glow_16 : decode cX8_glow 16 = .ok (.ifCond .ne 5, 3) := by decide +kernel
theorem dX8_glow_19 : decode cX8_glow 19 = .ok (.iconst (-1), 1) := by decide +kernel
theorem dX8_glow_20 : decode cX8_glow 20 = .ok (.ireturn, 1) := by decide +kernel
theorem dX8_glow_21 : decode cX8_glow 21 = .ok (.aload_n 0, 1) := by decide +kernel
theorem dX8_glow_22 : decode cX8_glow 22 = .ok (.iconst 0, 1) := by decide +kernel
theorem dX8_glow_23 : decode cX8_glow 23 = .ok (.iload_n 2, 1) := by decide +kernel
theorem dX8_glow_24 : decode cX8_glow 24 = .ok (.invokevirtual 199, 3) := by decide +kernel
theorem dX8_glow_27 : decode cX8_glow 27 = .ok (.pop, 1) := by decide +kernel
theorem dX8_glow_28 : decode cX8_glow 28 = .ok (.aload_n 0, 1) := by decide +kernel
theorem dX8_glow_29 : decode cX8_glow 29 = .ok (.getfield 7, 3) := by decide +kernel
theorem dX8_glow_32 : decode cX8_glow 32 = .ok (.sipush 176, 3) := by decide +kernel
theorem dX8_glow_35 : decode cX8_glow 35 = .ok (.iload_n 1, 1) := by decide +kernel
theorem dX8_glow_36 : decode cX8_glow 36 = .ok (.iadd, 1) := by decide +kernel
theorem dX8_glow_37 : decode cX8_glow 37 = .ok (.iaload, 1) := by decide +kernel
theorem dX8_glow_38 : decode cX8_glow 38 = .ok (.bipush 30, 2) := by decide +kernel
theorem dX8_glow_40 : decode cX8_glow 40 = .ok (.iadd, 1) := by decide +kernel
theorem dX8_glow_41 : decode cX8_glow 41 = .ok (.ireturn, 1) := by decide +kernel
theorem dX8_caught_0 : decode cX8_caught 0 = .ok (.aload_n 0, 1) := by decide +kernel
theorem dX8_caught_1 : decode cX8_caught 1 = .ok (.iload_n 1, 1) := by decide +kernel
theorem dX8_caught_2 : decode cX8_caught 2 = .ok (.invokevirtual 157, 3) := by decide +kernel
theorem dX8_caught_5 : decode cX8_caught 5 = .ok (.ifCond .ne 5, 3) := by decide +kernel
theorem dX8_caught_8 : decode cX8_caught 8 = .ok (.iconst (-1), 1) := by decide +kernel
theorem dX8_caught_9 : decode cX8_caught 9 = .ok (.ireturn, 1) := by decide +kernel
theorem dX8_caught_10 : decode cX8_caught 10 = .ok (.aload_n 0, 1) := by decide +kernel
theorem dX8_caught_11 : decode cX8_caught 11 = .ok (.iconst 0, 1) := by decide +kernel
theorem dX8_caught_12 : decode cX8_caught 12 = .ok (.sipush 176, 3) := by decide +kernel
theorem dX8_caught_15 : decode cX8_caught 15 = .ok (.invokevirtual 190, 3) := by decide +kernel
theorem dX8_caught_18 : decode cX8_caught 18 = .ok (.aload_n 0, 1) := by decide +kernel
theorem dX8_caught_19 : decode cX8_caught 19 = .ok (.invokevirtual 183, 3) := by decide +kernel
theorem dX8_caught_22 : decode cX8_caught 22 = .ok (.iconst 1, 1) := by decide +kernel
theorem dX8_caught_23 : decode cX8_caught 23 = .ok (.istore_n 2, 1) := by decide +kernel
theorem dX8_caught_24 : decode cX8_caught 24 = .ok (.iload_n 2, 1) := by decide +kernel
theorem dX8_caught_25 : decode cX8_caught 25 = .ok (.bipush 60, 2) := by decide +kernel
theorem dX8_caught_27 : decode cX8_caught 27 = .ok (.if_icmp .gt 31, 3) := by decide +kernel
theorem dX8_caught_30 : decode cX8_caught 30 = .ok (.aload_n 0, 1) := by decide +kernel
theorem dX8_caught_31 : decode cX8_caught 31 = .ok (.sipush 176, 3) := by decide +kernel
theorem dX8_caught_34 : decode cX8_caught 34 = .ok (.iconst 0, 1) := by decide +kernel
theorem dX8_caught_35 : decode cX8_caught 35 = .ok (.invokevirtual 186, 3) := by decide +kernel
theorem dX8_caught_38 : decode cX8_caught 38 = .ok (.aload_n 0, 1) := by decide +kernel
theorem dX8_caught_39 : decode cX8_caught 39 = .ok (.getfield 131, 3) := by decide +kernel
theorem dX8_caught_42 : decode cX8_caught 42 = .ok (.iload_n 1, 1) := by decide +kernel
theorem dX8_caught_43 : decode cX8_caught 43 = .ok (.ishr, 1) := by decide +kernel
theorem dX8_caught_44 : decode cX8_caught 44 = .ok (.iconst 1, 1) := by decide +kernel
theorem dX8_caught_45 : decode cX8_caught 45 = .ok (.iand, 1) := by decide +kernel
theorem dX8_caught_46 : decode cX8_caught 46 = .ok (.iconst 1, 1) := by decide +kernel
theorem dX8_caught_47 : decode cX8_caught 47 = .ok (.if_icmp .ne 5, 3) := by decide +kernel
theorem dX8_caught_50 : decode cX8_caught 50 = .ok (.iload_n 2, 1) := by decide +kernel
theorem dX8_caught_51 : decode cX8_caught 51 = .ok (.ireturn, 1) := by decide +kernel
theorem dX8_caught_52 : decode cX8_caught 52 = .ok (.iinc 2 1, 3) := by decide +kernel
theorem dX8_caught_55 : decode cX8_caught 55 = .ok (.goto (-31), 3) := by decide +kernel
theorem dX8_caught_58 : decode cX8_caught 58 = .ok (.bipush (-4), 2) := by decide +kernel
theorem dX8_caught_60 : decode cX8_caught 60 = .ok (.ireturn, 1) := by decide +kernel
theorem dX8_best_0 : decode cX8_best 0 = .ok (.aload_n 0, 1) := by decide +kernel
theorem dX8_best_1 : decode cX8_best 1 = .ok (.iload_n 1, 1) := by decide +kernel
theorem dX8_best_2 : decode cX8_best 2 = .ok (.invokevirtual 157, 3) := by decide +kernel
theorem dX8_best_5 : decode cX8_best 5 = .ok (.ifCond .eq 25, 3) := by decide +kernel
theorem dX8_best_8 : decode cX8_best 8 = .ok (.iload_n 2, 1) := by decide +kernel
theorem dX8_best_9 : decode cX8_best 9 = .ok (.i2l, 1) := by decide +kernel
theorem dX8_best_10 : decode cX8_best 10 = .ok (.lconst 0, 1) := by decide +kernel
theorem dX8_best_11 : decode cX8_best 11 = .ok (.ldc2_w 175, 3) := by decide +kernel
theorem dX8_best_14 : decode cX8_best 14 = .ok (.invokestatic 46, 3) := by decide +kernel
theorem dX8_best_17 : decode cX8_best 17 = .ok (.ifCond .eq 13, 3) := by decide +kernel
theorem dX8_best_20 : decode cX8_best 20 = .ok (.iload_n 3, 1) := by decide +kernel
theorem dX8_best_21 : decode cX8_best 21 = .ok (.i2l, 1) := by decide +kernel
theorem dX8_best_22 : decode cX8_best 22 = .ok (.lconst 0, 1) := by decide +kernel
theorem dX8_best_23 : decode cX8_best 23 = .ok (.lconst 1, 1) := by decide +kernel
theorem dX8_best_24 : decode cX8_best 24 = .ok (.invokestatic 46, 3) := by decide +kernel
theorem dX8_best_27 : decode cX8_best 27 = .ok (.ifCond .ne 5, 3) := by decide +kernel
theorem dX8_best_30 : decode cX8_best 30 = .ok (.iconst (-1), 1) := by decide +kernel
theorem dX8_best_31 : decode cX8_best 31 = .ok (.ireturn, 1) := by decide +kernel
theorem dX8_best_32 : decode cX8_best 32 = .ok (.iconst (-1), 1) := by decide +kernel
theorem dX8_best_33 : decode cX8_best 33 = .ok (.istore 4, 2) := by decide +kernel
theorem dX8_best_35 : decode cX8_best 35 = .ok (.iconst 0, 1) := by decide +kernel
theorem dX8_best_36 : decode cX8_best 36 = .ok (.istore 5, 2) := by decide +kernel
theorem dX8_best_38 : decode cX8_best 38 = .ok (.iconst 0, 1) := by decide +kernel
theorem dX8_best_39 : decode cX8_best 39 = .ok (.istore 6, 2) := by decide +kernel
theorem dX8_best_41 : decode cX8_best 41 = .ok (.iload 6, 2) := by decide +kernel
theorem dX8_best_43 : decode cX8_best 43 = .ok (.bipush 6, 2) := by decide +kernel
theorem dX8_best_45 : decode cX8_best 45 = .ok (.if_icmp .ge 82, 3) := by decide +kernel
theorem dX8_best_48 : decode cX8_best 48 = .ok (.aload_n 0, 1) := by decide +kernel
theorem dX8_best_49 : decode cX8_best 49 = .ok (.iconst 0, 1) := by decide +kernel
theorem dX8_best_50 : decode cX8_best 50 = .ok (.sipush 220, 3) := by decide +kernel
theorem dX8_best_53 : decode cX8_best 53 = .ok (.invokevirtual 190, 3) := by decide +kernel
theorem dX8_best_56 : decode cX8_best 56 = .ok (.aload_n 0, 1) := by decide +kernel
theorem dX8_best_57 : decode cX8_best 57 = .ok (.getfield 7, 3) := by decide +kernel
theorem dX8_best_60 : decode cX8_best 60 = .ok (.sipush 237, 3) := by decide +kernel
theorem dX8_best_63 : decode cX8_best 63 = .ok (.iload_n 1, 1) := by decide +kernel
theorem dX8_best_64 : decode cX8_best 64 = .ok (.iadd, 1) := by decide +kernel
theorem dX8_best_65 : decode cX8_best 65 = .ok (.iload 6, 2) := by decide +kernel
theorem dX8_best_67 : decode cX8_best 67 = .ok (.iastore, 1) := by decide +kernel
theorem dX8_best_68 : decode cX8_best 68 = .ok (.aload_n 0, 1) := by decide +kernel
theorem dX8_best_69 : decode cX8_best 69 = .ok (.sipush 220, 3) := by decide +kernel
theorem dX8_best_72 : decode cX8_best 72 = .ok (.iload_n 2, 1) := by decide +kernel
theorem dX8_best_73 : decode cX8_best 73 = .ok (.invokevirtual 199, 3) := by decide +kernel
theorem dX8_best_76 : decode cX8_best 76 = .ok (.pop, 1) := by decide +kernel
theorem dX8_best_77 : decode cX8_best 77 = .ok (.aload_n 0, 1) := by decide +kernel
theorem dX8_best_78 : decode cX8_best 78 = .ok (.getfield 7, 3) := by decide +kernel
theorem dX8_best_81 : decode cX8_best 81 = .ok (.sipush 198, 3) := by decide +kernel
theorem dX8_best_84 : decode cX8_best 84 = .ok (.iload_n 1, 1) := by decide +kernel
theorem dX8_best_85 : decode cX8_best 85 = .ok (.iadd, 1) := by decide +kernel
theorem dX8_best_86 : decode cX8_best 86 = .ok (.iaload, 1) := by decide +kernel
theorem dX8_best_87 : decode cX8_best 87 = .ok (.istore 7, 2) := by decide +kernel
theorem dX8_best_89 : decode cX8_best 89 = .ok (.iload 7, 2) := by decide +kernel
theorem dX8_best_91 : decode cX8_best 91 = .ok (.iload 4, 2) := by decide +kernel
theorem dX8_best_93 : decode cX8_best 93 = .ok (.if_icmp .le 8, 3) := by decide +kernel
theorem dX8_best_96 : decode cX8_best 96 = .ok (.iload 6, 2) := by decide +kernel
theorem dX8_best_98 : decode cX8_best 98 = .ok (.goto 5, 3) := by decide +kernel
theorem dX8_best_101 : decode cX8_best 101 = .ok (.iload 5, 2) := by decide +kernel
theorem dX8_best_103 : decode cX8_best 103 = .ok (.istore 5, 2) := by decide +kernel
theorem dX8_best_105 : decode cX8_best 105 = .ok (.iload 7, 2) := by decide +kernel
theorem dX8_best_107 : decode cX8_best 107 = .ok (.iload 4, 2) := by decide +kernel
theorem dX8_best_109 : decode cX8_best 109 = .ok (.if_icmp .le 8, 3) := by decide +kernel
theorem dX8_best_112 : decode cX8_best 112 = .ok (.iload 7, 2) := by decide +kernel
theorem dX8_best_114 : decode cX8_best 114 = .ok (.goto 5, 3) := by decide +kernel
theorem dX8_best_117 : decode cX8_best 117 = .ok (.iload 4, 2) := by decide +kernel
theorem dX8_best_119 : decode cX8_best 119 = .ok (.istore 4, 2) := by decide +kernel
theorem dX8_best_121 : decode cX8_best 121 = .ok (.iinc 6 1, 3) := by decide +kernel
theorem dX8_best_124 : decode cX8_best 124 = .ok (.goto (-83), 3) := by decide +kernel
theorem dX8_best_127 : decode cX8_best 127 = .ok (.iload_n 3, 1) := by decide +kernel
theorem dX8_best_128 : decode cX8_best 128 = .ok (.ifCond .ne 8, 3) := by decide +kernel
theorem dX8_best_131 : decode cX8_best 131 = .ok (.iload 5, 2) := by decide +kernel
theorem dX8_best_133 : decode cX8_best 133 = .ok (.goto 5, 3) := by decide +kernel
theorem dX8_best_136 : decode cX8_best 136 = .ok (.iload 4, 2) := by decide +kernel
theorem dX8_best_138 : decode cX8_best 138 = .ok (.ireturn, 1) := by decide +kernel
theorem dX8_ripen_0 : decode cX8_ripen 0 = .ok (.aload_n 0, 1) := by decide +kernel
theorem dX8_ripen_1 : decode cX8_ripen 1 = .ok (.iload_n 1, 1) := by decide +kernel
theorem dX8_ripen_2 : decode cX8_ripen 2 = .ok (.invokevirtual 157, 3) := by decide +kernel
theorem dX8_ripen_5 : decode cX8_ripen 5 = .ok (.ifCond .eq 25, 3) := by decide +kernel
theorem dX8_ripen_8 : decode cX8_ripen 8 = .ok (.iload_n 2, 1) := by decide +kernel
theorem dX8_ripen_9 : decode cX8_ripen 9 = .ok (.i2l, 1) := by decide +kernel
theorem dX8_ripen_10 : decode cX8_ripen 10 = .ok (.lconst 0, 1) := by decide +kernel
theorem dX8_ripen_11 : decode cX8_ripen 11 = .ok (.ldc2_w 175, 3) := by decide +kernel
theorem dX8_ripen_14 : decode cX8_ripen 14 = .ok (.invokestatic 46, 3) := by decide +kernel
theorem dX8_ripen_17 : decode cX8_ripen 17 = .ok (.ifCond .eq 13, 3) := by decide +kernel
theorem dX8_ripen_20 : decode cX8_ripen 20 = .ok (.iload_n 3, 1) := by decide +kernel
theorem dX8_ripen_21 : decode cX8_ripen 21 = .ok (.i2l, 1) := by decide +kernel
theorem dX8_ripen_22 : decode cX8_ripen 22 = .ok (.lconst 0, 1) := by decide +kernel
theorem dX8_ripen_23 : decode cX8_ripen 23 = .ok (.lconst 1, 1) := by decide +kernel
theorem dX8_ripen_24 : decode cX8_ripen 24 = .ok (.invokestatic 46, 3) := by decide +kernel
theorem dX8_ripen_27 : decode cX8_ripen 27 = .ok (.ifCond .ne 5, 3) := by decide +kernel
theorem dX8_ripen_30 : decode cX8_ripen 30 = .ok (.iconst (-1), 1) := by decide +kernel
theorem dX8_ripen_31 : decode cX8_ripen 31 = .ok (.ireturn, 1) := by decide +kernel
theorem dX8_ripen_32 : decode cX8_ripen 32 = .ok (.iconst (-1), 1) := by decide +kernel
theorem dX8_ripen_33 : decode cX8_ripen 33 = .ok (.istore 4, 2) := by decide +kernel
theorem dX8_ripen_35 : decode cX8_ripen 35 = .ok (.iconst 0, 1) := by decide +kernel
theorem dX8_ripen_36 : decode cX8_ripen 36 = .ok (.istore 5, 2) := by decide +kernel
theorem dX8_ripen_38 : decode cX8_ripen 38 = .ok (.iconst 0, 1) := by decide +kernel
theorem dX8_ripen_39 : decode cX8_ripen 39 = .ok (.istore 6, 2) := by decide +kernel
theorem dX8_ripen_41 : decode cX8_ripen 41 = .ok (.iload 6, 2) := by decide +kernel
theorem dX8_ripen_43 : decode cX8_ripen 43 = .ok (.bipush 20, 2) := by decide +kernel
theorem dX8_ripen_45 : decode cX8_ripen 45 = .ok (.if_icmp .gt 82, 3) := by decide +kernel
theorem dX8_ripen_48 : decode cX8_ripen 48 = .ok (.aload_n 0, 1) := by decide +kernel
theorem dX8_ripen_49 : decode cX8_ripen 49 = .ok (.iconst 0, 1) := by decide +kernel
theorem dX8_ripen_50 : decode cX8_ripen 50 = .ok (.sipush 220, 3) := by decide +kernel
theorem dX8_ripen_53 : decode cX8_ripen 53 = .ok (.invokevirtual 190, 3) := by decide +kernel
theorem dX8_ripen_56 : decode cX8_ripen 56 = .ok (.aload_n 0, 1) := by decide +kernel
theorem dX8_ripen_57 : decode cX8_ripen 57 = .ok (.getfield 7, 3) := by decide +kernel
theorem dX8_ripen_60 : decode cX8_ripen 60 = .ok (.sipush 247, 3) := by decide +kernel
theorem dX8_ripen_63 : decode cX8_ripen 63 = .ok (.iload_n 1, 1) := by decide +kernel
theorem dX8_ripen_64 : decode cX8_ripen 64 = .ok (.iadd, 1) := by decide +kernel
theorem dX8_ripen_65 : decode cX8_ripen 65 = .ok (.iload 6, 2) := by decide +kernel
theorem dX8_ripen_67 : decode cX8_ripen 67 = .ok (.iastore, 1) := by decide +kernel
theorem dX8_ripen_68 : decode cX8_ripen 68 = .ok (.aload_n 0, 1) := by decide +kernel
theorem dX8_ripen_69 : decode cX8_ripen 69 = .ok (.sipush 220, 3) := by decide +kernel
theorem dX8_ripen_72 : decode cX8_ripen 72 = .ok (.iload_n 2, 1) := by decide +kernel
theorem dX8_ripen_73 : decode cX8_ripen 73 = .ok (.invokevirtual 199, 3) := by decide +kernel
theorem dX8_ripen_76 : decode cX8_ripen 76 = .ok (.pop, 1) := by decide +kernel
theorem dX8_ripen_77 : decode cX8_ripen 77 = .ok (.aload_n 0, 1) := by decide +kernel
theorem dX8_ripen_78 : decode cX8_ripen 78 = .ok (.getfield 7, 3) := by decide +kernel
theorem dX8_ripen_81 : decode cX8_ripen 81 = .ok (.sipush 198, 3) := by decide +kernel
theorem dX8_ripen_84 : decode cX8_ripen 84 = .ok (.iload_n 1, 1) := by decide +kernel
theorem dX8_ripen_85 : decode cX8_ripen 85 = .ok (.iadd, 1) := by decide +kernel
theorem dX8_ripen_86 : decode cX8_ripen 86 = .ok (.iaload, 1) := by decide +kernel
theorem dX8_ripen_87 : decode cX8_ripen 87 = .ok (.istore 7, 2) := by decide +kernel
theorem dX8_ripen_89 : decode cX8_ripen 89 = .ok (.iload 7, 2) := by decide +kernel
theorem dX8_ripen_91 : decode cX8_ripen 91 = .ok (.iload 4, 2) := by decide +kernel
theorem dX8_ripen_93 : decode cX8_ripen 93 = .ok (.if_icmp .le 8, 3) := by decide +kernel
theorem dX8_ripen_96 : decode cX8_ripen 96 = .ok (.iload 6, 2) := by decide +kernel
theorem dX8_ripen_98 : decode cX8_ripen 98 = .ok (.goto 5, 3) := by decide +kernel
theorem dX8_ripen_101 : decode cX8_ripen 101 = .ok (.iload 5, 2) := by decide +kernel
theorem dX8_ripen_103 : decode cX8_ripen 103 = .ok (.istore 5, 2) := by decide +kernel
theorem dX8_ripen_105 : decode cX8_ripen 105 = .ok (.iload 7, 2) := by decide +kernel
theorem dX8_ripen_107 : decode cX8_ripen 107 = .ok (.iload 4, 2) := by decide +kernel
theorem dX8_ripen_109 : decode cX8_ripen 109 = .ok (.if_icmp .le 8, 3) := by decide +kernel
theorem dX8_ripen_112 : decode cX8_ripen 112 = .ok (.iload 7, 2) := by decide +kernel
theorem dX8_ripen_114 : decode cX8_ripen 114 = .ok (.goto 5, 3) := by decide +kernel
theorem dX8_ripen_117 : decode cX8_ripen 117 = .ok (.iload 4, 2) := by decide +kernel
theorem dX8_ripen_119 : decode cX8_ripen 119 = .ok (.istore 4, 2) := by decide +kernel
theorem dX8_ripen_121 : decode cX8_ripen 121 = .ok (.iinc 6 1, 3) := by decide +kernel
theorem dX8_ripen_124 : decode cX8_ripen 124 = .ok (.goto (-83), 3) := by decide +kernel
theorem dX8_ripen_127 : decode cX8_ripen 127 = .ok (.iload_n 3, 1) := by decide +kernel
theorem dX8_ripen_128 : decode cX8_ripen 128 = .ok (.ifCond .ne 8, 3) := by decide +kernel
theorem dX8_ripen_131 : decode cX8_ripen 131 = .ok (.iload 5, 2) := by decide +kernel
theorem dX8_ripen_133 : decode cX8_ripen 133 = .ok (.goto 5, 3) := by decide +kernel
theorem dX8_ripen_136 : decode cX8_ripen 136 = .ok (.iload 4, 2) := by decide +kernel
theorem dX8_ripen_138 : decode cX8_ripen 138 = .ok (.ireturn, 1) := by decide +kernel
theorem dX8_swap_0 : decode cX8_swap 0 = .ok (.iload_n 1, 1) := by decide +kernel
theorem dX8_swap_1 : decode cX8_swap 1 = .ok (.i2l, 1) := by decide +kernel
theorem dX8_swap_2 : decode cX8_swap 2 = .ok (.lconst 0, 1) := by decide +kernel
theorem dX8_swap_3 : decode cX8_swap 3 = .ok (.ldc2_w 175, 3) := by decide +kernel
theorem dX8_swap_6 : decode cX8_swap 6 = .ok (.invokestatic 46, 3) := by decide +kernel
theorem dX8_swap_9 : decode cX8_swap 9 = .ok (.ifCond .eq 13, 3) := by decide +kernel
theorem dX8_swap_12 : decode cX8_swap 12 = .ok (.iload_n 2, 1) := by decide +kernel
theorem dX8_swap_13 : decode cX8_swap 13 = .ok (.i2l, 1) := by decide +kernel
theorem dX8_swap_14 : decode cX8_swap 14 = .ok (.lconst 0, 1) := by decide +kernel
theorem dX8_swap_15 : decode cX8_swap 15 = .ok (.lconst 1, 1) := by decide +kernel
theorem dX8_swap_16 : decode cX8_swap 16 = .ok (.invokestatic 46, 3) := by decide +kernel
theorem dX8_swap_19 : decode cX8_swap 19 = .ok (.ifCond .ne 5, 3) := by decide +kernel
theorem dX8_swap_22 : decode cX8_swap 22 = .ok (.iconst (-1), 1) := by decide +kernel
theorem dX8_swap_23 : decode cX8_swap 23 = .ok (.ireturn, 1) := by decide +kernel
theorem dX8_swap_24 : decode cX8_swap 24 = .ok (.aload_n 0, 1) := by decide +kernel
theorem dX8_swap_25 : decode cX8_swap 25 = .ok (.iconst 0, 1) := by decide +kernel
theorem dX8_swap_26 : decode cX8_swap 26 = .ok (.iload_n 1, 1) := by decide +kernel
theorem dX8_swap_27 : decode cX8_swap 27 = .ok (.invokevirtual 199, 3) := by decide +kernel
theorem dX8_swap_30 : decode cX8_swap 30 = .ok (.istore_n 3, 1) := by decide +kernel
theorem dX8_swap_31 : decode cX8_swap 31 = .ok (.bipush (-4), 2) := by decide +kernel
theorem dX8_swap_33 : decode cX8_swap 33 = .ok (.istore 4, 2) := by decide +kernel
theorem dX8_swap_35 : decode cX8_swap 35 = .ok (.iconst 0, 1) := by decide +kernel
theorem dX8_swap_36 : decode cX8_swap 36 = .ok (.istore 5, 2) := by decide +kernel
theorem dX8_swap_38 : decode cX8_swap 38 = .ok (.iload 5, 2) := by decide +kernel
theorem dX8_swap_40 : decode cX8_swap 40 = .ok (.aload_n 0, 1) := by decide +kernel
theorem dX8_swap_41 : decode cX8_swap 41 = .ok (.getfield 116, 3) := by decide +kernel
theorem dX8_swap_44 : decode cX8_swap 44 = .ok (.if_icmp .ge 124, 3) := by decide +kernel
theorem dX8_swap_47 : decode cX8_swap 47 = .ok (.iload 5, 2) := by decide +kernel
theorem dX8_swap_49 : decode cX8_swap 49 = .ok (.iconst 1, 1) := by decide +kernel
theorem dX8_swap_50 : decode cX8_swap 50 = .ok (.iadd, 1) := by decide +kernel
theorem dX8_swap_51 : decode cX8_swap 51 = .ok (.istore 6, 2) := by decide +kernel
theorem dX8_swap_53 : decode cX8_swap 53 = .ok (.iload 6, 2) := by decide +kernel
theorem dX8_swap_55 : decode cX8_swap 55 = .ok (.aload_n 0, 1) := by decide +kernel
theorem dX8_swap_56 : decode cX8_swap 56 = .ok (.getfield 116, 3) := by decide +kernel
theorem dX8_swap_59 : decode cX8_swap 59 = .ok (.if_icmp .ge 103, 3) := by decide +kernel
theorem dX8_swap_62 : decode cX8_swap 62 = .ok (.aload_n 0, 1) := by decide +kernel
theorem dX8_swap_63 : decode cX8_swap 63 = .ok (.iconst 0, 1) := by decide +kernel
theorem dX8_swap_64 : decode cX8_swap 64 = .ok (.sipush 220, 3) := by decide +kernel
theorem dX8_swap_67 : decode cX8_swap 67 = .ok (.invokevirtual 190, 3) := by decide +kernel
theorem dX8_swap_70 : decode cX8_swap 70 = .ok (.aload_n 0, 1) := by decide +kernel
theorem dX8_swap_71 : decode cX8_swap 71 = .ok (.getfield 7, 3) := by decide +kernel
theorem dX8_swap_74 : decode cX8_swap 74 = .ok (.sipush 237, 3) := by decide +kernel
theorem dX8_swap_77 : decode cX8_swap 77 = .ok (.iload 5, 2) := by decide +kernel
theorem dX8_swap_79 : decode cX8_swap 79 = .ok (.iadd, 1) := by decide +kernel
theorem dX8_swap_80 : decode cX8_swap 80 = .ok (.aload_n 0, 1) := by decide +kernel
theorem dX8_swap_81 : decode cX8_swap 81 = .ok (.getfield 7, 3) := by decide +kernel
theorem dX8_swap_84 : decode cX8_swap 84 = .ok (.bipush 17, 2) := by decide +kernel
theorem dX8_swap_86 : decode cX8_swap 86 = .ok (.iload 6, 2) := by decide +kernel
theorem dX8_swap_88 : decode cX8_swap 88 = .ok (.iadd, 1) := by decide +kernel
theorem dX8_swap_89 : decode cX8_swap 89 = .ok (.iaload, 1) := by decide +kernel
theorem dX8_swap_90 : decode cX8_swap 90 = .ok (.iastore, 1) := by decide +kernel
theorem dX8_swap_91 : decode cX8_swap 91 = .ok (.aload_n 0, 1) := by decide +kernel
theorem dX8_swap_92 : decode cX8_swap 92 = .ok (.getfield 7, 3) := by decide +kernel
theorem dX8_swap_95 : decode cX8_swap 95 = .ok (.sipush 237, 3) := by decide +kernel
theorem dX8_swap_98 : decode cX8_swap 98 = .ok (.iload 6, 2) := by decide +kernel
theorem dX8_swap_100 : decode cX8_swap 100 = .ok (.iadd, 1) := by decide +kernel
theorem dX8_swap_101 : decode cX8_swap 101 = .ok (.aload_n 0, 1) := by decide +kernel
theorem dX8_swap_102 : decode cX8_swap 102 = .ok (.getfield 7, 3) := by decide +kernel
theorem dX8_swap_105 : decode cX8_swap 105 = .ok (.bipush 17, 2) := by decide +kernel
theorem dX8_swap_107 : decode cX8_swap 107 = .ok (.iload 5, 2) := by decide +kernel
theorem dX8_swap_109 : decode cX8_swap 109 = .ok (.iadd, 1) := by decide +kernel
theorem dX8_swap_110 : decode cX8_swap 110 = .ok (.iaload, 1) := by decide +kernel
theorem dX8_swap_111 : decode cX8_swap 111 = .ok (.iastore, 1) := by decide +kernel
theorem dX8_swap_112 : decode cX8_swap 112 = .ok (.aload_n 0, 1) := by decide +kernel
theorem dX8_swap_113 : decode cX8_swap 113 = .ok (.sipush 220, 3) := by decide +kernel
theorem dX8_swap_116 : decode cX8_swap 116 = .ok (.iload_n 1, 1) := by decide +kernel
theorem dX8_swap_117 : decode cX8_swap 117 = .ok (.invokevirtual 199, 3) := by decide +kernel
theorem dX8_swap_120 : decode cX8_swap 120 = .ok (.istore 7, 2) := by decide +kernel
theorem dX8_swap_122 : decode cX8_swap 122 = .ok (.iload 7, 2) := by decide +kernel
theorem dX8_swap_124 : decode cX8_swap 124 = .ok (.iload_n 3, 1) := by decide +kernel
theorem dX8_swap_125 : decode cX8_swap 125 = .ok (.if_icmp .le 14, 3) := by decide +kernel
theorem dX8_swap_128 : decode cX8_swap 128 = .ok (.bipush 10, 2) := by decide +kernel
theorem dX8_swap_130 : decode cX8_swap 130 = .ok (.iload 5, 2) := by decide +kernel
theorem dX8_swap_132 : decode cX8_swap 132 = .ok (.imul, 1) := by decide +kernel
theorem dX8_swap_133 : decode cX8_swap 133 = .ok (.iload 6, 2) := by decide +kernel
theorem dX8_swap_135 : decode cX8_swap 135 = .ok (.iadd, 1) := by decide +kernel
theorem dX8_swap_136 : decode cX8_swap 136 = .ok (.goto 5, 3) := by decide +kernel
theorem dX8_swap_139 : decode cX8_swap 139 = .ok (.iload 4, 2) := by decide +kernel
theorem dX8_swap_141 : decode cX8_swap 141 = .ok (.istore 4, 2) := by decide +kernel
theorem dX8_swap_143 : decode cX8_swap 143 = .ok (.iload 7, 2) := by decide +kernel
theorem dX8_swap_145 : decode cX8_swap 145 = .ok (.iload_n 3, 1) := by decide +kernel
theorem dX8_swap_146 : decode cX8_swap 146 = .ok (.if_icmp .le 8, 3) := by decide +kernel
theorem dX8_swap_149 : decode cX8_swap 149 = .ok (.iload 7, 2) := by decide +kernel
theorem dX8_swap_151 : decode cX8_swap 151 = .ok (.goto 4, 3) := by decide +kernel
theorem dX8_swap_154 : decode cX8_swap 154 = .ok (.iload_n 3, 1) := by decide +kernel
theorem dX8_swap_155 : decode cX8_swap 155 = .ok (.istore_n 3, 1) := by decide +kernel
theorem dX8_swap_156 : decode cX8_swap 156 = .ok (.iinc 6 1, 3) := by decide +kernel
theorem dX8_swap_159 : decode cX8_swap 159 = .ok (.goto (-106), 3) := by decide +kernel
theorem dX8_swap_162 : decode cX8_swap 162 = .ok (.iinc 5 1, 3) := by decide +kernel
theorem dX8_swap_165 : decode cX8_swap 165 = .ok (.goto (-127), 3) := by decide +kernel
theorem dX8_swap_168 : decode cX8_swap 168 = .ok (.iload 4, 2) := by decide +kernel
theorem dX8_swap_170 : decode cX8_swap 170 = .ok (.bipush (-4), 2) := by decide +kernel
theorem dX8_swap_172 : decode cX8_swap 172 = .ok (.if_icmp .eq 7, 3) := by decide +kernel
theorem dX8_swap_175 : decode cX8_swap 175 = .ok (.iload_n 2, 1) := by decide +kernel
theorem dX8_swap_176 : decode cX8_swap 176 = .ok (.ifCond .ne 8, 3) := by decide +kernel
theorem dX8_swap_179 : decode cX8_swap 179 = .ok (.iload 4, 2) := by decide +kernel
theorem dX8_swap_181 : decode cX8_swap 181 = .ok (.goto 4, 3) := by decide +kernel
theorem dX8_swap_184 : decode cX8_swap 184 = .ok (.iload_n 3, 1) := by decide +kernel
theorem dX8_swap_185 : decode cX8_swap 185 = .ok (.ireturn, 1) := by decide +kernel
theorem dX8_round_0 : decode cX8_round 0 = .ok (.aload_n 0, 1) := by decide +kernel
theorem dX8_round_1 : decode cX8_round 1 = .ok (.iload_n 1, 1) := by decide +kernel
theorem dX8_round_2 : decode cX8_round 2 = .ok (.invokevirtual 160, 3) := by decide +kernel
theorem dX8_round_5 : decode cX8_round 5 = .ok (.ifCond .eq 25, 3) := by decide +kernel
theorem dX8_round_8 : decode cX8_round 8 = .ok (.iload_n 2, 1) := by decide +kernel
theorem dX8_round_9 : decode cX8_round 9 = .ok (.i2l, 1) := by decide +kernel
theorem dX8_round_10 : decode cX8_round 10 = .ok (.lconst 0, 1) := by decide +kernel
theorem dX8_round_11 : decode cX8_round 11 = .ok (.ldc2_w 175, 3) := by decide +kernel
theorem dX8_round_14 : decode cX8_round 14 = .ok (.invokestatic 46, 3) := by decide +kernel
theorem dX8_round_17 : decode cX8_round 17 = .ok (.ifCond .eq 13, 3) := by decide +kernel
theorem dX8_round_20 : decode cX8_round 20 = .ok (.iload_n 3, 1) := by decide +kernel
theorem dX8_round_21 : decode cX8_round 21 = .ok (.i2l, 1) := by decide +kernel
theorem dX8_round_22 : decode cX8_round 22 = .ok (.lconst 0, 1) := by decide +kernel
theorem dX8_round_23 : decode cX8_round 23 = .ok (.lconst 1, 1) := by decide +kernel
theorem dX8_round_24 : decode cX8_round 24 = .ok (.invokestatic 46, 3) := by decide +kernel
theorem dX8_round_27 : decode cX8_round 27 = .ok (.ifCond .ne 5, 3) := by decide +kernel
theorem dX8_round_30 : decode cX8_round 30 = .ok (.iconst (-1), 1) := by decide +kernel
theorem dX8_round_31 : decode cX8_round 31 = .ok (.ireturn, 1) := by decide +kernel
theorem dX8_round_32 : decode cX8_round 32 = .ok (.iconst (-1), 1) := by decide +kernel
theorem dX8_round_33 : decode cX8_round 33 = .ok (.istore 4, 2) := by decide +kernel
theorem dX8_round_35 : decode cX8_round 35 = .ok (.iconst 0, 1) := by decide +kernel
theorem dX8_round_36 : decode cX8_round 36 = .ok (.istore 5, 2) := by decide +kernel
theorem dX8_round_38 : decode cX8_round 38 = .ok (.iconst 0, 1) := by decide +kernel
theorem dX8_round_39 : decode cX8_round 39 = .ok (.istore 6, 2) := by decide +kernel
theorem dX8_round_41 : decode cX8_round 41 = .ok (.iload 6, 2) := by decide +kernel
theorem dX8_round_43 : decode cX8_round 43 = .ok (.bipush 36, 2) := by decide +kernel
theorem dX8_round_45 : decode cX8_round 45 = .ok (.if_icmp .ge 106, 3) := by decide +kernel
theorem dX8_round_48 : decode cX8_round 48 = .ok (.aload_n 0, 1) := by decide +kernel
theorem dX8_round_49 : decode cX8_round 49 = .ok (.iconst 0, 1) := by decide +kernel
theorem dX8_round_50 : decode cX8_round 50 = .ok (.sipush 220, 3) := by decide +kernel
theorem dX8_round_53 : decode cX8_round 53 = .ok (.invokevirtual 190, 3) := by decide +kernel
theorem dX8_round_56 : decode cX8_round 56 = .ok (.aload_n 0, 1) := by decide +kernel
theorem dX8_round_57 : decode cX8_round 57 = .ok (.getfield 7, 3) := by decide +kernel
theorem dX8_round_60 : decode cX8_round 60 = .ok (.sipush 252, 3) := by decide +kernel
theorem dX8_round_63 : decode cX8_round 63 = .ok (.iload_n 1, 1) := by decide +kernel
theorem dX8_round_64 : decode cX8_round 64 = .ok (.iadd, 1) := by decide +kernel
theorem dX8_round_65 : decode cX8_round 65 = .ok (.iload 6, 2) := by decide +kernel
theorem dX8_round_67 : decode cX8_round 67 = .ok (.bipush 6, 2) := by decide +kernel
theorem dX8_round_69 : decode cX8_round 69 = .ok (.idiv, 1) := by decide +kernel
theorem dX8_round_70 : decode cX8_round 70 = .ok (.iastore, 1) := by decide +kernel
theorem dX8_round_71 : decode cX8_round 71 = .ok (.aload_n 0, 1) := by decide +kernel
theorem dX8_round_72 : decode cX8_round 72 = .ok (.getfield 7, 3) := by decide +kernel
theorem dX8_round_75 : decode cX8_round 75 = .ok (.sipush 255, 3) := by decide +kernel
theorem dX8_round_78 : decode cX8_round 78 = .ok (.iload_n 1, 1) := by decide +kernel
theorem dX8_round_79 : decode cX8_round 79 = .ok (.iadd, 1) := by decide +kernel
theorem dX8_round_80 : decode cX8_round 80 = .ok (.iload 6, 2) := by decide +kernel
theorem dX8_round_82 : decode cX8_round 82 = .ok (.bipush 6, 2) := by decide +kernel
theorem dX8_round_84 : decode cX8_round 84 = .ok (.irem, 1) := by decide +kernel
theorem dX8_round_85 : decode cX8_round 85 = .ok (.iastore, 1) := by decide +kernel
theorem dX8_round_86 : decode cX8_round 86 = .ok (.aload_n 0, 1) := by decide +kernel
theorem dX8_round_87 : decode cX8_round 87 = .ok (.sipush 220, 3) := by decide +kernel
theorem dX8_round_90 : decode cX8_round 90 = .ok (.iload_n 2, 1) := by decide +kernel
theorem dX8_round_91 : decode cX8_round 91 = .ok (.invokevirtual 199, 3) := by decide +kernel
theorem dX8_round_94 : decode cX8_round 94 = .ok (.pop, 1) := by decide +kernel
theorem dX8_round_95 : decode cX8_round 95 = .ok (.aload_n 0, 1) := by decide +kernel
theorem dX8_round_96 : decode cX8_round 96 = .ok (.getfield 134, 3) := by decide +kernel
theorem dX8_round_99 : decode cX8_round 99 = .ok (.iload 4, 2) := by decide +kernel
theorem dX8_round_101 : decode cX8_round 101 = .ok (.if_icmp .le 20, 3) := by decide +kernel
theorem dX8_round_104 : decode cX8_round 104 = .ok (.bipush 10, 2) := by decide +kernel
theorem dX8_round_106 : decode cX8_round 106 = .ok (.iload 6, 2) := by decide +kernel
theorem dX8_round_108 : decode cX8_round 108 = .ok (.bipush 6, 2) := by decide +kernel
theorem dX8_round_110 : decode cX8_round 110 = .ok (.idiv, 1) := by decide +kernel
theorem dX8_round_111 : decode cX8_round 111 = .ok (.imul, 1) := by decide +kernel
theorem dX8_round_112 : decode cX8_round 112 = .ok (.iload 6, 2) := by decide +kernel
theorem dX8_round_114 : decode cX8_round 114 = .ok (.bipush 6, 2) := by decide +kernel
theorem dX8_round_116 : decode cX8_round 116 = .ok (.irem, 1) := by decide +kernel
theorem dX8_round_117 : decode cX8_round 117 = .ok (.iadd, 1) := by decide +kernel
theorem dX8_round_118 : decode cX8_round 118 = .ok (.goto 5, 3) := by decide +kernel
theorem dX8_round_121 : decode cX8_round 121 = .ok (.iload 5, 2) := by decide +kernel
theorem dX8_round_123 : decode cX8_round 123 = .ok (.istore 5, 2) := by decide +kernel
theorem dX8_round_125 : decode cX8_round 125 = .ok (.aload_n 0, 1) := by decide +kernel
theorem dX8_round_126 : decode cX8_round 126 = .ok (.getfield 134, 3) := by decide +kernel
theorem dX8_round_129 : decode cX8_round 129 = .ok (.iload 4, 2) := by decide +kernel
theorem dX8_round_131 : decode cX8_round 131 = .ok (.if_icmp .le 10, 3) := by decide +kernel
theorem dX8_round_134 : decode cX8_round 134 = .ok (.aload_n 0, 1) := by decide +kernel
theorem dX8_round_135 : decode cX8_round 135 = .ok (.getfield 134, 3) := by decide +kernel
theorem dX8_round_138 : decode cX8_round 138 = .ok (.goto 5, 3) := by decide +kernel
theorem dX8_round_141 : decode cX8_round 141 = .ok (.iload 4, 2) := by decide +kernel
theorem dX8_round_143 : decode cX8_round 143 = .ok (.istore 4, 2) := by decide +kernel
theorem dX8_round_145 : decode cX8_round 145 = .ok (.iinc 6 1, 3) := by decide +kernel
theorem dX8_round_148 : decode cX8_round 148 = .ok (.goto (-107), 3) := by decide +kernel
theorem dX8_round_151 : decode cX8_round 151 = .ok (.iload_n 3, 1) := by decide +kernel
theorem dX8_round_152 : decode cX8_round 152 = .ok (.ifCond .ne 8, 3) := by decide +kernel
theorem dX8_round_155 : decode cX8_round 155 = .ok (.iload 5, 2) := by decide +kernel
theorem dX8_round_157 : decode cX8_round 157 = .ok (.goto 5, 3) := by decide +kernel
theorem dX8_round_160 : decode cX8_round 160 = .ok (.iload 4, 2) := by decide +kernel
theorem dX8_round_162 : decode cX8_round 162 = .ok (.ireturn, 1) := by decide +kernel
theorem dX8_post_0 : decode cX8_post 0 = .ok (.iload_n 1, 1) := by decide +kernel
theorem dX8_post_1 : decode cX8_post 1 = .ok (.i2l, 1) := by decide +kernel
theorem dX8_post_2 : decode cX8_post 2 = .ok (.lconst 1, 1) := by decide +kernel
theorem dX8_post_3 : decode cX8_post 3 = .ok (.ldc2_w 173, 3) := by decide +kernel
theorem dX8_post_6 : decode cX8_post 6 = .ok (.invokestatic 46, 3) := by decide +kernel
theorem dX8_post_9 : decode cX8_post 9 = .ok (.ifCond .eq 25, 3) := by decide +kernel
theorem dX8_post_12 : decode cX8_post 12 = .ok (.iload_n 2, 1) := by decide +kernel
theorem dX8_post_13 : decode cX8_post 13 = .ok (.i2l, 1) := by decide +kernel
theorem dX8_post_14 : decode cX8_post 14 = .ok (.lconst 0, 1) := by decide +kernel
theorem dX8_post_15 : decode cX8_post 15 = .ok (.ldc2_w 175, 3) := by decide +kernel
theorem dX8_post_18 : decode cX8_post 18 = .ok (.invokestatic 46, 3) := by decide +kernel
theorem dX8_post_21 : decode cX8_post 21 = .ok (.ifCond .eq 13, 3) := by decide +kernel
theorem dX8_post_24 : decode cX8_post 24 = .ok (.iload_n 3, 1) := by decide +kernel
theorem dX8_post_25 : decode cX8_post 25 = .ok (.i2l, 1) := by decide +kernel
theorem dX8_post_26 : decode cX8_post 26 = .ok (.lconst 0, 1) := by decide +kernel
theorem dX8_post_27 : decode cX8_post 27 = .ok (.lconst 1, 1) := by decide +kernel
theorem dX8_post_28 : decode cX8_post 28 = .ok (.invokestatic 46, 3) := by decide +kernel
theorem dX8_post_31 : decode cX8_post 31 = .ok (.ifCond .ne 5, 3) := by decide +kernel
theorem dX8_post_34 : decode cX8_post 34 = .ok (.iconst (-1), 1) := by decide +kernel
theorem dX8_post_35 : decode cX8_post 35 = .ok (.ireturn, 1) := by decide +kernel
theorem dX8_post_36 : decode cX8_post 36 = .ok (.aload_n 0, 1) := by decide +kernel
theorem dX8_post_37 : decode cX8_post 37 = .ok (.getfield 7, 3) := by decide +kernel
theorem dX8_post_40 : decode cX8_post 40 = .ok (.bipush 41, 2) := by decide +kernel
theorem dX8_post_42 : decode cX8_post 42 = .ok (.iaload, 1) := by decide +kernel
theorem dX8_post_43 : decode cX8_post 43 = .ok (.iconst 3, 1) := by decide +kernel
theorem dX8_post_44 : decode cX8_post 44 = .ok (.if_icmp .ne 6, 3) := by decide +kernel
theorem dX8_post_47 : decode cX8_post 47 = .ok (.bipush (-3), 2) := by decide +kernel
theorem dX8_post_49 : decode cX8_post 49 = .ok (.ireturn, 1) := by decide +kernel
theorem dX8_post_50 : decode cX8_post 50 = .ok (.ldc 202, 2) := by decide +kernel
theorem dX8_post_52 : decode cX8_post 52 = .ok (.istore 4, 2) := by decide +kernel
theorem dX8_post_54 : decode cX8_post 54 = .ok (.iconst 0, 1) := by decide +kernel
theorem dX8_post_55 : decode cX8_post 55 = .ok (.istore 5, 2) := by decide +kernel
theorem dX8_post_57 : decode cX8_post 57 = .ok (.iconst 0, 1) := by decide +kernel
theorem dX8_post_58 : decode cX8_post 58 = .ok (.istore 6, 2) := by decide +kernel
theorem dX8_post_60 : decode cX8_post 60 = .ok (.iload 6, 2) := by decide +kernel
theorem dX8_post_62 : decode cX8_post 62 = .ok (.bipush 6, 2) := by decide +kernel
theorem dX8_post_64 : decode cX8_post 64 = .ok (.if_icmp .ge 70, 3) := by decide +kernel
theorem dX8_post_67 : decode cX8_post 67 = .ok (.aload_n 0, 1) := by decide +kernel
theorem dX8_post_68 : decode cX8_post 68 = .ok (.iconst 0, 1) := by decide +kernel
theorem dX8_post_69 : decode cX8_post 69 = .ok (.sipush 220, 3) := by decide +kernel
theorem dX8_post_72 : decode cX8_post 72 = .ok (.invokevirtual 190, 3) := by decide +kernel
theorem dX8_post_75 : decode cX8_post 75 = .ok (.aload_n 0, 1) := by decide +kernel
theorem dX8_post_76 : decode cX8_post 76 = .ok (.sipush 220, 3) := by decide +kernel
theorem dX8_post_79 : decode cX8_post 79 = .ok (.iload 6, 2) := by decide +kernel
theorem dX8_post_81 : decode cX8_post 81 = .ok (.iconst 0, 1) := by decide +kernel
theorem dX8_post_82 : decode cX8_post 82 = .ok (.iload_n 1, 1) := by decide +kernel
theorem dX8_post_83 : decode cX8_post 83 = .ok (.invokevirtual 177, 3) := by decide +kernel
theorem dX8_post_86 : decode cX8_post 86 = .ok (.aload_n 0, 1) := by decide +kernel
theorem dX8_post_87 : decode cX8_post 87 = .ok (.sipush 220, 3) := by decide +kernel
theorem dX8_post_90 : decode cX8_post 90 = .ok (.iload_n 2, 1) := by decide +kernel
theorem dX8_post_91 : decode cX8_post 91 = .ok (.invokevirtual 199, 3) := by decide +kernel
theorem dX8_post_94 : decode cX8_post 94 = .ok (.istore 7, 2) := by decide +kernel
theorem dX8_post_96 : decode cX8_post 96 = .ok (.iload 7, 2) := by decide +kernel
theorem dX8_post_98 : decode cX8_post 98 = .ok (.iload 4, 2) := by decide +kernel
theorem dX8_post_100 : decode cX8_post 100 = .ok (.if_icmp .ge 8, 3) := by decide +kernel
theorem dX8_post_103 : decode cX8_post 103 = .ok (.iload 6, 2) := by decide +kernel
theorem dX8_post_105 : decode cX8_post 105 = .ok (.goto 5, 3) := by decide +kernel
theorem dX8_post_108 : decode cX8_post 108 = .ok (.iload 5, 2) := by decide +kernel
theorem dX8_post_110 : decode cX8_post 110 = .ok (.istore 5, 2) := by decide +kernel
theorem dX8_post_112 : decode cX8_post 112 = .ok (.iload 7, 2) := by decide +kernel
theorem dX8_post_114 : decode cX8_post 114 = .ok (.iload 4, 2) := by decide +kernel
theorem dX8_post_116 : decode cX8_post 116 = .ok (.if_icmp .ge 8, 3) := by decide +kernel
theorem dX8_post_119 : decode cX8_post 119 = .ok (.iload 7, 2) := by decide +kernel
theorem dX8_post_121 : decode cX8_post 121 = .ok (.goto 5, 3) := by decide +kernel
theorem dX8_post_124 : decode cX8_post 124 = .ok (.iload 4, 2) := by decide +kernel
theorem dX8_post_126 : decode cX8_post 126 = .ok (.istore 4, 2) := by decide +kernel
theorem dX8_post_128 : decode cX8_post 128 = .ok (.iinc 6 1, 3) := by decide +kernel
theorem dX8_post_131 : decode cX8_post 131 = .ok (.goto (-71), 3) := by decide +kernel
theorem dX8_post_134 : decode cX8_post 134 = .ok (.iload_n 3, 1) := by decide +kernel
theorem dX8_post_135 : decode cX8_post 135 = .ok (.ifCond .ne 8, 3) := by decide +kernel
theorem dX8_post_138 : decode cX8_post 138 = .ok (.iload 5, 2) := by decide +kernel
theorem dX8_post_140 : decode cX8_post 140 = .ok (.goto 5, 3) := by decide +kernel
theorem dX8_post_143 : decode cX8_post 143 = .ok (.iload 4, 2) := by decide +kernel
theorem dX8_post_145 : decode cX8_post 145 = .ok (.ireturn, 1) := by decide +kernel
theorem dX8_kind_0 : decode cX8_kind 0 = .ok (.aload_n 0, 1) := by decide +kernel
theorem dX8_kind_1 : decode cX8_kind 1 = .ok (.iload_n 1, 1) := by decide +kernel
theorem dX8_kind_2 : decode cX8_kind 2 = .ok (.invokevirtual 157, 3) := by decide +kernel
theorem dX8_kind_5 : decode cX8_kind 5 = .ok (.ifCond .eq 25, 3) := by decide +kernel
theorem dX8_kind_8 : decode cX8_kind 8 = .ok (.iload_n 2, 1) := by decide +kernel
theorem dX8_kind_9 : decode cX8_kind 9 = .ok (.i2l, 1) := by decide +kernel
theorem dX8_kind_10 : decode cX8_kind 10 = .ok (.lconst 0, 1) := by decide +kernel
theorem dX8_kind_11 : decode cX8_kind 11 = .ok (.ldc2_w 175, 3) := by decide +kernel
theorem dX8_kind_14 : decode cX8_kind 14 = .ok (.invokestatic 46, 3) := by decide +kernel
theorem dX8_kind_17 : decode cX8_kind 17 = .ok (.ifCond .eq 13, 3) := by decide +kernel
theorem dX8_kind_20 : decode cX8_kind 20 = .ok (.iload_n 3, 1) := by decide +kernel
theorem dX8_kind_21 : decode cX8_kind 21 = .ok (.i2l, 1) := by decide +kernel
theorem dX8_kind_22 : decode cX8_kind 22 = .ok (.lconst 0, 1) := by decide +kernel
theorem dX8_kind_23 : decode cX8_kind 23 = .ok (.lconst 1, 1) := by decide +kernel
theorem dX8_kind_24 : decode cX8_kind 24 = .ok (.invokestatic 46, 3) := by decide +kernel
theorem dX8_kind_27 : decode cX8_kind 27 = .ok (.ifCond .ne 5, 3) := by decide +kernel
theorem dX8_kind_30 : decode cX8_kind 30 = .ok (.iconst (-1), 1) := by decide +kernel
theorem dX8_kind_31 : decode cX8_kind 31 = .ok (.ireturn, 1) := by decide +kernel
theorem dX8_kind_32 : decode cX8_kind 32 = .ok (.iconst (-1), 1) := by decide +kernel
theorem dX8_kind_33 : decode cX8_kind 33 = .ok (.istore 4, 2) := by decide +kernel
theorem dX8_kind_35 : decode cX8_kind 35 = .ok (.iconst 0, 1) := by decide +kernel
theorem dX8_kind_36 : decode cX8_kind 36 = .ok (.istore 5, 2) := by decide +kernel
theorem dX8_kind_38 : decode cX8_kind 38 = .ok (.iconst 0, 1) := by decide +kernel
theorem dX8_kind_39 : decode cX8_kind 39 = .ok (.istore 6, 2) := by decide +kernel
theorem dX8_kind_41 : decode cX8_kind 41 = .ok (.iload 6, 2) := by decide +kernel
theorem dX8_kind_43 : decode cX8_kind 43 = .ok (.iconst 4, 1) := by decide +kernel
theorem dX8_kind_44 : decode cX8_kind 44 = .ok (.if_icmp .ge 82, 3) := by decide +kernel
theorem dX8_kind_47 : decode cX8_kind 47 = .ok (.aload_n 0, 1) := by decide +kernel
theorem dX8_kind_48 : decode cX8_kind 48 = .ok (.iconst 0, 1) := by decide +kernel
theorem dX8_kind_49 : decode cX8_kind 49 = .ok (.sipush 220, 3) := by decide +kernel
theorem dX8_kind_52 : decode cX8_kind 52 = .ok (.invokevirtual 190, 3) := by decide +kernel
theorem dX8_kind_55 : decode cX8_kind 55 = .ok (.aload_n 0, 1) := by decide +kernel
theorem dX8_kind_56 : decode cX8_kind 56 = .ok (.getfield 7, 3) := by decide +kernel
theorem dX8_kind_59 : decode cX8_kind 59 = .ok (.sipush 232, 3) := by decide +kernel
theorem dX8_kind_62 : decode cX8_kind 62 = .ok (.iload_n 1, 1) := by decide +kernel
theorem dX8_kind_63 : decode cX8_kind 63 = .ok (.iadd, 1) := by decide +kernel
theorem dX8_kind_64 : decode cX8_kind 64 = .ok (.iload 6, 2) := by decide +kernel
theorem dX8_kind_66 : decode cX8_kind 66 = .ok (.iastore, 1) := by decide +kernel
theorem dX8_kind_67 : decode cX8_kind 67 = .ok (.aload_n 0, 1) := by decide +kernel
theorem dX8_kind_68 : decode cX8_kind 68 = .ok (.sipush 220, 3) := by decide +kernel
theorem dX8_kind_71 : decode cX8_kind 71 = .ok (.iload_n 2, 1) := by decide +kernel
theorem dX8_kind_72 : decode cX8_kind 72 = .ok (.invokevirtual 199, 3) := by decide +kernel
theorem dX8_kind_75 : decode cX8_kind 75 = .ok (.pop, 1) := by decide +kernel
theorem dX8_kind_76 : decode cX8_kind 76 = .ok (.aload_n 0, 1) := by decide +kernel
theorem dX8_kind_77 : decode cX8_kind 77 = .ok (.getfield 7, 3) := by decide +kernel
theorem dX8_kind_80 : decode cX8_kind 80 = .ok (.sipush 198, 3) := by decide +kernel
theorem dX8_kind_83 : decode cX8_kind 83 = .ok (.iload_n 1, 1) := by decide +kernel
theorem dX8_kind_84 : decode cX8_kind 84 = .ok (.iadd, 1) := by decide +kernel
theorem dX8_kind_85 : decode cX8_kind 85 = .ok (.iaload, 1) := by decide +kernel
theorem dX8_kind_86 : decode cX8_kind 86 = .ok (.istore 7, 2) := by decide +kernel
theorem dX8_kind_88 : decode cX8_kind 88 = .ok (.iload 7, 2) := by decide +kernel
theorem dX8_kind_90 : decode cX8_kind 90 = .ok (.iload 4, 2) := by decide +kernel
theorem dX8_kind_92 : decode cX8_kind 92 = .ok (.if_icmp .le 8, 3) := by decide +kernel
theorem dX8_kind_95 : decode cX8_kind 95 = .ok (.iload 6, 2) := by decide +kernel
theorem dX8_kind_97 : decode cX8_kind 97 = .ok (.goto 5, 3) := by decide +kernel
theorem dX8_kind_100 : decode cX8_kind 100 = .ok (.iload 5, 2) := by decide +kernel
theorem dX8_kind_102 : decode cX8_kind 102 = .ok (.istore 5, 2) := by decide +kernel
theorem dX8_kind_104 : decode cX8_kind 104 = .ok (.iload 7, 2) := by decide +kernel
theorem dX8_kind_106 : decode cX8_kind 106 = .ok (.iload 4, 2) := by decide +kernel
theorem dX8_kind_108 : decode cX8_kind 108 = .ok (.if_icmp .le 8, 3) := by decide +kernel
theorem dX8_kind_111 : decode cX8_kind 111 = .ok (.iload 7, 2) := by decide +kernel
theorem dX8_kind_113 : decode cX8_kind 113 = .ok (.goto 5, 3) := by decide +kernel
theorem dX8_kind_116 : decode cX8_kind 116 = .ok (.iload 4, 2) := by decide +kernel
theorem dX8_kind_118 : decode cX8_kind 118 = .ok (.istore 4, 2) := by decide +kernel
theorem dX8_kind_120 : decode cX8_kind 120 = .ok (.iinc 6 1, 3) := by decide +kernel
theorem dX8_kind_123 : decode cX8_kind 123 = .ok (.goto (-82), 3) := by decide +kernel
theorem dX8_kind_126 : decode cX8_kind 126 = .ok (.iload_n 3, 1) := by decide +kernel
theorem dX8_kind_127 : decode cX8_kind 127 = .ok (.ifCond .ne 8, 3) := by decide +kernel
theorem dX8_kind_130 : decode cX8_kind 130 = .ok (.iload 5, 2) := by decide +kernel
theorem dX8_kind_132 : decode cX8_kind 132 = .ok (.goto 5, 3) := by decide +kernel
theorem dX8_kind_135 : decode cX8_kind 135 = .ok (.iload 4, 2) := by decide +kernel
theorem dX8_kind_137 : decode cX8_kind 137 = .ok (.ireturn, 1) := by decide +kernel
theorem dX8_sharp_0 : decode cX8_sharp 0 = .ok (.aload_n 0, 1) := by decide +kernel
theorem dX8_sharp_1 : decode cX8_sharp 1 = .ok (.iload_n 1, 1) := by decide +kernel
theorem dX8_sharp_2 : decode cX8_sharp 2 = .ok (.invokevirtual 160, 3) := by decide +kernel
theorem dX8_sharp_5 : decode cX8_sharp 5 = .ok (.ifCond .eq 23, 3) := by decide +kernel
theorem dX8_sharp_8 : decode cX8_sharp 8 = .ok (.aload_n 0, 1) := by decide +kernel
theorem dX8_sharp_9 : decode cX8_sharp 9 = .ok (.iload_n 2, 1) := by decide +kernel
theorem dX8_sharp_10 : decode cX8_sharp 10 = .ok (.invokevirtual 157, 3) := by decide +kernel
theorem dX8_sharp_13 : decode cX8_sharp 13 = .ok (.ifCond .eq 15, 3) := by decide +kernel
theorem dX8_sharp_16 : decode cX8_sharp 16 = .ok (.iload_n 3, 1) := by decide +kernel
theorem dX8_sharp_17 : decode cX8_sharp 17 = .ok (.i2l, 1) := by decide +kernel
theorem dX8_sharp_18 : decode cX8_sharp 18 = .ok (.lconst 0, 1) := by decide +kernel
theorem dX8_sharp_19 : decode cX8_sharp 19 = .ok (.ldc2_w 175, 3) := by decide +kernel
theorem dX8_sharp_22 : decode cX8_sharp 22 = .ok (.invokestatic 46, 3) := by decide +kernel
theorem dX8_sharp_25 : decode cX8_sharp 25 = .ok (.ifCond .ne 5, 3) := by decide +kernel
theorem dX8_sharp_28 : decode cX8_sharp 28 = .ok (.iconst (-1), 1) := by decide +kernel
theorem dX8_sharp_29 : decode cX8_sharp 29 = .ok (.ireturn, 1) := by decide +kernel
theorem dX8_sharp_30 : decode cX8_sharp 30 = .ok (.bipush 9, 2) := by decide +kernel
theorem dX8_sharp_32 : decode cX8_sharp 32 = .ok (.istore 4, 2) := by decide +kernel
theorem dX8_sharp_34 : decode cX8_sharp 34 = .ok (.iload 4, 2) := by decide +kernel
theorem dX8_sharp_36 : decode cX8_sharp 36 = .ok (.iconst 1, 1) := by decide +kernel
theorem dX8_sharp_37 : decode cX8_sharp 37 = .ok (.if_icmp .lt 53, 3) := by decide +kernel
theorem dX8_sharp_40 : decode cX8_sharp 40 = .ok (.aload_n 0, 1) := by decide +kernel
theorem dX8_sharp_41 : decode cX8_sharp 41 = .ok (.iconst 0, 1) := by decide +kernel
theorem dX8_sharp_42 : decode cX8_sharp 42 = .ok (.sipush 220, 3) := by decide +kernel
theorem dX8_sharp_45 : decode cX8_sharp 45 = .ok (.invokevirtual 190, 3) := by decide +kernel
theorem dX8_sharp_48 : decode cX8_sharp 48 = .ok (.aload_n 0, 1) := by decide +kernel
theorem dX8_sharp_49 : decode cX8_sharp 49 = .ok (.getfield 7, 3) := by decide +kernel
theorem dX8_sharp_52 : decode cX8_sharp 52 = .ok (.sipush 258, 3) := by decide +kernel
theorem dX8_sharp_55 : decode cX8_sharp 55 = .ok (.iload_n 1, 1) := by decide +kernel
theorem dX8_sharp_56 : decode cX8_sharp 56 = .ok (.iadd, 1) := by decide +kernel
theorem dX8_sharp_57 : decode cX8_sharp 57 = .ok (.iload 4, 2) := by decide +kernel
theorem dX8_sharp_59 : decode cX8_sharp 59 = .ok (.iastore, 1) := by decide +kernel
theorem dX8_sharp_60 : decode cX8_sharp 60 = .ok (.aload_n 0, 1) := by decide +kernel
theorem dX8_sharp_61 : decode cX8_sharp 61 = .ok (.sipush 220, 3) := by decide +kernel
theorem dX8_sharp_64 : decode cX8_sharp 64 = .ok (.iload_n 3, 1) := by decide +kernel
theorem dX8_sharp_65 : decode cX8_sharp 65 = .ok (.invokevirtual 199, 3) := by decide +kernel
theorem dX8_sharp_68 : decode cX8_sharp 68 = .ok (.pop, 1) := by decide +kernel
theorem dX8_sharp_69 : decode cX8_sharp 69 = .ok (.aload_n 0, 1) := by decide +kernel
theorem dX8_sharp_70 : decode cX8_sharp 70 = .ok (.getfield 131, 3) := by decide +kernel
theorem dX8_sharp_73 : decode cX8_sharp 73 = .ok (.iload_n 2, 1) := by decide +kernel
theorem dX8_sharp_74 : decode cX8_sharp 74 = .ok (.ishr, 1) := by decide +kernel
theorem dX8_sharp_75 : decode cX8_sharp 75 = .ok (.iconst 1, 1) := by decide +kernel
theorem dX8_sharp_76 : decode cX8_sharp 76 = .ok (.iand, 1) := by decide +kernel
theorem dX8_sharp_77 : decode cX8_sharp 77 = .ok (.iconst 1, 1) := by decide +kernel
theorem dX8_sharp_78 : decode cX8_sharp 78 = .ok (.if_icmp .ne 6, 3) := by decide +kernel
theorem dX8_sharp_81 : decode cX8_sharp 81 = .ok (.iload 4, 2) := by decide +kernel
theorem dX8_sharp_83 : decode cX8_sharp 83 = .ok (.ireturn, 1) := by decide +kernel
theorem dX8_sharp_84 : decode cX8_sharp 84 = .ok (.iinc 4 (-1), 3) := by decide +kernel
theorem dX8_sharp_87 : decode cX8_sharp 87 = .ok (.goto (-53), 3) := by decide +kernel
theorem dX8_sharp_90 : decode cX8_sharp 90 = .ok (.bipush (-4), 2) := by decide +kernel
theorem dX8_sharp_92 : decode cX8_sharp 92 = .ok (.ireturn, 1) := by decide +kernel
theorem dX8_lowest_0 : decode cX8_lowest 0 = .ok (.lload_n 0, 1) := by decide +kernel
theorem dX8_lowest_1 : decode cX8_lowest 1 = .ok (.lstore 5, 2) := by decide +kernel
theorem dX8_lowest_3 : decode cX8_lowest 3 = .ok (.lload_n 2, 1) := by decide +kernel
theorem dX8_lowest_4 : decode cX8_lowest 4 = .ok (.lstore 7, 2) := by decide +kernel
theorem dX8_lowest_6 : decode cX8_lowest 6 = .ok (.lload 7, 2) := by decide +kernel
theorem dX8_lowest_8 : decode cX8_lowest 8 = .ok (.lconst 0, 1) := by decide +kernel
theorem dX8_lowest_9 : decode cX8_lowest 9 = .ok (.lcmp, 1) := by decide +kernel
theorem dX8_lowest_10 : decode cX8_lowest 10 = .ok (.ifCond .eq 21, 3) := by decide +kernel
theorem dX8_lowest_13 : decode cX8_lowest 13 = .ok (.lload 5, 2) := by decide +kernel
theorem dX8_lowest_15 : decode cX8_lowest 15 = .ok (.lload 7, 2) := by decide +kernel
theorem dX8_lowest_17 : decode cX8_lowest 17 = .ok (.lrem, 1) := by decide +kernel
theorem dX8_lowest_18 : decode cX8_lowest 18 = .ok (.lstore 9, 2) := by decide +kernel
theorem dX8_lowest_20 : decode cX8_lowest 20 = .ok (.lload 7, 2) := by decide +kernel
theorem dX8_lowest_22 : decode cX8_lowest 22 = .ok (.lstore 5, 2) := by decide +kernel
theorem dX8_lowest_24 : decode cX8_lowest 24 = .ok (.lload 9, 2) := by decide +kernel
theorem dX8_lowest_26 : decode cX8_lowest 26 = .ok (.lstore 7, 2) := by decide +kernel
theorem dX8_lowest_28 : decode cX8_lowest 28 = .ok (.goto (-22), 3) := by decide +kernel
theorem dX8_lowest_31 : decode cX8_lowest 31 = .ok (.iload 4, 2) := by decide +kernel
theorem dX8_lowest_33 : decode cX8_lowest 33 = .ok (.ifCond .ne 7, 3) := by decide +kernel
theorem dX8_lowest_36 : decode cX8_lowest 36 = .ok (.lload_n 0, 1) := by decide +kernel
theorem dX8_lowest_37 : decode cX8_lowest 37 = .ok (.goto 4, 3) := by decide +kernel
theorem dX8_lowest_40 : decode cX8_lowest 40 = .ok (.lload_n 2, 1) := by decide +kernel
theorem dX8_lowest_41 : decode cX8_lowest 41 = .ok (.lload 5, 2) := by decide +kernel
theorem dX8_lowest_43 : decode cX8_lowest 43 = .ok (.ldiv, 1) := by decide +kernel
theorem dX8_lowest_44 : decode cX8_lowest 44 = .ok (.lreturn, 1) := by decide +kernel
theorem dX8_byHaze_0 : decode cX8_byHaze 0 = .ok (.lconst 0, 1) := by decide +kernel
theorem dX8_byHaze_1 : decode cX8_byHaze 1 = .ok (.lstore 5, 2) := by decide +kernel
theorem dX8_byHaze_3 : decode cX8_byHaze 3 = .ok (.lconst 1, 1) := by decide +kernel
theorem dX8_byHaze_4 : decode cX8_byHaze 4 = .ok (.lstore 7, 2) := by decide +kernel
theorem dX8_byHaze_6 : decode cX8_byHaze 6 = .ok (.iconst 0, 1) := by decide +kernel
theorem dX8_byHaze_7 : decode cX8_byHaze 7 = .ok (.istore 9, 2) := by decide +kernel
theorem dX8_byHaze_9 : decode cX8_byHaze 9 = .ok (.iload 9, 2) := by decide +kernel
theorem dX8_byHaze_11 : decode cX8_byHaze 11 = .ok (.iload_n 3, 1) := by decide +kernel
theorem dX8_byHaze_12 : decode cX8_byHaze 12 = .ok (.if_icmp .ge 17, 3) := by decide +kernel
theorem dX8_byHaze_15 : decode cX8_byHaze 15 = .ok (.lload 7, 2) := by decide +kernel
theorem dX8_byHaze_17 : decode cX8_byHaze 17 = .ok (.ldc2_w 203, 3) := by decide +kernel
theorem dX8_byHaze_20 : decode cX8_byHaze 20 = .ok (.lmul, 1) := by decide +kernel
theorem dX8_byHaze_21 : decode cX8_byHaze 21 = .ok (.lstore 7, 2) := by decide +kernel
theorem dX8_byHaze_23 : decode cX8_byHaze 23 = .ok (.iinc 9 1, 3) := by decide +kernel
theorem dX8_byHaze_26 : decode cX8_byHaze 26 = .ok (.goto (-17), 3) := by decide +kernel
theorem dX8_byHaze_29 : decode cX8_byHaze 29 = .ok (.iconst 0, 1) := by decide +kernel
theorem dX8_byHaze_30 : decode cX8_byHaze 30 = .ok (.istore 9, 2) := by decide +kernel
theorem dX8_byHaze_32 : decode cX8_byHaze 32 = .ok (.iload 9, 2) := by decide +kernel
theorem dX8_byHaze_34 : decode cX8_byHaze 34 = .ok (.iconst 1, 1) := by decide +kernel
theorem dX8_byHaze_35 : decode cX8_byHaze 35 = .ok (.iload_n 3, 1) := by decide +kernel
theorem dX8_byHaze_36 : decode cX8_byHaze 36 = .ok (.ishl, 1) := by decide +kernel
theorem dX8_byHaze_37 : decode cX8_byHaze 37 = .ok (.if_icmp .ge 118, 3) := by decide +kernel
theorem dX8_byHaze_40 : decode cX8_byHaze 40 = .ok (.lconst 1, 1) := by decide +kernel
theorem dX8_byHaze_41 : decode cX8_byHaze 41 = .ok (.lstore 10, 2) := by decide +kernel
theorem dX8_byHaze_43 : decode cX8_byHaze 43 = .ok (.aload_n 0, 1) := by decide +kernel
theorem dX8_byHaze_44 : decode cX8_byHaze 44 = .ok (.iconst 0, 1) := by decide +kernel
theorem dX8_byHaze_45 : decode cX8_byHaze 45 = .ok (.sipush 176, 3) := by decide +kernel
theorem dX8_byHaze_48 : decode cX8_byHaze 48 = .ok (.invokevirtual 190, 3) := by decide +kernel
theorem dX8_byHaze_51 : decode cX8_byHaze 51 = .ok (.aload_n 0, 1) := by decide +kernel
theorem dX8_byHaze_52 : decode cX8_byHaze 52 = .ok (.invokevirtual 183, 3) := by decide +kernel
theorem dX8_byHaze_55 : decode cX8_byHaze 55 = .ok (.iconst 0, 1) := by decide +kernel
theorem dX8_byHaze_56 : decode cX8_byHaze 56 = .ok (.istore 12, 2) := by decide +kernel
theorem dX8_byHaze_58 : decode cX8_byHaze 58 = .ok (.iload 12, 2) := by decide +kernel
theorem dX8_byHaze_60 : decode cX8_byHaze 60 = .ok (.iload_n 3, 1) := by decide +kernel
theorem dX8_byHaze_61 : decode cX8_byHaze 61 = .ok (.if_icmp .ge 56, 3) := by decide +kernel
theorem dX8_byHaze_64 : decode cX8_byHaze 64 = .ok (.iload 9, 2) := by decide +kernel
theorem dX8_byHaze_66 : decode cX8_byHaze 66 = .ok (.iload 12, 2) := by decide +kernel
theorem dX8_byHaze_68 : decode cX8_byHaze 68 = .ok (.ishr, 1) := by decide +kernel
theorem dX8_byHaze_69 : decode cX8_byHaze 69 = .ok (.iconst 1, 1) := by decide +kernel
theorem dX8_byHaze_70 : decode cX8_byHaze 70 = .ok (.iand, 1) := by decide +kernel
theorem dX8_byHaze_71 : decode cX8_byHaze 71 = .ok (.iconst 1, 1) := by decide +kernel
theorem dX8_byHaze_72 : decode cX8_byHaze 72 = .ok (.if_icmp .ne 7, 3) := by decide +kernel
theorem dX8_byHaze_75 : decode cX8_byHaze 75 = .ok (.iconst 1, 1) := by decide +kernel
theorem dX8_byHaze_76 : decode cX8_byHaze 76 = .ok (.goto 4, 3) := by decide +kernel
theorem dX8_byHaze_79 : decode cX8_byHaze 79 = .ok (.iconst 0, 1) := by decide +kernel
theorem dX8_byHaze_80 : decode cX8_byHaze 80 = .ok (.istore 13, 2) := by decide +kernel
theorem dX8_byHaze_82 : decode cX8_byHaze 82 = .ok (.lload 10, 2) := by decide +kernel
theorem dX8_byHaze_84 : decode cX8_byHaze 84 = .ok (.iload 13, 2) := by decide +kernel
theorem dX8_byHaze_86 : decode cX8_byHaze 86 = .ok (.ifCond .eq 8, 3) := by decide +kernel
theorem dX8_byHaze_89 : decode cX8_byHaze 89 = .ok (.iload_n 1, 1) := by decide +kernel
theorem dX8_byHaze_90 : decode cX8_byHaze 90 = .ok (.i2l, 1) := by decide +kernel
theorem dX8_byHaze_91 : decode cX8_byHaze 91 = .ok (.goto 8, 3) := by decide +kernel
theorem dX8_byHaze_94 : decode cX8_byHaze 94 = .ok (.bipush 10, 2) := by decide +kernel
theorem dX8_byHaze_96 : decode cX8_byHaze 96 = .ok (.iload_n 1, 1) := by decide +kernel
theorem dX8_byHaze_97 : decode cX8_byHaze 97 = .ok (.isub, 1) := by decide +kernel
theorem dX8_byHaze_98 : decode cX8_byHaze 98 = .ok (.i2l, 1) := by decide +kernel
theorem dX8_byHaze_99 : decode cX8_byHaze 99 = .ok (.lmul, 1) := by decide +kernel
theorem dX8_byHaze_100 : decode cX8_byHaze 100 = .ok (.lstore 10, 2) := by decide +kernel
theorem dX8_byHaze_102 : decode cX8_byHaze 102 = .ok (.aload_n 0, 1) := by decide +kernel
theorem dX8_byHaze_103 : decode cX8_byHaze 103 = .ok (.sipush 176, 3) := by decide +kernel
theorem dX8_byHaze_106 : decode cX8_byHaze 106 = .ok (.iload 13, 2) := by decide +kernel
theorem dX8_byHaze_108 : decode cX8_byHaze 108 = .ok (.invokevirtual 186, 3) := by decide +kernel
theorem dX8_byHaze_111 : decode cX8_byHaze 111 = .ok (.iinc 12 1, 3) := by decide +kernel
theorem dX8_byHaze_114 : decode cX8_byHaze 114 = .ok (.goto (-56), 3) := by decide +kernel
theorem dX8_byHaze_117 : decode cX8_byHaze 117 = .ok (.lload 5, 2) := by decide +kernel
theorem dX8_byHaze_119 : decode cX8_byHaze 119 = .ok (.lload 10, 2) := by decide +kernel
theorem dX8_byHaze_121 : decode cX8_byHaze 121 = .ok (.iload_n 2, 1) := by decide +kernel
theorem dX8_byHaze_122 : decode cX8_byHaze 122 = .ok (.bipush (-4), 2) := by decide +kernel
theorem dX8_byHaze_124 : decode cX8_byHaze 124 = .ok (.if_icmp .ne 10, 3) := by decide +kernel
theorem dX8_byHaze_127 : decode cX8_byHaze 127 = .ok (.aload_n 0, 1) := by decide +kernel
theorem dX8_byHaze_128 : decode cX8_byHaze 128 = .ok (.getfield 128, 3) := by decide +kernel
theorem dX8_byHaze_131 : decode cX8_byHaze 131 = .ok (.goto 13, 3) := by decide +kernel
theorem dX8_byHaze_134 : decode cX8_byHaze 134 = .ok (.iconst 1, 1) := by decide +kernel
theorem dX8_byHaze_135 : decode cX8_byHaze 135 = .ok (.aload_n 0, 1) := by decide +kernel
theorem dX8_byHaze_136 : decode cX8_byHaze 136 = .ok (.getfield 131, 3) := by decide +kernel
theorem dX8_byHaze_139 : decode cX8_byHaze 139 = .ok (.iload_n 2, 1) := by decide +kernel
theorem dX8_byHaze_140 : decode cX8_byHaze 140 = .ok (.ishr, 1) := by decide +kernel
theorem dX8_byHaze_141 : decode cX8_byHaze 141 = .ok (.iconst 1, 1) := by decide +kernel
theorem dX8_byHaze_142 : decode cX8_byHaze 142 = .ok (.iand, 1) := by decide +kernel
theorem dX8_byHaze_143 : decode cX8_byHaze 143 = .ok (.isub, 1) := by decide +kernel
theorem dX8_byHaze_144 : decode cX8_byHaze 144 = .ok (.i2l, 1) := by decide +kernel
theorem dX8_byHaze_145 : decode cX8_byHaze 145 = .ok (.lmul, 1) := by decide +kernel
theorem dX8_byHaze_146 : decode cX8_byHaze 146 = .ok (.ladd, 1) := by decide +kernel
theorem dX8_byHaze_147 : decode cX8_byHaze 147 = .ok (.lstore 5, 2) := by decide +kernel
theorem dX8_byHaze_149 : decode cX8_byHaze 149 = .ok (.iinc 9 1, 3) := by decide +kernel
theorem dX8_byHaze_152 : decode cX8_byHaze 152 = .ok (.goto (-120), 3) := by decide +kernel
theorem dX8_byHaze_155 : decode cX8_byHaze 155 = .ok (.lload 5, 2) := by decide +kernel
theorem dX8_byHaze_157 : decode cX8_byHaze 157 = .ok (.lload 7, 2) := by decide +kernel
theorem dX8_byHaze_159 : decode cX8_byHaze 159 = .ok (.iload 4, 2) := by decide +kernel
theorem dX8_byHaze_161 : decode cX8_byHaze 161 = .ok (.invokestatic 205, 3) := by decide +kernel
theorem dX8_byHaze_164 : decode cX8_byHaze 164 = .ok (.lreturn, 1) := by decide +kernel
theorem dX8_luck_0 : decode cX8_luck 0 = .ok (.iload_n 1, 1) := by decide +kernel
theorem dX8_luck_1 : decode cX8_luck 1 = .ok (.i2l, 1) := by decide +kernel
theorem dX8_luck_2 : decode cX8_luck 2 = .ok (.lconst 0, 1) := by decide +kernel
theorem dX8_luck_3 : decode cX8_luck 3 = .ok (.ldc2_w 203, 3) := by decide +kernel
theorem dX8_luck_6 : decode cX8_luck 6 = .ok (.invokestatic 46, 3) := by decide +kernel
theorem dX8_luck_9 : decode cX8_luck 9 = .ok (.ifCond .eq 46, 3) := by decide +kernel
theorem dX8_luck_12 : decode cX8_luck 12 = .ok (.aload_n 0, 1) := by decide +kernel
theorem dX8_luck_13 : decode cX8_luck 13 = .ok (.iload_n 2, 1) := by decide +kernel
theorem dX8_luck_14 : decode cX8_luck 14 = .ok (.invokevirtual 157, 3) := by decide +kernel
theorem dX8_luck_17 : decode cX8_luck 17 = .ok (.ifCond .eq 38, 3) := by decide +kernel
theorem dX8_luck_20 : decode cX8_luck 20 = .ok (.iload_n 3, 1) := by decide +kernel
theorem dX8_luck_21 : decode cX8_luck 21 = .ok (.i2l, 1) := by decide +kernel
theorem dX8_luck_22 : decode cX8_luck 22 = .ok (.lconst 0, 1) := by decide +kernel
theorem dX8_luck_23 : decode cX8_luck 23 = .ok (.ldc2_w 209, 3) := by decide +kernel
theorem dX8_luck_26 : decode cX8_luck 26 = .ok (.invokestatic 46, 3) := by decide +kernel
theorem dX8_luck_29 : decode cX8_luck 29 = .ok (.ifCond .eq 26, 3) := by decide +kernel
theorem dX8_luck_32 : decode cX8_luck 32 = .ok (.iload 4, 2) := by decide +kernel
theorem dX8_luck_34 : decode cX8_luck 34 = .ok (.i2l, 1) := by decide +kernel
theorem dX8_luck_35 : decode cX8_luck 35 = .ok (.lconst 0, 1) := by decide +kernel
theorem dX8_luck_36 : decode cX8_luck 36 = .ok (.lconst 1, 1) := by decide +kernel
theorem dX8_luck_37 : decode cX8_luck 37 = .ok (.invokestatic 46, 3) := by decide +kernel
theorem dX8_luck_40 : decode cX8_luck 40 = .ok (.ifCond .eq 15, 3) := by decide +kernel
theorem dX8_luck_43 : decode cX8_luck 43 = .ok (.aload_n 0, 1) := by decide +kernel
theorem dX8_luck_44 : decode cX8_luck 44 = .ok (.iload_n 1, 1) := by decide +kernel
theorem dX8_luck_45 : decode cX8_luck 45 = .ok (.iload_n 2, 1) := by decide +kernel
theorem dX8_luck_46 : decode cX8_luck 46 = .ok (.iload_n 3, 1) := by decide +kernel
theorem dX8_luck_47 : decode cX8_luck 47 = .ok (.iload 4, 2) := by decide +kernel
theorem dX8_luck_49 : decode cX8_luck 49 = .ok (.invokevirtual 211, 3) := by decide +kernel
theorem dX8_luck_52 : decode cX8_luck 52 = .ok (.goto 6, 3) := by decide +kernel
theorem dX8_luck_55 : decode cX8_luck 55 = .ok (.ldc2_w 215, 3) := by decide +kernel
theorem dX8_luck_58 : decode cX8_luck 58 = .ok (.lreturn, 1) := by decide +kernel
theorem dX8_mean_0 : decode cX8_mean 0 = .ok (.iload_n 1, 1) := by decide +kernel
theorem dX8_mean_1 : decode cX8_mean 1 = .ok (.i2l, 1) := by decide +kernel
theorem dX8_mean_2 : decode cX8_mean 2 = .ok (.lconst 0, 1) := by decide +kernel
theorem dX8_mean_3 : decode cX8_mean 3 = .ok (.ldc2_w 203, 3) := by decide +kernel
theorem dX8_mean_6 : decode cX8_mean 6 = .ok (.invokestatic 46, 3) := by decide +kernel
theorem dX8_mean_9 : decode cX8_mean 9 = .ok (.ifCond .eq 37, 3) := by decide +kernel
theorem dX8_mean_12 : decode cX8_mean 12 = .ok (.iload_n 2, 1) := by decide +kernel
theorem dX8_mean_13 : decode cX8_mean 13 = .ok (.i2l, 1) := by decide +kernel
theorem dX8_mean_14 : decode cX8_mean 14 = .ok (.lconst 0, 1) := by decide +kernel
theorem dX8_mean_15 : decode cX8_mean 15 = .ok (.ldc2_w 209, 3) := by decide +kernel
theorem dX8_mean_18 : decode cX8_mean 18 = .ok (.invokestatic 46, 3) := by decide +kernel
theorem dX8_mean_21 : decode cX8_mean 21 = .ok (.ifCond .eq 25, 3) := by decide +kernel
theorem dX8_mean_24 : decode cX8_mean 24 = .ok (.iload_n 3, 1) := by decide +kernel
theorem dX8_mean_25 : decode cX8_mean 25 = .ok (.i2l, 1) := by decide +kernel
theorem dX8_mean_26 : decode cX8_mean 26 = .ok (.lconst 0, 1) := by decide +kernel
theorem dX8_mean_27 : decode cX8_mean 27 = .ok (.lconst 1, 1) := by decide +kernel
theorem dX8_mean_28 : decode cX8_mean 28 = .ok (.invokestatic 46, 3) := by decide +kernel
theorem dX8_mean_31 : decode cX8_mean 31 = .ok (.ifCond .eq 15, 3) := by decide +kernel
theorem dX8_mean_34 : decode cX8_mean 34 = .ok (.aload_n 0, 1) := by decide +kernel
theorem dX8_mean_35 : decode cX8_mean 35 = .ok (.iload_n 1, 1) := by decide +kernel
theorem dX8_mean_36 : decode cX8_mean 36 = .ok (.bipush (-4), 2) := by decide +kernel
theorem dX8_mean_38 : decode cX8_mean 38 = .ok (.iload_n 2, 1) := by decide +kernel
theorem dX8_mean_39 : decode cX8_mean 39 = .ok (.iload_n 3, 1) := by decide +kernel
theorem dX8_mean_40 : decode cX8_mean 40 = .ok (.invokevirtual 211, 3) := by decide +kernel
theorem dX8_mean_43 : decode cX8_mean 43 = .ok (.goto 6, 3) := by decide +kernel
theorem dX8_mean_46 : decode cX8_mean 46 = .ok (.ldc2_w 215, 3) := by decide +kernel
theorem dX8_mean_49 : decode cX8_mean 49 = .ok (.lreturn, 1) := by decide +kernel
theorem dX8_see_0 : decode cX8_see 0 = .ok (.iload_n 1, 1) := by decide +kernel
theorem dX8_see_1 : decode cX8_see 1 = .ok (.i2l, 1) := by decide +kernel
theorem dX8_see_2 : decode cX8_see 2 = .ok (.lconst 0, 1) := by decide +kernel
theorem dX8_see_3 : decode cX8_see 3 = .ok (.ldc2_w 217, 3) := by decide +kernel
theorem dX8_see_6 : decode cX8_see 6 = .ok (.invokestatic 46, 3) := by decide +kernel
theorem dX8_see_9 : decode cX8_see 9 = .ok (.ifCond .eq 22, 3) := by decide +kernel
theorem dX8_see_12 : decode cX8_see 12 = .ok (.iload_n 2, 1) := by decide +kernel
theorem dX8_see_13 : decode cX8_see 13 = .ok (.invokestatic 151, 3) := by decide +kernel
theorem dX8_see_16 : decode cX8_see 16 = .ok (.ifCond .eq 15, 3) := by decide +kernel
theorem dX8_see_19 : decode cX8_see 19 = .ok (.iload_n 3, 1) := by decide +kernel
theorem dX8_see_20 : decode cX8_see 20 = .ok (.i2l, 1) := by decide +kernel
theorem dX8_see_21 : decode cX8_see 21 = .ok (.lconst 0, 1) := by decide +kernel
theorem dX8_see_22 : decode cX8_see 22 = .ok (.ldc2_w 175, 3) := by decide +kernel
theorem dX8_see_25 : decode cX8_see 25 = .ok (.invokestatic 46, 3) := by decide +kernel
theorem dX8_see_28 : decode cX8_see 28 = .ok (.ifCond .ne 5, 3) := by decide +kernel
theorem dX8_see_31 : decode cX8_see 31 = .ok (.iconst (-1), 1) := by decide +kernel
theorem dX8_see_32 : decode cX8_see 32 = .ok (.ireturn, 1) := by decide +kernel
theorem dX8_see_33 : decode cX8_see 33 = .ok (.aload_n 0, 1) := by decide +kernel
theorem dX8_see_34 : decode cX8_see 34 = .ok (.getfield 119, 3) := by decide +kernel
theorem dX8_see_37 : decode cX8_see 37 = .ok (.bipush 6, 2) := by decide +kernel
theorem dX8_see_39 : decode cX8_see 39 = .ok (.if_icmp .ne 6, 3) := by decide +kernel
theorem dX8_see_42 : decode cX8_see 42 = .ok (.bipush (-3), 2) := by decide +kernel
theorem dX8_see_44 : decode cX8_see 44 = .ok (.ireturn, 1) := by decide +kernel
theorem dX8_see_45 : decode cX8_see 45 = .ok (.aload_n 0, 1) := by decide +kernel
theorem dX8_see_46 : decode cX8_see 46 = .ok (.getfield 25, 3) := by decide +kernel
theorem dX8_see_49 : decode cX8_see 49 = .ok (.iconst 3, 1) := by decide +kernel
theorem dX8_see_50 : decode cX8_see 50 = .ok (.aload_n 0, 1) := by decide +kernel
theorem dX8_see_51 : decode cX8_see 51 = .ok (.getfield 119, 3) := by decide +kernel
theorem dX8_see_54 : decode cX8_see 54 = .ok (.imul, 1) := by decide +kernel
theorem dX8_see_55 : decode cX8_see 55 = .ok (.iload_n 1, 1) := by decide +kernel
theorem dX8_see_56 : decode cX8_see 56 = .ok (.iastore, 1) := by decide +kernel
theorem dX8_see_57 : decode cX8_see 57 = .ok (.aload_n 0, 1) := by decide +kernel
theorem dX8_see_58 : decode cX8_see 58 = .ok (.getfield 25, 3) := by decide +kernel
theorem dX8_see_61 : decode cX8_see 61 = .ok (.iconst 3, 1) := by decide +kernel
theorem dX8_see_62 : decode cX8_see 62 = .ok (.aload_n 0, 1) := by decide +kernel
theorem dX8_see_63 : decode cX8_see 63 = .ok (.getfield 119, 3) := by decide +kernel
theorem dX8_see_66 : decode cX8_see 66 = .ok (.imul, 1) := by decide +kernel
theorem dX8_see_67 : decode cX8_see 67 = .ok (.iconst 1, 1) := by decide +kernel
theorem dX8_see_68 : decode cX8_see 68 = .ok (.iadd, 1) := by decide +kernel
theorem dX8_see_69 : decode cX8_see 69 = .ok (.iload_n 2, 1) := by decide +kernel
theorem dX8_see_70 : decode cX8_see 70 = .ok (.iastore, 1) := by decide +kernel
theorem dX8_see_71 : decode cX8_see 71 = .ok (.aload_n 0, 1) := by decide +kernel
theorem dX8_see_72 : decode cX8_see 72 = .ok (.getfield 25, 3) := by decide +kernel
theorem dX8_see_75 : decode cX8_see 75 = .ok (.iconst 3, 1) := by decide +kernel
theorem dX8_see_76 : decode cX8_see 76 = .ok (.aload_n 0, 1) := by decide +kernel
theorem dX8_see_77 : decode cX8_see 77 = .ok (.getfield 119, 3) := by decide +kernel
theorem dX8_see_80 : decode cX8_see 80 = .ok (.imul, 1) := by decide +kernel
theorem dX8_see_81 : decode cX8_see 81 = .ok (.iconst 2, 1) := by decide +kernel
theorem dX8_see_82 : decode cX8_see 82 = .ok (.iadd, 1) := by decide +kernel
theorem dX8_see_83 : decode cX8_see 83 = .ok (.iload_n 3, 1) := by decide +kernel
theorem dX8_see_84 : decode cX8_see 84 = .ok (.iastore, 1) := by decide +kernel
theorem dX8_see_85 : decode cX8_see 85 = .ok (.aload_n 0, 1) := by decide +kernel
theorem dX8_see_86 : decode cX8_see 86 = .ok (.dup, 1) := by decide +kernel
theorem dX8_see_87 : decode cX8_see 87 = .ok (.getfield 119, 3) := by decide +kernel
theorem dX8_see_90 : decode cX8_see 90 = .ok (.iconst 1, 1) := by decide +kernel
theorem dX8_see_91 : decode cX8_see 91 = .ok (.iadd, 1) := by decide +kernel
theorem dX8_see_92 : decode cX8_see 92 = .ok (.putfield 119, 3) := by decide +kernel
theorem dX8_see_95 : decode cX8_see 95 = .ok (.aload_n 0, 1) := by decide +kernel
theorem dX8_see_96 : decode cX8_see 96 = .ok (.getfield 119, 3) := by decide +kernel
theorem dX8_see_99 : decode cX8_see 99 = .ok (.ireturn, 1) := by decide +kernel
theorem dX8_forget_0 : decode cX8_forget 0 = .ok (.iload_n 1, 1) := by decide +kernel
theorem dX8_forget_1 : decode cX8_forget 1 = .ok (.i2l, 1) := by decide +kernel
theorem dX8_forget_2 : decode cX8_forget 2 = .ok (.lconst 0, 1) := by decide +kernel
theorem dX8_forget_3 : decode cX8_forget 3 = .ok (.aload_n 0, 1) := by decide +kernel
theorem dX8_forget_4 : decode cX8_forget 4 = .ok (.getfield 119, 3) := by decide +kernel
theorem dX8_forget_7 : decode cX8_forget 7 = .ok (.i2l, 1) := by decide +kernel
theorem dX8_forget_8 : decode cX8_forget 8 = .ok (.invokestatic 46, 3) := by decide +kernel
theorem dX8_forget_11 : decode cX8_forget 11 = .ok (.ifCond .ne 5, 3) := by decide +kernel
theorem dX8_forget_14 : decode cX8_forget 14 = .ok (.iconst (-1), 1) := by decide +kernel
theorem dX8_forget_15 : decode cX8_forget 15 = .ok (.ireturn, 1) := by decide +kernel
theorem dX8_forget_16 : decode cX8_forget 16 = .ok (.aload_n 0, 1) := by decide +kernel
theorem dX8_forget_17 : decode cX8_forget 17 = .ok (.getfield 119, 3) := by decide +kernel
theorem dX8_forget_20 : decode cX8_forget 20 = .ok (.istore_n 2, 1) := by decide +kernel
theorem dX8_forget_21 : decode cX8_forget 21 = .ok (.aload_n 0, 1) := by decide +kernel
theorem dX8_forget_22 : decode cX8_forget 22 = .ok (.iload_n 1, 1) := by decide +kernel
theorem dX8_forget_23 : decode cX8_forget 23 = .ok (.putfield 119, 3) := by decide +kernel
theorem dX8_forget_26 : decode cX8_forget 26 = .ok (.iload_n 2, 1) := by decide +kernel
theorem dX8_forget_27 : decode cX8_forget 27 = .ok (.ireturn, 1) := by decide +kernel
theorem dX8_isAsSeen_0 : decode cX8_isAsSeen 0 = .ok (.aload_n 0, 1) := by decide +kernel
theorem dX8_isAsSeen_1 : decode cX8_isAsSeen 1 = .ok (.iconst 0, 1) := by decide +kernel
theorem dX8_isAsSeen_2 : decode cX8_isAsSeen 2 = .ok (.sipush 176, 3) := by decide +kernel
theorem dX8_isAsSeen_5 : decode cX8_isAsSeen 5 = .ok (.invokevirtual 190, 3) := by decide +kernel
theorem dX8_isAsSeen_8 : decode cX8_isAsSeen 8 = .ok (.iconst 1, 1) := by decide +kernel
theorem dX8_isAsSeen_9 : decode cX8_isAsSeen 9 = .ok (.istore_n 2, 1) := by decide +kernel
theorem dX8_isAsSeen_10 : decode cX8_isAsSeen 10 = .ok (.iconst 0, 1) := by decide +kernel
theorem dX8_isAsSeen_11 : decode cX8_isAsSeen 11 = .ok (.istore_n 3, 1) := by decide +kernel
theorem dX8_isAsSeen_12 : decode cX8_isAsSeen 12 = .ok (.iload_n 3, 1) := by decide +kernel
theorem dX8_isAsSeen_13 : decode cX8_isAsSeen 13 = .ok (.bipush 20, 2) := by decide +kernel
theorem dX8_isAsSeen_15 : decode cX8_isAsSeen 15 = .ok (.if_icmp .gt 139, 3) := by decide +kernel
theorem dX8_isAsSeen_18 : decode cX8_isAsSeen 18 = .ok (.iconst 0, 1) := by decide +kernel
theorem dX8_isAsSeen_19 : decode cX8_isAsSeen 19 = .ok (.istore 4, 2) := by decide +kernel
theorem dX8_isAsSeen_21 : decode cX8_isAsSeen 21 = .ok (.iload 4, 2) := by decide +kernel
theorem dX8_isAsSeen_23 : decode cX8_isAsSeen 23 = .ok (.bipush 6, 2) := by decide +kernel
theorem dX8_isAsSeen_25 : decode cX8_isAsSeen 25 = .ok (.if_icmp .ge 37, 3) := by decide +kernel
theorem dX8_isAsSeen_28 : decode cX8_isAsSeen 28 = .ok (.aload_n 0, 1) := by decide +kernel
theorem dX8_isAsSeen_29 : decode cX8_isAsSeen 29 = .ok (.getfield 28, 3) := by decide +kernel
theorem dX8_isAsSeen_32 : decode cX8_isAsSeen 32 = .ok (.bipush 126, 2) := by decide +kernel
theorem dX8_isAsSeen_34 : decode cX8_isAsSeen 34 = .ok (.iload_n 1, 1) := by decide +kernel
theorem dX8_isAsSeen_35 : decode cX8_isAsSeen 35 = .ok (.imul, 1) := by decide +kernel
theorem dX8_isAsSeen_36 : decode cX8_isAsSeen 36 = .ok (.bipush 6, 2) := by decide +kernel
theorem dX8_isAsSeen_38 : decode cX8_isAsSeen 38 = .ok (.iload_n 3, 1) := by decide +kernel
theorem dX8_isAsSeen_39 : decode cX8_isAsSeen 39 = .ok (.imul, 1) := by decide +kernel
theorem dX8_isAsSeen_40 : decode cX8_isAsSeen 40 = .ok (.iadd, 1) := by decide +kernel
theorem dX8_isAsSeen_41 : decode cX8_isAsSeen 41 = .ok (.iload 4, 2) := by decide +kernel
theorem dX8_isAsSeen_43 : decode cX8_isAsSeen 43 = .ok (.iadd, 1) := by decide +kernel
theorem dX8_isAsSeen_44 : decode cX8_isAsSeen 44 = .ok (.aload_n 0, 1) := by decide +kernel
theorem dX8_isAsSeen_45 : decode cX8_isAsSeen 45 = .ok (.getfield 7, 3) := by decide +kernel
theorem dX8_isAsSeen_48 : decode cX8_isAsSeen 48 = .ok (.sipush 176, 3) := by decide +kernel
theorem dX8_isAsSeen_51 : decode cX8_isAsSeen 51 = .ok (.iload 4, 2) := by decide +kernel
theorem dX8_isAsSeen_53 : decode cX8_isAsSeen 53 = .ok (.iadd, 1) := by decide +kernel
theorem dX8_isAsSeen_54 : decode cX8_isAsSeen 54 = .ok (.iaload, 1) := by decide +kernel
theorem dX8_isAsSeen_55 : decode cX8_isAsSeen 55 = .ok (.iastore, 1) := by decide +kernel
theorem dX8_isAsSeen_56 : decode cX8_isAsSeen 56 = .ok (.iinc 4 1, 3) := by decide +kernel
theorem dX8_isAsSeen_59 : decode cX8_isAsSeen 59 = .ok (.goto (-38), 3) := by decide +kernel
theorem dX8_isAsSeen_62 : decode cX8_isAsSeen 62 = .ok (.iconst 0, 1) := by decide +kernel
theorem dX8_isAsSeen_63 : decode cX8_isAsSeen 63 = .ok (.istore 4, 2) := by decide +kernel
theorem dX8_isAsSeen_65 : decode cX8_isAsSeen 65 = .ok (.iload 4, 2) := by decide +kernel
theorem dX8_isAsSeen_67 : decode cX8_isAsSeen 67 = .ok (.aload_n 0, 1) := by decide +kernel
theorem dX8_isAsSeen_68 : decode cX8_isAsSeen 68 = .ok (.getfield 119, 3) := by decide +kernel
theorem dX8_isAsSeen_71 : decode cX8_isAsSeen 71 = .ok (.if_icmp .ge 69, 3) := by decide +kernel
theorem dX8_isAsSeen_74 : decode cX8_isAsSeen 74 = .ok (.iload_n 2, 1) := by decide +kernel
theorem dX8_isAsSeen_75 : decode cX8_isAsSeen 75 = .ok (.ifCond .eq 57, 3) := by decide +kernel
theorem dX8_isAsSeen_78 : decode cX8_isAsSeen 78 = .ok (.aload_n 0, 1) := by decide +kernel
theorem dX8_isAsSeen_79 : decode cX8_isAsSeen 79 = .ok (.getfield 25, 3) := by decide +kernel
theorem dX8_isAsSeen_82 : decode cX8_isAsSeen 82 = .ok (.iconst 3, 1) := by decide +kernel
theorem dX8_isAsSeen_83 : decode cX8_isAsSeen 83 = .ok (.iload 4, 2) := by decide +kernel
theorem dX8_isAsSeen_85 : decode cX8_isAsSeen 85 = .ok (.imul, 1) := by decide +kernel
theorem dX8_isAsSeen_86 : decode cX8_isAsSeen 86 = .ok (.iaload, 1) := by decide +kernel
theorem dX8_isAsSeen_87 : decode cX8_isAsSeen 87 = .ok (.iload_n 3, 1) := by decide +kernel
theorem dX8_isAsSeen_88 : decode cX8_isAsSeen 88 = .ok (.if_icmp .ne 40, 3) := by decide +kernel
theorem dX8_isAsSeen_91 : decode cX8_isAsSeen 91 = .ok (.aload_n 0, 1) := by decide +kernel
theorem dX8_isAsSeen_92 : decode cX8_isAsSeen 92 = .ok (.getfield 7, 3) := by decide +kernel
theorem dX8_isAsSeen_95 : decode cX8_isAsSeen 95 = .ok (.sipush 176, 3) := by decide +kernel
theorem dX8_isAsSeen_98 : decode cX8_isAsSeen 98 = .ok (.aload_n 0, 1) := by decide +kernel
theorem dX8_isAsSeen_99 : decode cX8_isAsSeen 99 = .ok (.getfield 25, 3) := by decide +kernel
theorem dX8_isAsSeen_102 : decode cX8_isAsSeen 102 = .ok (.iconst 3, 1) := by decide +kernel
theorem dX8_isAsSeen_103 : decode cX8_isAsSeen 103 = .ok (.iload 4, 2) := by decide +kernel
theorem dX8_isAsSeen_105 : decode cX8_isAsSeen 105 = .ok (.imul, 1) := by decide +kernel
theorem dX8_isAsSeen_106 : decode cX8_isAsSeen 106 = .ok (.iconst 1, 1) := by decide +kernel
theorem dX8_isAsSeen_107 : decode cX8_isAsSeen 107 = .ok (.iadd, 1) := by decide +kernel
theorem dX8_isAsSeen_108 : decode cX8_isAsSeen 108 = .ok (.iaload, 1) := by decide +kernel
theorem dX8_isAsSeen_109 : decode cX8_isAsSeen 109 = .ok (.iadd, 1) := by decide +kernel
theorem dX8_isAsSeen_110 : decode cX8_isAsSeen 110 = .ok (.iaload, 1) := by decide +kernel
theorem dX8_isAsSeen_111 : decode cX8_isAsSeen 111 = .ok (.bipush 30, 2) := by decide +kernel
theorem dX8_isAsSeen_113 : decode cX8_isAsSeen 113 = .ok (.iadd, 1) := by decide +kernel
theorem dX8_isAsSeen_114 : decode cX8_isAsSeen 114 = .ok (.aload_n 0, 1) := by decide +kernel
theorem dX8_isAsSeen_115 : decode cX8_isAsSeen 115 = .ok (.getfield 25, 3) := by decide +kernel
theorem dX8_isAsSeen_118 : decode cX8_isAsSeen 118 = .ok (.iconst 3, 1) := by decide +kernel
theorem dX8_isAsSeen_119 : decode cX8_isAsSeen 119 = .ok (.iload 4, 2) := by decide +kernel
theorem dX8_isAsSeen_121 : decode cX8_isAsSeen 121 = .ok (.imul, 1) := by decide +kernel
theorem dX8_isAsSeen_122 : decode cX8_isAsSeen 122 = .ok (.iconst 2, 1) := by decide +kernel
theorem dX8_isAsSeen_123 : decode cX8_isAsSeen 123 = .ok (.iadd, 1) := by decide +kernel
theorem dX8_isAsSeen_124 : decode cX8_isAsSeen 124 = .ok (.iaload, 1) := by decide +kernel
theorem dX8_isAsSeen_125 : decode cX8_isAsSeen 125 = .ok (.if_icmp .ne 7, 3) := by decide +kernel
theorem dX8_isAsSeen_128 : decode cX8_isAsSeen 128 = .ok (.iconst 1, 1) := by decide +kernel
theorem dX8_isAsSeen_129 : decode cX8_isAsSeen 129 = .ok (.goto 4, 3) := by decide +kernel
theorem dX8_isAsSeen_132 : decode cX8_isAsSeen 132 = .ok (.iconst 0, 1) := by decide +kernel
theorem dX8_isAsSeen_133 : decode cX8_isAsSeen 133 = .ok (.istore_n 2, 1) := by decide +kernel
theorem dX8_isAsSeen_134 : decode cX8_isAsSeen 134 = .ok (.iinc 4 1, 3) := by decide +kernel
theorem dX8_isAsSeen_137 : decode cX8_isAsSeen 137 = .ok (.goto (-72), 3) := by decide +kernel
theorem dX8_isAsSeen_140 : decode cX8_isAsSeen 140 = .ok (.aload_n 0, 1) := by decide +kernel
theorem dX8_isAsSeen_141 : decode cX8_isAsSeen 141 = .ok (.sipush 176, 3) := by decide +kernel
theorem dX8_isAsSeen_144 : decode cX8_isAsSeen 144 = .ok (.iconst 0, 1) := by decide +kernel
theorem dX8_isAsSeen_145 : decode cX8_isAsSeen 145 = .ok (.invokevirtual 186, 3) := by decide +kernel
theorem dX8_isAsSeen_148 : decode cX8_isAsSeen 148 = .ok (.iinc 3 1, 3) := by decide +kernel
theorem dX8_isAsSeen_151 : decode cX8_isAsSeen 151 = .ok (.goto (-139), 3) := by decide +kernel
theorem dX8_isAsSeen_154 : decode cX8_isAsSeen 154 = .ok (.iload_n 2, 1) := by decide +kernel
theorem dX8_isAsSeen_155 : decode cX8_isAsSeen 155 = .ok (.ireturn, 1) := by decide +kernel
theorem dX8_kinds_0 : decode cX8_kinds 0 = .ok (.aload_n 0, 1) := by decide +kernel
theorem dX8_kinds_1 : decode cX8_kinds 1 = .ok (.iload_n 1, 1) := by decide +kernel
theorem dX8_kinds_2 : decode cX8_kinds 2 = .ok (.invokevirtual 157, 3) := by decide +kernel
theorem dX8_kinds_5 : decode cX8_kinds 5 = .ok (.ifCond .ne 5, 3) := by decide +kernel
theorem dX8_kinds_8 : decode cX8_kinds 8 = .ok (.iconst (-1), 1) := by decide +kernel
theorem dX8_kinds_9 : decode cX8_kinds 9 = .ok (.ireturn, 1) := by decide +kernel
theorem dX8_kinds_10 : decode cX8_kinds 10 = .ok (.aload_n 0, 1) := by decide +kernel
theorem dX8_kinds_11 : decode cX8_kinds 11 = .ok (.getfield 7, 3) := by decide +kernel
theorem dX8_kinds_14 : decode cX8_kinds 14 = .ok (.bipush 12, 2) := by decide +kernel
theorem dX8_kinds_16 : decode cX8_kinds 16 = .ok (.iload_n 1, 1) := by decide +kernel
theorem dX8_kinds_17 : decode cX8_kinds 17 = .ok (.iadd, 1) := by decide +kernel
theorem dX8_kinds_18 : decode cX8_kinds 18 = .ok (.iaload, 1) := by decide +kernel
theorem dX8_kinds_19 : decode cX8_kinds 19 = .ok (.istore_n 2, 1) := by decide +kernel
theorem dX8_kinds_20 : decode cX8_kinds 20 = .ok (.iconst 0, 1) := by decide +kernel
theorem dX8_kinds_21 : decode cX8_kinds 21 = .ok (.istore_n 3, 1) := by decide +kernel
theorem dX8_kinds_22 : decode cX8_kinds 22 = .ok (.iconst 0, 1) := by decide +kernel
theorem dX8_kinds_23 : decode cX8_kinds 23 = .ok (.istore 4, 2) := by decide +kernel
theorem dX8_kinds_25 : decode cX8_kinds 25 = .ok (.iload 4, 2) := by decide +kernel
theorem dX8_kinds_27 : decode cX8_kinds 27 = .ok (.iconst 4, 1) := by decide +kernel
theorem dX8_kinds_28 : decode cX8_kinds 28 = .ok (.if_icmp .ge 39, 3) := by decide +kernel
theorem dX8_kinds_31 : decode cX8_kinds 31 = .ok (.aload_n 0, 1) := by decide +kernel
theorem dX8_kinds_32 : decode cX8_kinds 32 = .ok (.getfield 7, 3) := by decide +kernel
theorem dX8_kinds_35 : decode cX8_kinds 35 = .ok (.bipush 12, 2) := by decide +kernel
theorem dX8_kinds_37 : decode cX8_kinds 37 = .ok (.iload_n 1, 1) := by decide +kernel
theorem dX8_kinds_38 : decode cX8_kinds 38 = .ok (.iadd, 1) := by decide +kernel
theorem dX8_kinds_39 : decode cX8_kinds 39 = .ok (.iload 4, 2) := by decide +kernel
theorem dX8_kinds_41 : decode cX8_kinds 41 = .ok (.iastore, 1) := by decide +kernel
theorem dX8_kinds_42 : decode cX8_kinds 42 = .ok (.iload_n 3, 1) := by decide +kernel
theorem dX8_kinds_43 : decode cX8_kinds 43 = .ok (.aload_n 0, 1) := by decide +kernel
theorem dX8_kinds_44 : decode cX8_kinds 44 = .ok (.iconst 0, 1) := by decide +kernel
theorem dX8_kinds_45 : decode cX8_kinds 45 = .ok (.invokevirtual 219, 3) := by decide +kernel
theorem dX8_kinds_48 : decode cX8_kinds 48 = .ok (.ifCond .eq 10, 3) := by decide +kernel
theorem dX8_kinds_51 : decode cX8_kinds 51 = .ok (.iconst 1, 1) := by decide +kernel
theorem dX8_kinds_52 : decode cX8_kinds 52 = .ok (.iload 4, 2) := by decide +kernel
theorem dX8_kinds_54 : decode cX8_kinds 54 = .ok (.ishl, 1) := by decide +kernel
theorem dX8_kinds_55 : decode cX8_kinds 55 = .ok (.goto 4, 3) := by decide +kernel
theorem dX8_kinds_58 : decode cX8_kinds 58 = .ok (.iconst 0, 1) := by decide +kernel
theorem dX8_kinds_59 : decode cX8_kinds 59 = .ok (.ior, 1) := by decide +kernel
theorem dX8_kinds_60 : decode cX8_kinds 60 = .ok (.istore_n 3, 1) := by decide +kernel
theorem dX8_kinds_61 : decode cX8_kinds 61 = .ok (.iinc 4 1, 3) := by decide +kernel
theorem dX8_kinds_64 : decode cX8_kinds 64 = .ok (.goto (-39), 3) := by decide +kernel
theorem dX8_kinds_67 : decode cX8_kinds 67 = .ok (.aload_n 0, 1) := by decide +kernel
theorem dX8_kinds_68 : decode cX8_kinds 68 = .ok (.getfield 7, 3) := by decide +kernel
theorem dX8_kinds_71 : decode cX8_kinds 71 = .ok (.bipush 12, 2) := by decide +kernel
theorem dX8_kinds_73 : decode cX8_kinds 73 = .ok (.iload_n 1, 1) := by decide +kernel
theorem dX8_kinds_74 : decode cX8_kinds 74 = .ok (.iadd, 1) := by decide +kernel
theorem dX8_kinds_75 : decode cX8_kinds 75 = .ok (.iload_n 2, 1) := by decide +kernel
theorem dX8_kinds_76 : decode cX8_kinds 76 = .ok (.iastore, 1) := by decide +kernel
theorem dX8_kinds_77 : decode cX8_kinds 77 = .ok (.iload_n 3, 1) := by decide +kernel
theorem dX8_kinds_78 : decode cX8_kinds 78 = .ok (.ireturn, 1) := by decide +kernel
theorem dX8_gatesOf_0 : decode cX8_gatesOf 0 = .ok (.aload_n 0, 1) := by decide +kernel
theorem dX8_gatesOf_1 : decode cX8_gatesOf 1 = .ok (.getfield 7, 3) := by decide +kernel
theorem dX8_gatesOf_4 : decode cX8_gatesOf 4 = .ok (.bipush 17, 2) := by decide +kernel
theorem dX8_gatesOf_6 : decode cX8_gatesOf 6 = .ok (.iload_n 1, 1) := by decide +kernel
theorem dX8_gatesOf_7 : decode cX8_gatesOf 7 = .ok (.iadd, 1) := by decide +kernel
theorem dX8_gatesOf_8 : decode cX8_gatesOf 8 = .ok (.iaload, 1) := by decide +kernel
theorem dX8_gatesOf_9 : decode cX8_gatesOf 9 = .ok (.istore_n 2, 1) := by decide +kernel
theorem dX8_gatesOf_10 : decode cX8_gatesOf 10 = .ok (.iconst 0, 1) := by decide +kernel
theorem dX8_gatesOf_11 : decode cX8_gatesOf 11 = .ok (.istore_n 3, 1) := by decide +kernel
theorem dX8_gatesOf_12 : decode cX8_gatesOf 12 = .ok (.iconst 0, 1) := by decide +kernel
theorem dX8_gatesOf_13 : decode cX8_gatesOf 13 = .ok (.istore 4, 2) := by decide +kernel
theorem dX8_gatesOf_15 : decode cX8_gatesOf 15 = .ok (.iload 4, 2) := by decide +kernel
theorem dX8_gatesOf_17 : decode cX8_gatesOf 17 = .ok (.bipush 6, 2) := by decide +kernel
theorem dX8_gatesOf_19 : decode cX8_gatesOf 19 = .ok (.if_icmp .ge 40, 3) := by decide +kernel
theorem dX8_gatesOf_22 : decode cX8_gatesOf 22 = .ok (.aload_n 0, 1) := by decide +kernel
theorem dX8_gatesOf_23 : decode cX8_gatesOf 23 = .ok (.getfield 7, 3) := by decide +kernel
theorem dX8_gatesOf_26 : decode cX8_gatesOf 26 = .ok (.bipush 17, 2) := by decide +kernel
theorem dX8_gatesOf_28 : decode cX8_gatesOf 28 = .ok (.iload_n 1, 1) := by decide +kernel
theorem dX8_gatesOf_29 : decode cX8_gatesOf 29 = .ok (.iadd, 1) := by decide +kernel
theorem dX8_gatesOf_30 : decode cX8_gatesOf 30 = .ok (.iload 4, 2) := by decide +kernel
theorem dX8_gatesOf_32 : decode cX8_gatesOf 32 = .ok (.iastore, 1) := by decide +kernel
theorem dX8_gatesOf_33 : decode cX8_gatesOf 33 = .ok (.iload_n 3, 1) := by decide +kernel
theorem dX8_gatesOf_34 : decode cX8_gatesOf 34 = .ok (.aload_n 0, 1) := by decide +kernel
theorem dX8_gatesOf_35 : decode cX8_gatesOf 35 = .ok (.iload 4, 2) := by decide +kernel
theorem dX8_gatesOf_37 : decode cX8_gatesOf 37 = .ok (.invokevirtual 219, 3) := by decide +kernel
theorem dX8_gatesOf_40 : decode cX8_gatesOf 40 = .ok (.ifCond .eq 10, 3) := by decide +kernel
theorem dX8_gatesOf_43 : decode cX8_gatesOf 43 = .ok (.iconst 1, 1) := by decide +kernel
theorem dX8_gatesOf_44 : decode cX8_gatesOf 44 = .ok (.iload 4, 2) := by decide +kernel
theorem dX8_gatesOf_46 : decode cX8_gatesOf 46 = .ok (.ishl, 1) := by decide +kernel
theorem dX8_gatesOf_47 : decode cX8_gatesOf 47 = .ok (.goto 4, 3) := by decide +kernel
theorem dX8_gatesOf_50 : decode cX8_gatesOf 50 = .ok (.iconst 0, 1) := by decide +kernel
theorem dX8_gatesOf_51 : decode cX8_gatesOf 51 = .ok (.ior, 1) := by decide +kernel
theorem dX8_gatesOf_52 : decode cX8_gatesOf 52 = .ok (.istore_n 3, 1) := by decide +kernel
theorem dX8_gatesOf_53 : decode cX8_gatesOf 53 = .ok (.iinc 4 1, 3) := by decide +kernel
theorem dX8_gatesOf_56 : decode cX8_gatesOf 56 = .ok (.goto (-41), 3) := by decide +kernel
theorem dX8_gatesOf_59 : decode cX8_gatesOf 59 = .ok (.aload_n 0, 1) := by decide +kernel
theorem dX8_gatesOf_60 : decode cX8_gatesOf 60 = .ok (.getfield 7, 3) := by decide +kernel
theorem dX8_gatesOf_63 : decode cX8_gatesOf 63 = .ok (.bipush 17, 2) := by decide +kernel
theorem dX8_gatesOf_65 : decode cX8_gatesOf 65 = .ok (.iload_n 1, 1) := by decide +kernel
theorem dX8_gatesOf_66 : decode cX8_gatesOf 66 = .ok (.iadd, 1) := by decide +kernel
theorem dX8_gatesOf_67 : decode cX8_gatesOf 67 = .ok (.iload_n 2, 1) := by decide +kernel
theorem dX8_gatesOf_68 : decode cX8_gatesOf 68 = .ok (.iastore, 1) := by decide +kernel
theorem dX8_gatesOf_69 : decode cX8_gatesOf 69 = .ok (.iload_n 3, 1) := by decide +kernel
theorem dX8_gatesOf_70 : decode cX8_gatesOf 70 = .ok (.ireturn, 1) := by decide +kernel
theorem dX8_gates_0 : decode cX8_gates 0 = .ok (.aload_n 0, 1) := by decide +kernel
theorem dX8_gates_1 : decode cX8_gates 1 = .ok (.iload_n 1, 1) := by decide +kernel
theorem dX8_gates_2 : decode cX8_gates 2 = .ok (.invokevirtual 157, 3) := by decide +kernel
theorem dX8_gates_5 : decode cX8_gates 5 = .ok (.ifCond .eq 11, 3) := by decide +kernel
theorem dX8_gates_8 : decode cX8_gates 8 = .ok (.aload_n 0, 1) := by decide +kernel
theorem dX8_gates_9 : decode cX8_gates 9 = .ok (.iload_n 1, 1) := by decide +kernel
theorem dX8_gates_10 : decode cX8_gates 10 = .ok (.invokevirtual 222, 3) := by decide +kernel
theorem dX8_gates_13 : decode cX8_gates 13 = .ok (.goto 4, 3) := by decide +kernel
theorem dX8_gates_16 : decode cX8_gates 16 = .ok (.iconst (-1), 1) := by decide +kernel
theorem dX8_gates_17 : decode cX8_gates 17 = .ok (.ireturn, 1) := by decide +kernel
theorem dX8_worstAt_0 : decode cX8_worstAt 0 = .ok (.iconst 0, 1) := by decide +kernel
theorem dX8_worstAt_1 : decode cX8_worstAt 1 = .ok (.istore_n 3, 1) := by decide +kernel
theorem dX8_worstAt_2 : decode cX8_worstAt 2 = .ok (.iconst 0, 1) := by decide +kernel
theorem dX8_worstAt_3 : decode cX8_worstAt 3 = .ok (.istore 4, 2) := by decide +kernel
theorem dX8_worstAt_5 : decode cX8_worstAt 5 = .ok (.iload 4, 2) := by decide +kernel
theorem dX8_worstAt_7 : decode cX8_worstAt 7 = .ok (.bipush 6, 2) := by decide +kernel
theorem dX8_worstAt_9 : decode cX8_worstAt 9 = .ok (.if_icmp .ge 98, 3) := by decide +kernel
theorem dX8_worstAt_12 : decode cX8_worstAt 12 = .ok (.iconst 0, 1) := by decide +kernel
theorem dX8_worstAt_13 : decode cX8_worstAt 13 = .ok (.istore 5, 2) := by decide +kernel
theorem dX8_worstAt_15 : decode cX8_worstAt 15 = .ok (.iconst 0, 1) := by decide +kernel
theorem dX8_worstAt_16 : decode cX8_worstAt 16 = .ok (.istore 6, 2) := by decide +kernel
theorem dX8_worstAt_18 : decode cX8_worstAt 18 = .ok (.iload 6, 2) := by decide +kernel
theorem dX8_worstAt_20 : decode cX8_worstAt 20 = .ok (.bipush 6, 2) := by decide +kernel
theorem dX8_worstAt_22 : decode cX8_worstAt 22 = .ok (.if_icmp .ge 66, 3) := by decide +kernel
theorem dX8_worstAt_25 : decode cX8_worstAt 25 = .ok (.iload_n 1, 1) := by decide +kernel
theorem dX8_worstAt_26 : decode cX8_worstAt 26 = .ok (.iload 4, 2) := by decide +kernel
theorem dX8_worstAt_28 : decode cX8_worstAt 28 = .ok (.ishr, 1) := by decide +kernel
theorem dX8_worstAt_29 : decode cX8_worstAt 29 = .ok (.iconst 1, 1) := by decide +kernel
theorem dX8_worstAt_30 : decode cX8_worstAt 30 = .ok (.iand, 1) := by decide +kernel
theorem dX8_worstAt_31 : decode cX8_worstAt 31 = .ok (.iconst 1, 1) := by decide +kernel
theorem dX8_worstAt_32 : decode cX8_worstAt 32 = .ok (.if_icmp .ne 56, 3) := by decide +kernel
theorem dX8_worstAt_35 : decode cX8_worstAt 35 = .ok (.iload 5, 2) := by decide +kernel
theorem dX8_worstAt_37 : decode cX8_worstAt 37 = .ok (.iload_n 1, 1) := by decide +kernel
theorem dX8_worstAt_38 : decode cX8_worstAt 38 = .ok (.iload 6, 2) := by decide +kernel
theorem dX8_worstAt_40 : decode cX8_worstAt 40 = .ok (.ishr, 1) := by decide +kernel
theorem dX8_worstAt_41 : decode cX8_worstAt 41 = .ok (.iconst 1, 1) := by decide +kernel
theorem dX8_worstAt_42 : decode cX8_worstAt 42 = .ok (.iand, 1) := by decide +kernel
theorem dX8_worstAt_43 : decode cX8_worstAt 43 = .ok (.iconst 1, 1) := by decide +kernel
theorem dX8_worstAt_44 : decode cX8_worstAt 44 = .ok (.if_icmp .ne 34, 3) := by decide +kernel
theorem dX8_worstAt_47 : decode cX8_worstAt 47 = .ok (.aload_n 0, 1) := by decide +kernel
theorem dX8_worstAt_48 : decode cX8_worstAt 48 = .ok (.getfield 28, 3) := by decide +kernel
theorem dX8_worstAt_51 : decode cX8_worstAt 51 = .ok (.bipush 126, 2) := by decide +kernel
theorem dX8_worstAt_53 : decode cX8_worstAt 53 = .ok (.iload 4, 2) := by decide +kernel
theorem dX8_worstAt_55 : decode cX8_worstAt 55 = .ok (.imul, 1) := by decide +kernel
theorem dX8_worstAt_56 : decode cX8_worstAt 56 = .ok (.iload_n 2, 1) := by decide +kernel
theorem dX8_worstAt_57 : decode cX8_worstAt 57 = .ok (.iadd, 1) := by decide +kernel
theorem dX8_worstAt_58 : decode cX8_worstAt 58 = .ok (.iaload, 1) := by decide +kernel
theorem dX8_worstAt_59 : decode cX8_worstAt 59 = .ok (.aload_n 0, 1) := by decide +kernel
theorem dX8_worstAt_60 : decode cX8_worstAt 60 = .ok (.getfield 28, 3) := by decide +kernel
theorem dX8_worstAt_63 : decode cX8_worstAt 63 = .ok (.bipush 126, 2) := by decide +kernel
theorem dX8_worstAt_65 : decode cX8_worstAt 65 = .ok (.iload 6, 2) := by decide +kernel
theorem dX8_worstAt_67 : decode cX8_worstAt 67 = .ok (.imul, 1) := by decide +kernel
theorem dX8_worstAt_68 : decode cX8_worstAt 68 = .ok (.iload_n 2, 1) := by decide +kernel
theorem dX8_worstAt_69 : decode cX8_worstAt 69 = .ok (.iadd, 1) := by decide +kernel
theorem dX8_worstAt_70 : decode cX8_worstAt 70 = .ok (.iaload, 1) := by decide +kernel
theorem dX8_worstAt_71 : decode cX8_worstAt 71 = .ok (.if_icmp .ne 7, 3) := by decide +kernel
theorem dX8_worstAt_74 : decode cX8_worstAt 74 = .ok (.iconst 1, 1) := by decide +kernel
theorem dX8_worstAt_75 : decode cX8_worstAt 75 = .ok (.goto 4, 3) := by decide +kernel
theorem dX8_worstAt_78 : decode cX8_worstAt 78 = .ok (.iconst 0, 1) := by decide +kernel
theorem dX8_worstAt_79 : decode cX8_worstAt 79 = .ok (.iadd, 1) := by decide +kernel
theorem dX8_worstAt_80 : decode cX8_worstAt 80 = .ok (.istore 5, 2) := by decide +kernel
theorem dX8_worstAt_82 : decode cX8_worstAt 82 = .ok (.iinc 6 1, 3) := by decide +kernel
theorem dX8_worstAt_85 : decode cX8_worstAt 85 = .ok (.goto (-67), 3) := by decide +kernel
theorem dX8_worstAt_88 : decode cX8_worstAt 88 = .ok (.iload 5, 2) := by decide +kernel
theorem dX8_worstAt_90 : decode cX8_worstAt 90 = .ok (.iload_n 3, 1) := by decide +kernel
theorem dX8_worstAt_91 : decode cX8_worstAt 91 = .ok (.if_icmp .le 8, 3) := by decide +kernel
theorem dX8_worstAt_94 : decode cX8_worstAt 94 = .ok (.iload 5, 2) := by decide +kernel
theorem dX8_worstAt_96 : decode cX8_worstAt 96 = .ok (.goto 4, 3) := by decide +kernel
theorem dX8_worstAt_99 : decode cX8_worstAt 99 = .ok (.iload_n 3, 1) := by decide +kernel
theorem dX8_worstAt_100 : decode cX8_worstAt 100 = .ok (.istore_n 3, 1) := by decide +kernel
theorem dX8_worstAt_101 : decode cX8_worstAt 101 = .ok (.iinc 4 1, 3) := by decide +kernel
theorem dX8_worstAt_104 : decode cX8_worstAt 104 = .ok (.goto (-99), 3) := by decide +kernel
theorem dX8_worstAt_107 : decode cX8_worstAt 107 = .ok (.iload_n 3, 1) := by decide +kernel
theorem dX8_worstAt_108 : decode cX8_worstAt 108 = .ok (.ireturn, 1) := by decide +kernel
theorem dX8_ask_0 : decode cX8_ask 0 = .ok (.aload_n 0, 1) := by decide +kernel
theorem dX8_ask_1 : decode cX8_ask 1 = .ok (.iload_n 1, 1) := by decide +kernel
theorem dX8_ask_2 : decode cX8_ask 2 = .ok (.invokevirtual 157, 3) := by decide +kernel
theorem dX8_ask_5 : decode cX8_ask 5 = .ok (.ifCond .eq 13, 3) := by decide +kernel
theorem dX8_ask_8 : decode cX8_ask 8 = .ok (.iload_n 2, 1) := by decide +kernel
theorem dX8_ask_9 : decode cX8_ask 9 = .ok (.i2l, 1) := by decide +kernel
theorem dX8_ask_10 : decode cX8_ask 10 = .ok (.lconst 0, 1) := by decide +kernel
theorem dX8_ask_11 : decode cX8_ask 11 = .ok (.lconst 1, 1) := by decide +kernel
theorem dX8_ask_12 : decode cX8_ask 12 = .ok (.invokestatic 46, 3) := by decide +kernel
theorem dX8_ask_15 : decode cX8_ask 15 = .ok (.ifCond .ne 5, 3) := by decide +kernel
theorem dX8_ask_18 : decode cX8_ask 18 = .ok (.iconst (-1), 1) := by decide +kernel
theorem dX8_ask_19 : decode cX8_ask 19 = .ok (.ireturn, 1) := by decide +kernel
theorem dX8_ask_20 : decode cX8_ask 20 = .ok (.aload_n 0, 1) := by decide +kernel
theorem dX8_ask_21 : decode cX8_ask 21 = .ok (.iload_n 1, 1) := by decide +kernel
theorem dX8_ask_22 : decode cX8_ask 22 = .ok (.invokevirtual 222, 3) := by decide +kernel
theorem dX8_ask_25 : decode cX8_ask 25 = .ok (.istore_n 3, 1) := by decide +kernel
theorem dX8_ask_26 : decode cX8_ask 26 = .ok (.iconst 0, 1) := by decide +kernel
theorem dX8_ask_27 : decode cX8_ask 27 = .ok (.istore 4, 2) := by decide +kernel
theorem dX8_ask_29 : decode cX8_ask 29 = .ok (.iconst 0, 1) := by decide +kernel
theorem dX8_ask_30 : decode cX8_ask 30 = .ok (.istore 5, 2) := by decide +kernel
theorem dX8_ask_32 : decode cX8_ask 32 = .ok (.iload 5, 2) := by decide +kernel
theorem dX8_ask_34 : decode cX8_ask 34 = .ok (.bipush 6, 2) := by decide +kernel
theorem dX8_ask_36 : decode cX8_ask 36 = .ok (.if_icmp .ge 20, 3) := by decide +kernel
theorem dX8_ask_39 : decode cX8_ask 39 = .ok (.iload 4, 2) := by decide +kernel
theorem dX8_ask_41 : decode cX8_ask 41 = .ok (.iload_n 3, 1) := by decide +kernel
theorem dX8_ask_42 : decode cX8_ask 42 = .ok (.iload 5, 2) := by decide +kernel
theorem dX8_ask_44 : decode cX8_ask 44 = .ok (.ishr, 1) := by decide +kernel
theorem dX8_ask_45 : decode cX8_ask 45 = .ok (.iconst 1, 1) := by decide +kernel
theorem dX8_ask_46 : decode cX8_ask 46 = .ok (.iand, 1) := by decide +kernel
theorem dX8_ask_47 : decode cX8_ask 47 = .ok (.iadd, 1) := by decide +kernel
theorem dX8_ask_48 : decode cX8_ask 48 = .ok (.istore 4, 2) := by decide +kernel
theorem dX8_ask_50 : decode cX8_ask 50 = .ok (.iinc 5 1, 3) := by decide +kernel
theorem dX8_ask_53 : decode cX8_ask 53 = .ok (.goto (-21), 3) := by decide +kernel
theorem dX8_ask_56 : decode cX8_ask 56 = .ok (.bipush (-4), 2) := by decide +kernel
theorem dX8_ask_58 : decode cX8_ask 58 = .ok (.istore 5, 2) := by decide +kernel
theorem dX8_ask_60 : decode cX8_ask 60 = .ok (.iconst 0, 1) := by decide +kernel
theorem dX8_ask_61 : decode cX8_ask 61 = .ok (.istore 6, 2) := by decide +kernel
theorem dX8_ask_63 : decode cX8_ask 63 = .ok (.iload 6, 2) := by decide +kernel
theorem dX8_ask_65 : decode cX8_ask 65 = .ok (.bipush 126, 2) := by decide +kernel
theorem dX8_ask_67 : decode cX8_ask 67 = .ok (.if_icmp .ge 62, 3) := by decide +kernel
theorem dX8_ask_70 : decode cX8_ask 70 = .ok (.aload_n 0, 1) := by decide +kernel
theorem dX8_ask_71 : decode cX8_ask 71 = .ok (.iload_n 3, 1) := by decide +kernel
theorem dX8_ask_72 : decode cX8_ask 72 = .ok (.iload 6, 2) := by decide +kernel
theorem dX8_ask_74 : decode cX8_ask 74 = .ok (.invokevirtual 225, 3) := by decide +kernel
theorem dX8_ask_77 : decode cX8_ask 77 = .ok (.istore 7, 2) := by decide +kernel
theorem dX8_ask_79 : decode cX8_ask 79 = .ok (.iload 7, 2) := by decide +kernel
theorem dX8_ask_81 : decode cX8_ask 81 = .ok (.iload 4, 2) := by decide +kernel
theorem dX8_ask_83 : decode cX8_ask 83 = .ok (.if_icmp .ge 20, 3) := by decide +kernel
theorem dX8_ask_86 : decode cX8_ask 86 = .ok (.bipush 10, 2) := by decide +kernel
theorem dX8_ask_88 : decode cX8_ask 88 = .ok (.iload 6, 2) := by decide +kernel
theorem dX8_ask_90 : decode cX8_ask 90 = .ok (.bipush 6, 2) := by decide +kernel
theorem dX8_ask_92 : decode cX8_ask 92 = .ok (.idiv, 1) := by decide +kernel
theorem dX8_ask_93 : decode cX8_ask 93 = .ok (.imul, 1) := by decide +kernel
theorem dX8_ask_94 : decode cX8_ask 94 = .ok (.iload 6, 2) := by decide +kernel
theorem dX8_ask_96 : decode cX8_ask 96 = .ok (.bipush 6, 2) := by decide +kernel
theorem dX8_ask_98 : decode cX8_ask 98 = .ok (.irem, 1) := by decide +kernel
theorem dX8_ask_99 : decode cX8_ask 99 = .ok (.iadd, 1) := by decide +kernel
theorem dX8_ask_100 : decode cX8_ask 100 = .ok (.goto 5, 3) := by decide +kernel
theorem dX8_ask_103 : decode cX8_ask 103 = .ok (.iload 5, 2) := by decide +kernel
theorem dX8_ask_105 : decode cX8_ask 105 = .ok (.istore 5, 2) := by decide +kernel
theorem dX8_ask_107 : decode cX8_ask 107 = .ok (.iload 7, 2) := by decide +kernel
theorem dX8_ask_109 : decode cX8_ask 109 = .ok (.iload 4, 2) := by decide +kernel
theorem dX8_ask_111 : decode cX8_ask 111 = .ok (.if_icmp .ge 8, 3) := by decide +kernel
theorem dX8_ask_114 : decode cX8_ask 114 = .ok (.iload 7, 2) := by decide +kernel
theorem dX8_ask_116 : decode cX8_ask 116 = .ok (.goto 5, 3) := by decide +kernel
theorem dX8_ask_119 : decode cX8_ask 119 = .ok (.iload 4, 2) := by decide +kernel
theorem dX8_ask_121 : decode cX8_ask 121 = .ok (.istore 4, 2) := by decide +kernel
theorem dX8_ask_123 : decode cX8_ask 123 = .ok (.iinc 6 1, 3) := by decide +kernel
theorem dX8_ask_126 : decode cX8_ask 126 = .ok (.goto (-63), 3) := by decide +kernel
theorem dX8_ask_129 : decode cX8_ask 129 = .ok (.iload 5, 2) := by decide +kernel
theorem dX8_ask_131 : decode cX8_ask 131 = .ok (.bipush (-4), 2) := by decide +kernel
theorem dX8_ask_133 : decode cX8_ask 133 = .ok (.if_icmp .eq 7, 3) := by decide +kernel
theorem dX8_ask_136 : decode cX8_ask 136 = .ok (.iload_n 2, 1) := by decide +kernel
theorem dX8_ask_137 : decode cX8_ask 137 = .ok (.ifCond .ne 8, 3) := by decide +kernel
theorem dX8_ask_140 : decode cX8_ask 140 = .ok (.iload 5, 2) := by decide +kernel
theorem dX8_ask_142 : decode cX8_ask 142 = .ok (.goto 5, 3) := by decide +kernel
theorem dX8_ask_145 : decode cX8_ask 145 = .ok (.iload 4, 2) := by decide +kernel
theorem dX8_ask_147 : decode cX8_ask 147 = .ok (.ireturn, 1) := by decide +kernel
theorem dX8_drift_0 : decode cX8_drift 0 = .ok (.iload_n 2, 1) := by decide +kernel
theorem dX8_drift_1 : decode cX8_drift 1 = .ok (.i2l, 1) := by decide +kernel
theorem dX8_drift_2 : decode cX8_drift 2 = .ok (.lconst 1, 1) := by decide +kernel
theorem dX8_drift_3 : decode cX8_drift 3 = .ok (.ldc2_w 175, 3) := by decide +kernel
theorem dX8_drift_6 : decode cX8_drift 6 = .ok (.invokestatic 46, 3) := by decide +kernel
theorem dX8_drift_9 : decode cX8_drift 9 = .ok (.ifCond .eq 13, 3) := by decide +kernel
theorem dX8_drift_12 : decode cX8_drift 12 = .ok (.iload_n 3, 1) := by decide +kernel
theorem dX8_drift_13 : decode cX8_drift 13 = .ok (.i2l, 1) := by decide +kernel
theorem dX8_drift_14 : decode cX8_drift 14 = .ok (.lconst 0, 1) := by decide +kernel
theorem dX8_drift_15 : decode cX8_drift 15 = .ok (.lconst 1, 1) := by decide +kernel
theorem dX8_drift_16 : decode cX8_drift 16 = .ok (.invokestatic 46, 3) := by decide +kernel
theorem dX8_drift_19 : decode cX8_drift 19 = .ok (.ifCond .ne 5, 3) := by decide +kernel
theorem dX8_drift_22 : decode cX8_drift 22 = .ok (.iconst (-1), 1) := by decide +kernel
theorem dX8_drift_23 : decode cX8_drift 23 = .ok (.ireturn, 1) := by decide +kernel
theorem dX8_drift_24 : decode cX8_drift 24 = .ok (.aload_n 0, 1) := by decide +kernel
theorem dX8_drift_25 : decode cX8_drift 25 = .ok (.getfield 116, 3) := by decide +kernel
theorem dX8_drift_28 : decode cX8_drift 28 = .ok (.ifCond .ne 6, 3) := by decide +kernel
theorem dX8_drift_31 : decode cX8_drift 31 = .ok (.bipush (-2), 2) := by decide +kernel
theorem dX8_drift_33 : decode cX8_drift 33 = .ok (.ireturn, 1) := by decide +kernel
theorem dX8_drift_34 : decode cX8_drift 34 = .ok (.aload_n 0, 1) := by decide +kernel
theorem dX8_drift_35 : decode cX8_drift 35 = .ok (.iconst 0, 1) := by decide +kernel
theorem dX8_drift_36 : decode cX8_drift 36 = .ok (.sipush 176, 3) := by decide +kernel
theorem dX8_drift_39 : decode cX8_drift 39 = .ok (.invokevirtual 190, 3) := by decide +kernel
theorem dX8_drift_42 : decode cX8_drift 42 = .ok (.aload_n 0, 1) := by decide +kernel
theorem dX8_drift_43 : decode cX8_drift 43 = .ok (.invokevirtual 183, 3) := by decide +kernel
theorem dX8_drift_46 : decode cX8_drift 46 = .ok (.iload_n 1, 1) := by decide +kernel
theorem dX8_drift_47 : decode cX8_drift 47 = .ok (.istore 4, 2) := by decide +kernel
theorem dX8_drift_49 : decode cX8_drift 49 = .ok (.iconst 0, 1) := by decide +kernel
theorem dX8_drift_50 : decode cX8_drift 50 = .ok (.istore 5, 2) := by decide +kernel
theorem dX8_drift_52 : decode cX8_drift 52 = .ok (.iload 5, 2) := by decide +kernel
theorem dX8_drift_54 : decode cX8_drift 54 = .ok (.iload_n 2, 1) := by decide +kernel
theorem dX8_drift_55 : decode cX8_drift 55 = .ok (.if_icmp .ge 63, 3) := by decide +kernel
theorem dX8_drift_58 : decode cX8_drift 58 = .ok (.iload 4, 2) := by decide +kernel
theorem dX8_drift_60 : decode cX8_drift 60 = .ok (.ldc 228, 2) := by decide +kernel
theorem dX8_drift_62 : decode cX8_drift 62 = .ok (.imul, 1) := by decide +kernel
theorem dX8_drift_63 : decode cX8_drift 63 = .ok (.sipush 12345, 3) := by decide +kernel
theorem dX8_drift_66 : decode cX8_drift 66 = .ok (.iadd, 1) := by decide +kernel
theorem dX8_drift_67 : decode cX8_drift 67 = .ok (.istore 4, 2) := by decide +kernel
theorem dX8_drift_69 : decode cX8_drift 69 = .ok (.iload 4, 2) := by decide +kernel
theorem dX8_drift_71 : decode cX8_drift 71 = .ok (.bipush 16, 2) := by decide +kernel
theorem dX8_drift_73 : decode cX8_drift 73 = .ok (.ishr, 1) := by decide +kernel
theorem dX8_drift_74 : decode cX8_drift 74 = .ok (.sipush 32767, 3) := by decide +kernel
theorem dX8_drift_77 : decode cX8_drift 77 = .ok (.iand, 1) := by decide +kernel
theorem dX8_drift_78 : decode cX8_drift 78 = .ok (.istore 6, 2) := by decide +kernel
theorem dX8_drift_80 : decode cX8_drift 80 = .ok (.aload_n 0, 1) := by decide +kernel
theorem dX8_drift_81 : decode cX8_drift 81 = .ok (.getfield 7, 3) := by decide +kernel
theorem dX8_drift_84 : decode cX8_drift 84 = .ok (.sipush 193, 3) := by decide +kernel
theorem dX8_drift_87 : decode cX8_drift 87 = .ok (.iload 6, 2) := by decide +kernel
theorem dX8_drift_89 : decode cX8_drift 89 = .ok (.aload_n 0, 1) := by decide +kernel
theorem dX8_drift_90 : decode cX8_drift 90 = .ok (.getfield 116, 3) := by decide +kernel
theorem dX8_drift_93 : decode cX8_drift 93 = .ok (.irem, 1) := by decide +kernel
theorem dX8_drift_94 : decode cX8_drift 94 = .ok (.iadd, 1) := by decide +kernel
theorem dX8_drift_95 : decode cX8_drift 95 = .ok (.iload 6, 2) := by decide +kernel
theorem dX8_drift_97 : decode cX8_drift 97 = .ok (.bipush 8, 2) := by decide +kernel
theorem dX8_drift_99 : decode cX8_drift 99 = .ok (.idiv, 1) := by decide +kernel
theorem dX8_drift_100 : decode cX8_drift 100 = .ok (.bipush 6, 2) := by decide +kernel
theorem dX8_drift_102 : decode cX8_drift 102 = .ok (.irem, 1) := by decide +kernel
theorem dX8_drift_103 : decode cX8_drift 103 = .ok (.iastore, 1) := by decide +kernel
theorem dX8_drift_104 : decode cX8_drift 104 = .ok (.aload_n 0, 1) := by decide +kernel
theorem dX8_drift_105 : decode cX8_drift 105 = .ok (.sipush 176, 3) := by decide +kernel
theorem dX8_drift_108 : decode cX8_drift 108 = .ok (.iconst 0, 1) := by decide +kernel
theorem dX8_drift_109 : decode cX8_drift 109 = .ok (.invokevirtual 186, 3) := by decide +kernel
theorem dX8_drift_112 : decode cX8_drift 112 = .ok (.iinc 5 1, 3) := by decide +kernel
theorem dX8_drift_115 : decode cX8_drift 115 = .ok (.goto (-63), 3) := by decide +kernel
theorem dX8_drift_118 : decode cX8_drift 118 = .ok (.iload_n 3, 1) := by decide +kernel
theorem dX8_drift_119 : decode cX8_drift 119 = .ok (.ifCond .ne 10, 3) := by decide +kernel
theorem dX8_drift_122 : decode cX8_drift 122 = .ok (.aload_n 0, 1) := by decide +kernel
theorem dX8_drift_123 : decode cX8_drift 123 = .ok (.getfield 128, 3) := by decide +kernel
theorem dX8_drift_126 : decode cX8_drift 126 = .ok (.goto 7, 3) := by decide +kernel
theorem dX8_drift_129 : decode cX8_drift 129 = .ok (.aload_n 0, 1) := by decide +kernel
theorem dX8_drift_130 : decode cX8_drift 130 = .ok (.getfield 134, 3) := by decide +kernel
theorem dX8_drift_133 : decode cX8_drift 133 = .ok (.ireturn, 1) := by decide +kernel
theorem dX8_keep_0 : decode cX8_keep 0 = .ok (.iload_n 1, 1) := by decide +kernel
theorem dX8_keep_1 : decode cX8_keep 1 = .ok (.i2l, 1) := by decide +kernel
theorem dX8_keep_2 : decode cX8_keep 2 = .ok (.lconst 0, 1) := by decide +kernel
theorem dX8_keep_3 : decode cX8_keep 3 = .ok (.lconst 1, 1) := by decide +kernel
theorem dX8_keep_4 : decode cX8_keep 4 = .ok (.invokestatic 46, 3) := by decide +kernel
theorem dX8_keep_7 : decode cX8_keep 7 = .ok (.ifCond .ne 5, 3) := by decide +kernel
theorem dX8_keep_10 : decode cX8_keep 10 = .ok (.iconst (-1), 1) := by decide +kernel
theorem dX8_keep_11 : decode cX8_keep 11 = .ok (.ireturn, 1) := by decide +kernel
theorem dX8_keep_12 : decode cX8_keep 12 = .ok (.aload_n 0, 1) := by decide +kernel
theorem dX8_keep_13 : decode cX8_keep 13 = .ok (.iconst 0, 1) := by decide +kernel
theorem dX8_keep_14 : decode cX8_keep 14 = .ok (.bipush 44, 2) := by decide +kernel
theorem dX8_keep_16 : decode cX8_keep 16 = .ok (.iload_n 1, 1) := by decide +kernel
theorem dX8_keep_17 : decode cX8_keep 17 = .ok (.iconst 1, 1) := by decide +kernel
theorem dX8_keep_18 : decode cX8_keep 18 = .ok (.iadd, 1) := by decide +kernel
theorem dX8_keep_19 : decode cX8_keep 19 = .ok (.imul, 1) := by decide +kernel
theorem dX8_keep_20 : decode cX8_keep 20 = .ok (.invokevirtual 190, 3) := by decide +kernel
theorem dX8_keep_23 : decode cX8_keep 23 = .ok (.aload_n 0, 1) := by decide +kernel
theorem dX8_keep_24 : decode cX8_keep 24 = .ok (.getfield 31, 3) := by decide +kernel
theorem dX8_keep_27 : decode cX8_keep 27 = .ok (.iload_n 1, 1) := by decide +kernel
theorem dX8_keep_28 : decode cX8_keep 28 = .ok (.baload, 1) := by decide +kernel
theorem dX8_keep_29 : decode cX8_keep 29 = .ok (.ifCond .eq 7, 3) := by decide +kernel
theorem dX8_keep_32 : decode cX8_keep 32 = .ok (.iconst 1, 1) := by decide +kernel
theorem dX8_keep_33 : decode cX8_keep 33 = .ok (.goto 4, 3) := by decide +kernel
theorem dX8_keep_36 : decode cX8_keep 36 = .ok (.iconst 0, 1) := by decide +kernel
theorem dX8_keep_37 : decode cX8_keep 37 = .ok (.istore_n 2, 1) := by decide +kernel
theorem dX8_keep_38 : decode cX8_keep 38 = .ok (.aload_n 0, 1) := by decide +kernel
theorem dX8_keep_39 : decode cX8_keep 39 = .ok (.getfield 31, 3) := by decide +kernel
theorem dX8_keep_42 : decode cX8_keep 42 = .ok (.iload_n 1, 1) := by decide +kernel
theorem dX8_keep_43 : decode cX8_keep 43 = .ok (.iconst 1, 1) := by decide +kernel
theorem dX8_keep_44 : decode cX8_keep 44 = .ok (.bastore, 1) := by decide +kernel
theorem dX8_keep_45 : decode cX8_keep 45 = .ok (.iload_n 2, 1) := by decide +kernel
theorem dX8_keep_46 : decode cX8_keep 46 = .ok (.ireturn, 1) := by decide +kernel
theorem dX8_back_0 : decode cX8_back 0 = .ok (.iload_n 1, 1) := by decide +kernel
theorem dX8_back_1 : decode cX8_back 1 = .ok (.i2l, 1) := by decide +kernel
theorem dX8_back_2 : decode cX8_back 2 = .ok (.lconst 0, 1) := by decide +kernel
theorem dX8_back_3 : decode cX8_back 3 = .ok (.lconst 1, 1) := by decide +kernel
theorem dX8_back_4 : decode cX8_back 4 = .ok (.invokestatic 46, 3) := by decide +kernel
theorem dX8_back_7 : decode cX8_back 7 = .ok (.ifCond .ne 5, 3) := by decide +kernel
theorem dX8_back_10 : decode cX8_back 10 = .ok (.iconst (-1), 1) := by decide +kernel
theorem dX8_back_11 : decode cX8_back 11 = .ok (.ireturn, 1) := by decide +kernel
theorem dX8_back_12 : decode cX8_back 12 = .ok (.aload_n 0, 1) := by decide +kernel
theorem dX8_back_13 : decode cX8_back 13 = .ok (.getfield 31, 3) := by decide +kernel
theorem dX8_back_16 : decode cX8_back 16 = .ok (.iload_n 1, 1) := by decide +kernel
theorem dX8_back_17 : decode cX8_back 17 = .ok (.baload, 1) := by decide +kernel
theorem dX8_back_18 : decode cX8_back 18 = .ok (.ifCond .ne 6, 3) := by decide +kernel
theorem dX8_back_21 : decode cX8_back 21 = .ok (.bipush (-2), 2) := by decide +kernel
theorem dX8_back_23 : decode cX8_back 23 = .ok (.ireturn, 1) := by decide +kernel
theorem dX8_back_24 : decode cX8_back 24 = .ok (.aload_n 0, 1) := by decide +kernel
theorem dX8_back_25 : decode cX8_back 25 = .ok (.bipush 44, 2) := by decide +kernel
theorem dX8_back_27 : decode cX8_back 27 = .ok (.iload_n 1, 1) := by decide +kernel
theorem dX8_back_28 : decode cX8_back 28 = .ok (.iconst 1, 1) := by decide +kernel
theorem dX8_back_29 : decode cX8_back 29 = .ok (.iadd, 1) := by decide +kernel
theorem dX8_back_30 : decode cX8_back 30 = .ok (.imul, 1) := by decide +kernel
theorem dX8_back_31 : decode cX8_back 31 = .ok (.iconst 0, 1) := by decide +kernel
theorem dX8_back_32 : decode cX8_back 32 = .ok (.invokevirtual 190, 3) := by decide +kernel
theorem dX8_back_35 : decode cX8_back 35 = .ok (.aload_n 0, 1) := by decide +kernel
theorem dX8_back_36 : decode cX8_back 36 = .ok (.getfield 7, 3) := by decide +kernel
theorem dX8_back_39 : decode cX8_back 39 = .ok (.bipush 42, 2) := by decide +kernel
theorem dX8_back_41 : decode cX8_back 41 = .ok (.iaload, 1) := by decide +kernel
theorem dX8_back_42 : decode cX8_back 42 = .ok (.ireturn, 1) := by decide +kernel
theorem dX8_sheet_0 : decode cX8_sheet 0 = .ok (.iload_n 1, 1) := by decide +kernel
theorem dX8_sheet_1 : decode cX8_sheet 1 = .ok (.i2l, 1) := by decide +kernel
theorem dX8_sheet_2 : decode cX8_sheet 2 = .ok (.lconst 0, 1) := by decide +kernel
theorem dX8_sheet_3 : decode cX8_sheet 3 = .ok (.ldc2_w 155, 3) := by decide +kernel
theorem dX8_sheet_6 : decode cX8_sheet 6 = .ok (.invokestatic 46, 3) := by decide +kernel
theorem dX8_sheet_9 : decode cX8_sheet 9 = .ok (.ifCond .eq 21, 3) := by decide +kernel
theorem dX8_sheet_12 : decode cX8_sheet 12 = .ok (.iload_n 2, 1) := by decide +kernel
theorem dX8_sheet_13 : decode cX8_sheet 13 = .ok (.i2l, 1) := by decide +kernel
theorem dX8_sheet_14 : decode cX8_sheet 14 = .ok (.lconst 0, 1) := by decide +kernel
theorem dX8_sheet_15 : decode cX8_sheet 15 = .ok (.ldc2_w 229, 3) := by decide +kernel
theorem dX8_sheet_18 : decode cX8_sheet 18 = .ok (.invokestatic 46, 3) := by decide +kernel
theorem dX8_sheet_21 : decode cX8_sheet 21 = .ok (.ifCond .eq 9, 3) := by decide +kernel
theorem dX8_sheet_24 : decode cX8_sheet 24 = .ok (.iload_n 3, 1) := by decide +kernel
theorem dX8_sheet_25 : decode cX8_sheet 25 = .ok (.bipush 40, 2) := by decide +kernel
theorem dX8_sheet_27 : decode cX8_sheet 27 = .ok (.if_icmp .le 5, 3) := by decide +kernel
theorem dX8_sheet_30 : decode cX8_sheet 30 = .ok (.iconst (-1), 1) := by decide +kernel
theorem dX8_sheet_31 : decode cX8_sheet 31 = .ok (.ireturn, 1) := by decide +kernel
theorem dX8_sheet_32 : decode cX8_sheet 32 = .ok (.iload_n 3, 1) := by decide +kernel
theorem dX8_sheet_33 : decode cX8_sheet 33 = .ok (.ifCond .ge 6, 3) := by decide +kernel
theorem dX8_sheet_36 : decode cX8_sheet 36 = .ok (.bipush (-14), 2) := by decide +kernel
theorem dX8_sheet_38 : decode cX8_sheet 38 = .ok (.ireturn, 1) := by decide +kernel
theorem dX8_sheet_39 : decode cX8_sheet 39 = .ok (.aload_n 0, 1) := by decide +kernel
theorem dX8_sheet_40 : decode cX8_sheet 40 = .ok (.getfield 35, 3) := by decide +kernel
theorem dX8_sheet_43 : decode cX8_sheet 43 = .ok (.iload_n 1, 1) := by decide +kernel
theorem dX8_sheet_44 : decode cX8_sheet 44 = .ok (.iload_n 2, 1) := by decide +kernel
theorem dX8_sheet_45 : decode cX8_sheet 45 = .ok (.iastore, 1) := by decide +kernel
theorem dX8_sheet_46 : decode cX8_sheet 46 = .ok (.aload_n 0, 1) := by decide +kernel
theorem dX8_sheet_47 : decode cX8_sheet 47 = .ok (.getfield 38, 3) := by decide +kernel
theorem dX8_sheet_50 : decode cX8_sheet 50 = .ok (.iload_n 1, 1) := by decide +kernel
theorem dX8_sheet_51 : decode cX8_sheet 51 = .ok (.iload_n 3, 1) := by decide +kernel
theorem dX8_sheet_52 : decode cX8_sheet 52 = .ok (.iastore, 1) := by decide +kernel
theorem dX8_sheet_53 : decode cX8_sheet 53 = .ok (.iconst 0, 1) := by decide +kernel
theorem dX8_sheet_54 : decode cX8_sheet 54 = .ok (.istore 4, 2) := by decide +kernel
theorem dX8_sheet_56 : decode cX8_sheet 56 = .ok (.iload 4, 2) := by decide +kernel
theorem dX8_sheet_58 : decode cX8_sheet 58 = .ok (.bipush 40, 2) := by decide +kernel
theorem dX8_sheet_60 : decode cX8_sheet 60 = .ok (.if_icmp .ge 22, 3) := by decide +kernel
theorem dX8_sheet_63 : decode cX8_sheet 63 = .ok (.aload_n 0, 1) := by decide +kernel
theorem dX8_sheet_64 : decode cX8_sheet 64 = .ok (.getfield 41, 3) := by decide +kernel
theorem dX8_sheet_67 : decode cX8_sheet 67 = .ok (.bipush 40, 2) := by decide +kernel
theorem dX8_sheet_69 : decode cX8_sheet 69 = .ok (.iload_n 1, 1) := by decide +kernel
theorem dX8_sheet_70 : decode cX8_sheet 70 = .ok (.imul, 1) := by decide +kernel
theorem dX8_sheet_71 : decode cX8_sheet 71 = .ok (.iload 4, 2) := by decide +kernel
theorem dX8_sheet_73 : decode cX8_sheet 73 = .ok (.iadd, 1) := by decide +kernel
theorem dX8_sheet_74 : decode cX8_sheet 74 = .ok (.iconst 0, 1) := by decide +kernel
theorem dX8_sheet_75 : decode cX8_sheet 75 = .ok (.iastore, 1) := by decide +kernel
theorem dX8_sheet_76 : decode cX8_sheet 76 = .ok (.iinc 4 1, 3) := by decide +kernel
theorem dX8_sheet_79 : decode cX8_sheet 79 = .ok (.goto (-23), 3) := by decide +kernel
theorem dX8_sheet_82 : decode cX8_sheet 82 = .ok (.iconst 1, 1) := by decide +kernel
theorem dX8_sheet_83 : decode cX8_sheet 83 = .ok (.ireturn, 1) := by decide +kernel
theorem dX8_lay_0 : decode cX8_lay 0 = .ok (.iload_n 1, 1) := by decide +kernel
theorem dX8_lay_1 : decode cX8_lay 1 = .ok (.i2l, 1) := by decide +kernel
theorem dX8_lay_2 : decode cX8_lay 2 = .ok (.lconst 0, 1) := by decide +kernel
theorem dX8_lay_3 : decode cX8_lay 3 = .ok (.ldc2_w 155, 3) := by decide +kernel
theorem dX8_lay_6 : decode cX8_lay 6 = .ok (.invokestatic 46, 3) := by decide +kernel
theorem dX8_lay_9 : decode cX8_lay 9 = .ok (.ifCond .ne 5, 3) := by decide +kernel
theorem dX8_lay_12 : decode cX8_lay 12 = .ok (.iconst (-1), 1) := by decide +kernel
theorem dX8_lay_13 : decode cX8_lay 13 = .ok (.ireturn, 1) := by decide +kernel
theorem dX8_lay_14 : decode cX8_lay 14 = .ok (.aload_n 0, 1) := by decide +kernel
theorem dX8_lay_15 : decode cX8_lay 15 = .ok (.getfield 35, 3) := by decide +kernel
theorem dX8_lay_18 : decode cX8_lay 18 = .ok (.iload_n 1, 1) := by decide +kernel
theorem dX8_lay_19 : decode cX8_lay 19 = .ok (.iaload, 1) := by decide +kernel
theorem dX8_lay_20 : decode cX8_lay 20 = .ok (.bipush (-4), 2) := by decide +kernel
theorem dX8_lay_22 : decode cX8_lay 22 = .ok (.if_icmp .ne 6, 3) := by decide +kernel
theorem dX8_lay_25 : decode cX8_lay 25 = .ok (.bipush (-11), 2) := by decide +kernel
theorem dX8_lay_27 : decode cX8_lay 27 = .ok (.ireturn, 1) := by decide +kernel
theorem dX8_lay_28 : decode cX8_lay 28 = .ok (.iload_n 2, 1) := by decide +kernel
theorem dX8_lay_29 : decode cX8_lay 29 = .ok (.i2l, 1) := by decide +kernel
theorem dX8_lay_30 : decode cX8_lay 30 = .ok (.lconst 0, 1) := by decide +kernel
theorem dX8_lay_31 : decode cX8_lay 31 = .ok (.aload_n 0, 1) := by decide +kernel
theorem dX8_lay_32 : decode cX8_lay 32 = .ok (.getfield 38, 3) := by decide +kernel
theorem dX8_lay_35 : decode cX8_lay 35 = .ok (.iload_n 1, 1) := by decide +kernel
theorem dX8_lay_36 : decode cX8_lay 36 = .ok (.iaload, 1) := by decide +kernel
theorem dX8_lay_37 : decode cX8_lay 37 = .ok (.iconst 1, 1) := by decide +kernel
theorem dX8_lay_38 : decode cX8_lay 38 = .ok (.isub, 1) := by decide +kernel
theorem dX8_lay_39 : decode cX8_lay 39 = .ok (.i2l, 1) := by decide +kernel
theorem dX8_lay_40 : decode cX8_lay 40 = .ok (.invokestatic 46, 3) := by decide +kernel
theorem dX8_lay_43 : decode cX8_lay 43 = .ok (.ifCond .ne 6, 3) := by decide +kernel
theorem dX8_lay_46 : decode cX8_lay 46 = .ok (.bipush (-12), 2) := by decide +kernel
theorem dX8_lay_48 : decode cX8_lay 48 = .ok (.ireturn, 1) := by decide +kernel
theorem dX8_lay_49 : decode cX8_lay 49 = .ok (.aload_n 0, 1) := by decide +kernel
theorem dX8_lay_50 : decode cX8_lay 50 = .ok (.getfield 41, 3) := by decide +kernel
theorem dX8_lay_53 : decode cX8_lay 53 = .ok (.bipush 40, 2) := by decide +kernel
theorem dX8_lay_55 : decode cX8_lay 55 = .ok (.iload_n 1, 1) := by decide +kernel
theorem dX8_lay_56 : decode cX8_lay 56 = .ok (.imul, 1) := by decide +kernel
theorem dX8_lay_57 : decode cX8_lay 57 = .ok (.iload_n 2, 1) := by decide +kernel
theorem dX8_lay_58 : decode cX8_lay 58 = .ok (.iadd, 1) := by decide +kernel
theorem dX8_lay_59 : decode cX8_lay 59 = .ok (.aload_n 0, 1) := by decide +kernel
theorem dX8_lay_60 : decode cX8_lay 60 = .ok (.getfield 35, 3) := by decide +kernel
theorem dX8_lay_63 : decode cX8_lay 63 = .ok (.iload_n 1, 1) := by decide +kernel
theorem dX8_lay_64 : decode cX8_lay 64 = .ok (.iaload, 1) := by decide +kernel
theorem dX8_lay_65 : decode cX8_lay 65 = .ok (.ifCond .ne 13, 3) := by decide +kernel
theorem dX8_lay_68 : decode cX8_lay 68 = .ok (.iload_n 3, 1) := by decide +kernel
theorem dX8_lay_69 : decode cX8_lay 69 = .ok (.bipush 24, 2) := by decide +kernel
theorem dX8_lay_71 : decode cX8_lay 71 = .ok (.ishl, 1) := by decide +kernel
theorem dX8_lay_72 : decode cX8_lay 72 = .ok (.bipush 24, 2) := by decide +kernel
theorem dX8_lay_74 : decode cX8_lay 74 = .ok (.ishr, 1) := by decide +kernel
theorem dX8_lay_75 : decode cX8_lay 75 = .ok (.goto 24, 3) := by decide +kernel
theorem dX8_lay_78 : decode cX8_lay 78 = .ok (.aload_n 0, 1) := by decide +kernel
theorem dX8_lay_79 : decode cX8_lay 79 = .ok (.getfield 35, 3) := by decide +kernel
theorem dX8_lay_82 : decode cX8_lay 82 = .ok (.iload_n 1, 1) := by decide +kernel
theorem dX8_lay_83 : decode cX8_lay 83 = .ok (.iaload, 1) := by decide +kernel
theorem dX8_lay_84 : decode cX8_lay 84 = .ok (.iconst 1, 1) := by decide +kernel
theorem dX8_lay_85 : decode cX8_lay 85 = .ok (.if_icmp .ne 13, 3) := by decide +kernel
theorem dX8_lay_88 : decode cX8_lay 88 = .ok (.iload_n 3, 1) := by decide +kernel
theorem dX8_lay_89 : decode cX8_lay 89 = .ok (.bipush 16, 2) := by decide +kernel
theorem dX8_lay_91 : decode cX8_lay 91 = .ok (.ishl, 1) := by decide +kernel
theorem dX8_lay_92 : decode cX8_lay 92 = .ok (.bipush 16, 2) := by decide +kernel
theorem dX8_lay_94 : decode cX8_lay 94 = .ok (.ishr, 1) := by decide +kernel
theorem dX8_lay_95 : decode cX8_lay 95 = .ok (.goto 4, 3) := by decide +kernel
theorem dX8_lay_98 : decode cX8_lay 98 = .ok (.iload_n 3, 1) := by decide +kernel
theorem dX8_lay_99 : decode cX8_lay 99 = .ok (.iastore, 1) := by decide +kernel
theorem dX8_lay_100 : decode cX8_lay 100 = .ok (.iconst 1, 1) := by decide +kernel
theorem dX8_lay_101 : decode cX8_lay 101 = .ok (.ireturn, 1) := by decide +kernel
theorem dX8_read_0 : decode cX8_read 0 = .ok (.iload_n 1, 1) := by decide +kernel
theorem dX8_read_1 : decode cX8_read 1 = .ok (.i2l, 1) := by decide +kernel
theorem dX8_read_2 : decode cX8_read 2 = .ok (.lconst 0, 1) := by decide +kernel
theorem dX8_read_3 : decode cX8_read 3 = .ok (.ldc2_w 155, 3) := by decide +kernel
theorem dX8_read_6 : decode cX8_read 6 = .ok (.invokestatic 46, 3) := by decide +kernel
theorem dX8_read_9 : decode cX8_read 9 = .ok (.ifCond .eq 28, 3) := by decide +kernel
theorem dX8_read_12 : decode cX8_read 12 = .ok (.iload_n 2, 1) := by decide +kernel
theorem dX8_read_13 : decode cX8_read 13 = .ok (.i2l, 1) := by decide +kernel
theorem dX8_read_14 : decode cX8_read 14 = .ok (.lconst 0, 1) := by decide +kernel
theorem dX8_read_15 : decode cX8_read 15 = .ok (.ldc2_w 229, 3) := by decide +kernel
theorem dX8_read_18 : decode cX8_read 18 = .ok (.invokestatic 46, 3) := by decide +kernel
theorem dX8_read_21 : decode cX8_read 21 = .ok (.ifCond .eq 16, 3) := by decide +kernel
theorem dX8_read_24 : decode cX8_read 24 = .ok (.iload 4, 2) := by decide +kernel
theorem dX8_read_26 : decode cX8_read 26 = .ok (.i2l, 1) := by decide +kernel
theorem dX8_read_27 : decode cX8_read 27 = .ok (.lconst 0, 1) := by decide +kernel
theorem dX8_read_28 : decode cX8_read 28 = .ok (.ldc2_w 217, 3) := by decide +kernel
theorem dX8_read_31 : decode cX8_read 31 = .ok (.invokestatic 46, 3) := by decide +kernel
theorem dX8_read_34 : decode cX8_read 34 = .ok (.ifCond .ne 5, 3) := by decide +kernel
theorem dX8_read_37 : decode cX8_read 37 = .ok (.iconst (-1), 1) := by decide +kernel
theorem dX8_read_38 : decode cX8_read 38 = .ok (.ireturn, 1) := by decide +kernel
theorem dX8_read_39 : decode cX8_read 39 = .ok (.aload_n 0, 1) := by decide +kernel
theorem dX8_read_40 : decode cX8_read 40 = .ok (.iconst 0, 1) := by decide +kernel
theorem dX8_read_41 : decode cX8_read 41 = .ok (.sipush 132, 3) := by decide +kernel
theorem dX8_read_44 : decode cX8_read 44 = .ok (.invokevirtual 190, 3) := by decide +kernel
theorem dX8_read_47 : decode cX8_read 47 = .ok (.iconst 0, 1) := by decide +kernel
theorem dX8_read_48 : decode cX8_read 48 = .ok (.istore 5, 2) := by decide +kernel
theorem dX8_read_50 : decode cX8_read 50 = .ok (.iconst 0, 1) := by decide +kernel
theorem dX8_read_51 : decode cX8_read 51 = .ok (.istore 6, 2) := by decide +kernel
theorem dX8_read_53 : decode cX8_read 53 = .ok (.iconst 0, 1) := by decide +kernel
theorem dX8_read_54 : decode cX8_read 54 = .ok (.istore 7, 2) := by decide +kernel
theorem dX8_read_56 : decode cX8_read 56 = .ok (.iload 7, 2) := by decide +kernel
theorem dX8_read_58 : decode cX8_read 58 = .ok (.iconst 2, 1) := by decide +kernel
theorem dX8_read_59 : decode cX8_read 59 = .ok (.iload 4, 2) := by decide +kernel
theorem dX8_read_61 : decode cX8_read 61 = .ok (.imul, 1) := by decide +kernel
theorem dX8_read_62 : decode cX8_read 62 = .ok (.if_icmp .ge 156, 3) := by decide +kernel
theorem dX8_read_65 : decode cX8_read 65 = .ok (.iload 5, 2) := by decide +kernel
theorem dX8_read_67 : decode cX8_read 67 = .ok (.ifCond .ne 151, 3) := by decide +kernel
theorem dX8_read_70 : decode cX8_read 70 = .ok (.aload_n 0, 1) := by decide +kernel
theorem dX8_read_71 : decode cX8_read 71 = .ok (.getfield 35, 3) := by decide +kernel
theorem dX8_read_74 : decode cX8_read 74 = .ok (.iload_n 1, 1) := by decide +kernel
theorem dX8_read_75 : decode cX8_read 75 = .ok (.iaload, 1) := by decide +kernel
theorem dX8_read_76 : decode cX8_read 76 = .ok (.bipush (-4), 2) := by decide +kernel
theorem dX8_read_78 : decode cX8_read 78 = .ok (.if_icmp .ne 7, 3) := by decide +kernel
theorem dX8_read_81 : decode cX8_read 81 = .ok (.iconst 1, 1) := by decide +kernel
theorem dX8_read_82 : decode cX8_read 82 = .ok (.goto 44, 3) := by decide +kernel
theorem dX8_read_85 : decode cX8_read 85 = .ok (.aload_n 0, 1) := by decide +kernel
theorem dX8_read_86 : decode cX8_read 86 = .ok (.getfield 35, 3) := by decide +kernel
theorem dX8_read_89 : decode cX8_read 89 = .ok (.iload_n 1, 1) := by decide +kernel
theorem dX8_read_90 : decode cX8_read 90 = .ok (.iaload, 1) := by decide +kernel
theorem dX8_read_91 : decode cX8_read 91 = .ok (.iload_n 2, 1) := by decide +kernel
theorem dX8_read_92 : decode cX8_read 92 = .ok (.if_icmp .eq 7, 3) := by decide +kernel
theorem dX8_read_95 : decode cX8_read 95 = .ok (.iconst 3, 1) := by decide +kernel
theorem dX8_read_96 : decode cX8_read 96 = .ok (.goto 30, 3) := by decide +kernel
theorem dX8_read_99 : decode cX8_read 99 = .ok (.iload_n 3, 1) := by decide +kernel
theorem dX8_read_100 : decode cX8_read 100 = .ok (.i2l, 1) := by decide +kernel
theorem dX8_read_101 : decode cX8_read 101 = .ok (.iload 7, 2) := by decide +kernel
theorem dX8_read_103 : decode cX8_read 103 = .ok (.i2l, 1) := by decide +kernel
theorem dX8_read_104 : decode cX8_read 104 = .ok (.ladd, 1) := by decide +kernel
theorem dX8_read_105 : decode cX8_read 105 = .ok (.lconst 0, 1) := by decide +kernel
theorem dX8_read_106 : decode cX8_read 106 = .ok (.aload_n 0, 1) := by decide +kernel
theorem dX8_read_107 : decode cX8_read 107 = .ok (.getfield 38, 3) := by decide +kernel
theorem dX8_read_110 : decode cX8_read 110 = .ok (.iload_n 1, 1) := by decide +kernel
theorem dX8_read_111 : decode cX8_read 111 = .ok (.iaload, 1) := by decide +kernel
theorem dX8_read_112 : decode cX8_read 112 = .ok (.iconst 1, 1) := by decide +kernel
theorem dX8_read_113 : decode cX8_read 113 = .ok (.isub, 1) := by decide +kernel
theorem dX8_read_114 : decode cX8_read 114 = .ok (.i2l, 1) := by decide +kernel
theorem dX8_read_115 : decode cX8_read 115 = .ok (.invokestatic 46, 3) := by decide +kernel
theorem dX8_read_118 : decode cX8_read 118 = .ok (.ifCond .ne 7, 3) := by decide +kernel
theorem dX8_read_121 : decode cX8_read 121 = .ok (.iconst 2, 1) := by decide +kernel
theorem dX8_read_122 : decode cX8_read 122 = .ok (.goto 4, 3) := by decide +kernel
theorem dX8_read_125 : decode cX8_read 125 = .ok (.iconst 0, 1) := by decide +kernel
theorem dX8_read_126 : decode cX8_read 126 = .ok (.istore 5, 2) := by decide +kernel
theorem dX8_read_128 : decode cX8_read 128 = .ok (.iload 5, 2) := by decide +kernel
theorem dX8_read_130 : decode cX8_read 130 = .ok (.ifCond .ne 82, 3) := by decide +kernel
theorem dX8_read_133 : decode cX8_read 133 = .ok (.iload 7, 2) := by decide +kernel
theorem dX8_read_135 : decode cX8_read 135 = .ok (.iconst 2, 1) := by decide +kernel
theorem dX8_read_136 : decode cX8_read 136 = .ok (.irem, 1) := by decide +kernel
theorem dX8_read_137 : decode cX8_read 137 = .ok (.iconst 1, 1) := by decide +kernel
theorem dX8_read_138 : decode cX8_read 138 = .ok (.if_icmp .ne 74, 3) := by decide +kernel
theorem dX8_read_141 : decode cX8_read 141 = .ok (.bipush 40, 2) := by decide +kernel
theorem dX8_read_143 : decode cX8_read 143 = .ok (.iload_n 1, 1) := by decide +kernel
theorem dX8_read_144 : decode cX8_read 144 = .ok (.imul, 1) := by decide +kernel
theorem dX8_read_145 : decode cX8_read 145 = .ok (.iload_n 3, 1) := by decide +kernel
theorem dX8_read_146 : decode cX8_read 146 = .ok (.iadd, 1) := by decide +kernel
theorem dX8_read_147 : decode cX8_read 147 = .ok (.iload 7, 2) := by decide +kernel
theorem dX8_read_149 : decode cX8_read 149 = .ok (.iadd, 1) := by decide +kernel
theorem dX8_read_150 : decode cX8_read 150 = .ok (.istore 8, 2) := by decide +kernel
theorem dX8_read_152 : decode cX8_read 152 = .ok (.aload_n 0, 1) := by decide +kernel
theorem dX8_read_153 : decode cX8_read 153 = .ok (.getfield 7, 3) := by decide +kernel
theorem dX8_read_156 : decode cX8_read 156 = .ok (.bipush 42, 2) := by decide +kernel
theorem dX8_read_158 : decode cX8_read 158 = .ok (.iaload, 1) := by decide +kernel
theorem dX8_read_159 : decode cX8_read 159 = .ok (.sipush 999, 3) := by decide +kernel
theorem dX8_read_162 : decode cX8_read 162 = .ok (.if_icmp .eq 27, 3) := by decide +kernel
theorem dX8_read_165 : decode cX8_read 165 = .ok (.aload_n 0, 1) := by decide +kernel
theorem dX8_read_166 : decode cX8_read 166 = .ok (.aload_n 0, 1) := by decide +kernel
theorem dX8_read_167 : decode cX8_read 167 = .ok (.getfield 41, 3) := by decide +kernel
theorem dX8_read_170 : decode cX8_read 170 = .ok (.iload 8, 2) := by decide +kernel
theorem dX8_read_172 : decode cX8_read 172 = .ok (.iconst 1, 1) := by decide +kernel
theorem dX8_read_173 : decode cX8_read 173 = .ok (.isub, 1) := by decide +kernel
theorem dX8_read_174 : decode cX8_read 174 = .ok (.iaload, 1) := by decide +kernel
theorem dX8_read_175 : decode cX8_read 175 = .ok (.iconst 1, 1) := by decide +kernel
theorem dX8_read_176 : decode cX8_read 176 = .ok (.aload_n 0, 1) := by decide +kernel
theorem dX8_read_177 : decode cX8_read 177 = .ok (.getfield 41, 3) := by decide +kernel
theorem dX8_read_180 : decode cX8_read 180 = .ok (.iload 8, 2) := by decide +kernel
theorem dX8_read_182 : decode cX8_read 182 = .ok (.iaload, 1) := by decide +kernel
theorem dX8_read_183 : decode cX8_read 183 = .ok (.invokevirtual 169, 3) := by decide +kernel
theorem dX8_read_186 : decode cX8_read 186 = .ok (.ifCond .ge 17, 3) := by decide +kernel
theorem dX8_read_189 : decode cX8_read 189 = .ok (.aload_n 0, 1) := by decide +kernel
theorem dX8_read_190 : decode cX8_read 190 = .ok (.sipush 132, 3) := by decide +kernel
theorem dX8_read_193 : decode cX8_read 193 = .ok (.iconst 0, 1) := by decide +kernel
theorem dX8_read_194 : decode cX8_read 194 = .ok (.invokevirtual 190, 3) := by decide +kernel
theorem dX8_read_197 : decode cX8_read 197 = .ok (.bipush (-20), 2) := by decide +kernel
theorem dX8_read_199 : decode cX8_read 199 = .ok (.iload 6, 2) := by decide +kernel
theorem dX8_read_201 : decode cX8_read 201 = .ok (.isub, 1) := by decide +kernel
theorem dX8_read_202 : decode cX8_read 202 = .ok (.ireturn, 1) := by decide +kernel
theorem dX8_read_203 : decode cX8_read 203 = .ok (.aload_n 0, 1) := by decide +kernel
theorem dX8_read_204 : decode cX8_read 204 = .ok (.iconst 0, 1) := by decide +kernel
theorem dX8_read_205 : decode cX8_read 205 = .ok (.iconst 0, 1) := by decide +kernel
theorem dX8_read_206 : decode cX8_read 206 = .ok (.invokevirtual 186, 3) := by decide +kernel
theorem dX8_read_209 : decode cX8_read 209 = .ok (.iinc 6 1, 3) := by decide +kernel
theorem dX8_read_212 : decode cX8_read 212 = .ok (.iinc 7 1, 3) := by decide +kernel
theorem dX8_read_215 : decode cX8_read 215 = .ok (.goto (-159), 3) := by decide +kernel
theorem dX8_read_218 : decode cX8_read 218 = .ok (.aload_n 0, 1) := by decide +kernel
theorem dX8_read_219 : decode cX8_read 219 = .ok (.iload 5, 2) := by decide +kernel
theorem dX8_read_221 : decode cX8_read 221 = .ok (.putfield 231, 3) := by decide +kernel
theorem dX8_read_224 : decode cX8_read 224 = .ok (.iload 6, 2) := by decide +kernel
theorem dX8_read_226 : decode cX8_read 226 = .ok (.ireturn, 1) := by decide +kernel
theorem dX8_torn_0 : decode cX8_torn 0 = .ok (.aload_n 0, 1) := by decide +kernel
theorem dX8_torn_1 : decode cX8_torn 1 = .ok (.getfield 231, 3) := by decide +kernel
theorem dX8_torn_4 : decode cX8_torn 4 = .ok (.ireturn, 1) := by decide +kernel
theorem dX8_count_0 : decode cX8_count 0 = .ok (.iconst 0, 1) := by decide +kernel
theorem dX8_count_1 : decode cX8_count 1 = .ok (.istore_n 2, 1) := by decide +kernel
theorem dX8_count_2 : decode cX8_count 2 = .ok (.iconst 0, 1) := by decide +kernel
theorem dX8_count_3 : decode cX8_count 3 = .ok (.istore_n 3, 1) := by decide +kernel
theorem dX8_count_4 : decode cX8_count 4 = .ok (.iconst 0, 1) := by decide +kernel
theorem dX8_count_5 : decode cX8_count 5 = .ok (.istore 4, 2) := by decide +kernel
theorem dX8_count_7 : decode cX8_count 7 = .ok (.iload 4, 2) := by decide +kernel
theorem dX8_count_9 : decode cX8_count 9 = .ok (.bipush 6, 2) := by decide +kernel
theorem dX8_count_11 : decode cX8_count 11 = .ok (.if_icmp .ge 24, 3) := by decide +kernel
theorem dX8_count_14 : decode cX8_count 14 = .ok (.iload_n 2, 1) := by decide +kernel
theorem dX8_count_15 : decode cX8_count 15 = .ok (.aload_n 0, 1) := by decide +kernel
theorem dX8_count_16 : decode cX8_count 16 = .ok (.getfield 7, 3) := by decide +kernel
theorem dX8_count_19 : decode cX8_count 19 = .ok (.bipush 6, 2) := by decide +kernel
theorem dX8_count_21 : decode cX8_count 21 = .ok (.iload 4, 2) := by decide +kernel
theorem dX8_count_23 : decode cX8_count 23 = .ok (.iadd, 1) := by decide +kernel
theorem dX8_count_24 : decode cX8_count 24 = .ok (.iaload, 1) := by decide +kernel
theorem dX8_count_25 : decode cX8_count 25 = .ok (.iconst 2, 1) := by decide +kernel
theorem dX8_count_26 : decode cX8_count 26 = .ok (.iadd, 1) := by decide +kernel
theorem dX8_count_27 : decode cX8_count 27 = .ok (.iadd, 1) := by decide +kernel
theorem dX8_count_28 : decode cX8_count 28 = .ok (.istore_n 2, 1) := by decide +kernel
theorem dX8_count_29 : decode cX8_count 29 = .ok (.iinc 4 1, 3) := by decide +kernel
theorem dX8_count_32 : decode cX8_count 32 = .ok (.goto (-25), 3) := by decide +kernel
theorem dX8_count_35 : decode cX8_count 35 = .ok (.iconst 0, 1) := by decide +kernel
theorem dX8_count_36 : decode cX8_count 36 = .ok (.istore 4, 2) := by decide +kernel
theorem dX8_count_38 : decode cX8_count 38 = .ok (.iload 4, 2) := by decide +kernel
theorem dX8_count_40 : decode cX8_count 40 = .ok (.aload_n 0, 1) := by decide +kernel
theorem dX8_count_41 : decode cX8_count 41 = .ok (.getfield 7, 3) := by decide +kernel
theorem dX8_count_44 : decode cX8_count 44 = .ok (.bipush 41, 2) := by decide +kernel
theorem dX8_count_46 : decode cX8_count 46 = .ok (.iaload, 1) := by decide +kernel
theorem dX8_count_47 : decode cX8_count 47 = .ok (.if_icmp .ge 22, 3) := by decide +kernel
theorem dX8_count_50 : decode cX8_count 50 = .ok (.iload_n 3, 1) := by decide +kernel
theorem dX8_count_51 : decode cX8_count 51 = .ok (.aload_n 0, 1) := by decide +kernel
theorem dX8_count_52 : decode cX8_count 52 = .ok (.getfield 7, 3) := by decide +kernel
theorem dX8_count_55 : decode cX8_count 55 = .ok (.bipush 38, 2) := by decide +kernel
theorem dX8_count_57 : decode cX8_count 57 = .ok (.iload 4, 2) := by decide +kernel
theorem dX8_count_59 : decode cX8_count 59 = .ok (.iadd, 1) := by decide +kernel
theorem dX8_count_60 : decode cX8_count 60 = .ok (.iaload, 1) := by decide +kernel
theorem dX8_count_61 : decode cX8_count 61 = .ok (.iadd, 1) := by decide +kernel
theorem dX8_count_62 : decode cX8_count 62 = .ok (.istore_n 3, 1) := by decide +kernel
theorem dX8_count_63 : decode cX8_count 63 = .ok (.iinc 4 1, 3) := by decide +kernel
theorem dX8_count_66 : decode cX8_count 66 = .ok (.goto (-28), 3) := by decide +kernel
theorem dX8_count_69 : decode cX8_count 69 = .ok (.iload_n 1, 1) := by decide +kernel
theorem dX8_count_70 : decode cX8_count 70 = .ok (.tableswitch 105 0 5 #[38, 43, 73, 78, 101, 103], 38) := by decide +kernel
theorem dX8_count_108 : decode cX8_count 108 = .ok (.aload_n 0, 1) := by decide +kernel
theorem dX8_count_109 : decode cX8_count 109 = .ok (.getfield 119, 3) := by decide +kernel
theorem dX8_count_112 : decode cX8_count 112 = .ok (.ireturn, 1) := by decide +kernel
theorem dX8_count_113 : decode cX8_count 113 = .ok (.aload_n 0, 1) := by decide +kernel
theorem dX8_count_114 : decode cX8_count 114 = .ok (.getfield 31, 3) := by decide +kernel
theorem dX8_count_117 : decode cX8_count 117 = .ok (.iconst 0, 1) := by decide +kernel
theorem dX8_count_118 : decode cX8_count 118 = .ok (.baload, 1) := by decide +kernel
theorem dX8_count_119 : decode cX8_count 119 = .ok (.ifCond .eq 7, 3) := by decide +kernel
theorem dX8_count_122 : decode cX8_count 122 = .ok (.iconst 1, 1) := by decide +kernel
theorem dX8_count_123 : decode cX8_count 123 = .ok (.goto 4, 3) := by decide +kernel
theorem dX8_count_126 : decode cX8_count 126 = .ok (.iconst 0, 1) := by decide +kernel
theorem dX8_count_127 : decode cX8_count 127 = .ok (.aload_n 0, 1) := by decide +kernel
theorem dX8_count_128 : decode cX8_count 128 = .ok (.getfield 31, 3) := by decide +kernel
theorem dX8_count_131 : decode cX8_count 131 = .ok (.iconst 1, 1) := by decide +kernel
theorem dX8_count_132 : decode cX8_count 132 = .ok (.baload, 1) := by decide +kernel
theorem dX8_count_133 : decode cX8_count 133 = .ok (.ifCond .eq 7, 3) := by decide +kernel
theorem dX8_count_136 : decode cX8_count 136 = .ok (.iconst 1, 1) := by decide +kernel
theorem dX8_count_137 : decode cX8_count 137 = .ok (.goto 4, 3) := by decide +kernel
theorem dX8_count_140 : decode cX8_count 140 = .ok (.iconst 0, 1) := by decide +kernel
theorem dX8_count_141 : decode cX8_count 141 = .ok (.iadd, 1) := by decide +kernel
theorem dX8_count_142 : decode cX8_count 142 = .ok (.ireturn, 1) := by decide +kernel
theorem dX8_count_143 : decode cX8_count 143 = .ok (.aload_n 0, 1) := by decide +kernel
theorem dX8_count_144 : decode cX8_count 144 = .ok (.getfield 50, 3) := by decide +kernel
theorem dX8_count_147 : decode cX8_count 147 = .ok (.ireturn, 1) := by decide +kernel
theorem dX8_count_148 : decode cX8_count 148 = .ok (.aload_n 0, 1) := by decide +kernel
theorem dX8_count_149 : decode cX8_count 149 = .ok (.getfield 35, 3) := by decide +kernel
theorem dX8_count_152 : decode cX8_count 152 = .ok (.iconst 0, 1) := by decide +kernel
theorem dX8_count_153 : decode cX8_count 153 = .ok (.iaload, 1) := by decide +kernel
theorem dX8_count_154 : decode cX8_count 154 = .ok (.bipush (-4), 2) := by decide +kernel
theorem dX8_count_156 : decode cX8_count 156 = .ok (.if_icmp .ne 8, 3) := by decide +kernel
theorem dX8_count_159 : decode cX8_count 159 = .ok (.bipush (-4), 2) := by decide +kernel
theorem dX8_count_161 : decode cX8_count 161 = .ok (.goto 9, 3) := by decide +kernel
theorem dX8_count_164 : decode cX8_count 164 = .ok (.aload_n 0, 1) := by decide +kernel
theorem dX8_count_165 : decode cX8_count 165 = .ok (.getfield 38, 3) := by decide +kernel
theorem dX8_count_168 : decode cX8_count 168 = .ok (.iconst 0, 1) := by decide +kernel
theorem dX8_count_169 : decode cX8_count 169 = .ok (.iaload, 1) := by decide +kernel
theorem dX8_count_170 : decode cX8_count 170 = .ok (.ireturn, 1) := by decide +kernel
theorem dX8_count_171 : decode cX8_count 171 = .ok (.iload_n 2, 1) := by decide +kernel
theorem dX8_count_172 : decode cX8_count 172 = .ok (.ireturn, 1) := by decide +kernel
theorem dX8_count_173 : decode cX8_count 173 = .ok (.iload_n 3, 1) := by decide +kernel
theorem dX8_count_174 : decode cX8_count 174 = .ok (.ireturn, 1) := by decide +kernel
theorem dX8_count_175 : decode cX8_count 175 = .ok (.iconst (-1), 1) := by decide +kernel
theorem dX8_count_176 : decode cX8_count 176 = .ok (.ireturn, 1) := by decide +kernel
