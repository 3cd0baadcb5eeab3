theorem dX10_init_0 : decode (m_code mX10_init) 0 = .ok (.aload_n 0, 1) := by decide +kernel
theorem dX10_init_1 : decode (m_code mX10_init) 1 = .ok (.invokespecial 1, 3) := by decide +kernel
theorem dX10_init_4 : decode (m_code mX10_init) 4 = .ok (.aload_n 0, 1) := by decide +kernel
theorem dX10_init_5 : decode (m_code mX10_init) 5 = .ok (.sipush 6010, 3) := by decide +kernel
theorem dX10_init_8 : decode (m_code mX10_init) 8 = .ok (.newarray .int, 2) := by decide +kernel
theorem dX10_init_10 : decode (m_code mX10_init) 10 = .ok (.putfield 7, 3) := by decide +kernel
theorem dX10_init_13 : decode (m_code mX10_init) 13 = .ok (.aload_n 0, 1) := by decide +kernel
theorem dX10_init_14 : decode (m_code mX10_init) 14 = .ok (.sipush 6010, 3) := by decide +kernel
theorem dX10_init_17 : decode (m_code mX10_init) 17 = .ok (.newarray .int, 2) := by decide +kernel
theorem dX10_init_19 : decode (m_code mX10_init) 19 = .ok (.putfield 13, 3) := by decide +kernel
theorem dX10_init_22 : decode (m_code mX10_init) 22 = .ok (.aload_n 0, 1) := by decide +kernel
theorem dX10_init_23 : decode (m_code mX10_init) 23 = .ok (.iconst 5, 1) := by decide +kernel
theorem dX10_init_24 : decode (m_code mX10_init) 24 = .ok (.newarray .int, 2) := by decide +kernel
theorem dX10_init_26 : decode (m_code mX10_init) 26 = .ok (.putfield 16, 3) := by decide +kernel
theorem dX10_init_29 : decode (m_code mX10_init) 29 = .ok (.aload_n 0, 1) := by decide +kernel
theorem dX10_init_30 : decode (m_code mX10_init) 30 = .ok (.sipush 1000, 3) := by decide +kernel
theorem dX10_init_33 : decode (m_code mX10_init) 33 = .ok (.newarray .int, 2) := by decide +kernel
theorem dX10_init_35 : decode (m_code mX10_init) 35 = .ok (.putfield 19, 3) := by decide +kernel
theorem dX10_init_38 : decode (m_code mX10_init) 38 = .ok (.aload_n 0, 1) := by decide +kernel
theorem dX10_init_39 : decode (m_code mX10_init) 39 = .ok (.bipush 7, 2) := by decide +kernel
theorem dX10_init_41 : decode (m_code mX10_init) 41 = .ok (.newarray .int, 2) := by decide +kernel
theorem dX10_init_43 : decode (m_code mX10_init) 43 = .ok (.putfield 22, 3) := by decide +kernel
theorem dX10_init_46 : decode (m_code mX10_init) 46 = .ok (.aload_n 0, 1) := by decide +kernel
theorem dX10_init_47 : decode (m_code mX10_init) 47 = .ok (.iconst 5, 1) := by decide +kernel
theorem dX10_init_48 : decode (m_code mX10_init) 48 = .ok (.newarray .int, 2) := by decide +kernel
theorem dX10_init_50 : decode (m_code mX10_init) 50 = .ok (.putfield 25, 3) := by decide +kernel
theorem dX10_init_53 : decode (m_code mX10_init) 53 = .ok (.aload_n 0, 1) := by decide +kernel
theorem dX10_init_54 : decode (m_code mX10_init) 54 = .ok (.sipush 400, 3) := by decide +kernel
theorem dX10_init_57 : decode (m_code mX10_init) 57 = .ok (.newarray .int, 2) := by decide +kernel
theorem dX10_init_59 : decode (m_code mX10_init) 59 = .ok (.putfield 28, 3) := by decide +kernel
theorem dX10_init_62 : decode (m_code mX10_init) 62 = .ok (.aload_n 0, 1) := by decide +kernel
theorem dX10_init_63 : decode (m_code mX10_init) 63 = .ok (.bipush 60, 2) := by decide +kernel
theorem dX10_init_65 : decode (m_code mX10_init) 65 = .ok (.newarray .int, 2) := by decide +kernel
theorem dX10_init_67 : decode (m_code mX10_init) 67 = .ok (.dup, 1) := by decide +kernel
theorem dX10_init_68 : decode (m_code mX10_init) 68 = .ok (.iconst 0, 1) := by decide +kernel
theorem dX10_init_69 : decode (m_code mX10_init) 69 = .ok (.bipush 32, 2) := by decide +kernel
theorem dX10_init_71 : decode (m_code mX10_init) 71 = .ok (.iastore, 1) := by decide +kernel
theorem dX10_init_72 : decode (m_code mX10_init) 72 = .ok (.dup, 1) := by decide +kernel
theorem dX10_init_73 : decode (m_code mX10_init) 73 = .ok (.iconst 1, 1) := by decide +kernel
theorem dX10_init_74 : decode (m_code mX10_init) 74 = .ok (.bipush 112, 2) := by decide +kernel
theorem dX10_init_76 : decode (m_code mX10_init) 76 = .ok (.iastore, 1) := by decide +kernel
theorem dX10_init_77 : decode (m_code mX10_init) 77 = .ok (.dup, 1) := by decide +kernel
theorem dX10_init_78 : decode (m_code mX10_init) 78 = .ok (.iconst 2, 1) := by decide +kernel
theorem dX10_init_79 : decode (m_code mX10_init) 79 = .ok (.bipush 114, 2) := by decide +kernel
theorem dX10_init_81 : decode (m_code mX10_init) 81 = .ok (.iastore, 1) := by decide +kernel
theorem dX10_init_82 : decode (m_code mX10_init) 82 = .ok (.dup, 1) := by decide +kernel
theorem dX10_init_83 : decode (m_code mX10_init) 83 = .ok (.iconst 3, 1) := by decide +kernel
theorem dX10_init_84 : decode (m_code mX10_init) 84 = .ok (.bipush 111, 2) := by decide +kernel
theorem dX10_init_86 : decode (m_code mX10_init) 86 = .ok (.iastore, 1) := by decide +kernel
theorem dX10_init_87 : decode (m_code mX10_init) 87 = .ok (.dup, 1) := by decide +kernel
theorem dX10_init_88 : decode (m_code mX10_init) 88 = .ok (.iconst 4, 1) := by decide +kernel
theorem dX10_init_89 : decode (m_code mX10_init) 89 = .ok (.bipush 112, 2) := by decide +kernel
theorem dX10_init_91 : decode (m_code mX10_init) 91 = .ok (.iastore, 1) := by decide +kernel
theorem dX10_init_92 : decode (m_code mX10_init) 92 = .ok (.dup, 1) := by decide +kernel
theorem dX10_init_93 : decode (m_code mX10_init) 93 = .ok (.iconst 5, 1) := by decide +kernel
theorem dX10_init_94 : decode (m_code mX10_init) 94 = .ok (.bipush 111, 2) := by decide +kernel
theorem dX10_init_96 : decode (m_code mX10_init) 96 = .ok (.iastore, 1) := by decide +kernel
theorem dX10_init_97 : decode (m_code mX10_init) 97 = .ok (.dup, 1) := by decide +kernel
theorem dX10_init_98 : decode (m_code mX10_init) 98 = .ok (.bipush 6, 2) := by decide +kernel
theorem dX10_init_100 : decode (m_code mX10_init) 100 = .ok (.bipush 115, 2) := by decide +kernel
theorem dX10_init_102 : decode (m_code mX10_init) 102 = .ok (.iastore, 1) := by decide +kernel
theorem dX10_init_103 : decode (m_code mX10_init) 103 = .ok (.dup, 1) := by decide +kernel
theorem dX10_init_104 : decode (m_code mX10_init) 104 = .ok (.bipush 7, 2) := by decide +kernel
theorem dX10_init_106 : decode (m_code mX10_init) 106 = .ok (.bipush 101, 2) := by decide +kernel
theorem dX10_init_108 : decode (m_code mX10_init) 108 = .ok (.iastore, 1) := by decide +kernel
theorem dX10_init_109 : decode (m_code mX10_init) 109 = .ok (.dup, 1) := by decide +kernel
theorem dX10_init_110 : decode (m_code mX10_init) 110 = .ok (.bipush 8, 2) := by decide +kernel
theorem dX10_init_112 : decode (m_code mX10_init) 112 = .ok (.bipush 32, 2) := by decide +kernel
theorem dX10_init_114 : decode (m_code mX10_init) 114 = .ok (.iastore, 1) := by decide +kernel
theorem dX10_init_115 : decode (m_code mX10_init) 115 = .ok (.dup, 1) := by decide +kernel
theorem dX10_init_116 : decode (m_code mX10_init) 116 = .ok (.bipush 9, 2) := by decide +kernel
theorem dX10_init_118 : decode (m_code mX10_init) 118 = .ok (.bipush 100, 2) := by decide +kernel
theorem dX10_init_120 : decode (m_code mX10_init) 120 = .ok (.iastore, 1) := by decide +kernel
theorem dX10_init_121 : decode (m_code mX10_init) 121 = .ok (.dup, 1) := by decide +kernel
theorem dX10_init_122 : decode (m_code mX10_init) 122 = .ok (.bipush 10, 2) := by decide +kernel
theorem dX10_init_124 : decode (m_code mX10_init) 124 = .ok (.bipush 101, 2) := by decide +kernel
theorem dX10_init_126 : decode (m_code mX10_init) 126 = .ok (.iastore, 1) := by decide +kernel
theorem dX10_init_127 : decode (m_code mX10_init) 127 = .ok (.dup, 1) := by decide +kernel
theorem dX10_init_128 : decode (m_code mX10_init) 128 = .ok (.bipush 11, 2) := by decide +kernel
theorem dX10_init_130 : decode (m_code mX10_init) 130 = .ok (.bipush 108, 2) := by decide +kernel
theorem dX10_init_132 : decode (m_code mX10_init) 132 = .ok (.iastore, 1) := by decide +kernel
theorem dX10_init_133 : decode (m_code mX10_init) 133 = .ok (.dup, 1) := by decide +kernel
theorem dX10_init_134 : decode (m_code mX10_init) 134 = .ok (.bipush 12, 2) := by decide +kernel
theorem dX10_init_136 : decode (m_code mX10_init) 136 = .ok (.bipush 105, 2) := by decide +kernel
theorem dX10_init_138 : decode (m_code mX10_init) 138 = .ok (.iastore, 1) := by decide +kernel
theorem dX10_init_139 : decode (m_code mX10_init) 139 = .ok (.dup, 1) := by decide +kernel
theorem dX10_init_140 : decode (m_code mX10_init) 140 = .ok (.bipush 13, 2) := by decide +kernel
theorem dX10_init_142 : decode (m_code mX10_init) 142 = .ok (.bipush 118, 2) := by decide +kernel
theorem dX10_init_144 : decode (m_code mX10_init) 144 = .ok (.iastore, 1) := by decide +kernel
theorem dX10_init_145 : decode (m_code mX10_init) 145 = .ok (.dup, 1) := by decide +kernel
theorem dX10_init_146 : decode (m_code mX10_init) 146 = .ok (.bipush 14, 2) := by decide +kernel
theorem dX10_init_148 : decode (m_code mX10_init) 148 = .ok (.bipush 101, 2) := by decide +kernel
theorem dX10_init_150 : decode (m_code mX10_init) 150 = .ok (.iastore, 1) := by decide +kernel
theorem dX10_init_151 : decode (m_code mX10_init) 151 = .ok (.dup, 1) := by decide +kernel
theorem dX10_init_152 : decode (m_code mX10_init) 152 = .ok (.bipush 15, 2) := by decide +kernel
theorem dX10_init_154 : decode (m_code mX10_init) 154 = .ok (.bipush 114, 2) := by decide +kernel
theorem dX10_init_156 : decode (m_code mX10_init) 156 = .ok (.iastore, 1) := by decide +kernel
theorem dX10_init_157 : decode (m_code mX10_init) 157 = .ok (.dup, 1) := by decide +kernel
theorem dX10_init_158 : decode (m_code mX10_init) 158 = .ok (.bipush 16, 2) := by decide +kernel
theorem dX10_init_160 : decode (m_code mX10_init) 160 = .ok (.bipush 32, 2) := by decide +kernel
theorem dX10_init_162 : decode (m_code mX10_init) 162 = .ok (.iastore, 1) := by decide +kernel
theorem dX10_init_163 : decode (m_code mX10_init) 163 = .ok (.dup, 1) := by decide +kernel
theorem dX10_init_164 : decode (m_code mX10_init) 164 = .ok (.bipush 17, 2) := by decide +kernel
theorem dX10_init_166 : decode (m_code mX10_init) 166 = .ok (.bipush 100, 2) := by decide +kernel
theorem dX10_init_168 : decode (m_code mX10_init) 168 = .ok (.iastore, 1) := by decide +kernel
theorem dX10_init_169 : decode (m_code mX10_init) 169 = .ok (.dup, 1) := by decide +kernel
theorem dX10_init_170 : decode (m_code mX10_init) 170 = .ok (.bipush 18, 2) := by decide +kernel
theorem dX10_init_172 : decode (m_code mX10_init) 172 = .ok (.bipush 114, 2) := by decide +kernel
theorem dX10_init_174 : decode (m_code mX10_init) 174 = .ok (.iastore, 1) := by decide +kernel
theorem dX10_init_175 : decode (m_code mX10_init) 175 = .ok (.dup, 1) := by decide +kernel
theorem dX10_init_176 : decode (m_code mX10_init) 176 = .ok (.bipush 19, 2) := by decide +kernel
theorem dX10_init_178 : decode (m_code mX10_init) 178 = .ok (.bipush 111, 2) := by decide +kernel
theorem dX10_init_180 : decode (m_code mX10_init) 180 = .ok (.iastore, 1) := by decide +kernel
theorem dX10_init_181 : decode (m_code mX10_init) 181 = .ok (.dup, 1) := by decide +kernel
theorem dX10_init_182 : decode (m_code mX10_init) 182 = .ok (.bipush 20, 2) := by decide +kernel
theorem dX10_init_184 : decode (m_code mX10_init) 184 = .ok (.bipush 112, 2) := by decide +kernel
theorem dX10_init_186 : decode (m_code mX10_init) 186 = .ok (.iastore, 1) := by decide +kernel
theorem dX10_init_187 : decode (m_code mX10_init) 187 = .ok (.dup, 1) := by decide +kernel
theorem dX10_init_188 : decode (m_code mX10_init) 188 = .ok (.bipush 21, 2) := by decide +kernel
theorem dX10_init_190 : decode (m_code mX10_init) 190 = .ok (.bipush 32, 2) := by decide +kernel
theorem dX10_init_192 : decode (m_code mX10_init) 192 = .ok (.iastore, 1) := by decide +kernel
theorem dX10_init_193 : decode (m_code mX10_init) 193 = .ok (.dup, 1) := by decide +kernel
theorem dX10_init_194 : decode (m_code mX10_init) 194 = .ok (.bipush 22, 2) := by decide +kernel
theorem dX10_init_196 : decode (m_code mX10_init) 196 = .ok (.bipush 108, 2) := by decide +kernel
theorem dX10_init_198 : decode (m_code mX10_init) 198 = .ok (.iastore, 1) := by decide +kernel
theorem dX10_init_199 : decode (m_code mX10_init) 199 = .ok (.dup, 1) := by decide +kernel
theorem dX10_init_200 : decode (m_code mX10_init) 200 = .ok (.bipush 23, 2) := by decide +kernel
theorem dX10_init_202 : decode (m_code mX10_init) 202 = .ok (.bipush 111, 2) := by decide +kernel
theorem dX10_init_204 : decode (m_code mX10_init) 204 = .ok (.iastore, 1) := by decide +kernel
theorem dX10_init_205 : decode (m_code mX10_init) 205 = .ok (.dup, 1) := by decide +kernel
theorem dX10_init_206 : decode (m_code mX10_init) 206 = .ok (.bipush 24, 2) := by decide +kernel
theorem dX10_init_208 : decode (m_code mX10_init) 208 = .ok (.bipush 115, 2) := by decide +kernel
theorem dX10_init_210 : decode (m_code mX10_init) 210 = .ok (.iastore, 1) := by decide +kernel
theorem dX10_init_211 : decode (m_code mX10_init) 211 = .ok (.dup, 1) := by decide +kernel
theorem dX10_init_212 : decode (m_code mX10_init) 212 = .ok (.bipush 25, 2) := by decide +kernel
theorem dX10_init_214 : decode (m_code mX10_init) 214 = .ok (.bipush 101, 2) := by decide +kernel
theorem dX10_init_216 : decode (m_code mX10_init) 216 = .ok (.iastore, 1) := by decide +kernel
theorem dX10_init_217 : decode (m_code mX10_init) 217 = .ok (.dup, 1) := by decide +kernel
theorem dX10_init_218 : decode (m_code mX10_init) 218 = .ok (.bipush 26, 2) := by decide +kernel
theorem dX10_init_220 : decode (m_code mX10_init) 220 = .ok (.bipush 32, 2) := by decide +kernel
theorem dX10_init_222 : decode (m_code mX10_init) 222 = .ok (.iastore, 1) := by decide +kernel
theorem dX10_init_223 : decode (m_code mX10_init) 223 = .ok (.dup, 1) := by decide +kernel
theorem dX10_init_224 : decode (m_code mX10_init) 224 = .ok (.bipush 27, 2) := by decide +kernel
theorem dX10_init_226 : decode (m_code mX10_init) 226 = .ok (.bipush 116, 2) := by decide +kernel
theorem dX10_init_228 : decode (m_code mX10_init) 228 = .ok (.iastore, 1) := by decide +kernel
theorem dX10_init_229 : decode (m_code mX10_init) 229 = .ok (.dup, 1) := by decide +kernel
theorem dX10_init_230 : decode (m_code mX10_init) 230 = .ok (.bipush 28, 2) := by decide +kernel
theorem dX10_init_232 : decode (m_code mX10_init) 232 = .ok (.bipush 117, 2) := by decide +kernel
theorem dX10_init_234 : decode (m_code mX10_init) 234 = .ok (.iastore, 1) := by decide +kernel
theorem dX10_init_235 : decode (m_code mX10_init) 235 = .ok (.dup, 1) := by decide +kernel
theorem dX10_init_236 : decode (m_code mX10_init) 236 = .ok (.bipush 29, 2) := by decide +kernel
theorem dX10_init_238 : decode (m_code mX10_init) 238 = .ok (.bipush 114, 2) := by decide +kernel
theorem dX10_init_240 : decode (m_code mX10_init) 240 = .ok (.iastore, 1) := by decide +kernel
theorem dX10_init_241 : decode (m_code mX10_init) 241 = .ok (.dup, 1) := by decide +kernel
theorem dX10_init_242 : decode (m_code mX10_init) 242 = .ok (.bipush 30, 2) := by decide +kernel
theorem dX10_init_244 : decode (m_code mX10_init) 244 = .ok (.bipush 110, 2) := by decide +kernel
theorem dX10_init_246 : decode (m_code mX10_init) 246 = .ok (.iastore, 1) := by decide +kernel
theorem dX10_init_247 : decode (m_code mX10_init) 247 = .ok (.dup, 1) := by decide +kernel
theorem dX10_init_248 : decode (m_code mX10_init) 248 = .ok (.bipush 31, 2) := by decide +kernel
theorem dX10_init_250 : decode (m_code mX10_init) 250 = .ok (.bipush 32, 2) := by decide +kernel
theorem dX10_init_252 : decode (m_code mX10_init) 252 = .ok (.iastore, 1) := by decide +kernel
theorem dX10_init_253 : decode (m_code mX10_init) 253 = .ok (.dup, 1) := by decide +kernel
theorem dX10_init_254 : decode (m_code mX10_init) 254 = .ok (.bipush 32, 2) := by decide +kernel
theorem dX10_init_256 : decode (m_code mX10_init) 256 = .ok (.bipush 116, 2) := by decide +kernel
theorem dX10_init_258 : decode (m_code mX10_init) 258 = .ok (.iastore, 1) := by decide +kernel
theorem dX10_init_259 : decode (m_code mX10_init) 259 = .ok (.dup, 1) := by decide +kernel
theorem dX10_init_260 : decode (m_code mX10_init) 260 = .ok (.bipush 33, 2) := by decide +kernel
theorem dX10_init_262 : decode (m_code mX10_init) 262 = .ok (.bipush 105, 2) := by decide +kernel
theorem dX10_init_264 : decode (m_code mX10_init) 264 = .ok (.iastore, 1) := by decide +kernel
theorem dX10_init_265 : decode (m_code mX10_init) 265 = .ok (.dup, 1) := by decide +kernel
theorem dX10_init_266 : decode (m_code mX10_init) 266 = .ok (.bipush 34, 2) := by decide +kernel
theorem dX10_init_268 : decode (m_code mX10_init) 268 = .ok (.bipush 109, 2) := by decide +kernel
theorem dX10_init_270 : decode (m_code mX10_init) 270 = .ok (.iastore, 1) := by decide +kernel
theorem dX10_init_271 : decode (m_code mX10_init) 271 = .ok (.dup, 1) := by decide +kernel
theorem dX10_init_272 : decode (m_code mX10_init) 272 = .ok (.bipush 35, 2) := by decide +kernel
theorem dX10_init_274 : decode (m_code mX10_init) 274 = .ok (.bipush 101, 2) := by decide +kernel
theorem dX10_init_276 : decode (m_code mX10_init) 276 = .ok (.iastore, 1) := by decide +kernel
theorem dX10_init_277 : decode (m_code mX10_init) 277 = .ok (.dup, 1) := by decide +kernel
theorem dX10_init_278 : decode (m_code mX10_init) 278 = .ok (.bipush 36, 2) := by decide +kernel
theorem dX10_init_280 : decode (m_code mX10_init) 280 = .ok (.bipush 111, 2) := by decide +kernel
theorem dX10_init_282 : decode (m_code mX10_init) 282 = .ok (.iastore, 1) := by decide +kernel
theorem dX10_init_283 : decode (m_code mX10_init) 283 = .ok (.dup, 1) := by decide +kernel
theorem dX10_init_284 : decode (m_code mX10_init) 284 = .ok (.bipush 37, 2) := by decide +kernel
theorem dX10_init_286 : decode (m_code mX10_init) 286 = .ok (.bipush 117, 2) := by decide +kernel
theorem dX10_init_288 : decode (m_code mX10_init) 288 = .ok (.iastore, 1) := by decide +kernel
theorem dX10_init_289 : decode (m_code mX10_init) 289 = .ok (.dup, 1) := by decide +kernel
theorem dX10_init_290 : decode (m_code mX10_init) 290 = .ok (.bipush 38, 2) := by decide +kernel
theorem dX10_init_292 : decode (m_code mX10_init) 292 = .ok (.bipush 116, 2) := by decide +kernel
theorem dX10_init_294 : decode (m_code mX10_init) 294 = .ok (.iastore, 1) := by decide +kernel
theorem dX10_init_295 : decode (m_code mX10_init) 295 = .ok (.dup, 1) := by decide +kernel
theorem dX10_init_296 : decode (m_code mX10_init) 296 = .ok (.bipush 39, 2) := by decide +kernel
theorem dX10_init_298 : decode (m_code mX10_init) 298 = .ok (.bipush 32, 2) := by decide +kernel
theorem dX10_init_300 : decode (m_code mX10_init) 300 = .ok (.iastore, 1) := by decide +kernel
theorem dX10_init_301 : decode (m_code mX10_init) 301 = .ok (.dup, 1) := by decide +kernel
theorem dX10_init_302 : decode (m_code mX10_init) 302 = .ok (.bipush 40, 2) := by decide +kernel
theorem dX10_init_304 : decode (m_code mX10_init) 304 = .ok (.bipush 108, 2) := by decide +kernel
theorem dX10_init_306 : decode (m_code mX10_init) 306 = .ok (.iastore, 1) := by decide +kernel
theorem dX10_init_307 : decode (m_code mX10_init) 307 = .ok (.dup, 1) := by decide +kernel
theorem dX10_init_308 : decode (m_code mX10_init) 308 = .ok (.bipush 41, 2) := by decide +kernel
theorem dX10_init_310 : decode (m_code mX10_init) 310 = .ok (.bipush 105, 2) := by decide +kernel
theorem dX10_init_312 : decode (m_code mX10_init) 312 = .ok (.iastore, 1) := by decide +kernel
theorem dX10_init_313 : decode (m_code mX10_init) 313 = .ok (.dup, 1) := by decide +kernel
theorem dX10_init_314 : decode (m_code mX10_init) 314 = .ok (.bipush 42, 2) := by decide +kernel
theorem dX10_init_316 : decode (m_code mX10_init) 316 = .ok (.bipush 101, 2) := by decide +kernel
theorem dX10_init_318 : decode (m_code mX10_init) 318 = .ok (.iastore, 1) := by decide +kernel
theorem dX10_init_319 : decode (m_code mX10_init) 319 = .ok (.dup, 1) := by decide +kernel
theorem dX10_init_320 : decode (m_code mX10_init) 320 = .ok (.bipush 43, 2) := by decide +kernel
theorem dX10_init_322 : decode (m_code mX10_init) 322 = .ok (.bipush 32, 2) := by decide +kernel
theorem dX10_init_324 : decode (m_code mX10_init) 324 = .ok (.iastore, 1) := by decide +kernel
theorem dX10_init_325 : decode (m_code mX10_init) 325 = .ok (.dup, 1) := by decide +kernel
theorem dX10_init_326 : decode (m_code mX10_init) 326 = .ok (.bipush 44, 2) := by decide +kernel
theorem dX10_init_328 : decode (m_code mX10_init) 328 = .ok (.bipush 109, 2) := by decide +kernel
theorem dX10_init_330 : decode (m_code mX10_init) 330 = .ok (.iastore, 1) := by decide +kernel
theorem dX10_init_331 : decode (m_code mX10_init) 331 = .ok (.dup, 1) := by decide +kernel
theorem dX10_init_332 : decode (m_code mX10_init) 332 = .ok (.bipush 45, 2) := by decide +kernel
theorem dX10_init_334 : decode (m_code mX10_init) 334 = .ok (.bipush 97, 2) := by decide +kernel
theorem dX10_init_336 : decode (m_code mX10_init) 336 = .ok (.iastore, 1) := by decide +kernel
theorem dX10_init_337 : decode (m_code mX10_init) 337 = .ok (.dup, 1) := by decide +kernel
theorem dX10_init_338 : decode (m_code mX10_init) 338 = .ok (.bipush 46, 2) := by decide +kernel
theorem dX10_init_340 : decode (m_code mX10_init) 340 = .ok (.bipush 114, 2) := by decide +kernel
theorem dX10_init_342 : decode (m_code mX10_init) 342 = .ok (.iastore, 1) := by decide +kernel
theorem dX10_init_343 : decode (m_code mX10_init) 343 = .ok (.dup, 1) := by decide +kernel
theorem dX10_init_344 : decode (m_code mX10_init) 344 = .ok (.bipush 47, 2) := by decide +kernel
theorem dX10_init_346 : decode (m_code mX10_init) 346 = .ok (.bipush 107, 2) := by decide +kernel
theorem dX10_init_348 : decode (m_code mX10_init) 348 = .ok (.iastore, 1) := by decide +kernel
theorem dX10_init_349 : decode (m_code mX10_init) 349 = .ok (.dup, 1) := by decide +kernel
theorem dX10_init_350 : decode (m_code mX10_init) 350 = .ok (.bipush 48, 2) := by decide +kernel
theorem dX10_init_352 : decode (m_code mX10_init) 352 = .ok (.bipush 32, 2) := by decide +kernel
theorem dX10_init_354 : decode (m_code mX10_init) 354 = .ok (.iastore, 1) := by decide +kernel
theorem dX10_init_355 : decode (m_code mX10_init) 355 = .ok (.dup, 1) := by decide +kernel
theorem dX10_init_356 : decode (m_code mX10_init) 356 = .ok (.bipush 49, 2) := by decide +kernel
theorem dX10_init_358 : decode (m_code mX10_init) 358 = .ok (.bipush 98, 2) := by decide +kernel
theorem dX10_init_360 : decode (m_code mX10_init) 360 = .ok (.iastore, 1) := by decide +kernel
theorem dX10_init_361 : decode (m_code mX10_init) 361 = .ok (.dup, 1) := by decide +kernel
theorem dX10_init_362 : decode (m_code mX10_init) 362 = .ok (.bipush 50, 2) := by decide +kernel
theorem dX10_init_364 : decode (m_code mX10_init) 364 = .ok (.bipush 108, 2) := by decide +kernel
theorem dX10_init_366 : decode (m_code mX10_init) 366 = .ok (.iastore, 1) := by decide +kernel
theorem dX10_init_367 : decode (m_code mX10_init) 367 = .ok (.dup, 1) := by decide +kernel
theorem dX10_init_368 : decode (m_code mX10_init) 368 = .ok (.bipush 51, 2) := by decide +kernel
theorem dX10_init_370 : decode (m_code mX10_init) 370 = .ok (.bipush 111, 2) := by decide +kernel
theorem dX10_init_372 : decode (m_code mX10_init) 372 = .ok (.iastore, 1) := by decide +kernel
theorem dX10_init_373 : decode (m_code mX10_init) 373 = .ok (.dup, 1) := by decide +kernel
theorem dX10_init_374 : decode (m_code mX10_init) 374 = .ok (.bipush 52, 2) := by decide +kernel
theorem dX10_init_376 : decode (m_code mX10_init) 376 = .ok (.bipush 99, 2) := by decide +kernel
theorem dX10_init_378 : decode (m_code mX10_init) 378 = .ok (.iastore, 1) := by decide +kernel
theorem dX10_init_379 : decode (m_code mX10_init) 379 = .ok (.dup, 1) := by decide +kernel
theorem dX10_init_380 : decode (m_code mX10_init) 380 = .ok (.bipush 53, 2) := by decide +kernel
theorem dX10_init_382 : decode (m_code mX10_init) 382 = .ok (.bipush 107, 2) := by decide +kernel
theorem dX10_init_384 : decode (m_code mX10_init) 384 = .ok (.iastore, 1) := by decide +kernel
theorem dX10_init_385 : decode (m_code mX10_init) 385 = .ok (.dup, 1) := by decide +kernel
theorem dX10_init_386 : decode (m_code mX10_init) 386 = .ok (.bipush 54, 2) := by decide +kernel
theorem dX10_init_388 : decode (m_code mX10_init) 388 = .ok (.bipush 32, 2) := by decide +kernel
theorem dX10_init_390 : decode (m_code mX10_init) 390 = .ok (.iastore, 1) := by decide +kernel
theorem dX10_init_391 : decode (m_code mX10_init) 391 = .ok (.dup, 1) := by decide +kernel
theorem dX10_init_392 : decode (m_code mX10_init) 392 = .ok (.bipush 55, 2) := by decide +kernel
theorem dX10_init_394 : decode (m_code mX10_init) 394 = .ok (.bipush 99, 2) := by decide +kernel
theorem dX10_init_396 : decode (m_code mX10_init) 396 = .ok (.iastore, 1) := by decide +kernel
theorem dX10_init_397 : decode (m_code mX10_init) 397 = .ok (.dup, 1) := by decide +kernel
theorem dX10_init_398 : decode (m_code mX10_init) 398 = .ok (.bipush 56, 2) := by decide +kernel
theorem dX10_init_400 : decode (m_code mX10_init) 400 = .ok (.bipush 97, 2) := by decide +kernel
theorem dX10_init_402 : decode (m_code mX10_init) 402 = .ok (.iastore, 1) := by decide +kernel
theorem dX10_init_403 : decode (m_code mX10_init) 403 = .ok (.dup, 1) := by decide +kernel
theorem dX10_init_404 : decode (m_code mX10_init) 404 = .ok (.bipush 57, 2) := by decide +kernel
theorem dX10_init_406 : decode (m_code mX10_init) 406 = .ok (.bipush 108, 2) := by decide +kernel
theorem dX10_init_408 : decode (m_code mX10_init) 408 = .ok (.iastore, 1) := by decide +kernel
theorem dX10_init_409 : decode (m_code mX10_init) 409 = .ok (.dup, 1) := by decide +kernel
theorem dX10_init_410 : decode (m_code mX10_init) 410 = .ok (.bipush 58, 2) := by decide +kernel
theorem dX10_init_412 : decode (m_code mX10_init) 412 = .ok (.bipush 109, 2) := by decide +kernel
theorem dX10_init_414 : decode (m_code mX10_init) 414 = .ok (.iastore, 1) := by decide +kernel
theorem dX10_init_415 : decode (m_code mX10_init) 415 = .ok (.dup, 1) := by decide +kernel
theorem dX10_init_416 : decode (m_code mX10_init) 416 = .ok (.bipush 59, 2) := by decide +kernel
theorem dX10_init_418 : decode (m_code mX10_init) 418 = .ok (.bipush 32, 2) := by decide +kernel
theorem dX10_init_420 : decode (m_code mX10_init) 420 = .ok (.iastore, 1) := by decide +kernel
theorem dX10_init_421 : decode (m_code mX10_init) 421 = .ok (.putfield 31, 3) := by decide +kernel
theorem dX10_init_424 : decode (m_code mX10_init) 424 = .ok (.aload_n 0, 1) := by decide +kernel
theorem dX10_init_425 : decode (m_code mX10_init) 425 = .ok (.iconst (-1), 1) := by decide +kernel
theorem dX10_init_426 : decode (m_code mX10_init) 426 = .ok (.putfield 34, 3) := by decide +kernel
theorem dX10_init_429 : decode (m_code mX10_init) 429 = .ok (.aload_n 0, 1) := by decide +kernel
theorem dX10_init_430 : decode (m_code mX10_init) 430 = .ok (.sipush 240, 3) := by decide +kernel
theorem dX10_init_433 : decode (m_code mX10_init) 433 = .ok (.newarray .int, 2) := by decide +kernel
theorem dX10_init_435 : decode (m_code mX10_init) 435 = .ok (.putfield 38, 3) := by decide +kernel
theorem dX10_init_438 : decode (m_code mX10_init) 438 = .ok (.aload_n 0, 1) := by decide +kernel
theorem dX10_init_439 : decode (m_code mX10_init) 439 = .ok (.sipush 6131, 3) := by decide +kernel
theorem dX10_init_442 : decode (m_code mX10_init) 442 = .ok (.newarray .int, 2) := by decide +kernel
theorem dX10_init_444 : decode (m_code mX10_init) 444 = .ok (.putfield 41, 3) := by decide +kernel
theorem dX10_init_447 : decode (m_code mX10_init) 447 = .ok (.return_, 1) := by decide +kernel
theorem dX10_isIn_0 : decode (m_code mX10_isIn) 0 = .ok (.iload_n 1, 1) := by decide +kernel
theorem dX10_isIn_1 : decode (m_code mX10_isIn) 1 = .ok (.iload_n 2, 1) := by decide +kernel
theorem dX10_isIn_2 : decode (m_code mX10_isIn) 2 = .ok (.if_icmp .lt 12, 3) := by decide +kernel
theorem dX10_isIn_5 : decode (m_code mX10_isIn) 5 = .ok (.iload_n 1, 1) := by decide +kernel
theorem dX10_isIn_6 : decode (m_code mX10_isIn) 6 = .ok (.iload_n 3, 1) := by decide +kernel
theorem dX10_isIn_7 : decode (m_code mX10_isIn) 7 = .ok (.if_icmp .gt 7, 3) := by decide +kernel
theorem dX10_isIn_10 : decode (m_code mX10_isIn) 10 = .ok (.iconst 1, 1) := by decide +kernel
theorem dX10_isIn_11 : decode (m_code mX10_isIn) 11 = .ok (.goto 4, 3) := by decide +kernel
theorem dX10_isIn_14 : decode (m_code mX10_isIn) 14 = .ok (.iconst 0, 1) := by decide +kernel
theorem dX10_isIn_15 : decode (m_code mX10_isIn) 15 = .ok (.ireturn, 1) := by decide +kernel
theorem dX10_greater_0 : decode (m_code mX10_greater) 0 = .ok (.iload_n 1, 1) := by decide +kernel
theorem dX10_greater_1 : decode (m_code mX10_greater) 1 = .ok (.iload_n 2, 1) := by decide +kernel
theorem dX10_greater_2 : decode (m_code mX10_greater) 2 = .ok (.if_icmp .le 7, 3) := by decide +kernel
theorem dX10_greater_5 : decode (m_code mX10_greater) 5 = .ok (.iload_n 1, 1) := by decide +kernel
theorem dX10_greater_6 : decode (m_code mX10_greater) 6 = .ok (.goto 4, 3) := by decide +kernel
theorem dX10_greater_9 : decode (m_code mX10_greater) 9 = .ok (.iload_n 2, 1) := by decide +kernel
theorem dX10_greater_10 : decode (m_code mX10_greater) 10 = .ok (.ireturn, 1) := by decide +kernel
theorem dX10_lesser_0 : decode (m_code mX10_lesser) 0 = .ok (.iload_n 1, 1) := by decide +kernel
theorem dX10_lesser_1 : decode (m_code mX10_lesser) 1 = .ok (.iload_n 2, 1) := by decide +kernel
theorem dX10_lesser_2 : decode (m_code mX10_lesser) 2 = .ok (.if_icmp .ge 7, 3) := by decide +kernel
theorem dX10_lesser_5 : decode (m_code mX10_lesser) 5 = .ok (.iload_n 1, 1) := by decide +kernel
theorem dX10_lesser_6 : decode (m_code mX10_lesser) 6 = .ok (.goto 4, 3) := by decide +kernel
theorem dX10_lesser_9 : decode (m_code mX10_lesser) 9 = .ok (.iload_n 2, 1) := by decide +kernel
theorem dX10_lesser_10 : decode (m_code mX10_lesser) 10 = .ok (.ireturn, 1) := by decide +kernel
theorem dX10_has_0 : decode (m_code mX10_has) 0 = .ok (.iload_n 1, 1) := by decide +kernel
theorem dX10_has_1 : decode (m_code mX10_has) 1 = .ok (.iload_n 2, 1) := by decide +kernel
theorem dX10_has_2 : decode (m_code mX10_has) 2 = .ok (.ishr, 1) := by decide +kernel
theorem dX10_has_3 : decode (m_code mX10_has) 3 = .ok (.iconst 1, 1) := by decide +kernel
theorem dX10_has_4 : decode (m_code mX10_has) 4 = .ok (.iand, 1) := by decide +kernel
theorem dX10_has_5 : decode (m_code mX10_has) 5 = .ok (.iconst 1, 1) := by decide +kernel
theorem dX10_has_6 : decode (m_code mX10_has) 6 = .ok (.if_icmp .ne 7, 3) := by decide +kernel
theorem dX10_has_9 : decode (m_code mX10_has) 9 = .ok (.iconst 1, 1) := by decide +kernel
theorem dX10_has_10 : decode (m_code mX10_has) 10 = .ok (.goto 4, 3) := by decide +kernel
theorem dX10_has_13 : decode (m_code mX10_has) 13 = .ok (.iconst 0, 1) := by decide +kernel
theorem dX10_has_14 : decode (m_code mX10_has) 14 = .ok (.ireturn, 1) := by decide +kernel
theorem dX10_onesOf_0 : decode (m_code mX10_onesOf) 0 = .ok (.iconst 0, 1) := by decide +kernel
theorem dX10_onesOf_1 : decode (m_code mX10_onesOf) 1 = .ok (.istore_n 2, 1) := by decide +kernel
theorem dX10_onesOf_2 : decode (m_code mX10_onesOf) 2 = .ok (.iload_n 1, 1) := by decide +kernel
theorem dX10_onesOf_3 : decode (m_code mX10_onesOf) 3 = .ok (.istore_n 3, 1) := by decide +kernel
theorem dX10_onesOf_4 : decode (m_code mX10_onesOf) 4 = .ok (.iload_n 3, 1) := by decide +kernel
theorem dX10_onesOf_5 : decode (m_code mX10_onesOf) 5 = .ok (.ifCond .eq 16, 3) := by decide +kernel
theorem dX10_onesOf_8 : decode (m_code mX10_onesOf) 8 = .ok (.iload_n 2, 1) := by decide +kernel
theorem dX10_onesOf_9 : decode (m_code mX10_onesOf) 9 = .ok (.iconst 1, 1) := by decide +kernel
theorem dX10_onesOf_10 : decode (m_code mX10_onesOf) 10 = .ok (.iadd, 1) := by decide +kernel
theorem dX10_onesOf_11 : decode (m_code mX10_onesOf) 11 = .ok (.istore_n 2, 1) := by decide +kernel
theorem dX10_onesOf_12 : decode (m_code mX10_onesOf) 12 = .ok (.iload_n 3, 1) := by decide +kernel
theorem dX10_onesOf_13 : decode (m_code mX10_onesOf) 13 = .ok (.iload_n 3, 1) := by decide +kernel
theorem dX10_onesOf_14 : decode (m_code mX10_onesOf) 14 = .ok (.iconst 1, 1) := by decide +kernel
theorem dX10_onesOf_15 : decode (m_code mX10_onesOf) 15 = .ok (.isub, 1) := by decide +kernel
theorem dX10_onesOf_16 : decode (m_code mX10_onesOf) 16 = .ok (.iand, 1) := by decide +kernel
theorem dX10_onesOf_17 : decode (m_code mX10_onesOf) 17 = .ok (.istore_n 3, 1) := by decide +kernel
theorem dX10_onesOf_18 : decode (m_code mX10_onesOf) 18 = .ok (.goto (-14), 3) := by decide +kernel
theorem dX10_onesOf_21 : decode (m_code mX10_onesOf) 21 = .ok (.iload_n 2, 1) := by decide +kernel
theorem dX10_onesOf_22 : decode (m_code mX10_onesOf) 22 = .ok (.ireturn, 1) := by decide +kernel
theorem dX10_thinks_0 : decode (m_code mX10_thinks) 0 = .ok (.iconst 0, 1) := by decide +kernel
theorem dX10_thinks_1 : decode (m_code mX10_thinks) 1 = .ok (.istore_n 1, 1) := by decide +kernel
theorem dX10_thinks_2 : decode (m_code mX10_thinks) 2 = .ok (.iload_n 1, 1) := by decide +kernel
theorem dX10_thinks_3 : decode (m_code mX10_thinks) 3 = .ok (.sipush 6010, 3) := by decide +kernel
theorem dX10_thinks_6 : decode (m_code mX10_thinks) 6 = .ok (.if_icmp .ge 21, 3) := by decide +kernel
theorem dX10_thinks_9 : decode (m_code mX10_thinks) 9 = .ok (.aload_n 0, 1) := by decide +kernel
theorem dX10_thinks_10 : decode (m_code mX10_thinks) 10 = .ok (.getfield 13, 3) := by decide +kernel
theorem dX10_thinks_13 : decode (m_code mX10_thinks) 13 = .ok (.iload_n 1, 1) := by decide +kernel
theorem dX10_thinks_14 : decode (m_code mX10_thinks) 14 = .ok (.aload_n 0, 1) := by decide +kernel
theorem dX10_thinks_15 : decode (m_code mX10_thinks) 15 = .ok (.getfield 7, 3) := by decide +kernel
theorem dX10_thinks_18 : decode (m_code mX10_thinks) 18 = .ok (.iload_n 1, 1) := by decide +kernel
theorem dX10_thinks_19 : decode (m_code mX10_thinks) 19 = .ok (.iaload, 1) := by decide +kernel
theorem dX10_thinks_20 : decode (m_code mX10_thinks) 20 = .ok (.iastore, 1) := by decide +kernel
theorem dX10_thinks_21 : decode (m_code mX10_thinks) 21 = .ok (.iinc 1 1, 3) := by decide +kernel
theorem dX10_thinks_24 : decode (m_code mX10_thinks) 24 = .ok (.goto (-22), 3) := by decide +kernel
theorem dX10_thinks_27 : decode (m_code mX10_thinks) 27 = .ok (.return_, 1) := by decide +kernel
theorem dX10_endsThought_0 : decode (m_code mX10_endsThought) 0 = .ok (.iconst 0, 1) := by decide +kernel
theorem dX10_endsThought_1 : decode (m_code mX10_endsThought) 1 = .ok (.istore_n 1, 1) := by decide +kernel
theorem dX10_endsThought_2 : decode (m_code mX10_endsThought) 2 = .ok (.iload_n 1, 1) := by decide +kernel
theorem dX10_endsThought_3 : decode (m_code mX10_endsThought) 3 = .ok (.sipush 6010, 3) := by decide +kernel
theorem dX10_endsThought_6 : decode (m_code mX10_endsThought) 6 = .ok (.if_icmp .ge 21, 3) := by decide +kernel
theorem dX10_endsThought_9 : decode (m_code mX10_endsThought) 9 = .ok (.aload_n 0, 1) := by decide +kernel
theorem dX10_endsThought_10 : decode (m_code mX10_endsThought) 10 = .ok (.getfield 7, 3) := by decide +kernel
theorem dX10_endsThought_13 : decode (m_code mX10_endsThought) 13 = .ok (.iload_n 1, 1) := by decide +kernel
theorem dX10_endsThought_14 : decode (m_code mX10_endsThought) 14 = .ok (.aload_n 0, 1) := by decide +kernel
theorem dX10_endsThought_15 : decode (m_code mX10_endsThought) 15 = .ok (.getfield 13, 3) := by decide +kernel
theorem dX10_endsThought_18 : decode (m_code mX10_endsThought) 18 = .ok (.iload_n 1, 1) := by decide +kernel
theorem dX10_endsThought_19 : decode (m_code mX10_endsThought) 19 = .ok (.iaload, 1) := by decide +kernel
theorem dX10_endsThought_20 : decode (m_code mX10_endsThought) 20 = .ok (.iastore, 1) := by decide +kernel
theorem dX10_endsThought_21 : decode (m_code mX10_endsThought) 21 = .ok (.iinc 1 1, 3) := by decide +kernel
theorem dX10_endsThought_24 : decode (m_code mX10_endsThought) 24 = .ok (.goto (-22), 3) := by decide +kernel
theorem dX10_endsThought_27 : decode (m_code mX10_endsThought) 27 = .ok (.return_, 1) := by decide +kernel
theorem dX10_nodeMany_0 : decode (m_code mX10_nodeMany) 0 = .ok (.aload_n 0, 1) := by decide +kernel
theorem dX10_nodeMany_1 : decode (m_code mX10_nodeMany) 1 = .ok (.getfield 7, 3) := by decide +kernel
theorem dX10_nodeMany_4 : decode (m_code mX10_nodeMany) 4 = .ok (.iconst 0, 1) := by decide +kernel
theorem dX10_nodeMany_5 : decode (m_code mX10_nodeMany) 5 = .ok (.iaload, 1) := by decide +kernel
theorem dX10_nodeMany_6 : decode (m_code mX10_nodeMany) 6 = .ok (.iconst 4, 1) := by decide +kernel
theorem dX10_nodeMany_7 : decode (m_code mX10_nodeMany) 7 = .ok (.iadd, 1) := by decide +kernel
theorem dX10_nodeMany_8 : decode (m_code mX10_nodeMany) 8 = .ok (.ireturn, 1) := by decide +kernel
theorem dX10_quorum_0 : decode (m_code mX10_quorum) 0 = .ok (.aload_n 0, 1) := by decide +kernel
theorem dX10_quorum_1 : decode (m_code mX10_quorum) 1 = .ok (.invokevirtual 47, 3) := by decide +kernel
theorem dX10_quorum_4 : decode (m_code mX10_quorum) 4 = .ok (.aload_n 0, 1) := by decide +kernel
theorem dX10_quorum_5 : decode (m_code mX10_quorum) 5 = .ok (.invokevirtual 47, 3) := by decide +kernel
theorem dX10_quorum_8 : decode (m_code mX10_quorum) 8 = .ok (.iconst 1, 1) := by decide +kernel
theorem dX10_quorum_9 : decode (m_code mX10_quorum) 9 = .ok (.isub, 1) := by decide +kernel
theorem dX10_quorum_10 : decode (m_code mX10_quorum) 10 = .ok (.iconst 3, 1) := by decide +kernel
theorem dX10_quorum_11 : decode (m_code mX10_quorum) 11 = .ok (.idiv, 1) := by decide +kernel
theorem dX10_quorum_12 : decode (m_code mX10_quorum) 12 = .ok (.isub, 1) := by decide +kernel
theorem dX10_quorum_13 : decode (m_code mX10_quorum) 13 = .ok (.ireturn, 1) := by decide +kernel
theorem dX10_blockMany_0 : decode (m_code mX10_blockMany) 0 = .ok (.aload_n 0, 1) := by decide +kernel
theorem dX10_blockMany_1 : decode (m_code mX10_blockMany) 1 = .ok (.getfield 7, 3) := by decide +kernel
theorem dX10_blockMany_4 : decode (m_code mX10_blockMany) 4 = .ok (.iconst 3, 1) := by decide +kernel
theorem dX10_blockMany_5 : decode (m_code mX10_blockMany) 5 = .ok (.iaload, 1) := by decide +kernel
theorem dX10_blockMany_6 : decode (m_code mX10_blockMany) 6 = .ok (.iconst 1, 1) := by decide +kernel
theorem dX10_blockMany_7 : decode (m_code mX10_blockMany) 7 = .ok (.iadd, 1) := by decide +kernel
theorem dX10_blockMany_8 : decode (m_code mX10_blockMany) 8 = .ok (.ireturn, 1) := by decide +kernel
theorem dX10_nodeAt_0 : decode (m_code mX10_nodeAt) 0 = .ok (.sipush 2416, 3) := by decide +kernel
theorem dX10_nodeAt_3 : decode (m_code mX10_nodeAt) 3 = .ok (.sipush 513, 3) := by decide +kernel
theorem dX10_nodeAt_6 : decode (m_code mX10_nodeAt) 6 = .ok (.iload_n 1, 1) := by decide +kernel
theorem dX10_nodeAt_7 : decode (m_code mX10_nodeAt) 7 = .ok (.imul, 1) := by decide +kernel
theorem dX10_nodeAt_8 : decode (m_code mX10_nodeAt) 8 = .ok (.iadd, 1) := by decide +kernel
theorem dX10_nodeAt_9 : decode (m_code mX10_nodeAt) 9 = .ok (.ireturn, 1) := by decide +kernel
theorem dX10_isNode_0 : decode (m_code mX10_isNode) 0 = .ok (.iload_n 1, 1) := by decide +kernel
theorem dX10_isNode_1 : decode (m_code mX10_isNode) 1 = .ok (.ifCond .lt 15, 3) := by decide +kernel
theorem dX10_isNode_4 : decode (m_code mX10_isNode) 4 = .ok (.iload_n 1, 1) := by decide +kernel
theorem dX10_isNode_5 : decode (m_code mX10_isNode) 5 = .ok (.aload_n 0, 1) := by decide +kernel
theorem dX10_isNode_6 : decode (m_code mX10_isNode) 6 = .ok (.invokevirtual 47, 3) := by decide +kernel
theorem dX10_isNode_9 : decode (m_code mX10_isNode) 9 = .ok (.if_icmp .ge 7, 3) := by decide +kernel
theorem dX10_isNode_12 : decode (m_code mX10_isNode) 12 = .ok (.iconst 1, 1) := by decide +kernel
theorem dX10_isNode_13 : decode (m_code mX10_isNode) 13 = .ok (.goto 4, 3) := by decide +kernel
theorem dX10_isNode_16 : decode (m_code mX10_isNode) 16 = .ok (.iconst 0, 1) := by decide +kernel
theorem dX10_isNode_17 : decode (m_code mX10_isNode) 17 = .ok (.ireturn, 1) := by decide +kernel
theorem dX10_isBlock_0 : decode (m_code mX10_isBlock) 0 = .ok (.iload_n 1, 1) := by decide +kernel
theorem dX10_isBlock_1 : decode (m_code mX10_isBlock) 1 = .ok (.ifCond .lt 15, 3) := by decide +kernel
theorem dX10_isBlock_4 : decode (m_code mX10_isBlock) 4 = .ok (.iload_n 1, 1) := by decide +kernel
theorem dX10_isBlock_5 : decode (m_code mX10_isBlock) 5 = .ok (.aload_n 0, 1) := by decide +kernel
theorem dX10_isBlock_6 : decode (m_code mX10_isBlock) 6 = .ok (.invokevirtual 51, 3) := by decide +kernel
theorem dX10_isBlock_9 : decode (m_code mX10_isBlock) 9 = .ok (.if_icmp .ge 7, 3) := by decide +kernel
theorem dX10_isBlock_12 : decode (m_code mX10_isBlock) 12 = .ok (.iconst 1, 1) := by decide +kernel
theorem dX10_isBlock_13 : decode (m_code mX10_isBlock) 13 = .ok (.goto 4, 3) := by decide +kernel
theorem dX10_isBlock_16 : decode (m_code mX10_isBlock) 16 = .ok (.iconst 0, 1) := by decide +kernel
theorem dX10_isBlock_17 : decode (m_code mX10_isBlock) 17 = .ok (.ireturn, 1) := by decide +kernel
theorem dX10_isCertified_0 : decode (m_code mX10_isCertified) 0 = .ok (.iload_n 1, 1) := by decide +kernel
theorem dX10_isCertified_1 : decode (m_code mX10_isCertified) 1 = .ok (.ifCond .eq 17, 3) := by decide +kernel
theorem dX10_isCertified_4 : decode (m_code mX10_isCertified) 4 = .ok (.aload_n 0, 1) := by decide +kernel
theorem dX10_isCertified_5 : decode (m_code mX10_isCertified) 5 = .ok (.getfield 7, 3) := by decide +kernel
theorem dX10_isCertified_8 : decode (m_code mX10_isCertified) 8 = .ok (.sipush 716, 3) := by decide +kernel
theorem dX10_isCertified_11 : decode (m_code mX10_isCertified) 11 = .ok (.iload_n 1, 1) := by decide +kernel
theorem dX10_isCertified_12 : decode (m_code mX10_isCertified) 12 = .ok (.iadd, 1) := by decide +kernel
theorem dX10_isCertified_13 : decode (m_code mX10_isCertified) 13 = .ok (.iaload, 1) := by decide +kernel
theorem dX10_isCertified_14 : decode (m_code mX10_isCertified) 14 = .ok (.iconst 1, 1) := by decide +kernel
theorem dX10_isCertified_15 : decode (m_code mX10_isCertified) 15 = .ok (.if_icmp .ne 7, 3) := by decide +kernel
theorem dX10_isCertified_18 : decode (m_code mX10_isCertified) 18 = .ok (.iconst 1, 1) := by decide +kernel
theorem dX10_isCertified_19 : decode (m_code mX10_isCertified) 19 = .ok (.goto 4, 3) := by decide +kernel
theorem dX10_isCertified_22 : decode (m_code mX10_isCertified) 22 = .ok (.iconst 0, 1) := by decide +kernel
theorem dX10_isCertified_23 : decode (m_code mX10_isCertified) 23 = .ok (.ireturn, 1) := by decide +kernel
theorem dX10_parentOf_0 : decode (m_code mX10_parentOf) 0 = .ok (.aload_n 0, 1) := by decide +kernel
theorem dX10_parentOf_1 : decode (m_code mX10_parentOf) 1 = .ok (.getfield 7, 3) := by decide +kernel
theorem dX10_parentOf_4 : decode (m_code mX10_parentOf) 4 = .ok (.bipush 116, 2) := by decide +kernel
theorem dX10_parentOf_6 : decode (m_code mX10_parentOf) 6 = .ok (.iload_n 1, 1) := by decide +kernel
theorem dX10_parentOf_7 : decode (m_code mX10_parentOf) 7 = .ok (.iadd, 1) := by decide +kernel
theorem dX10_parentOf_8 : decode (m_code mX10_parentOf) 8 = .ok (.iaload, 1) := by decide +kernel
theorem dX10_parentOf_9 : decode (m_code mX10_parentOf) 9 = .ok (.iconst 1, 1) := by decide +kernel
theorem dX10_parentOf_10 : decode (m_code mX10_parentOf) 10 = .ok (.isub, 1) := by decide +kernel
theorem dX10_parentOf_11 : decode (m_code mX10_parentOf) 11 = .ok (.ireturn, 1) := by decide +kernel
theorem dX10_viewOf_0 : decode (m_code mX10_viewOf) 0 = .ok (.aload_n 0, 1) := by decide +kernel
theorem dX10_viewOf_1 : decode (m_code mX10_viewOf) 1 = .ok (.getfield 7, 3) := by decide +kernel
theorem dX10_viewOf_4 : decode (m_code mX10_viewOf) 4 = .ok (.aload_n 0, 1) := by decide +kernel
theorem dX10_viewOf_5 : decode (m_code mX10_viewOf) 5 = .ok (.iload_n 1, 1) := by decide +kernel
theorem dX10_viewOf_6 : decode (m_code mX10_viewOf) 6 = .ok (.invokevirtual 54, 3) := by decide +kernel
theorem dX10_viewOf_9 : decode (m_code mX10_viewOf) 9 = .ok (.iconst 1, 1) := by decide +kernel
theorem dX10_viewOf_10 : decode (m_code mX10_viewOf) 10 = .ok (.iadd, 1) := by decide +kernel
theorem dX10_viewOf_11 : decode (m_code mX10_viewOf) 11 = .ok (.iaload, 1) := by decide +kernel
theorem dX10_viewOf_12 : decode (m_code mX10_viewOf) 12 = .ok (.iconst 1, 1) := by decide +kernel
theorem dX10_viewOf_13 : decode (m_code mX10_viewOf) 13 = .ok (.iadd, 1) := by decide +kernel
theorem dX10_viewOf_14 : decode (m_code mX10_viewOf) 14 = .ok (.ireturn, 1) := by decide +kernel
theorem dX10_goesTo_0 : decode (m_code mX10_goesTo) 0 = .ok (.aload_n 0, 1) := by decide +kernel
theorem dX10_goesTo_1 : decode (m_code mX10_goesTo) 1 = .ok (.getfield 7, 3) := by decide +kernel
theorem dX10_goesTo_4 : decode (m_code mX10_goesTo) 4 = .ok (.aload_n 0, 1) := by decide +kernel
theorem dX10_goesTo_5 : decode (m_code mX10_goesTo) 5 = .ok (.iload_n 1, 1) := by decide +kernel
theorem dX10_goesTo_6 : decode (m_code mX10_goesTo) 6 = .ok (.invokevirtual 54, 3) := by decide +kernel
theorem dX10_goesTo_9 : decode (m_code mX10_goesTo) 9 = .ok (.iconst 1, 1) := by decide +kernel
theorem dX10_goesTo_10 : decode (m_code mX10_goesTo) 10 = .ok (.iadd, 1) := by decide +kernel
theorem dX10_goesTo_11 : decode (m_code mX10_goesTo) 11 = .ok (.iload_n 2, 1) := by decide +kernel
theorem dX10_goesTo_12 : decode (m_code mX10_goesTo) 12 = .ok (.iconst 1, 1) := by decide +kernel
theorem dX10_goesTo_13 : decode (m_code mX10_goesTo) 13 = .ok (.isub, 1) := by decide +kernel
theorem dX10_goesTo_14 : decode (m_code mX10_goesTo) 14 = .ok (.iastore, 1) := by decide +kernel
theorem dX10_goesTo_15 : decode (m_code mX10_goesTo) 15 = .ok (.return_, 1) := by decide +kernel
theorem dX10_logMany_0 : decode (m_code mX10_logMany) 0 = .ok (.aload_n 0, 1) := by decide +kernel
theorem dX10_logMany_1 : decode (m_code mX10_logMany) 1 = .ok (.getfield 7, 3) := by decide +kernel
theorem dX10_logMany_4 : decode (m_code mX10_logMany) 4 = .ok (.aload_n 0, 1) := by decide +kernel
theorem dX10_logMany_5 : decode (m_code mX10_logMany) 5 = .ok (.iload_n 1, 1) := by decide +kernel
theorem dX10_logMany_6 : decode (m_code mX10_logMany) 6 = .ok (.invokevirtual 54, 3) := by decide +kernel
theorem dX10_logMany_9 : decode (m_code mX10_logMany) 9 = .ok (.bipush 8, 2) := by decide +kernel
theorem dX10_logMany_11 : decode (m_code mX10_logMany) 11 = .ok (.iadd, 1) := by decide +kernel
theorem dX10_logMany_12 : decode (m_code mX10_logMany) 12 = .ok (.iaload, 1) := by decide +kernel
theorem dX10_logMany_13 : decode (m_code mX10_logMany) 13 = .ok (.iconst 1, 1) := by decide +kernel
theorem dX10_logMany_14 : decode (m_code mX10_logMany) 14 = .ok (.iadd, 1) := by decide +kernel
theorem dX10_logMany_15 : decode (m_code mX10_logMany) 15 = .ok (.ireturn, 1) := by decide +kernel
theorem dX10_logLast_0 : decode (m_code mX10_logLast) 0 = .ok (.aload_n 0, 1) := by decide +kernel
theorem dX10_logLast_1 : decode (m_code mX10_logLast) 1 = .ok (.getfield 7, 3) := by decide +kernel
theorem dX10_logLast_4 : decode (m_code mX10_logLast) 4 = .ok (.aload_n 0, 1) := by decide +kernel
theorem dX10_logLast_5 : decode (m_code mX10_logLast) 5 = .ok (.iload_n 1, 1) := by decide +kernel
theorem dX10_logLast_6 : decode (m_code mX10_logLast) 6 = .ok (.invokevirtual 54, 3) := by decide +kernel
theorem dX10_logLast_9 : decode (m_code mX10_logLast) 9 = .ok (.bipush 12, 2) := by decide +kernel
theorem dX10_logLast_11 : decode (m_code mX10_logLast) 11 = .ok (.iadd, 1) := by decide +kernel
theorem dX10_logLast_12 : decode (m_code mX10_logLast) 12 = .ok (.aload_n 0, 1) := by decide +kernel
theorem dX10_logLast_13 : decode (m_code mX10_logLast) 13 = .ok (.getfield 7, 3) := by decide +kernel
theorem dX10_logLast_16 : decode (m_code mX10_logLast) 16 = .ok (.aload_n 0, 1) := by decide +kernel
theorem dX10_logLast_17 : decode (m_code mX10_logLast) 17 = .ok (.iload_n 1, 1) := by decide +kernel
theorem dX10_logLast_18 : decode (m_code mX10_logLast) 18 = .ok (.invokevirtual 54, 3) := by decide +kernel
theorem dX10_logLast_21 : decode (m_code mX10_logLast) 21 = .ok (.bipush 8, 2) := by decide +kernel
theorem dX10_logLast_23 : decode (m_code mX10_logLast) 23 = .ok (.iadd, 1) := by decide +kernel
theorem dX10_logLast_24 : decode (m_code mX10_logLast) 24 = .ok (.iaload, 1) := by decide +kernel
theorem dX10_logLast_25 : decode (m_code mX10_logLast) 25 = .ok (.iadd, 1) := by decide +kernel
theorem dX10_logLast_26 : decode (m_code mX10_logLast) 26 = .ok (.iaload, 1) := by decide +kernel
theorem dX10_logLast_27 : decode (m_code mX10_logLast) 27 = .ok (.ireturn, 1) := by decide +kernel
theorem dX10_isSilent_0 : decode (m_code mX10_isSilent) 0 = .ok (.aload_n 0, 1) := by decide +kernel
theorem dX10_isSilent_1 : decode (m_code mX10_isSilent) 1 = .ok (.getfield 7, 3) := by decide +kernel
theorem dX10_isSilent_4 : decode (m_code mX10_isSilent) 4 = .ok (.aload_n 0, 1) := by decide +kernel
theorem dX10_isSilent_5 : decode (m_code mX10_isSilent) 5 = .ok (.iload_n 1, 1) := by decide +kernel
theorem dX10_isSilent_6 : decode (m_code mX10_isSilent) 6 = .ok (.invokevirtual 54, 3) := by decide +kernel
theorem dX10_isSilent_9 : decode (m_code mX10_isSilent) 9 = .ok (.iconst 0, 1) := by decide +kernel
theorem dX10_isSilent_10 : decode (m_code mX10_isSilent) 10 = .ok (.iadd, 1) := by decide +kernel
theorem dX10_isSilent_11 : decode (m_code mX10_isSilent) 11 = .ok (.iaload, 1) := by decide +kernel
theorem dX10_isSilent_12 : decode (m_code mX10_isSilent) 12 = .ok (.iconst 1, 1) := by decide +kernel
theorem dX10_isSilent_13 : decode (m_code mX10_isSilent) 13 = .ok (.if_icmp .ne 7, 3) := by decide +kernel
theorem dX10_isSilent_16 : decode (m_code mX10_isSilent) 16 = .ok (.iconst 1, 1) := by decide +kernel
theorem dX10_isSilent_17 : decode (m_code mX10_isSilent) 17 = .ok (.goto 4, 3) := by decide +kernel
theorem dX10_isSilent_20 : decode (m_code mX10_isSilent) 20 = .ok (.iconst 0, 1) := by decide +kernel
theorem dX10_isSilent_21 : decode (m_code mX10_isSilent) 21 = .ok (.ireturn, 1) := by decide +kernel
theorem dX10_leaderOf_0 : decode (m_code mX10_leaderOf) 0 = .ok (.aload_n 0, 1) := by decide +kernel
theorem dX10_leaderOf_1 : decode (m_code mX10_leaderOf) 1 = .ok (.getfield 7, 3) := by decide +kernel
theorem dX10_leaderOf_4 : decode (m_code mX10_leaderOf) 4 = .ok (.iconst 1, 1) := by decide +kernel
theorem dX10_leaderOf_5 : decode (m_code mX10_leaderOf) 5 = .ok (.iaload, 1) := by decide +kernel
theorem dX10_leaderOf_6 : decode (m_code mX10_leaderOf) 6 = .ok (.ifCond .ne 7, 3) := by decide +kernel
theorem dX10_leaderOf_9 : decode (m_code mX10_leaderOf) 9 = .ok (.iload_n 1, 1) := by decide +kernel
theorem dX10_leaderOf_10 : decode (m_code mX10_leaderOf) 10 = .ok (.goto 22, 3) := by decide +kernel
theorem dX10_leaderOf_13 : decode (m_code mX10_leaderOf) 13 = .ok (.aload_n 0, 1) := by decide +kernel
theorem dX10_leaderOf_14 : decode (m_code mX10_leaderOf) 14 = .ok (.getfield 7, 3) := by decide +kernel
theorem dX10_leaderOf_17 : decode (m_code mX10_leaderOf) 17 = .ok (.iconst 1, 1) := by decide +kernel
theorem dX10_leaderOf_18 : decode (m_code mX10_leaderOf) 18 = .ok (.iaload, 1) := by decide +kernel
theorem dX10_leaderOf_19 : decode (m_code mX10_leaderOf) 19 = .ok (.iconst 1, 1) := by decide +kernel
theorem dX10_leaderOf_20 : decode (m_code mX10_leaderOf) 20 = .ok (.if_icmp .ne 9, 3) := by decide +kernel
theorem dX10_leaderOf_23 : decode (m_code mX10_leaderOf) 23 = .ok (.iload_n 1, 1) := by decide +kernel
theorem dX10_leaderOf_24 : decode (m_code mX10_leaderOf) 24 = .ok (.iconst 2, 1) := by decide +kernel
theorem dX10_leaderOf_25 : decode (m_code mX10_leaderOf) 25 = .ok (.idiv, 1) := by decide +kernel
theorem dX10_leaderOf_26 : decode (m_code mX10_leaderOf) 26 = .ok (.goto 6, 3) := by decide +kernel
theorem dX10_leaderOf_29 : decode (m_code mX10_leaderOf) 29 = .ok (.iload_n 1, 1) := by decide +kernel
theorem dX10_leaderOf_30 : decode (m_code mX10_leaderOf) 30 = .ok (.iload_n 1, 1) := by decide +kernel
theorem dX10_leaderOf_31 : decode (m_code mX10_leaderOf) 31 = .ok (.imul, 1) := by decide +kernel
theorem dX10_leaderOf_32 : decode (m_code mX10_leaderOf) 32 = .ok (.istore_n 2, 1) := by decide +kernel
theorem dX10_leaderOf_33 : decode (m_code mX10_leaderOf) 33 = .ok (.iload_n 2, 1) := by decide +kernel
theorem dX10_leaderOf_34 : decode (m_code mX10_leaderOf) 34 = .ok (.aload_n 0, 1) := by decide +kernel
theorem dX10_leaderOf_35 : decode (m_code mX10_leaderOf) 35 = .ok (.invokevirtual 47, 3) := by decide +kernel
theorem dX10_leaderOf_38 : decode (m_code mX10_leaderOf) 38 = .ok (.irem, 1) := by decide +kernel
theorem dX10_leaderOf_39 : decode (m_code mX10_leaderOf) 39 = .ok (.ireturn, 1) := by decide +kernel
theorem dX10_doesExtend_0 : decode (m_code mX10_doesExtend) 0 = .ok (.iload_n 1, 1) := by decide +kernel
theorem dX10_doesExtend_1 : decode (m_code mX10_doesExtend) 1 = .ok (.istore_n 3, 1) := by decide +kernel
theorem dX10_doesExtend_2 : decode (m_code mX10_doesExtend) 2 = .ok (.aload_n 0, 1) := by decide +kernel
theorem dX10_doesExtend_3 : decode (m_code mX10_doesExtend) 3 = .ok (.getfield 7, 3) := by decide +kernel
theorem dX10_doesExtend_6 : decode (m_code mX10_doesExtend) 6 = .ok (.sipush 516, 3) := by decide +kernel
theorem dX10_doesExtend_9 : decode (m_code mX10_doesExtend) 9 = .ok (.iload_n 3, 1) := by decide +kernel
theorem dX10_doesExtend_10 : decode (m_code mX10_doesExtend) 10 = .ok (.iadd, 1) := by decide +kernel
theorem dX10_doesExtend_11 : decode (m_code mX10_doesExtend) 11 = .ok (.iaload, 1) := by decide +kernel
theorem dX10_doesExtend_12 : decode (m_code mX10_doesExtend) 12 = .ok (.aload_n 0, 1) := by decide +kernel
theorem dX10_doesExtend_13 : decode (m_code mX10_doesExtend) 13 = .ok (.getfield 7, 3) := by decide +kernel
theorem dX10_doesExtend_16 : decode (m_code mX10_doesExtend) 16 = .ok (.sipush 516, 3) := by decide +kernel
theorem dX10_doesExtend_19 : decode (m_code mX10_doesExtend) 19 = .ok (.iload_n 2, 1) := by decide +kernel
theorem dX10_doesExtend_20 : decode (m_code mX10_doesExtend) 20 = .ok (.iadd, 1) := by decide +kernel
theorem dX10_doesExtend_21 : decode (m_code mX10_doesExtend) 21 = .ok (.iaload, 1) := by decide +kernel
theorem dX10_doesExtend_22 : decode (m_code mX10_doesExtend) 22 = .ok (.if_icmp .le 12, 3) := by decide +kernel
theorem dX10_doesExtend_25 : decode (m_code mX10_doesExtend) 25 = .ok (.aload_n 0, 1) := by decide +kernel
theorem dX10_doesExtend_26 : decode (m_code mX10_doesExtend) 26 = .ok (.iload_n 3, 1) := by decide +kernel
theorem dX10_doesExtend_27 : decode (m_code mX10_doesExtend) 27 = .ok (.invokevirtual 58, 3) := by decide +kernel
theorem dX10_doesExtend_30 : decode (m_code mX10_doesExtend) 30 = .ok (.istore_n 3, 1) := by decide +kernel
theorem dX10_doesExtend_31 : decode (m_code mX10_doesExtend) 31 = .ok (.goto (-29), 3) := by decide +kernel
theorem dX10_doesExtend_34 : decode (m_code mX10_doesExtend) 34 = .ok (.iload_n 3, 1) := by decide +kernel
theorem dX10_doesExtend_35 : decode (m_code mX10_doesExtend) 35 = .ok (.iload_n 2, 1) := by decide +kernel
theorem dX10_doesExtend_36 : decode (m_code mX10_doesExtend) 36 = .ok (.if_icmp .ne 7, 3) := by decide +kernel
theorem dX10_doesExtend_39 : decode (m_code mX10_doesExtend) 39 = .ok (.iconst 1, 1) := by decide +kernel
theorem dX10_doesExtend_40 : decode (m_code mX10_doesExtend) 40 = .ok (.goto 4, 3) := by decide +kernel
theorem dX10_doesExtend_43 : decode (m_code mX10_doesExtend) 43 = .ok (.iconst 0, 1) := by decide +kernel
theorem dX10_doesExtend_44 : decode (m_code mX10_doesExtend) 44 = .ok (.ireturn, 1) := by decide +kernel
theorem dX10_isFresh_0 : decode (m_code mX10_isFresh) 0 = .ok (.aload_n 0, 1) := by decide +kernel
theorem dX10_isFresh_1 : decode (m_code mX10_isFresh) 1 = .ok (.getfield 7, 3) := by decide +kernel
theorem dX10_isFresh_4 : decode (m_code mX10_isFresh) 4 = .ok (.iconst 4, 1) := by decide +kernel
theorem dX10_isFresh_5 : decode (m_code mX10_isFresh) 5 = .ok (.iaload, 1) := by decide +kernel
theorem dX10_isFresh_6 : decode (m_code mX10_isFresh) 6 = .ok (.ifCond .ne 16, 3) := by decide +kernel
theorem dX10_isFresh_9 : decode (m_code mX10_isFresh) 9 = .ok (.aload_n 0, 1) := by decide +kernel
theorem dX10_isFresh_10 : decode (m_code mX10_isFresh) 10 = .ok (.getfield 7, 3) := by decide +kernel
theorem dX10_isFresh_13 : decode (m_code mX10_isFresh) 13 = .ok (.iconst 3, 1) := by decide +kernel
theorem dX10_isFresh_14 : decode (m_code mX10_isFresh) 14 = .ok (.iaload, 1) := by decide +kernel
theorem dX10_isFresh_15 : decode (m_code mX10_isFresh) 15 = .ok (.ifCond .ne 7, 3) := by decide +kernel
theorem dX10_isFresh_18 : decode (m_code mX10_isFresh) 18 = .ok (.iconst 1, 1) := by decide +kernel
theorem dX10_isFresh_19 : decode (m_code mX10_isFresh) 19 = .ok (.goto 4, 3) := by decide +kernel
theorem dX10_isFresh_22 : decode (m_code mX10_isFresh) 22 = .ok (.iconst 0, 1) := by decide +kernel
theorem dX10_isFresh_23 : decode (m_code mX10_isFresh) 23 = .ok (.ireturn, 1) := by decide +kernel
theorem dX10_nodes_0 : decode (m_code mX10_nodes) 0 = .ok (.aload_n 0, 1) := by decide +kernel
theorem dX10_nodes_1 : decode (m_code mX10_nodes) 1 = .ok (.iconst 0, 1) := by decide +kernel
theorem dX10_nodes_2 : decode (m_code mX10_nodes) 2 = .ok (.putfield 44, 3) := by decide +kernel
theorem dX10_nodes_5 : decode (m_code mX10_nodes) 5 = .ok (.aload_n 0, 1) := by decide +kernel
theorem dX10_nodes_6 : decode (m_code mX10_nodes) 6 = .ok (.iload_n 1, 1) := by decide +kernel
theorem dX10_nodes_7 : decode (m_code mX10_nodes) 7 = .ok (.iconst 4, 1) := by decide +kernel
theorem dX10_nodes_8 : decode (m_code mX10_nodes) 8 = .ok (.bipush 7, 2) := by decide +kernel
theorem dX10_nodes_10 : decode (m_code mX10_nodes) 10 = .ok (.invokevirtual 61, 3) := by decide +kernel
theorem dX10_nodes_13 : decode (m_code mX10_nodes) 13 = .ok (.ifCond .eq 10, 3) := by decide +kernel
theorem dX10_nodes_16 : decode (m_code mX10_nodes) 16 = .ok (.aload_n 0, 1) := by decide +kernel
theorem dX10_nodes_17 : decode (m_code mX10_nodes) 17 = .ok (.invokevirtual 65, 3) := by decide +kernel
theorem dX10_nodes_20 : decode (m_code mX10_nodes) 20 = .ok (.ifCond .ne 5, 3) := by decide +kernel
theorem dX10_nodes_23 : decode (m_code mX10_nodes) 23 = .ok (.iconst 0, 1) := by decide +kernel
theorem dX10_nodes_24 : decode (m_code mX10_nodes) 24 = .ok (.ireturn, 1) := by decide +kernel
theorem dX10_nodes_25 : decode (m_code mX10_nodes) 25 = .ok (.aload_n 0, 1) := by decide +kernel
theorem dX10_nodes_26 : decode (m_code mX10_nodes) 26 = .ok (.getfield 7, 3) := by decide +kernel
theorem dX10_nodes_29 : decode (m_code mX10_nodes) 29 = .ok (.iconst 0, 1) := by decide +kernel
theorem dX10_nodes_30 : decode (m_code mX10_nodes) 30 = .ok (.iload_n 1, 1) := by decide +kernel
theorem dX10_nodes_31 : decode (m_code mX10_nodes) 31 = .ok (.iconst 4, 1) := by decide +kernel
theorem dX10_nodes_32 : decode (m_code mX10_nodes) 32 = .ok (.isub, 1) := by decide +kernel
theorem dX10_nodes_33 : decode (m_code mX10_nodes) 33 = .ok (.iastore, 1) := by decide +kernel
theorem dX10_nodes_34 : decode (m_code mX10_nodes) 34 = .ok (.sipush 2416, 3) := by decide +kernel
theorem dX10_nodes_37 : decode (m_code mX10_nodes) 37 = .ok (.istore_n 2, 1) := by decide +kernel
theorem dX10_nodes_38 : decode (m_code mX10_nodes) 38 = .ok (.iload_n 2, 1) := by decide +kernel
theorem dX10_nodes_39 : decode (m_code mX10_nodes) 39 = .ok (.sipush 6010, 3) := by decide +kernel
theorem dX10_nodes_42 : decode (m_code mX10_nodes) 42 = .ok (.if_icmp .ge 16, 3) := by decide +kernel
theorem dX10_nodes_45 : decode (m_code mX10_nodes) 45 = .ok (.aload_n 0, 1) := by decide +kernel
theorem dX10_nodes_46 : decode (m_code mX10_nodes) 46 = .ok (.getfield 7, 3) := by decide +kernel
theorem dX10_nodes_49 : decode (m_code mX10_nodes) 49 = .ok (.iload_n 2, 1) := by decide +kernel
theorem dX10_nodes_50 : decode (m_code mX10_nodes) 50 = .ok (.iconst 0, 1) := by decide +kernel
theorem dX10_nodes_51 : decode (m_code mX10_nodes) 51 = .ok (.iastore, 1) := by decide +kernel
theorem dX10_nodes_52 : decode (m_code mX10_nodes) 52 = .ok (.iinc 2 1, 3) := by decide +kernel
theorem dX10_nodes_55 : decode (m_code mX10_nodes) 55 = .ok (.goto (-17), 3) := by decide +kernel
theorem dX10_nodes_58 : decode (m_code mX10_nodes) 58 = .ok (.iconst 1, 1) := by decide +kernel
theorem dX10_nodes_59 : decode (m_code mX10_nodes) 59 = .ok (.ireturn, 1) := by decide +kernel
theorem dX10_leaders_0 : decode (m_code mX10_leaders) 0 = .ok (.aload_n 0, 1) := by decide +kernel
theorem dX10_leaders_1 : decode (m_code mX10_leaders) 1 = .ok (.iconst 0, 1) := by decide +kernel
theorem dX10_leaders_2 : decode (m_code mX10_leaders) 2 = .ok (.putfield 44, 3) := by decide +kernel
theorem dX10_leaders_5 : decode (m_code mX10_leaders) 5 = .ok (.aload_n 0, 1) := by decide +kernel
theorem dX10_leaders_6 : decode (m_code mX10_leaders) 6 = .ok (.iload_n 1, 1) := by decide +kernel
theorem dX10_leaders_7 : decode (m_code mX10_leaders) 7 = .ok (.iconst 0, 1) := by decide +kernel
theorem dX10_leaders_8 : decode (m_code mX10_leaders) 8 = .ok (.iconst 2, 1) := by decide +kernel
theorem dX10_leaders_9 : decode (m_code mX10_leaders) 9 = .ok (.invokevirtual 61, 3) := by decide +kernel
theorem dX10_leaders_12 : decode (m_code mX10_leaders) 12 = .ok (.ifCond .eq 10, 3) := by decide +kernel
theorem dX10_leaders_15 : decode (m_code mX10_leaders) 15 = .ok (.aload_n 0, 1) := by decide +kernel
theorem dX10_leaders_16 : decode (m_code mX10_leaders) 16 = .ok (.invokevirtual 65, 3) := by decide +kernel
theorem dX10_leaders_19 : decode (m_code mX10_leaders) 19 = .ok (.ifCond .ne 5, 3) := by decide +kernel
theorem dX10_leaders_22 : decode (m_code mX10_leaders) 22 = .ok (.iconst (-1), 1) := by decide +kernel
theorem dX10_leaders_23 : decode (m_code mX10_leaders) 23 = .ok (.ireturn, 1) := by decide +kernel
theorem dX10_leaders_24 : decode (m_code mX10_leaders) 24 = .ok (.aload_n 0, 1) := by decide +kernel
theorem dX10_leaders_25 : decode (m_code mX10_leaders) 25 = .ok (.getfield 7, 3) := by decide +kernel
theorem dX10_leaders_28 : decode (m_code mX10_leaders) 28 = .ok (.iconst 1, 1) := by decide +kernel
theorem dX10_leaders_29 : decode (m_code mX10_leaders) 29 = .ok (.iaload, 1) := by decide +kernel
theorem dX10_leaders_30 : decode (m_code mX10_leaders) 30 = .ok (.istore_n 2, 1) := by decide +kernel
theorem dX10_leaders_31 : decode (m_code mX10_leaders) 31 = .ok (.aload_n 0, 1) := by decide +kernel
theorem dX10_leaders_32 : decode (m_code mX10_leaders) 32 = .ok (.getfield 7, 3) := by decide +kernel
theorem dX10_leaders_35 : decode (m_code mX10_leaders) 35 = .ok (.iconst 1, 1) := by decide +kernel
theorem dX10_leaders_36 : decode (m_code mX10_leaders) 36 = .ok (.iload_n 1, 1) := by decide +kernel
theorem dX10_leaders_37 : decode (m_code mX10_leaders) 37 = .ok (.iastore, 1) := by decide +kernel
theorem dX10_leaders_38 : decode (m_code mX10_leaders) 38 = .ok (.iload_n 2, 1) := by decide +kernel
theorem dX10_leaders_39 : decode (m_code mX10_leaders) 39 = .ok (.ireturn, 1) := by decide +kernel
theorem dX10_state_0 : decode (m_code mX10_state) 0 = .ok (.aload_n 0, 1) := by decide +kernel
theorem dX10_state_1 : decode (m_code mX10_state) 1 = .ok (.iconst 0, 1) := by decide +kernel
theorem dX10_state_2 : decode (m_code mX10_state) 2 = .ok (.putfield 44, 3) := by decide +kernel
theorem dX10_state_5 : decode (m_code mX10_state) 5 = .ok (.aload_n 0, 1) := by decide +kernel
theorem dX10_state_6 : decode (m_code mX10_state) 6 = .ok (.getfield 7, 3) := by decide +kernel
theorem dX10_state_9 : decode (m_code mX10_state) 9 = .ok (.iconst 2, 1) := by decide +kernel
theorem dX10_state_10 : decode (m_code mX10_state) 10 = .ok (.iaload, 1) := by decide +kernel
theorem dX10_state_11 : decode (m_code mX10_state) 11 = .ok (.istore_n 2, 1) := by decide +kernel
theorem dX10_state_12 : decode (m_code mX10_state) 12 = .ok (.aload_n 0, 1) := by decide +kernel
theorem dX10_state_13 : decode (m_code mX10_state) 13 = .ok (.getfield 7, 3) := by decide +kernel
theorem dX10_state_16 : decode (m_code mX10_state) 16 = .ok (.iconst 2, 1) := by decide +kernel
theorem dX10_state_17 : decode (m_code mX10_state) 17 = .ok (.iload_n 1, 1) := by decide +kernel
theorem dX10_state_18 : decode (m_code mX10_state) 18 = .ok (.iastore, 1) := by decide +kernel
theorem dX10_state_19 : decode (m_code mX10_state) 19 = .ok (.iload_n 2, 1) := by decide +kernel
theorem dX10_state_20 : decode (m_code mX10_state) 20 = .ok (.ireturn, 1) := by decide +kernel
theorem dX10_draw_0 : decode (m_code mX10_draw) 0 = .ok (.aload_n 0, 1) := by decide +kernel
theorem dX10_draw_1 : decode (m_code mX10_draw) 1 = .ok (.getfield 7, 3) := by decide +kernel
theorem dX10_draw_4 : decode (m_code mX10_draw) 4 = .ok (.iconst 2, 1) := by decide +kernel
theorem dX10_draw_5 : decode (m_code mX10_draw) 5 = .ok (.ldc 69, 2) := by decide +kernel
theorem dX10_draw_7 : decode (m_code mX10_draw) 7 = .ok (.aload_n 0, 1) := by decide +kernel
theorem dX10_draw_8 : decode (m_code mX10_draw) 8 = .ok (.getfield 7, 3) := by decide +kernel
theorem dX10_draw_11 : decode (m_code mX10_draw) 11 = .ok (.iconst 2, 1) := by decide +kernel
theorem dX10_draw_12 : decode (m_code mX10_draw) 12 = .ok (.iaload, 1) := by decide +kernel
theorem dX10_draw_13 : decode (m_code mX10_draw) 13 = .ok (.imul, 1) := by decide +kernel
theorem dX10_draw_14 : decode (m_code mX10_draw) 14 = .ok (.ldc 70, 2) := by decide +kernel
theorem dX10_draw_16 : decode (m_code mX10_draw) 16 = .ok (.iadd, 1) := by decide +kernel
theorem dX10_draw_17 : decode (m_code mX10_draw) 17 = .ok (.iastore, 1) := by decide +kernel
theorem dX10_draw_18 : decode (m_code mX10_draw) 18 = .ok (.aload_n 0, 1) := by decide +kernel
theorem dX10_draw_19 : decode (m_code mX10_draw) 19 = .ok (.getfield 7, 3) := by decide +kernel
theorem dX10_draw_22 : decode (m_code mX10_draw) 22 = .ok (.iconst 2, 1) := by decide +kernel
theorem dX10_draw_23 : decode (m_code mX10_draw) 23 = .ok (.iaload, 1) := by decide +kernel
theorem dX10_draw_24 : decode (m_code mX10_draw) 24 = .ok (.bipush 8, 2) := by decide +kernel
theorem dX10_draw_26 : decode (m_code mX10_draw) 26 = .ok (.iushr, 1) := by decide +kernel
theorem dX10_draw_27 : decode (m_code mX10_draw) 27 = .ok (.iload_n 1, 1) := by decide +kernel
theorem dX10_draw_28 : decode (m_code mX10_draw) 28 = .ok (.irem, 1) := by decide +kernel
theorem dX10_draw_29 : decode (m_code mX10_draw) 29 = .ok (.ireturn, 1) := by decide +kernel
theorem dX10_mode_0 : decode (m_code mX10_mode) 0 = .ok (.aload_n 0, 1) := by decide +kernel
theorem dX10_mode_1 : decode (m_code mX10_mode) 1 = .ok (.iconst 0, 1) := by decide +kernel
theorem dX10_mode_2 : decode (m_code mX10_mode) 2 = .ok (.putfield 44, 3) := by decide +kernel
theorem dX10_mode_5 : decode (m_code mX10_mode) 5 = .ok (.aload_n 0, 1) := by decide +kernel
theorem dX10_mode_6 : decode (m_code mX10_mode) 6 = .ok (.iload_n 1, 1) := by decide +kernel
theorem dX10_mode_7 : decode (m_code mX10_mode) 7 = .ok (.invokevirtual 71, 3) := by decide +kernel
theorem dX10_mode_10 : decode (m_code mX10_mode) 10 = .ok (.ifCond .eq 13, 3) := by decide +kernel
theorem dX10_mode_13 : decode (m_code mX10_mode) 13 = .ok (.aload_n 0, 1) := by decide +kernel
theorem dX10_mode_14 : decode (m_code mX10_mode) 14 = .ok (.iload_n 2, 1) := by decide +kernel
theorem dX10_mode_15 : decode (m_code mX10_mode) 15 = .ok (.iconst 0, 1) := by decide +kernel
theorem dX10_mode_16 : decode (m_code mX10_mode) 16 = .ok (.iconst 2, 1) := by decide +kernel
theorem dX10_mode_17 : decode (m_code mX10_mode) 17 = .ok (.invokevirtual 61, 3) := by decide +kernel
theorem dX10_mode_20 : decode (m_code mX10_mode) 20 = .ok (.ifCond .ne 5, 3) := by decide +kernel
theorem dX10_mode_23 : decode (m_code mX10_mode) 23 = .ok (.iconst 0, 1) := by decide +kernel
theorem dX10_mode_24 : decode (m_code mX10_mode) 24 = .ok (.ireturn, 1) := by decide +kernel
theorem dX10_mode_25 : decode (m_code mX10_mode) 25 = .ok (.aload_n 0, 1) := by decide +kernel
theorem dX10_mode_26 : decode (m_code mX10_mode) 26 = .ok (.getfield 7, 3) := by decide +kernel
theorem dX10_mode_29 : decode (m_code mX10_mode) 29 = .ok (.aload_n 0, 1) := by decide +kernel
theorem dX10_mode_30 : decode (m_code mX10_mode) 30 = .ok (.iload_n 1, 1) := by decide +kernel
theorem dX10_mode_31 : decode (m_code mX10_mode) 31 = .ok (.invokevirtual 54, 3) := by decide +kernel
theorem dX10_mode_34 : decode (m_code mX10_mode) 34 = .ok (.iconst 0, 1) := by decide +kernel
theorem dX10_mode_35 : decode (m_code mX10_mode) 35 = .ok (.iadd, 1) := by decide +kernel
theorem dX10_mode_36 : decode (m_code mX10_mode) 36 = .ok (.iload_n 2, 1) := by decide +kernel
theorem dX10_mode_37 : decode (m_code mX10_mode) 37 = .ok (.iastore, 1) := by decide +kernel
theorem dX10_mode_38 : decode (m_code mX10_mode) 38 = .ok (.iconst 1, 1) := by decide +kernel
theorem dX10_mode_39 : decode (m_code mX10_mode) 39 = .ok (.ireturn, 1) := by decide +kernel
theorem dX10_cuts_0 : decode (m_code mX10_cuts) 0 = .ok (.aload_n 0, 1) := by decide +kernel
theorem dX10_cuts_1 : decode (m_code mX10_cuts) 1 = .ok (.iload_n 1, 1) := by decide +kernel
theorem dX10_cuts_2 : decode (m_code mX10_cuts) 2 = .ok (.invokevirtual 54, 3) := by decide +kernel
theorem dX10_cuts_5 : decode (m_code mX10_cuts) 5 = .ok (.bipush 11, 2) := by decide +kernel
theorem dX10_cuts_7 : decode (m_code mX10_cuts) 7 = .ok (.iadd, 1) := by decide +kernel
theorem dX10_cuts_8 : decode (m_code mX10_cuts) 8 = .ok (.istore 4, 2) := by decide +kernel
theorem dX10_cuts_10 : decode (m_code mX10_cuts) 10 = .ok (.aload_n 0, 1) := by decide +kernel
theorem dX10_cuts_11 : decode (m_code mX10_cuts) 11 = .ok (.getfield 7, 3) := by decide +kernel
theorem dX10_cuts_14 : decode (m_code mX10_cuts) 14 = .ok (.iload 4, 2) := by decide +kernel
theorem dX10_cuts_16 : decode (m_code mX10_cuts) 16 = .ok (.iload_n 3, 1) := by decide +kernel
theorem dX10_cuts_17 : decode (m_code mX10_cuts) 17 = .ok (.ifCond .eq 17, 3) := by decide +kernel
theorem dX10_cuts_20 : decode (m_code mX10_cuts) 20 = .ok (.aload_n 0, 1) := by decide +kernel
theorem dX10_cuts_21 : decode (m_code mX10_cuts) 21 = .ok (.getfield 7, 3) := by decide +kernel
theorem dX10_cuts_24 : decode (m_code mX10_cuts) 24 = .ok (.iload 4, 2) := by decide +kernel
theorem dX10_cuts_26 : decode (m_code mX10_cuts) 26 = .ok (.iaload, 1) := by decide +kernel
theorem dX10_cuts_27 : decode (m_code mX10_cuts) 27 = .ok (.iconst 1, 1) := by decide +kernel
theorem dX10_cuts_28 : decode (m_code mX10_cuts) 28 = .ok (.iload_n 2, 1) := by decide +kernel
theorem dX10_cuts_29 : decode (m_code mX10_cuts) 29 = .ok (.ishl, 1) := by decide +kernel
theorem dX10_cuts_30 : decode (m_code mX10_cuts) 30 = .ok (.ior, 1) := by decide +kernel
theorem dX10_cuts_31 : decode (m_code mX10_cuts) 31 = .ok (.goto 16, 3) := by decide +kernel
theorem dX10_cuts_34 : decode (m_code mX10_cuts) 34 = .ok (.aload_n 0, 1) := by decide +kernel
theorem dX10_cuts_35 : decode (m_code mX10_cuts) 35 = .ok (.getfield 7, 3) := by decide +kernel
theorem dX10_cuts_38 : decode (m_code mX10_cuts) 38 = .ok (.iload 4, 2) := by decide +kernel
theorem dX10_cuts_40 : decode (m_code mX10_cuts) 40 = .ok (.iaload, 1) := by decide +kernel
theorem dX10_cuts_41 : decode (m_code mX10_cuts) 41 = .ok (.iconst 1, 1) := by decide +kernel
theorem dX10_cuts_42 : decode (m_code mX10_cuts) 42 = .ok (.iload_n 2, 1) := by decide +kernel
theorem dX10_cuts_43 : decode (m_code mX10_cuts) 43 = .ok (.ishl, 1) := by decide +kernel
theorem dX10_cuts_44 : decode (m_code mX10_cuts) 44 = .ok (.iconst (-1), 1) := by decide +kernel
theorem dX10_cuts_45 : decode (m_code mX10_cuts) 45 = .ok (.ixor, 1) := by decide +kernel
theorem dX10_cuts_46 : decode (m_code mX10_cuts) 46 = .ok (.iand, 1) := by decide +kernel
theorem dX10_cuts_47 : decode (m_code mX10_cuts) 47 = .ok (.iastore, 1) := by decide +kernel
theorem dX10_cuts_48 : decode (m_code mX10_cuts) 48 = .ok (.return_, 1) := by decide +kernel
theorem dX10_cut_0 : decode (m_code mX10_cut) 0 = .ok (.aload_n 0, 1) := by decide +kernel
theorem dX10_cut_1 : decode (m_code mX10_cut) 1 = .ok (.iconst 0, 1) := by decide +kernel
theorem dX10_cut_2 : decode (m_code mX10_cut) 2 = .ok (.putfield 44, 3) := by decide +kernel
theorem dX10_cut_5 : decode (m_code mX10_cut) 5 = .ok (.aload_n 0, 1) := by decide +kernel
theorem dX10_cut_6 : decode (m_code mX10_cut) 6 = .ok (.iload_n 1, 1) := by decide +kernel
theorem dX10_cut_7 : decode (m_code mX10_cut) 7 = .ok (.invokevirtual 71, 3) := by decide +kernel
theorem dX10_cut_10 : decode (m_code mX10_cut) 10 = .ok (.ifCond .eq 16, 3) := by decide +kernel
theorem dX10_cut_13 : decode (m_code mX10_cut) 13 = .ok (.aload_n 0, 1) := by decide +kernel
theorem dX10_cut_14 : decode (m_code mX10_cut) 14 = .ok (.iload_n 2, 1) := by decide +kernel
theorem dX10_cut_15 : decode (m_code mX10_cut) 15 = .ok (.invokevirtual 71, 3) := by decide +kernel
theorem dX10_cut_18 : decode (m_code mX10_cut) 18 = .ok (.ifCond .eq 8, 3) := by decide +kernel
theorem dX10_cut_21 : decode (m_code mX10_cut) 21 = .ok (.iload_n 1, 1) := by decide +kernel
theorem dX10_cut_22 : decode (m_code mX10_cut) 22 = .ok (.iload_n 2, 1) := by decide +kernel
theorem dX10_cut_23 : decode (m_code mX10_cut) 23 = .ok (.if_icmp .ne 5, 3) := by decide +kernel
theorem dX10_cut_26 : decode (m_code mX10_cut) 26 = .ok (.iconst 0, 1) := by decide +kernel
theorem dX10_cut_27 : decode (m_code mX10_cut) 27 = .ok (.ireturn, 1) := by decide +kernel
theorem dX10_cut_28 : decode (m_code mX10_cut) 28 = .ok (.aload_n 0, 1) := by decide +kernel
theorem dX10_cut_29 : decode (m_code mX10_cut) 29 = .ok (.iload_n 1, 1) := by decide +kernel
theorem dX10_cut_30 : decode (m_code mX10_cut) 30 = .ok (.iload_n 2, 1) := by decide +kernel
theorem dX10_cut_31 : decode (m_code mX10_cut) 31 = .ok (.iload_n 3, 1) := by decide +kernel
theorem dX10_cut_32 : decode (m_code mX10_cut) 32 = .ok (.invokevirtual 75, 3) := by decide +kernel
theorem dX10_cut_35 : decode (m_code mX10_cut) 35 = .ok (.aload_n 0, 1) := by decide +kernel
theorem dX10_cut_36 : decode (m_code mX10_cut) 36 = .ok (.iload_n 2, 1) := by decide +kernel
theorem dX10_cut_37 : decode (m_code mX10_cut) 37 = .ok (.iload_n 1, 1) := by decide +kernel
theorem dX10_cut_38 : decode (m_code mX10_cut) 38 = .ok (.iload_n 3, 1) := by decide +kernel
theorem dX10_cut_39 : decode (m_code mX10_cut) 39 = .ok (.invokevirtual 75, 3) := by decide +kernel
theorem dX10_cut_42 : decode (m_code mX10_cut) 42 = .ok (.iconst 1, 1) := by decide +kernel
theorem dX10_cut_43 : decode (m_code mX10_cut) 43 = .ok (.ireturn, 1) := by decide +kernel
theorem dX10_reach_0 : decode (m_code mX10_reach) 0 = .ok (.aload_n 0, 1) := by decide +kernel
theorem dX10_reach_1 : decode (m_code mX10_reach) 1 = .ok (.iconst 0, 1) := by decide +kernel
theorem dX10_reach_2 : decode (m_code mX10_reach) 2 = .ok (.putfield 44, 3) := by decide +kernel
theorem dX10_reach_5 : decode (m_code mX10_reach) 5 = .ok (.aload_n 0, 1) := by decide +kernel
theorem dX10_reach_6 : decode (m_code mX10_reach) 6 = .ok (.iload_n 1, 1) := by decide +kernel
theorem dX10_reach_7 : decode (m_code mX10_reach) 7 = .ok (.invokevirtual 71, 3) := by decide +kernel
theorem dX10_reach_10 : decode (m_code mX10_reach) 10 = .ok (.ifCond .eq 30, 3) := by decide +kernel
theorem dX10_reach_13 : decode (m_code mX10_reach) 13 = .ok (.iconst 1, 1) := by decide +kernel
theorem dX10_reach_14 : decode (m_code mX10_reach) 14 = .ok (.aload_n 0, 1) := by decide +kernel
theorem dX10_reach_15 : decode (m_code mX10_reach) 15 = .ok (.invokevirtual 47, 3) := by decide +kernel
theorem dX10_reach_18 : decode (m_code mX10_reach) 18 = .ok (.ishl, 1) := by decide +kernel
theorem dX10_reach_19 : decode (m_code mX10_reach) 19 = .ok (.iconst 1, 1) := by decide +kernel
theorem dX10_reach_20 : decode (m_code mX10_reach) 20 = .ok (.isub, 1) := by decide +kernel
theorem dX10_reach_21 : decode (m_code mX10_reach) 21 = .ok (.aload_n 0, 1) := by decide +kernel
theorem dX10_reach_22 : decode (m_code mX10_reach) 22 = .ok (.getfield 7, 3) := by decide +kernel
theorem dX10_reach_25 : decode (m_code mX10_reach) 25 = .ok (.aload_n 0, 1) := by decide +kernel
theorem dX10_reach_26 : decode (m_code mX10_reach) 26 = .ok (.iload_n 1, 1) := by decide +kernel
theorem dX10_reach_27 : decode (m_code mX10_reach) 27 = .ok (.invokevirtual 54, 3) := by decide +kernel
theorem dX10_reach_30 : decode (m_code mX10_reach) 30 = .ok (.bipush 11, 2) := by decide +kernel
theorem dX10_reach_32 : decode (m_code mX10_reach) 32 = .ok (.iadd, 1) := by decide +kernel
theorem dX10_reach_33 : decode (m_code mX10_reach) 33 = .ok (.iaload, 1) := by decide +kernel
theorem dX10_reach_34 : decode (m_code mX10_reach) 34 = .ok (.iconst (-1), 1) := by decide +kernel
theorem dX10_reach_35 : decode (m_code mX10_reach) 35 = .ok (.ixor, 1) := by decide +kernel
theorem dX10_reach_36 : decode (m_code mX10_reach) 36 = .ok (.iand, 1) := by decide +kernel
theorem dX10_reach_37 : decode (m_code mX10_reach) 37 = .ok (.goto 4, 3) := by decide +kernel
theorem dX10_reach_40 : decode (m_code mX10_reach) 40 = .ok (.iconst (-1), 1) := by decide +kernel
theorem dX10_reach_41 : decode (m_code mX10_reach) 41 = .ok (.ireturn, 1) := by decide +kernel
theorem dX10_accuses_0 : decode (m_code mX10_accuses) 0 = .ok (.iconst 0, 1) := by decide +kernel
theorem dX10_accuses_1 : decode (m_code mX10_accuses) 1 = .ok (.istore 6, 2) := by decide +kernel
theorem dX10_accuses_3 : decode (m_code mX10_accuses) 3 = .ok (.iload 6, 2) := by decide +kernel
theorem dX10_accuses_5 : decode (m_code mX10_accuses) 5 = .ok (.aload_n 0, 1) := by decide +kernel
theorem dX10_accuses_6 : decode (m_code mX10_accuses) 6 = .ok (.getfield 7, 3) := by decide +kernel
theorem dX10_accuses_9 : decode (m_code mX10_accuses) 9 = .ok (.bipush 7, 2) := by decide +kernel
theorem dX10_accuses_11 : decode (m_code mX10_accuses) 11 = .ok (.iaload, 1) := by decide +kernel
theorem dX10_accuses_12 : decode (m_code mX10_accuses) 12 = .ok (.if_icmp .ge 85, 3) := by decide +kernel
theorem dX10_accuses_15 : decode (m_code mX10_accuses) 15 = .ok (.sipush 1816, 3) := by decide +kernel
theorem dX10_accuses_18 : decode (m_code mX10_accuses) 18 = .ok (.iconst 5, 1) := by decide +kernel
theorem dX10_accuses_19 : decode (m_code mX10_accuses) 19 = .ok (.iload 6, 2) := by decide +kernel
theorem dX10_accuses_21 : decode (m_code mX10_accuses) 21 = .ok (.imul, 1) := by decide +kernel
theorem dX10_accuses_22 : decode (m_code mX10_accuses) 22 = .ok (.iadd, 1) := by decide +kernel
theorem dX10_accuses_23 : decode (m_code mX10_accuses) 23 = .ok (.istore 7, 2) := by decide +kernel
theorem dX10_accuses_25 : decode (m_code mX10_accuses) 25 = .ok (.aload_n 0, 1) := by decide +kernel
theorem dX10_accuses_26 : decode (m_code mX10_accuses) 26 = .ok (.getfield 7, 3) := by decide +kernel
theorem dX10_accuses_29 : decode (m_code mX10_accuses) 29 = .ok (.iload 7, 2) := by decide +kernel
theorem dX10_accuses_31 : decode (m_code mX10_accuses) 31 = .ok (.iaload, 1) := by decide +kernel
theorem dX10_accuses_32 : decode (m_code mX10_accuses) 32 = .ok (.iload_n 1, 1) := by decide +kernel
theorem dX10_accuses_33 : decode (m_code mX10_accuses) 33 = .ok (.if_icmp .ne 58, 3) := by decide +kernel
theorem dX10_accuses_36 : decode (m_code mX10_accuses) 36 = .ok (.aload_n 0, 1) := by decide +kernel
theorem dX10_accuses_37 : decode (m_code mX10_accuses) 37 = .ok (.getfield 7, 3) := by decide +kernel
theorem dX10_accuses_40 : decode (m_code mX10_accuses) 40 = .ok (.iload 7, 2) := by decide +kernel
theorem dX10_accuses_42 : decode (m_code mX10_accuses) 42 = .ok (.iconst 1, 1) := by decide +kernel
theorem dX10_accuses_43 : decode (m_code mX10_accuses) 43 = .ok (.iadd, 1) := by decide +kernel
theorem dX10_accuses_44 : decode (m_code mX10_accuses) 44 = .ok (.iaload, 1) := by decide +kernel
theorem dX10_accuses_45 : decode (m_code mX10_accuses) 45 = .ok (.iload_n 2, 1) := by decide +kernel
theorem dX10_accuses_46 : decode (m_code mX10_accuses) 46 = .ok (.if_icmp .ne 45, 3) := by decide +kernel
theorem dX10_accuses_49 : decode (m_code mX10_accuses) 49 = .ok (.aload_n 0, 1) := by decide +kernel
theorem dX10_accuses_50 : decode (m_code mX10_accuses) 50 = .ok (.getfield 7, 3) := by decide +kernel
theorem dX10_accuses_53 : decode (m_code mX10_accuses) 53 = .ok (.iload 7, 2) := by decide +kernel
theorem dX10_accuses_55 : decode (m_code mX10_accuses) 55 = .ok (.iconst 2, 1) := by decide +kernel
theorem dX10_accuses_56 : decode (m_code mX10_accuses) 56 = .ok (.iadd, 1) := by decide +kernel
theorem dX10_accuses_57 : decode (m_code mX10_accuses) 57 = .ok (.iaload, 1) := by decide +kernel
theorem dX10_accuses_58 : decode (m_code mX10_accuses) 58 = .ok (.iload_n 3, 1) := by decide +kernel
theorem dX10_accuses_59 : decode (m_code mX10_accuses) 59 = .ok (.if_icmp .ne 32, 3) := by decide +kernel
theorem dX10_accuses_62 : decode (m_code mX10_accuses) 62 = .ok (.aload_n 0, 1) := by decide +kernel
theorem dX10_accuses_63 : decode (m_code mX10_accuses) 63 = .ok (.getfield 7, 3) := by decide +kernel
theorem dX10_accuses_66 : decode (m_code mX10_accuses) 66 = .ok (.iload 7, 2) := by decide +kernel
theorem dX10_accuses_68 : decode (m_code mX10_accuses) 68 = .ok (.iconst 3, 1) := by decide +kernel
theorem dX10_accuses_69 : decode (m_code mX10_accuses) 69 = .ok (.iadd, 1) := by decide +kernel
theorem dX10_accuses_70 : decode (m_code mX10_accuses) 70 = .ok (.iaload, 1) := by decide +kernel
theorem dX10_accuses_71 : decode (m_code mX10_accuses) 71 = .ok (.iload 4, 2) := by decide +kernel
theorem dX10_accuses_73 : decode (m_code mX10_accuses) 73 = .ok (.if_icmp .ne 18, 3) := by decide +kernel
theorem dX10_accuses_76 : decode (m_code mX10_accuses) 76 = .ok (.aload_n 0, 1) := by decide +kernel
theorem dX10_accuses_77 : decode (m_code mX10_accuses) 77 = .ok (.getfield 7, 3) := by decide +kernel
theorem dX10_accuses_80 : decode (m_code mX10_accuses) 80 = .ok (.iload 7, 2) := by decide +kernel
theorem dX10_accuses_82 : decode (m_code mX10_accuses) 82 = .ok (.iconst 4, 1) := by decide +kernel
theorem dX10_accuses_83 : decode (m_code mX10_accuses) 83 = .ok (.iadd, 1) := by decide +kernel
theorem dX10_accuses_84 : decode (m_code mX10_accuses) 84 = .ok (.iaload, 1) := by decide +kernel
theorem dX10_accuses_85 : decode (m_code mX10_accuses) 85 = .ok (.iload 5, 2) := by decide +kernel
theorem dX10_accuses_87 : decode (m_code mX10_accuses) 87 = .ok (.if_icmp .ne 4, 3) := by decide +kernel
theorem dX10_accuses_90 : decode (m_code mX10_accuses) 90 = .ok (.return_, 1) := by decide +kernel
theorem dX10_accuses_91 : decode (m_code mX10_accuses) 91 = .ok (.iinc 6 1, 3) := by decide +kernel
theorem dX10_accuses_94 : decode (m_code mX10_accuses) 94 = .ok (.goto (-91), 3) := by decide +kernel
theorem dX10_accuses_97 : decode (m_code mX10_accuses) 97 = .ok (.aload_n 0, 1) := by decide +kernel
theorem dX10_accuses_98 : decode (m_code mX10_accuses) 98 = .ok (.getfield 7, 3) := by decide +kernel
theorem dX10_accuses_101 : decode (m_code mX10_accuses) 101 = .ok (.bipush 7, 2) := by decide +kernel
theorem dX10_accuses_103 : decode (m_code mX10_accuses) 103 = .ok (.iaload, 1) := by decide +kernel
theorem dX10_accuses_104 : decode (m_code mX10_accuses) 104 = .ok (.bipush 60, 2) := by decide +kernel
theorem dX10_accuses_106 : decode (m_code mX10_accuses) 106 = .ok (.if_icmp .ne 4, 3) := by decide +kernel
theorem dX10_accuses_109 : decode (m_code mX10_accuses) 109 = .ok (.return_, 1) := by decide +kernel
theorem dX10_accuses_110 : decode (m_code mX10_accuses) 110 = .ok (.sipush 1816, 3) := by decide +kernel
theorem dX10_accuses_113 : decode (m_code mX10_accuses) 113 = .ok (.iconst 5, 1) := by decide +kernel
theorem dX10_accuses_114 : decode (m_code mX10_accuses) 114 = .ok (.aload_n 0, 1) := by decide +kernel
theorem dX10_accuses_115 : decode (m_code mX10_accuses) 115 = .ok (.getfield 7, 3) := by decide +kernel
theorem dX10_accuses_118 : decode (m_code mX10_accuses) 118 = .ok (.bipush 7, 2) := by decide +kernel
theorem dX10_accuses_120 : decode (m_code mX10_accuses) 120 = .ok (.iaload, 1) := by decide +kernel
theorem dX10_accuses_121 : decode (m_code mX10_accuses) 121 = .ok (.imul, 1) := by decide +kernel
theorem dX10_accuses_122 : decode (m_code mX10_accuses) 122 = .ok (.iadd, 1) := by decide +kernel
theorem dX10_accuses_123 : decode (m_code mX10_accuses) 123 = .ok (.istore 6, 2) := by decide +kernel
theorem dX10_accuses_125 : decode (m_code mX10_accuses) 125 = .ok (.aload_n 0, 1) := by decide +kernel
theorem dX10_accuses_126 : decode (m_code mX10_accuses) 126 = .ok (.getfield 7, 3) := by decide +kernel
theorem dX10_accuses_129 : decode (m_code mX10_accuses) 129 = .ok (.iload 6, 2) := by decide +kernel
theorem dX10_accuses_131 : decode (m_code mX10_accuses) 131 = .ok (.iload_n 1, 1) := by decide +kernel
theorem dX10_accuses_132 : decode (m_code mX10_accuses) 132 = .ok (.iastore, 1) := by decide +kernel
theorem dX10_accuses_133 : decode (m_code mX10_accuses) 133 = .ok (.aload_n 0, 1) := by decide +kernel
theorem dX10_accuses_134 : decode (m_code mX10_accuses) 134 = .ok (.getfield 7, 3) := by decide +kernel
theorem dX10_accuses_137 : decode (m_code mX10_accuses) 137 = .ok (.iload 6, 2) := by decide +kernel
theorem dX10_accuses_139 : decode (m_code mX10_accuses) 139 = .ok (.iconst 1, 1) := by decide +kernel
theorem dX10_accuses_140 : decode (m_code mX10_accuses) 140 = .ok (.iadd, 1) := by decide +kernel
theorem dX10_accuses_141 : decode (m_code mX10_accuses) 141 = .ok (.iload_n 2, 1) := by decide +kernel
theorem dX10_accuses_142 : decode (m_code mX10_accuses) 142 = .ok (.iastore, 1) := by decide +kernel
theorem dX10_accuses_143 : decode (m_code mX10_accuses) 143 = .ok (.aload_n 0, 1) := by decide +kernel
theorem dX10_accuses_144 : decode (m_code mX10_accuses) 144 = .ok (.getfield 7, 3) := by decide +kernel
theorem dX10_accuses_147 : decode (m_code mX10_accuses) 147 = .ok (.iload 6, 2) := by decide +kernel
theorem dX10_accuses_149 : decode (m_code mX10_accuses) 149 = .ok (.iconst 2, 1) := by decide +kernel
theorem dX10_accuses_150 : decode (m_code mX10_accuses) 150 = .ok (.iadd, 1) := by decide +kernel
theorem dX10_accuses_151 : decode (m_code mX10_accuses) 151 = .ok (.iload_n 3, 1) := by decide +kernel
theorem dX10_accuses_152 : decode (m_code mX10_accuses) 152 = .ok (.iastore, 1) := by decide +kernel
theorem dX10_accuses_153 : decode (m_code mX10_accuses) 153 = .ok (.aload_n 0, 1) := by decide +kernel
theorem dX10_accuses_154 : decode (m_code mX10_accuses) 154 = .ok (.getfield 7, 3) := by decide +kernel
theorem dX10_accuses_157 : decode (m_code mX10_accuses) 157 = .ok (.iload 6, 2) := by decide +kernel
theorem dX10_accuses_159 : decode (m_code mX10_accuses) 159 = .ok (.iconst 3, 1) := by decide +kernel
theorem dX10_accuses_160 : decode (m_code mX10_accuses) 160 = .ok (.iadd, 1) := by decide +kernel
theorem dX10_accuses_161 : decode (m_code mX10_accuses) 161 = .ok (.iload 4, 2) := by decide +kernel
theorem dX10_accuses_163 : decode (m_code mX10_accuses) 163 = .ok (.iastore, 1) := by decide +kernel
theorem dX10_accuses_164 : decode (m_code mX10_accuses) 164 = .ok (.aload_n 0, 1) := by decide +kernel
theorem dX10_accuses_165 : decode (m_code mX10_accuses) 165 = .ok (.getfield 7, 3) := by decide +kernel
theorem dX10_accuses_168 : decode (m_code mX10_accuses) 168 = .ok (.iload 6, 2) := by decide +kernel
theorem dX10_accuses_170 : decode (m_code mX10_accuses) 170 = .ok (.iconst 4, 1) := by decide +kernel
theorem dX10_accuses_171 : decode (m_code mX10_accuses) 171 = .ok (.iadd, 1) := by decide +kernel
theorem dX10_accuses_172 : decode (m_code mX10_accuses) 172 = .ok (.iload 5, 2) := by decide +kernel
theorem dX10_accuses_174 : decode (m_code mX10_accuses) 174 = .ok (.iastore, 1) := by decide +kernel
theorem dX10_accuses_175 : decode (m_code mX10_accuses) 175 = .ok (.aload_n 0, 1) := by decide +kernel
theorem dX10_accuses_176 : decode (m_code mX10_accuses) 176 = .ok (.getfield 7, 3) := by decide +kernel
theorem dX10_accuses_179 : decode (m_code mX10_accuses) 179 = .ok (.bipush 7, 2) := by decide +kernel
theorem dX10_accuses_181 : decode (m_code mX10_accuses) 181 = .ok (.aload_n 0, 1) := by decide +kernel
theorem dX10_accuses_182 : decode (m_code mX10_accuses) 182 = .ok (.getfield 7, 3) := by decide +kernel
theorem dX10_accuses_185 : decode (m_code mX10_accuses) 185 = .ok (.bipush 7, 2) := by decide +kernel
theorem dX10_accuses_187 : decode (m_code mX10_accuses) 187 = .ok (.iaload, 1) := by decide +kernel
theorem dX10_accuses_188 : decode (m_code mX10_accuses) 188 = .ok (.iconst 1, 1) := by decide +kernel
theorem dX10_accuses_189 : decode (m_code mX10_accuses) 189 = .ok (.iadd, 1) := by decide +kernel
theorem dX10_accuses_190 : decode (m_code mX10_accuses) 190 = .ok (.iastore, 1) := by decide +kernel
theorem dX10_accuses_191 : decode (m_code mX10_accuses) 191 = .ok (.return_, 1) := by decide +kernel
theorem dX10_tells_0 : decode (m_code mX10_tells) 0 = .ok (.aload_n 0, 1) := by decide +kernel
theorem dX10_tells_1 : decode (m_code mX10_tells) 1 = .ok (.getfield 7, 3) := by decide +kernel
theorem dX10_tells_4 : decode (m_code mX10_tells) 4 = .ok (.bipush 8, 2) := by decide +kernel
theorem dX10_tells_6 : decode (m_code mX10_tells) 6 = .ok (.iaload, 1) := by decide +kernel
theorem dX10_tells_7 : decode (m_code mX10_tells) 7 = .ok (.bipush 100, 2) := by decide +kernel
theorem dX10_tells_9 : decode (m_code mX10_tells) 9 = .ok (.if_icmp .ne 4, 3) := by decide +kernel
theorem dX10_tells_12 : decode (m_code mX10_tells) 12 = .ok (.return_, 1) := by decide +kernel
theorem dX10_tells_13 : decode (m_code mX10_tells) 13 = .ok (.sipush 2116, 3) := by decide +kernel
theorem dX10_tells_16 : decode (m_code mX10_tells) 16 = .ok (.iconst 3, 1) := by decide +kernel
theorem dX10_tells_17 : decode (m_code mX10_tells) 17 = .ok (.aload_n 0, 1) := by decide +kernel
theorem dX10_tells_18 : decode (m_code mX10_tells) 18 = .ok (.getfield 7, 3) := by decide +kernel
theorem dX10_tells_21 : decode (m_code mX10_tells) 21 = .ok (.bipush 8, 2) := by decide +kernel
theorem dX10_tells_23 : decode (m_code mX10_tells) 23 = .ok (.iaload, 1) := by decide +kernel
theorem dX10_tells_24 : decode (m_code mX10_tells) 24 = .ok (.imul, 1) := by decide +kernel
theorem dX10_tells_25 : decode (m_code mX10_tells) 25 = .ok (.iadd, 1) := by decide +kernel
theorem dX10_tells_26 : decode (m_code mX10_tells) 26 = .ok (.istore 4, 2) := by decide +kernel
theorem dX10_tells_28 : decode (m_code mX10_tells) 28 = .ok (.aload_n 0, 1) := by decide +kernel
theorem dX10_tells_29 : decode (m_code mX10_tells) 29 = .ok (.getfield 7, 3) := by decide +kernel
theorem dX10_tells_32 : decode (m_code mX10_tells) 32 = .ok (.iload 4, 2) := by decide +kernel
theorem dX10_tells_34 : decode (m_code mX10_tells) 34 = .ok (.iload_n 1, 1) := by decide +kernel
theorem dX10_tells_35 : decode (m_code mX10_tells) 35 = .ok (.iastore, 1) := by decide +kernel
theorem dX10_tells_36 : decode (m_code mX10_tells) 36 = .ok (.aload_n 0, 1) := by decide +kernel
theorem dX10_tells_37 : decode (m_code mX10_tells) 37 = .ok (.getfield 7, 3) := by decide +kernel
theorem dX10_tells_40 : decode (m_code mX10_tells) 40 = .ok (.iload 4, 2) := by decide +kernel
theorem dX10_tells_42 : decode (m_code mX10_tells) 42 = .ok (.iconst 1, 1) := by decide +kernel
theorem dX10_tells_43 : decode (m_code mX10_tells) 43 = .ok (.iadd, 1) := by decide +kernel
theorem dX10_tells_44 : decode (m_code mX10_tells) 44 = .ok (.iload_n 2, 1) := by decide +kernel
theorem dX10_tells_45 : decode (m_code mX10_tells) 45 = .ok (.iastore, 1) := by decide +kernel
theorem dX10_tells_46 : decode (m_code mX10_tells) 46 = .ok (.aload_n 0, 1) := by decide +kernel
theorem dX10_tells_47 : decode (m_code mX10_tells) 47 = .ok (.getfield 7, 3) := by decide +kernel
theorem dX10_tells_50 : decode (m_code mX10_tells) 50 = .ok (.iload 4, 2) := by decide +kernel
theorem dX10_tells_52 : decode (m_code mX10_tells) 52 = .ok (.iconst 2, 1) := by decide +kernel
theorem dX10_tells_53 : decode (m_code mX10_tells) 53 = .ok (.iadd, 1) := by decide +kernel
theorem dX10_tells_54 : decode (m_code mX10_tells) 54 = .ok (.iload_n 3, 1) := by decide +kernel
theorem dX10_tells_55 : decode (m_code mX10_tells) 55 = .ok (.iastore, 1) := by decide +kernel
theorem dX10_tells_56 : decode (m_code mX10_tells) 56 = .ok (.aload_n 0, 1) := by decide +kernel
theorem dX10_tells_57 : decode (m_code mX10_tells) 57 = .ok (.getfield 7, 3) := by decide +kernel
theorem dX10_tells_60 : decode (m_code mX10_tells) 60 = .ok (.bipush 8, 2) := by decide +kernel
theorem dX10_tells_62 : decode (m_code mX10_tells) 62 = .ok (.aload_n 0, 1) := by decide +kernel
theorem dX10_tells_63 : decode (m_code mX10_tells) 63 = .ok (.getfield 7, 3) := by decide +kernel
theorem dX10_tells_66 : decode (m_code mX10_tells) 66 = .ok (.bipush 8, 2) := by decide +kernel
theorem dX10_tells_68 : decode (m_code mX10_tells) 68 = .ok (.iaload, 1) := by decide +kernel
theorem dX10_tells_69 : decode (m_code mX10_tells) 69 = .ok (.iconst 1, 1) := by decide +kernel
theorem dX10_tells_70 : decode (m_code mX10_tells) 70 = .ok (.iadd, 1) := by decide +kernel
theorem dX10_tells_71 : decode (m_code mX10_tells) 71 = .ok (.iastore, 1) := by decide +kernel
theorem dX10_tells_72 : decode (m_code mX10_tells) 72 = .ok (.return_, 1) := by decide +kernel
theorem dX10_areCut_0 : decode (m_code mX10_areCut) 0 = .ok (.aload_n 0, 1) := by decide +kernel
theorem dX10_areCut_1 : decode (m_code mX10_areCut) 1 = .ok (.aload_n 0, 1) := by decide +kernel
theorem dX10_areCut_2 : decode (m_code mX10_areCut) 2 = .ok (.getfield 7, 3) := by decide +kernel
theorem dX10_areCut_5 : decode (m_code mX10_areCut) 5 = .ok (.aload_n 0, 1) := by decide +kernel
theorem dX10_areCut_6 : decode (m_code mX10_areCut) 6 = .ok (.iload_n 1, 1) := by decide +kernel
theorem dX10_areCut_7 : decode (m_code mX10_areCut) 7 = .ok (.invokevirtual 54, 3) := by decide +kernel
theorem dX10_areCut_10 : decode (m_code mX10_areCut) 10 = .ok (.bipush 11, 2) := by decide +kernel
theorem dX10_areCut_12 : decode (m_code mX10_areCut) 12 = .ok (.iadd, 1) := by decide +kernel
theorem dX10_areCut_13 : decode (m_code mX10_areCut) 13 = .ok (.iaload, 1) := by decide +kernel
theorem dX10_areCut_14 : decode (m_code mX10_areCut) 14 = .ok (.iload_n 2, 1) := by decide +kernel
theorem dX10_areCut_15 : decode (m_code mX10_areCut) 15 = .ok (.invokevirtual 79, 3) := by decide +kernel
theorem dX10_areCut_18 : decode (m_code mX10_areCut) 18 = .ok (.ireturn, 1) := by decide +kernel
theorem dX10_sends_0 : decode (m_code mX10_sends) 0 = .ok (.aload_n 0, 1) := by decide +kernel
theorem dX10_sends_1 : decode (m_code mX10_sends) 1 = .ok (.iload_n 1, 1) := by decide +kernel
theorem dX10_sends_2 : decode (m_code mX10_sends) 2 = .ok (.iload_n 2, 1) := by decide +kernel
theorem dX10_sends_3 : decode (m_code mX10_sends) 3 = .ok (.invokevirtual 83, 3) := by decide +kernel
theorem dX10_sends_6 : decode (m_code mX10_sends) 6 = .ok (.ifCond .eq 20, 3) := by decide +kernel
theorem dX10_sends_9 : decode (m_code mX10_sends) 9 = .ok (.aload_n 0, 1) := by decide +kernel
theorem dX10_sends_10 : decode (m_code mX10_sends) 10 = .ok (.getfield 7, 3) := by decide +kernel
theorem dX10_sends_13 : decode (m_code mX10_sends) 13 = .ok (.bipush 10, 2) := by decide +kernel
theorem dX10_sends_15 : decode (m_code mX10_sends) 15 = .ok (.aload_n 0, 1) := by decide +kernel
theorem dX10_sends_16 : decode (m_code mX10_sends) 16 = .ok (.getfield 7, 3) := by decide +kernel
theorem dX10_sends_19 : decode (m_code mX10_sends) 19 = .ok (.bipush 10, 2) := by decide +kernel
theorem dX10_sends_21 : decode (m_code mX10_sends) 21 = .ok (.iaload, 1) := by decide +kernel
theorem dX10_sends_22 : decode (m_code mX10_sends) 22 = .ok (.iconst 1, 1) := by decide +kernel
theorem dX10_sends_23 : decode (m_code mX10_sends) 23 = .ok (.iadd, 1) := by decide +kernel
theorem dX10_sends_24 : decode (m_code mX10_sends) 24 = .ok (.iastore, 1) := by decide +kernel
theorem dX10_sends_25 : decode (m_code mX10_sends) 25 = .ok (.return_, 1) := by decide +kernel
theorem dX10_sends_26 : decode (m_code mX10_sends) 26 = .ok (.aload_n 0, 1) := by decide +kernel
theorem dX10_sends_27 : decode (m_code mX10_sends) 27 = .ok (.getfield 7, 3) := by decide +kernel
theorem dX10_sends_30 : decode (m_code mX10_sends) 30 = .ok (.iconst 4, 1) := by decide +kernel
theorem dX10_sends_31 : decode (m_code mX10_sends) 31 = .ok (.iaload, 1) := by decide +kernel
theorem dX10_sends_32 : decode (m_code mX10_sends) 32 = .ok (.sipush 200, 3) := by decide +kernel
theorem dX10_sends_35 : decode (m_code mX10_sends) 35 = .ok (.if_icmp .ne 18, 3) := by decide +kernel
theorem dX10_sends_38 : decode (m_code mX10_sends) 38 = .ok (.aload_n 0, 1) := by decide +kernel
theorem dX10_sends_39 : decode (m_code mX10_sends) 39 = .ok (.getfield 7, 3) := by decide +kernel
theorem dX10_sends_42 : decode (m_code mX10_sends) 42 = .ok (.iconst 5, 1) := by decide +kernel
theorem dX10_sends_43 : decode (m_code mX10_sends) 43 = .ok (.aload_n 0, 1) := by decide +kernel
theorem dX10_sends_44 : decode (m_code mX10_sends) 44 = .ok (.getfield 7, 3) := by decide +kernel
theorem dX10_sends_47 : decode (m_code mX10_sends) 47 = .ok (.iconst 5, 1) := by decide +kernel
theorem dX10_sends_48 : decode (m_code mX10_sends) 48 = .ok (.iaload, 1) := by decide +kernel
theorem dX10_sends_49 : decode (m_code mX10_sends) 49 = .ok (.iconst 1, 1) := by decide +kernel
theorem dX10_sends_50 : decode (m_code mX10_sends) 50 = .ok (.iadd, 1) := by decide +kernel
theorem dX10_sends_51 : decode (m_code mX10_sends) 51 = .ok (.iastore, 1) := by decide +kernel
theorem dX10_sends_52 : decode (m_code mX10_sends) 52 = .ok (.return_, 1) := by decide +kernel
theorem dX10_sends_53 : decode (m_code mX10_sends) 53 = .ok (.sipush 816, 3) := by decide +kernel
theorem dX10_sends_56 : decode (m_code mX10_sends) 56 = .ok (.iconst 5, 1) := by decide +kernel
theorem dX10_sends_57 : decode (m_code mX10_sends) 57 = .ok (.aload_n 0, 1) := by decide +kernel
theorem dX10_sends_58 : decode (m_code mX10_sends) 58 = .ok (.getfield 7, 3) := by decide +kernel
theorem dX10_sends_61 : decode (m_code mX10_sends) 61 = .ok (.iconst 4, 1) := by decide +kernel
theorem dX10_sends_62 : decode (m_code mX10_sends) 62 = .ok (.iaload, 1) := by decide +kernel
theorem dX10_sends_63 : decode (m_code mX10_sends) 63 = .ok (.imul, 1) := by decide +kernel
theorem dX10_sends_64 : decode (m_code mX10_sends) 64 = .ok (.iadd, 1) := by decide +kernel
theorem dX10_sends_65 : decode (m_code mX10_sends) 65 = .ok (.istore 6, 2) := by decide +kernel
theorem dX10_sends_67 : decode (m_code mX10_sends) 67 = .ok (.aload_n 0, 1) := by decide +kernel
theorem dX10_sends_68 : decode (m_code mX10_sends) 68 = .ok (.getfield 7, 3) := by decide +kernel
theorem dX10_sends_71 : decode (m_code mX10_sends) 71 = .ok (.iload 6, 2) := by decide +kernel
theorem dX10_sends_73 : decode (m_code mX10_sends) 73 = .ok (.iconst 0, 1) := by decide +kernel
theorem dX10_sends_74 : decode (m_code mX10_sends) 74 = .ok (.iadd, 1) := by decide +kernel
theorem dX10_sends_75 : decode (m_code mX10_sends) 75 = .ok (.iload_n 1, 1) := by decide +kernel
theorem dX10_sends_76 : decode (m_code mX10_sends) 76 = .ok (.iastore, 1) := by decide +kernel
theorem dX10_sends_77 : decode (m_code mX10_sends) 77 = .ok (.aload_n 0, 1) := by decide +kernel
theorem dX10_sends_78 : decode (m_code mX10_sends) 78 = .ok (.getfield 7, 3) := by decide +kernel
theorem dX10_sends_81 : decode (m_code mX10_sends) 81 = .ok (.iload 6, 2) := by decide +kernel
theorem dX10_sends_83 : decode (m_code mX10_sends) 83 = .ok (.iconst 1, 1) := by decide +kernel
theorem dX10_sends_84 : decode (m_code mX10_sends) 84 = .ok (.iadd, 1) := by decide +kernel
theorem dX10_sends_85 : decode (m_code mX10_sends) 85 = .ok (.iload_n 2, 1) := by decide +kernel
theorem dX10_sends_86 : decode (m_code mX10_sends) 86 = .ok (.iastore, 1) := by decide +kernel
theorem dX10_sends_87 : decode (m_code mX10_sends) 87 = .ok (.aload_n 0, 1) := by decide +kernel
theorem dX10_sends_88 : decode (m_code mX10_sends) 88 = .ok (.getfield 7, 3) := by decide +kernel
theorem dX10_sends_91 : decode (m_code mX10_sends) 91 = .ok (.iload 6, 2) := by decide +kernel
theorem dX10_sends_93 : decode (m_code mX10_sends) 93 = .ok (.iconst 2, 1) := by decide +kernel
theorem dX10_sends_94 : decode (m_code mX10_sends) 94 = .ok (.iadd, 1) := by decide +kernel
theorem dX10_sends_95 : decode (m_code mX10_sends) 95 = .ok (.iload_n 3, 1) := by decide +kernel
theorem dX10_sends_96 : decode (m_code mX10_sends) 96 = .ok (.iastore, 1) := by decide +kernel
theorem dX10_sends_97 : decode (m_code mX10_sends) 97 = .ok (.aload_n 0, 1) := by decide +kernel
theorem dX10_sends_98 : decode (m_code mX10_sends) 98 = .ok (.getfield 7, 3) := by decide +kernel
theorem dX10_sends_101 : decode (m_code mX10_sends) 101 = .ok (.iload 6, 2) := by decide +kernel
theorem dX10_sends_103 : decode (m_code mX10_sends) 103 = .ok (.iconst 3, 1) := by decide +kernel
theorem dX10_sends_104 : decode (m_code mX10_sends) 104 = .ok (.iadd, 1) := by decide +kernel
theorem dX10_sends_105 : decode (m_code mX10_sends) 105 = .ok (.iload 4, 2) := by decide +kernel
theorem dX10_sends_107 : decode (m_code mX10_sends) 107 = .ok (.iastore, 1) := by decide +kernel
theorem dX10_sends_108 : decode (m_code mX10_sends) 108 = .ok (.aload_n 0, 1) := by decide +kernel
theorem dX10_sends_109 : decode (m_code mX10_sends) 109 = .ok (.getfield 7, 3) := by decide +kernel
theorem dX10_sends_112 : decode (m_code mX10_sends) 112 = .ok (.iload 6, 2) := by decide +kernel
theorem dX10_sends_114 : decode (m_code mX10_sends) 114 = .ok (.iconst 4, 1) := by decide +kernel
theorem dX10_sends_115 : decode (m_code mX10_sends) 115 = .ok (.iadd, 1) := by decide +kernel
theorem dX10_sends_116 : decode (m_code mX10_sends) 116 = .ok (.iload 5, 2) := by decide +kernel
theorem dX10_sends_118 : decode (m_code mX10_sends) 118 = .ok (.iconst 1, 1) := by decide +kernel
theorem dX10_sends_119 : decode (m_code mX10_sends) 119 = .ok (.iadd, 1) := by decide +kernel
theorem dX10_sends_120 : decode (m_code mX10_sends) 120 = .ok (.iastore, 1) := by decide +kernel
theorem dX10_sends_121 : decode (m_code mX10_sends) 121 = .ok (.aload_n 0, 1) := by decide +kernel
theorem dX10_sends_122 : decode (m_code mX10_sends) 122 = .ok (.getfield 7, 3) := by decide +kernel
theorem dX10_sends_125 : decode (m_code mX10_sends) 125 = .ok (.iconst 4, 1) := by decide +kernel
theorem dX10_sends_126 : decode (m_code mX10_sends) 126 = .ok (.aload_n 0, 1) := by decide +kernel
theorem dX10_sends_127 : decode (m_code mX10_sends) 127 = .ok (.getfield 7, 3) := by decide +kernel
theorem dX10_sends_130 : decode (m_code mX10_sends) 130 = .ok (.iconst 4, 1) := by decide +kernel
theorem dX10_sends_131 : decode (m_code mX10_sends) 131 = .ok (.iaload, 1) := by decide +kernel
theorem dX10_sends_132 : decode (m_code mX10_sends) 132 = .ok (.iconst 1, 1) := by decide +kernel
theorem dX10_sends_133 : decode (m_code mX10_sends) 133 = .ok (.iadd, 1) := by decide +kernel
theorem dX10_sends_134 : decode (m_code mX10_sends) 134 = .ok (.iastore, 1) := by decide +kernel
theorem dX10_sends_135 : decode (m_code mX10_sends) 135 = .ok (.return_, 1) := by decide +kernel
theorem dX10_sendsAll_0 : decode (m_code mX10_sendsAll) 0 = .ok (.iconst 0, 1) := by decide +kernel
theorem dX10_sendsAll_1 : decode (m_code mX10_sendsAll) 1 = .ok (.istore 5, 2) := by decide +kernel
theorem dX10_sendsAll_3 : decode (m_code mX10_sendsAll) 3 = .ok (.iload 5, 2) := by decide +kernel
theorem dX10_sendsAll_5 : decode (m_code mX10_sendsAll) 5 = .ok (.aload_n 0, 1) := by decide +kernel
theorem dX10_sendsAll_6 : decode (m_code mX10_sendsAll) 6 = .ok (.invokevirtual 47, 3) := by decide +kernel
theorem dX10_sendsAll_9 : decode (m_code mX10_sendsAll) 9 = .ok (.if_icmp .ge 20, 3) := by decide +kernel
theorem dX10_sendsAll_12 : decode (m_code mX10_sendsAll) 12 = .ok (.aload_n 0, 1) := by decide +kernel
theorem dX10_sendsAll_13 : decode (m_code mX10_sendsAll) 13 = .ok (.iload_n 1, 1) := by decide +kernel
theorem dX10_sendsAll_14 : decode (m_code mX10_sendsAll) 14 = .ok (.iload 5, 2) := by decide +kernel
theorem dX10_sendsAll_16 : decode (m_code mX10_sendsAll) 16 = .ok (.iload_n 2, 1) := by decide +kernel
theorem dX10_sendsAll_17 : decode (m_code mX10_sendsAll) 17 = .ok (.iload_n 3, 1) := by decide +kernel
theorem dX10_sendsAll_18 : decode (m_code mX10_sendsAll) 18 = .ok (.iload 4, 2) := by decide +kernel
theorem dX10_sendsAll_20 : decode (m_code mX10_sendsAll) 20 = .ok (.invokevirtual 86, 3) := by decide +kernel
theorem dX10_sendsAll_23 : decode (m_code mX10_sendsAll) 23 = .ok (.iinc 5 1, 3) := by decide +kernel
theorem dX10_sendsAll_26 : decode (m_code mX10_sendsAll) 26 = .ok (.goto (-23), 3) := by decide +kernel
theorem dX10_sendsAll_29 : decode (m_code mX10_sendsAll) 29 = .ok (.return_, 1) := by decide +kernel
theorem dX10_isMessage_0 : decode (m_code mX10_isMessage) 0 = .ok (.iload_n 1, 1) := by decide +kernel
theorem dX10_isMessage_1 : decode (m_code mX10_isMessage) 1 = .ok (.ifCond .lt 17, 3) := by decide +kernel
theorem dX10_isMessage_4 : decode (m_code mX10_isMessage) 4 = .ok (.iload_n 1, 1) := by decide +kernel
theorem dX10_isMessage_5 : decode (m_code mX10_isMessage) 5 = .ok (.aload_n 0, 1) := by decide +kernel
theorem dX10_isMessage_6 : decode (m_code mX10_isMessage) 6 = .ok (.getfield 7, 3) := by decide +kernel
theorem dX10_isMessage_9 : decode (m_code mX10_isMessage) 9 = .ok (.iconst 4, 1) := by decide +kernel
theorem dX10_isMessage_10 : decode (m_code mX10_isMessage) 10 = .ok (.iaload, 1) := by decide +kernel
theorem dX10_isMessage_11 : decode (m_code mX10_isMessage) 11 = .ok (.if_icmp .ge 7, 3) := by decide +kernel
theorem dX10_isMessage_14 : decode (m_code mX10_isMessage) 14 = .ok (.iconst 1, 1) := by decide +kernel
theorem dX10_isMessage_15 : decode (m_code mX10_isMessage) 15 = .ok (.goto 4, 3) := by decide +kernel
theorem dX10_isMessage_18 : decode (m_code mX10_isMessage) 18 = .ok (.iconst 0, 1) := by decide +kernel
theorem dX10_isMessage_19 : decode (m_code mX10_isMessage) 19 = .ok (.ireturn, 1) := by decide +kernel
theorem dX10_takesOut_0 : decode (m_code mX10_takesOut) 0 = .ok (.iconst 0, 1) := by decide +kernel
theorem dX10_takesOut_1 : decode (m_code mX10_takesOut) 1 = .ok (.istore_n 2, 1) := by decide +kernel
theorem dX10_takesOut_2 : decode (m_code mX10_takesOut) 2 = .ok (.iload_n 2, 1) := by decide +kernel
theorem dX10_takesOut_3 : decode (m_code mX10_takesOut) 3 = .ok (.iconst 5, 1) := by decide +kernel
theorem dX10_takesOut_4 : decode (m_code mX10_takesOut) 4 = .ok (.if_icmp .ge 29, 3) := by decide +kernel
theorem dX10_takesOut_7 : decode (m_code mX10_takesOut) 7 = .ok (.aload_n 0, 1) := by decide +kernel
theorem dX10_takesOut_8 : decode (m_code mX10_takesOut) 8 = .ok (.getfield 16, 3) := by decide +kernel
theorem dX10_takesOut_11 : decode (m_code mX10_takesOut) 11 = .ok (.iload_n 2, 1) := by decide +kernel
theorem dX10_takesOut_12 : decode (m_code mX10_takesOut) 12 = .ok (.aload_n 0, 1) := by decide +kernel
theorem dX10_takesOut_13 : decode (m_code mX10_takesOut) 13 = .ok (.getfield 7, 3) := by decide +kernel
theorem dX10_takesOut_16 : decode (m_code mX10_takesOut) 16 = .ok (.sipush 816, 3) := by decide +kernel
theorem dX10_takesOut_19 : decode (m_code mX10_takesOut) 19 = .ok (.iconst 5, 1) := by decide +kernel
theorem dX10_takesOut_20 : decode (m_code mX10_takesOut) 20 = .ok (.iload_n 1, 1) := by decide +kernel
theorem dX10_takesOut_21 : decode (m_code mX10_takesOut) 21 = .ok (.imul, 1) := by decide +kernel
theorem dX10_takesOut_22 : decode (m_code mX10_takesOut) 22 = .ok (.iadd, 1) := by decide +kernel
theorem dX10_takesOut_23 : decode (m_code mX10_takesOut) 23 = .ok (.iload_n 2, 1) := by decide +kernel
theorem dX10_takesOut_24 : decode (m_code mX10_takesOut) 24 = .ok (.iadd, 1) := by decide +kernel
theorem dX10_takesOut_25 : decode (m_code mX10_takesOut) 25 = .ok (.iaload, 1) := by decide +kernel
theorem dX10_takesOut_26 : decode (m_code mX10_takesOut) 26 = .ok (.iastore, 1) := by decide +kernel
theorem dX10_takesOut_27 : decode (m_code mX10_takesOut) 27 = .ok (.iinc 2 1, 3) := by decide +kernel
theorem dX10_takesOut_30 : decode (m_code mX10_takesOut) 30 = .ok (.goto (-28), 3) := by decide +kernel
theorem dX10_takesOut_33 : decode (m_code mX10_takesOut) 33 = .ok (.aload_n 0, 1) := by decide +kernel
theorem dX10_takesOut_34 : decode (m_code mX10_takesOut) 34 = .ok (.getfield 7, 3) := by decide +kernel
theorem dX10_takesOut_37 : decode (m_code mX10_takesOut) 37 = .ok (.iconst 4, 1) := by decide +kernel
theorem dX10_takesOut_38 : decode (m_code mX10_takesOut) 38 = .ok (.aload_n 0, 1) := by decide +kernel
theorem dX10_takesOut_39 : decode (m_code mX10_takesOut) 39 = .ok (.getfield 7, 3) := by decide +kernel
theorem dX10_takesOut_42 : decode (m_code mX10_takesOut) 42 = .ok (.iconst 4, 1) := by decide +kernel
theorem dX10_takesOut_43 : decode (m_code mX10_takesOut) 43 = .ok (.iaload, 1) := by decide +kernel
theorem dX10_takesOut_44 : decode (m_code mX10_takesOut) 44 = .ok (.iconst 1, 1) := by decide +kernel
theorem dX10_takesOut_45 : decode (m_code mX10_takesOut) 45 = .ok (.isub, 1) := by decide +kernel
theorem dX10_takesOut_46 : decode (m_code mX10_takesOut) 46 = .ok (.iastore, 1) := by decide +kernel
theorem dX10_takesOut_47 : decode (m_code mX10_takesOut) 47 = .ok (.iconst 5, 1) := by decide +kernel
theorem dX10_takesOut_48 : decode (m_code mX10_takesOut) 48 = .ok (.iload_n 1, 1) := by decide +kernel
theorem dX10_takesOut_49 : decode (m_code mX10_takesOut) 49 = .ok (.imul, 1) := by decide +kernel
theorem dX10_takesOut_50 : decode (m_code mX10_takesOut) 50 = .ok (.istore_n 2, 1) := by decide +kernel
theorem dX10_takesOut_51 : decode (m_code mX10_takesOut) 51 = .ok (.iload_n 2, 1) := by decide +kernel
theorem dX10_takesOut_52 : decode (m_code mX10_takesOut) 52 = .ok (.iconst 5, 1) := by decide +kernel
theorem dX10_takesOut_53 : decode (m_code mX10_takesOut) 53 = .ok (.aload_n 0, 1) := by decide +kernel
theorem dX10_takesOut_54 : decode (m_code mX10_takesOut) 54 = .ok (.getfield 7, 3) := by decide +kernel
theorem dX10_takesOut_57 : decode (m_code mX10_takesOut) 57 = .ok (.iconst 4, 1) := by decide +kernel
theorem dX10_takesOut_58 : decode (m_code mX10_takesOut) 58 = .ok (.iaload, 1) := by decide +kernel
theorem dX10_takesOut_59 : decode (m_code mX10_takesOut) 59 = .ok (.imul, 1) := by decide +kernel
theorem dX10_takesOut_60 : decode (m_code mX10_takesOut) 60 = .ok (.if_icmp .ge 31, 3) := by decide +kernel
theorem dX10_takesOut_63 : decode (m_code mX10_takesOut) 63 = .ok (.aload_n 0, 1) := by decide +kernel
theorem dX10_takesOut_64 : decode (m_code mX10_takesOut) 64 = .ok (.getfield 7, 3) := by decide +kernel
theorem dX10_takesOut_67 : decode (m_code mX10_takesOut) 67 = .ok (.sipush 816, 3) := by decide +kernel
theorem dX10_takesOut_70 : decode (m_code mX10_takesOut) 70 = .ok (.iload_n 2, 1) := by decide +kernel
theorem dX10_takesOut_71 : decode (m_code mX10_takesOut) 71 = .ok (.iadd, 1) := by decide +kernel
theorem dX10_takesOut_72 : decode (m_code mX10_takesOut) 72 = .ok (.aload_n 0, 1) := by decide +kernel
theorem dX10_takesOut_73 : decode (m_code mX10_takesOut) 73 = .ok (.getfield 7, 3) := by decide +kernel
theorem dX10_takesOut_76 : decode (m_code mX10_takesOut) 76 = .ok (.sipush 816, 3) := by decide +kernel
theorem dX10_takesOut_79 : decode (m_code mX10_takesOut) 79 = .ok (.iload_n 2, 1) := by decide +kernel
theorem dX10_takesOut_80 : decode (m_code mX10_takesOut) 80 = .ok (.iadd, 1) := by decide +kernel
theorem dX10_takesOut_81 : decode (m_code mX10_takesOut) 81 = .ok (.iconst 5, 1) := by decide +kernel
theorem dX10_takesOut_82 : decode (m_code mX10_takesOut) 82 = .ok (.iadd, 1) := by decide +kernel
theorem dX10_takesOut_83 : decode (m_code mX10_takesOut) 83 = .ok (.iaload, 1) := by decide +kernel
theorem dX10_takesOut_84 : decode (m_code mX10_takesOut) 84 = .ok (.iastore, 1) := by decide +kernel
theorem dX10_takesOut_85 : decode (m_code mX10_takesOut) 85 = .ok (.iinc 2 1, 3) := by decide +kernel
theorem dX10_takesOut_88 : decode (m_code mX10_takesOut) 88 = .ok (.goto (-37), 3) := by decide +kernel
theorem dX10_takesOut_91 : decode (m_code mX10_takesOut) 91 = .ok (.return_, 1) := by decide +kernel
theorem dX10_commits_0 : decode (m_code mX10_commits) 0 = .ok (.aload_n 0, 1) := by decide +kernel
theorem dX10_commits_1 : decode (m_code mX10_commits) 1 = .ok (.iload_n 1, 1) := by decide +kernel
theorem dX10_commits_2 : decode (m_code mX10_commits) 2 = .ok (.invokevirtual 54, 3) := by decide +kernel
theorem dX10_commits_5 : decode (m_code mX10_commits) 5 = .ok (.istore_n 3, 1) := by decide +kernel
theorem dX10_commits_6 : decode (m_code mX10_commits) 6 = .ok (.aload_n 0, 1) := by decide +kernel
theorem dX10_commits_7 : decode (m_code mX10_commits) 7 = .ok (.iload_n 1, 1) := by decide +kernel
theorem dX10_commits_8 : decode (m_code mX10_commits) 8 = .ok (.invokevirtual 90, 3) := by decide +kernel
theorem dX10_commits_11 : decode (m_code mX10_commits) 11 = .ok (.istore 4, 2) := by decide +kernel
theorem dX10_commits_13 : decode (m_code mX10_commits) 13 = .ok (.aload_n 0, 1) := by decide +kernel
theorem dX10_commits_14 : decode (m_code mX10_commits) 14 = .ok (.iload_n 2, 1) := by decide +kernel
theorem dX10_commits_15 : decode (m_code mX10_commits) 15 = .ok (.iload 4, 2) := by decide +kernel
theorem dX10_commits_17 : decode (m_code mX10_commits) 17 = .ok (.invokevirtual 93, 3) := by decide +kernel
theorem dX10_commits_20 : decode (m_code mX10_commits) 20 = .ok (.ifCond .ne 42, 3) := by decide +kernel
theorem dX10_commits_23 : decode (m_code mX10_commits) 23 = .ok (.aload_n 0, 1) := by decide +kernel
theorem dX10_commits_24 : decode (m_code mX10_commits) 24 = .ok (.iload 4, 2) := by decide +kernel
theorem dX10_commits_26 : decode (m_code mX10_commits) 26 = .ok (.iload_n 2, 1) := by decide +kernel
theorem dX10_commits_27 : decode (m_code mX10_commits) 27 = .ok (.invokevirtual 93, 3) := by decide +kernel
theorem dX10_commits_30 : decode (m_code mX10_commits) 30 = .ok (.ifCond .eq 4, 3) := by decide +kernel
theorem dX10_commits_33 : decode (m_code mX10_commits) 33 = .ok (.return_, 1) := by decide +kernel
theorem dX10_commits_34 : decode (m_code mX10_commits) 34 = .ok (.aload_n 0, 1) := by decide +kernel
theorem dX10_commits_35 : decode (m_code mX10_commits) 35 = .ok (.getfield 7, 3) := by decide +kernel
theorem dX10_commits_38 : decode (m_code mX10_commits) 38 = .ok (.iload_n 3, 1) := by decide +kernel
theorem dX10_commits_39 : decode (m_code mX10_commits) 39 = .ok (.bipush 9, 2) := by decide +kernel
theorem dX10_commits_41 : decode (m_code mX10_commits) 41 = .ok (.iadd, 1) := by decide +kernel
theorem dX10_commits_42 : decode (m_code mX10_commits) 42 = .ok (.aload_n 0, 1) := by decide +kernel
theorem dX10_commits_43 : decode (m_code mX10_commits) 43 = .ok (.getfield 7, 3) := by decide +kernel
theorem dX10_commits_46 : decode (m_code mX10_commits) 46 = .ok (.iload_n 3, 1) := by decide +kernel
theorem dX10_commits_47 : decode (m_code mX10_commits) 47 = .ok (.bipush 9, 2) := by decide +kernel
theorem dX10_commits_49 : decode (m_code mX10_commits) 49 = .ok (.iadd, 1) := by decide +kernel
theorem dX10_commits_50 : decode (m_code mX10_commits) 50 = .ok (.iaload, 1) := by decide +kernel
theorem dX10_commits_51 : decode (m_code mX10_commits) 51 = .ok (.iconst 1, 1) := by decide +kernel
theorem dX10_commits_52 : decode (m_code mX10_commits) 52 = .ok (.iadd, 1) := by decide +kernel
theorem dX10_commits_53 : decode (m_code mX10_commits) 53 = .ok (.iastore, 1) := by decide +kernel
theorem dX10_commits_54 : decode (m_code mX10_commits) 54 = .ok (.aload_n 0, 1) := by decide +kernel
theorem dX10_commits_55 : decode (m_code mX10_commits) 55 = .ok (.iconst 4, 1) := by decide +kernel
theorem dX10_commits_56 : decode (m_code mX10_commits) 56 = .ok (.iload_n 1, 1) := by decide +kernel
theorem dX10_commits_57 : decode (m_code mX10_commits) 57 = .ok (.iload_n 2, 1) := by decide +kernel
theorem dX10_commits_58 : decode (m_code mX10_commits) 58 = .ok (.invokevirtual 96, 3) := by decide +kernel
theorem dX10_commits_61 : decode (m_code mX10_commits) 61 = .ok (.return_, 1) := by decide +kernel
theorem dX10_commits_62 : decode (m_code mX10_commits) 62 = .ok (.aload_n 0, 1) := by decide +kernel
theorem dX10_commits_63 : decode (m_code mX10_commits) 63 = .ok (.getfield 7, 3) := by decide +kernel
theorem dX10_commits_66 : decode (m_code mX10_commits) 66 = .ok (.sipush 516, 3) := by decide +kernel
theorem dX10_commits_69 : decode (m_code mX10_commits) 69 = .ok (.iload_n 2, 1) := by decide +kernel
theorem dX10_commits_70 : decode (m_code mX10_commits) 70 = .ok (.iadd, 1) := by decide +kernel
theorem dX10_commits_71 : decode (m_code mX10_commits) 71 = .ok (.iaload, 1) := by decide +kernel
theorem dX10_commits_72 : decode (m_code mX10_commits) 72 = .ok (.aload_n 0, 1) := by decide +kernel
theorem dX10_commits_73 : decode (m_code mX10_commits) 73 = .ok (.getfield 7, 3) := by decide +kernel
theorem dX10_commits_76 : decode (m_code mX10_commits) 76 = .ok (.sipush 516, 3) := by decide +kernel
theorem dX10_commits_79 : decode (m_code mX10_commits) 79 = .ok (.iload 4, 2) := by decide +kernel
theorem dX10_commits_81 : decode (m_code mX10_commits) 81 = .ok (.iadd, 1) := by decide +kernel
theorem dX10_commits_82 : decode (m_code mX10_commits) 82 = .ok (.iaload, 1) := by decide +kernel
theorem dX10_commits_83 : decode (m_code mX10_commits) 83 = .ok (.isub, 1) := by decide +kernel
theorem dX10_commits_84 : decode (m_code mX10_commits) 84 = .ok (.istore 5, 2) := by decide +kernel
theorem dX10_commits_86 : decode (m_code mX10_commits) 86 = .ok (.iload_n 2, 1) := by decide +kernel
theorem dX10_commits_87 : decode (m_code mX10_commits) 87 = .ok (.istore 6, 2) := by decide +kernel
theorem dX10_commits_89 : decode (m_code mX10_commits) 89 = .ok (.iload 5, 2) := by decide +kernel
theorem dX10_commits_91 : decode (m_code mX10_commits) 91 = .ok (.istore 7, 2) := by decide +kernel
theorem dX10_commits_93 : decode (m_code mX10_commits) 93 = .ok (.iload 7, 2) := by decide +kernel
theorem dX10_commits_95 : decode (m_code mX10_commits) 95 = .ok (.ifCond .le 41, 3) := by decide +kernel
theorem dX10_commits_98 : decode (m_code mX10_commits) 98 = .ok (.aload_n 0, 1) := by decide +kernel
theorem dX10_commits_99 : decode (m_code mX10_commits) 99 = .ok (.getfield 7, 3) := by decide +kernel
theorem dX10_commits_102 : decode (m_code mX10_commits) 102 = .ok (.iload_n 3, 1) := by decide +kernel
theorem dX10_commits_103 : decode (m_code mX10_commits) 103 = .ok (.bipush 12, 2) := by decide +kernel
theorem dX10_commits_105 : decode (m_code mX10_commits) 105 = .ok (.iadd, 1) := by decide +kernel
theorem dX10_commits_106 : decode (m_code mX10_commits) 106 = .ok (.aload_n 0, 1) := by decide +kernel
theorem dX10_commits_107 : decode (m_code mX10_commits) 107 = .ok (.getfield 7, 3) := by decide +kernel
theorem dX10_commits_110 : decode (m_code mX10_commits) 110 = .ok (.iload_n 3, 1) := by decide +kernel
theorem dX10_commits_111 : decode (m_code mX10_commits) 111 = .ok (.bipush 8, 2) := by decide +kernel
theorem dX10_commits_113 : decode (m_code mX10_commits) 113 = .ok (.iadd, 1) := by decide +kernel
theorem dX10_commits_114 : decode (m_code mX10_commits) 114 = .ok (.iaload, 1) := by decide +kernel
theorem dX10_commits_115 : decode (m_code mX10_commits) 115 = .ok (.iadd, 1) := by decide +kernel
theorem dX10_commits_116 : decode (m_code mX10_commits) 116 = .ok (.iload 7, 2) := by decide +kernel
theorem dX10_commits_118 : decode (m_code mX10_commits) 118 = .ok (.iadd, 1) := by decide +kernel
theorem dX10_commits_119 : decode (m_code mX10_commits) 119 = .ok (.iload 6, 2) := by decide +kernel
theorem dX10_commits_121 : decode (m_code mX10_commits) 121 = .ok (.iastore, 1) := by decide +kernel
theorem dX10_commits_122 : decode (m_code mX10_commits) 122 = .ok (.aload_n 0, 1) := by decide +kernel
theorem dX10_commits_123 : decode (m_code mX10_commits) 123 = .ok (.iload 6, 2) := by decide +kernel
theorem dX10_commits_125 : decode (m_code mX10_commits) 125 = .ok (.invokevirtual 58, 3) := by decide +kernel
theorem dX10_commits_128 : decode (m_code mX10_commits) 128 = .ok (.istore 6, 2) := by decide +kernel
theorem dX10_commits_130 : decode (m_code mX10_commits) 130 = .ok (.iinc 7 (-1), 3) := by decide +kernel
theorem dX10_commits_133 : decode (m_code mX10_commits) 133 = .ok (.goto (-40), 3) := by decide +kernel
theorem dX10_commits_136 : decode (m_code mX10_commits) 136 = .ok (.iconst 1, 1) := by decide +kernel
theorem dX10_commits_137 : decode (m_code mX10_commits) 137 = .ok (.istore 7, 2) := by decide +kernel
theorem dX10_commits_139 : decode (m_code mX10_commits) 139 = .ok (.iload 7, 2) := by decide +kernel
theorem dX10_commits_141 : decode (m_code mX10_commits) 141 = .ok (.iload 5, 2) := by decide +kernel
theorem dX10_commits_143 : decode (m_code mX10_commits) 143 = .ok (.if_icmp .gt 37, 3) := by decide +kernel
theorem dX10_commits_146 : decode (m_code mX10_commits) 146 = .ok (.aload_n 0, 1) := by decide +kernel
theorem dX10_commits_147 : decode (m_code mX10_commits) 147 = .ok (.iconst 3, 1) := by decide +kernel
theorem dX10_commits_148 : decode (m_code mX10_commits) 148 = .ok (.iload_n 1, 1) := by decide +kernel
theorem dX10_commits_149 : decode (m_code mX10_commits) 149 = .ok (.aload_n 0, 1) := by decide +kernel
theorem dX10_commits_150 : decode (m_code mX10_commits) 150 = .ok (.getfield 7, 3) := by decide +kernel
theorem dX10_commits_153 : decode (m_code mX10_commits) 153 = .ok (.iload_n 3, 1) := by decide +kernel
theorem dX10_commits_154 : decode (m_code mX10_commits) 154 = .ok (.bipush 12, 2) := by decide +kernel
theorem dX10_commits_156 : decode (m_code mX10_commits) 156 = .ok (.iadd, 1) := by decide +kernel
theorem dX10_commits_157 : decode (m_code mX10_commits) 157 = .ok (.aload_n 0, 1) := by decide +kernel
theorem dX10_commits_158 : decode (m_code mX10_commits) 158 = .ok (.getfield 7, 3) := by decide +kernel
theorem dX10_commits_161 : decode (m_code mX10_commits) 161 = .ok (.iload_n 3, 1) := by decide +kernel
theorem dX10_commits_162 : decode (m_code mX10_commits) 162 = .ok (.bipush 8, 2) := by decide +kernel
theorem dX10_commits_164 : decode (m_code mX10_commits) 164 = .ok (.iadd, 1) := by decide +kernel
theorem dX10_commits_165 : decode (m_code mX10_commits) 165 = .ok (.iaload, 1) := by decide +kernel
theorem dX10_commits_166 : decode (m_code mX10_commits) 166 = .ok (.iadd, 1) := by decide +kernel
theorem dX10_commits_167 : decode (m_code mX10_commits) 167 = .ok (.iload 7, 2) := by decide +kernel
theorem dX10_commits_169 : decode (m_code mX10_commits) 169 = .ok (.iadd, 1) := by decide +kernel
theorem dX10_commits_170 : decode (m_code mX10_commits) 170 = .ok (.iaload, 1) := by decide +kernel
theorem dX10_commits_171 : decode (m_code mX10_commits) 171 = .ok (.invokevirtual 96, 3) := by decide +kernel
theorem dX10_commits_174 : decode (m_code mX10_commits) 174 = .ok (.iinc 7 1, 3) := by decide +kernel
theorem dX10_commits_177 : decode (m_code mX10_commits) 177 = .ok (.goto (-38), 3) := by decide +kernel
theorem dX10_commits_180 : decode (m_code mX10_commits) 180 = .ok (.aload_n 0, 1) := by decide +kernel
theorem dX10_commits_181 : decode (m_code mX10_commits) 181 = .ok (.getfield 7, 3) := by decide +kernel
theorem dX10_commits_184 : decode (m_code mX10_commits) 184 = .ok (.iload_n 3, 1) := by decide +kernel
theorem dX10_commits_185 : decode (m_code mX10_commits) 185 = .ok (.bipush 8, 2) := by decide +kernel
theorem dX10_commits_187 : decode (m_code mX10_commits) 187 = .ok (.iadd, 1) := by decide +kernel
theorem dX10_commits_188 : decode (m_code mX10_commits) 188 = .ok (.aload_n 0, 1) := by decide +kernel
theorem dX10_commits_189 : decode (m_code mX10_commits) 189 = .ok (.getfield 7, 3) := by decide +kernel
theorem dX10_commits_192 : decode (m_code mX10_commits) 192 = .ok (.iload_n 3, 1) := by decide +kernel
theorem dX10_commits_193 : decode (m_code mX10_commits) 193 = .ok (.bipush 8, 2) := by decide +kernel
theorem dX10_commits_195 : decode (m_code mX10_commits) 195 = .ok (.iadd, 1) := by decide +kernel
theorem dX10_commits_196 : decode (m_code mX10_commits) 196 = .ok (.iaload, 1) := by decide +kernel
theorem dX10_commits_197 : decode (m_code mX10_commits) 197 = .ok (.iload 5, 2) := by decide +kernel
theorem dX10_commits_199 : decode (m_code mX10_commits) 199 = .ok (.iadd, 1) := by decide +kernel
theorem dX10_commits_200 : decode (m_code mX10_commits) 200 = .ok (.iastore, 1) := by decide +kernel
theorem dX10_commits_201 : decode (m_code mX10_commits) 201 = .ok (.return_, 1) := by decide +kernel
theorem dX10_learns_0 : decode (m_code mX10_learns) 0 = .ok (.aload_n 0, 1) := by decide +kernel
theorem dX10_learns_1 : decode (m_code mX10_learns) 1 = .ok (.iload_n 1, 1) := by decide +kernel
theorem dX10_learns_2 : decode (m_code mX10_learns) 2 = .ok (.invokevirtual 54, 3) := by decide +kernel
theorem dX10_learns_5 : decode (m_code mX10_learns) 5 = .ok (.istore_n 3, 1) := by decide +kernel
theorem dX10_learns_6 : decode (m_code mX10_learns) 6 = .ok (.aload_n 0, 1) := by decide +kernel
theorem dX10_learns_7 : decode (m_code mX10_learns) 7 = .ok (.getfield 7, 3) := by decide +kernel
theorem dX10_learns_10 : decode (m_code mX10_learns) 10 = .ok (.bipush 16, 2) := by decide +kernel
theorem dX10_learns_12 : decode (m_code mX10_learns) 12 = .ok (.iload_n 2, 1) := by decide +kernel
theorem dX10_learns_13 : decode (m_code mX10_learns) 13 = .ok (.iadd, 1) := by decide +kernel
theorem dX10_learns_14 : decode (m_code mX10_learns) 14 = .ok (.iaload, 1) := by decide +kernel
theorem dX10_learns_15 : decode (m_code mX10_learns) 15 = .ok (.aload_n 0, 1) := by decide +kernel
theorem dX10_learns_16 : decode (m_code mX10_learns) 16 = .ok (.getfield 7, 3) := by decide +kernel
theorem dX10_learns_19 : decode (m_code mX10_learns) 19 = .ok (.bipush 16, 2) := by decide +kernel
theorem dX10_learns_21 : decode (m_code mX10_learns) 21 = .ok (.aload_n 0, 1) := by decide +kernel
theorem dX10_learns_22 : decode (m_code mX10_learns) 22 = .ok (.getfield 7, 3) := by decide +kernel
theorem dX10_learns_25 : decode (m_code mX10_learns) 25 = .ok (.iload_n 3, 1) := by decide +kernel
theorem dX10_learns_26 : decode (m_code mX10_learns) 26 = .ok (.iconst 5, 1) := by decide +kernel
theorem dX10_learns_27 : decode (m_code mX10_learns) 27 = .ok (.iadd, 1) := by decide +kernel
theorem dX10_learns_28 : decode (m_code mX10_learns) 28 = .ok (.iaload, 1) := by decide +kernel
theorem dX10_learns_29 : decode (m_code mX10_learns) 29 = .ok (.iadd, 1) := by decide +kernel
theorem dX10_learns_30 : decode (m_code mX10_learns) 30 = .ok (.iaload, 1) := by decide +kernel
theorem dX10_learns_31 : decode (m_code mX10_learns) 31 = .ok (.if_icmp .le 12, 3) := by decide +kernel
theorem dX10_learns_34 : decode (m_code mX10_learns) 34 = .ok (.aload_n 0, 1) := by decide +kernel
theorem dX10_learns_35 : decode (m_code mX10_learns) 35 = .ok (.getfield 7, 3) := by decide +kernel
theorem dX10_learns_38 : decode (m_code mX10_learns) 38 = .ok (.iload_n 3, 1) := by decide +kernel
theorem dX10_learns_39 : decode (m_code mX10_learns) 39 = .ok (.iconst 5, 1) := by decide +kernel
theorem dX10_learns_40 : decode (m_code mX10_learns) 40 = .ok (.iadd, 1) := by decide +kernel
theorem dX10_learns_41 : decode (m_code mX10_learns) 41 = .ok (.iload_n 2, 1) := by decide +kernel
theorem dX10_learns_42 : decode (m_code mX10_learns) 42 = .ok (.iastore, 1) := by decide +kernel
theorem dX10_learns_43 : decode (m_code mX10_learns) 43 = .ok (.aload_n 0, 1) := by decide +kernel
theorem dX10_learns_44 : decode (m_code mX10_learns) 44 = .ok (.getfield 7, 3) := by decide +kernel
theorem dX10_learns_47 : decode (m_code mX10_learns) 47 = .ok (.sipush 216, 3) := by decide +kernel
theorem dX10_learns_50 : decode (m_code mX10_learns) 50 = .ok (.iload_n 2, 1) := by decide +kernel
theorem dX10_learns_51 : decode (m_code mX10_learns) 51 = .ok (.iadd, 1) := by decide +kernel
theorem dX10_learns_52 : decode (m_code mX10_learns) 52 = .ok (.iaload, 1) := by decide +kernel
theorem dX10_learns_53 : decode (m_code mX10_learns) 53 = .ok (.istore 4, 2) := by decide +kernel
theorem dX10_learns_55 : decode (m_code mX10_learns) 55 = .ok (.aload_n 0, 1) := by decide +kernel
theorem dX10_learns_56 : decode (m_code mX10_learns) 56 = .ok (.getfield 7, 3) := by decide +kernel
theorem dX10_learns_59 : decode (m_code mX10_learns) 59 = .ok (.bipush 16, 2) := by decide +kernel
theorem dX10_learns_61 : decode (m_code mX10_learns) 61 = .ok (.iload 4, 2) := by decide +kernel
theorem dX10_learns_63 : decode (m_code mX10_learns) 63 = .ok (.iadd, 1) := by decide +kernel
theorem dX10_learns_64 : decode (m_code mX10_learns) 64 = .ok (.iaload, 1) := by decide +kernel
theorem dX10_learns_65 : decode (m_code mX10_learns) 65 = .ok (.aload_n 0, 1) := by decide +kernel
theorem dX10_learns_66 : decode (m_code mX10_learns) 66 = .ok (.getfield 7, 3) := by decide +kernel
theorem dX10_learns_69 : decode (m_code mX10_learns) 69 = .ok (.bipush 16, 2) := by decide +kernel
theorem dX10_learns_71 : decode (m_code mX10_learns) 71 = .ok (.aload_n 0, 1) := by decide +kernel
theorem dX10_learns_72 : decode (m_code mX10_learns) 72 = .ok (.getfield 7, 3) := by decide +kernel
theorem dX10_learns_75 : decode (m_code mX10_learns) 75 = .ok (.iload_n 3, 1) := by decide +kernel
theorem dX10_learns_76 : decode (m_code mX10_learns) 76 = .ok (.bipush 6, 2) := by decide +kernel
theorem dX10_learns_78 : decode (m_code mX10_learns) 78 = .ok (.iadd, 1) := by decide +kernel
theorem dX10_learns_79 : decode (m_code mX10_learns) 79 = .ok (.iaload, 1) := by decide +kernel
theorem dX10_learns_80 : decode (m_code mX10_learns) 80 = .ok (.iadd, 1) := by decide +kernel
theorem dX10_learns_81 : decode (m_code mX10_learns) 81 = .ok (.iaload, 1) := by decide +kernel
theorem dX10_learns_82 : decode (m_code mX10_learns) 82 = .ok (.if_icmp .le 14, 3) := by decide +kernel
theorem dX10_learns_85 : decode (m_code mX10_learns) 85 = .ok (.aload_n 0, 1) := by decide +kernel
theorem dX10_learns_86 : decode (m_code mX10_learns) 86 = .ok (.getfield 7, 3) := by decide +kernel
theorem dX10_learns_89 : decode (m_code mX10_learns) 89 = .ok (.iload_n 3, 1) := by decide +kernel
theorem dX10_learns_90 : decode (m_code mX10_learns) 90 = .ok (.bipush 6, 2) := by decide +kernel
theorem dX10_learns_92 : decode (m_code mX10_learns) 92 = .ok (.iadd, 1) := by decide +kernel
theorem dX10_learns_93 : decode (m_code mX10_learns) 93 = .ok (.iload 4, 2) := by decide +kernel
theorem dX10_learns_95 : decode (m_code mX10_learns) 95 = .ok (.iastore, 1) := by decide +kernel
theorem dX10_learns_96 : decode (m_code mX10_learns) 96 = .ok (.aload_n 0, 1) := by decide +kernel
theorem dX10_learns_97 : decode (m_code mX10_learns) 97 = .ok (.getfield 7, 3) := by decide +kernel
theorem dX10_learns_100 : decode (m_code mX10_learns) 100 = .ok (.sipush 216, 3) := by decide +kernel
theorem dX10_learns_103 : decode (m_code mX10_learns) 103 = .ok (.iload 4, 2) := by decide +kernel
theorem dX10_learns_105 : decode (m_code mX10_learns) 105 = .ok (.iadd, 1) := by decide +kernel
theorem dX10_learns_106 : decode (m_code mX10_learns) 106 = .ok (.iaload, 1) := by decide +kernel
theorem dX10_learns_107 : decode (m_code mX10_learns) 107 = .ok (.istore 5, 2) := by decide +kernel
theorem dX10_learns_109 : decode (m_code mX10_learns) 109 = .ok (.iload 5, 2) := by decide +kernel
theorem dX10_learns_111 : decode (m_code mX10_learns) 111 = .ok (.ifCond .eq 77, 3) := by decide +kernel
theorem dX10_learns_114 : decode (m_code mX10_learns) 114 = .ok (.aload_n 0, 1) := by decide +kernel
theorem dX10_learns_115 : decode (m_code mX10_learns) 115 = .ok (.iload_n 2, 1) := by decide +kernel
theorem dX10_learns_116 : decode (m_code mX10_learns) 116 = .ok (.invokevirtual 58, 3) := by decide +kernel
theorem dX10_learns_119 : decode (m_code mX10_learns) 119 = .ok (.iload 4, 2) := by decide +kernel
theorem dX10_learns_121 : decode (m_code mX10_learns) 121 = .ok (.if_icmp .ne 67, 3) := by decide +kernel
theorem dX10_learns_124 : decode (m_code mX10_learns) 124 = .ok (.aload_n 0, 1) := by decide +kernel
theorem dX10_learns_125 : decode (m_code mX10_learns) 125 = .ok (.iload 4, 2) := by decide +kernel
theorem dX10_learns_127 : decode (m_code mX10_learns) 127 = .ok (.invokevirtual 58, 3) := by decide +kernel
theorem dX10_learns_130 : decode (m_code mX10_learns) 130 = .ok (.iload 5, 2) := by decide +kernel
theorem dX10_learns_132 : decode (m_code mX10_learns) 132 = .ok (.if_icmp .ne 56, 3) := by decide +kernel
theorem dX10_learns_135 : decode (m_code mX10_learns) 135 = .ok (.aload_n 0, 1) := by decide +kernel
theorem dX10_learns_136 : decode (m_code mX10_learns) 136 = .ok (.getfield 7, 3) := by decide +kernel
theorem dX10_learns_139 : decode (m_code mX10_learns) 139 = .ok (.bipush 16, 2) := by decide +kernel
theorem dX10_learns_141 : decode (m_code mX10_learns) 141 = .ok (.iload_n 2, 1) := by decide +kernel
theorem dX10_learns_142 : decode (m_code mX10_learns) 142 = .ok (.iadd, 1) := by decide +kernel
theorem dX10_learns_143 : decode (m_code mX10_learns) 143 = .ok (.iaload, 1) := by decide +kernel
theorem dX10_learns_144 : decode (m_code mX10_learns) 144 = .ok (.aload_n 0, 1) := by decide +kernel
theorem dX10_learns_145 : decode (m_code mX10_learns) 145 = .ok (.getfield 7, 3) := by decide +kernel
theorem dX10_learns_148 : decode (m_code mX10_learns) 148 = .ok (.bipush 16, 2) := by decide +kernel
theorem dX10_learns_150 : decode (m_code mX10_learns) 150 = .ok (.iload 4, 2) := by decide +kernel
theorem dX10_learns_152 : decode (m_code mX10_learns) 152 = .ok (.iadd, 1) := by decide +kernel
theorem dX10_learns_153 : decode (m_code mX10_learns) 153 = .ok (.iaload, 1) := by decide +kernel
theorem dX10_learns_154 : decode (m_code mX10_learns) 154 = .ok (.iconst 1, 1) := by decide +kernel
theorem dX10_learns_155 : decode (m_code mX10_learns) 155 = .ok (.iadd, 1) := by decide +kernel
theorem dX10_learns_156 : decode (m_code mX10_learns) 156 = .ok (.if_icmp .ne 32, 3) := by decide +kernel
theorem dX10_learns_159 : decode (m_code mX10_learns) 159 = .ok (.aload_n 0, 1) := by decide +kernel
theorem dX10_learns_160 : decode (m_code mX10_learns) 160 = .ok (.getfield 7, 3) := by decide +kernel
theorem dX10_learns_163 : decode (m_code mX10_learns) 163 = .ok (.bipush 16, 2) := by decide +kernel
theorem dX10_learns_165 : decode (m_code mX10_learns) 165 = .ok (.iload 4, 2) := by decide +kernel
theorem dX10_learns_167 : decode (m_code mX10_learns) 167 = .ok (.iadd, 1) := by decide +kernel
theorem dX10_learns_168 : decode (m_code mX10_learns) 168 = .ok (.iaload, 1) := by decide +kernel
theorem dX10_learns_169 : decode (m_code mX10_learns) 169 = .ok (.aload_n 0, 1) := by decide +kernel
theorem dX10_learns_170 : decode (m_code mX10_learns) 170 = .ok (.getfield 7, 3) := by decide +kernel
theorem dX10_learns_173 : decode (m_code mX10_learns) 173 = .ok (.bipush 16, 2) := by decide +kernel
theorem dX10_learns_175 : decode (m_code mX10_learns) 175 = .ok (.iload 5, 2) := by decide +kernel
theorem dX10_learns_177 : decode (m_code mX10_learns) 177 = .ok (.iadd, 1) := by decide +kernel
theorem dX10_learns_178 : decode (m_code mX10_learns) 178 = .ok (.iaload, 1) := by decide +kernel
theorem dX10_learns_179 : decode (m_code mX10_learns) 179 = .ok (.iconst 1, 1) := by decide +kernel
theorem dX10_learns_180 : decode (m_code mX10_learns) 180 = .ok (.iadd, 1) := by decide +kernel
theorem dX10_learns_181 : decode (m_code mX10_learns) 181 = .ok (.if_icmp .ne 7, 3) := by decide +kernel
theorem dX10_learns_184 : decode (m_code mX10_learns) 184 = .ok (.iconst 1, 1) := by decide +kernel
theorem dX10_learns_185 : decode (m_code mX10_learns) 185 = .ok (.goto 4, 3) := by decide +kernel
theorem dX10_learns_188 : decode (m_code mX10_learns) 188 = .ok (.iconst 0, 1) := by decide +kernel
theorem dX10_learns_189 : decode (m_code mX10_learns) 189 = .ok (.istore 6, 2) := by decide +kernel
theorem dX10_learns_191 : decode (m_code mX10_learns) 191 = .ok (.iload 6, 2) := by decide +kernel
theorem dX10_learns_193 : decode (m_code mX10_learns) 193 = .ok (.ifCond .eq 10, 3) := by decide +kernel
theorem dX10_learns_196 : decode (m_code mX10_learns) 196 = .ok (.aload_n 0, 1) := by decide +kernel
theorem dX10_learns_197 : decode (m_code mX10_learns) 197 = .ok (.iload_n 1, 1) := by decide +kernel
theorem dX10_learns_198 : decode (m_code mX10_learns) 198 = .ok (.iload 5, 2) := by decide +kernel
theorem dX10_learns_200 : decode (m_code mX10_learns) 200 = .ok (.invokevirtual 100, 3) := by decide +kernel
theorem dX10_learns_203 : decode (m_code mX10_learns) 203 = .ok (.return_, 1) := by decide +kernel
theorem dX10_proves_0 : decode (m_code mX10_proves) 0 = .ok (.aload_n 0, 1) := by decide +kernel
theorem dX10_proves_1 : decode (m_code mX10_proves) 1 = .ok (.iload_n 1, 1) := by decide +kernel
theorem dX10_proves_2 : decode (m_code mX10_proves) 2 = .ok (.invokevirtual 54, 3) := by decide +kernel
theorem dX10_proves_5 : decode (m_code mX10_proves) 5 = .ok (.istore_n 3, 1) := by decide +kernel
theorem dX10_proves_6 : decode (m_code mX10_proves) 6 = .ok (.iload_n 2, 1) := by decide +kernel
theorem dX10_proves_7 : decode (m_code mX10_proves) 7 = .ok (.aload_n 0, 1) := by decide +kernel
theorem dX10_proves_8 : decode (m_code mX10_proves) 8 = .ok (.getfield 7, 3) := by decide +kernel
theorem dX10_proves_11 : decode (m_code mX10_proves) 11 = .ok (.iload_n 3, 1) := by decide +kernel
theorem dX10_proves_12 : decode (m_code mX10_proves) 12 = .ok (.bipush 7, 2) := by decide +kernel
theorem dX10_proves_14 : decode (m_code mX10_proves) 14 = .ok (.iadd, 1) := by decide +kernel
theorem dX10_proves_15 : decode (m_code mX10_proves) 15 = .ok (.iaload, 1) := by decide +kernel
theorem dX10_proves_16 : decode (m_code mX10_proves) 16 = .ok (.if_icmp .le 20, 3) := by decide +kernel
theorem dX10_proves_19 : decode (m_code mX10_proves) 19 = .ok (.aload_n 0, 1) := by decide +kernel
theorem dX10_proves_20 : decode (m_code mX10_proves) 20 = .ok (.getfield 7, 3) := by decide +kernel
theorem dX10_proves_23 : decode (m_code mX10_proves) 23 = .ok (.iload_n 3, 1) := by decide +kernel
theorem dX10_proves_24 : decode (m_code mX10_proves) 24 = .ok (.bipush 7, 2) := by decide +kernel
theorem dX10_proves_26 : decode (m_code mX10_proves) 26 = .ok (.iadd, 1) := by decide +kernel
theorem dX10_proves_27 : decode (m_code mX10_proves) 27 = .ok (.iload_n 2, 1) := by decide +kernel
theorem dX10_proves_28 : decode (m_code mX10_proves) 28 = .ok (.iastore, 1) := by decide +kernel
theorem dX10_proves_29 : decode (m_code mX10_proves) 29 = .ok (.aload_n 0, 1) := by decide +kernel
theorem dX10_proves_30 : decode (m_code mX10_proves) 30 = .ok (.iconst 5, 1) := by decide +kernel
theorem dX10_proves_31 : decode (m_code mX10_proves) 31 = .ok (.iload_n 1, 1) := by decide +kernel
theorem dX10_proves_32 : decode (m_code mX10_proves) 32 = .ok (.iload_n 2, 1) := by decide +kernel
theorem dX10_proves_33 : decode (m_code mX10_proves) 33 = .ok (.invokevirtual 96, 3) := by decide +kernel
theorem dX10_proves_36 : decode (m_code mX10_proves) 36 = .ok (.aload_n 0, 1) := by decide +kernel
theorem dX10_proves_37 : decode (m_code mX10_proves) 37 = .ok (.iload_n 1, 1) := by decide +kernel
theorem dX10_proves_38 : decode (m_code mX10_proves) 38 = .ok (.invokevirtual 104, 3) := by decide +kernel
theorem dX10_proves_41 : decode (m_code mX10_proves) 41 = .ok (.iload_n 2, 1) := by decide +kernel
theorem dX10_proves_42 : decode (m_code mX10_proves) 42 = .ok (.if_icmp .gt 11, 3) := by decide +kernel
theorem dX10_proves_45 : decode (m_code mX10_proves) 45 = .ok (.aload_n 0, 1) := by decide +kernel
theorem dX10_proves_46 : decode (m_code mX10_proves) 46 = .ok (.iload_n 1, 1) := by decide +kernel
theorem dX10_proves_47 : decode (m_code mX10_proves) 47 = .ok (.iload_n 2, 1) := by decide +kernel
theorem dX10_proves_48 : decode (m_code mX10_proves) 48 = .ok (.iconst 1, 1) := by decide +kernel
theorem dX10_proves_49 : decode (m_code mX10_proves) 49 = .ok (.iadd, 1) := by decide +kernel
theorem dX10_proves_50 : decode (m_code mX10_proves) 50 = .ok (.invokevirtual 107, 3) := by decide +kernel
theorem dX10_proves_53 : decode (m_code mX10_proves) 53 = .ok (.return_, 1) := by decide +kernel
theorem dX10_isSafe_0 : decode (m_code mX10_isSafe) 0 = .ok (.aload_n 0, 1) := by decide +kernel
theorem dX10_isSafe_1 : decode (m_code mX10_isSafe) 1 = .ok (.getfield 7, 3) := by decide +kernel
theorem dX10_isSafe_4 : decode (m_code mX10_isSafe) 4 = .ok (.aload_n 0, 1) := by decide +kernel
theorem dX10_isSafe_5 : decode (m_code mX10_isSafe) 5 = .ok (.iload_n 1, 1) := by decide +kernel
theorem dX10_isSafe_6 : decode (m_code mX10_isSafe) 6 = .ok (.invokevirtual 54, 3) := by decide +kernel
theorem dX10_isSafe_9 : decode (m_code mX10_isSafe) 9 = .ok (.bipush 6, 2) := by decide +kernel
theorem dX10_isSafe_11 : decode (m_code mX10_isSafe) 11 = .ok (.iadd, 1) := by decide +kernel
theorem dX10_isSafe_12 : decode (m_code mX10_isSafe) 12 = .ok (.iaload, 1) := by decide +kernel
theorem dX10_isSafe_13 : decode (m_code mX10_isSafe) 13 = .ok (.istore_n 3, 1) := by decide +kernel
theorem dX10_isSafe_14 : decode (m_code mX10_isSafe) 14 = .ok (.aload_n 0, 1) := by decide +kernel
theorem dX10_isSafe_15 : decode (m_code mX10_isSafe) 15 = .ok (.iload_n 2, 1) := by decide +kernel
theorem dX10_isSafe_16 : decode (m_code mX10_isSafe) 16 = .ok (.iload_n 3, 1) := by decide +kernel
theorem dX10_isSafe_17 : decode (m_code mX10_isSafe) 17 = .ok (.invokevirtual 93, 3) := by decide +kernel
theorem dX10_isSafe_20 : decode (m_code mX10_isSafe) 20 = .ok (.ifCond .ne 33, 3) := by decide +kernel
theorem dX10_isSafe_23 : decode (m_code mX10_isSafe) 23 = .ok (.aload_n 0, 1) := by decide +kernel
theorem dX10_isSafe_24 : decode (m_code mX10_isSafe) 24 = .ok (.getfield 7, 3) := by decide +kernel
theorem dX10_isSafe_27 : decode (m_code mX10_isSafe) 27 = .ok (.bipush 16, 2) := by decide +kernel
theorem dX10_isSafe_29 : decode (m_code mX10_isSafe) 29 = .ok (.aload_n 0, 1) := by decide +kernel
theorem dX10_isSafe_30 : decode (m_code mX10_isSafe) 30 = .ok (.getfield 7, 3) := by decide +kernel
theorem dX10_isSafe_33 : decode (m_code mX10_isSafe) 33 = .ok (.sipush 216, 3) := by decide +kernel
theorem dX10_isSafe_36 : decode (m_code mX10_isSafe) 36 = .ok (.iload_n 2, 1) := by decide +kernel
theorem dX10_isSafe_37 : decode (m_code mX10_isSafe) 37 = .ok (.iadd, 1) := by decide +kernel
theorem dX10_isSafe_38 : decode (m_code mX10_isSafe) 38 = .ok (.iaload, 1) := by decide +kernel
theorem dX10_isSafe_39 : decode (m_code mX10_isSafe) 39 = .ok (.iadd, 1) := by decide +kernel
theorem dX10_isSafe_40 : decode (m_code mX10_isSafe) 40 = .ok (.iaload, 1) := by decide +kernel
theorem dX10_isSafe_41 : decode (m_code mX10_isSafe) 41 = .ok (.aload_n 0, 1) := by decide +kernel
theorem dX10_isSafe_42 : decode (m_code mX10_isSafe) 42 = .ok (.getfield 7, 3) := by decide +kernel
theorem dX10_isSafe_45 : decode (m_code mX10_isSafe) 45 = .ok (.bipush 16, 2) := by decide +kernel
theorem dX10_isSafe_47 : decode (m_code mX10_isSafe) 47 = .ok (.iload_n 3, 1) := by decide +kernel
theorem dX10_isSafe_48 : decode (m_code mX10_isSafe) 48 = .ok (.iadd, 1) := by decide +kernel
theorem dX10_isSafe_49 : decode (m_code mX10_isSafe) 49 = .ok (.iaload, 1) := by decide +kernel
theorem dX10_isSafe_50 : decode (m_code mX10_isSafe) 50 = .ok (.if_icmp .le 7, 3) := by decide +kernel
theorem dX10_isSafe_53 : decode (m_code mX10_isSafe) 53 = .ok (.iconst 1, 1) := by decide +kernel
theorem dX10_isSafe_54 : decode (m_code mX10_isSafe) 54 = .ok (.goto 4, 3) := by decide +kernel
theorem dX10_isSafe_57 : decode (m_code mX10_isSafe) 57 = .ok (.iconst 0, 1) := by decide +kernel
theorem dX10_isSafe_58 : decode (m_code mX10_isSafe) 58 = .ok (.ireturn, 1) := by decide +kernel
theorem dX10_couldVote_0 : decode (m_code mX10_couldVote) 0 = .ok (.aload_n 0, 1) := by decide +kernel
theorem dX10_couldVote_1 : decode (m_code mX10_couldVote) 1 = .ok (.getfield 7, 3) := by decide +kernel
theorem dX10_couldVote_4 : decode (m_code mX10_couldVote) 4 = .ok (.bipush 16, 2) := by decide +kernel
theorem dX10_couldVote_6 : decode (m_code mX10_couldVote) 6 = .ok (.iload_n 2, 1) := by decide +kernel
theorem dX10_couldVote_7 : decode (m_code mX10_couldVote) 7 = .ok (.iadd, 1) := by decide +kernel
theorem dX10_couldVote_8 : decode (m_code mX10_couldVote) 8 = .ok (.iaload, 1) := by decide +kernel
theorem dX10_couldVote_9 : decode (m_code mX10_couldVote) 9 = .ok (.aload_n 0, 1) := by decide +kernel
theorem dX10_couldVote_10 : decode (m_code mX10_couldVote) 10 = .ok (.iload_n 1, 1) := by decide +kernel
theorem dX10_couldVote_11 : decode (m_code mX10_couldVote) 11 = .ok (.invokevirtual 104, 3) := by decide +kernel
theorem dX10_couldVote_14 : decode (m_code mX10_couldVote) 14 = .ok (.if_icmp .ne 49, 3) := by decide +kernel
theorem dX10_couldVote_17 : decode (m_code mX10_couldVote) 17 = .ok (.aload_n 0, 1) := by decide +kernel
theorem dX10_couldVote_18 : decode (m_code mX10_couldVote) 18 = .ok (.getfield 7, 3) := by decide +kernel
theorem dX10_couldVote_21 : decode (m_code mX10_couldVote) 21 = .ok (.bipush 16, 2) := by decide +kernel
theorem dX10_couldVote_23 : decode (m_code mX10_couldVote) 23 = .ok (.iload_n 2, 1) := by decide +kernel
theorem dX10_couldVote_24 : decode (m_code mX10_couldVote) 24 = .ok (.iadd, 1) := by decide +kernel
theorem dX10_couldVote_25 : decode (m_code mX10_couldVote) 25 = .ok (.iaload, 1) := by decide +kernel
theorem dX10_couldVote_26 : decode (m_code mX10_couldVote) 26 = .ok (.aload_n 0, 1) := by decide +kernel
theorem dX10_couldVote_27 : decode (m_code mX10_couldVote) 27 = .ok (.getfield 7, 3) := by decide +kernel
theorem dX10_couldVote_30 : decode (m_code mX10_couldVote) 30 = .ok (.aload_n 0, 1) := by decide +kernel
theorem dX10_couldVote_31 : decode (m_code mX10_couldVote) 31 = .ok (.iload_n 1, 1) := by decide +kernel
theorem dX10_couldVote_32 : decode (m_code mX10_couldVote) 32 = .ok (.invokevirtual 54, 3) := by decide +kernel
theorem dX10_couldVote_35 : decode (m_code mX10_couldVote) 35 = .ok (.iconst 2, 1) := by decide +kernel
theorem dX10_couldVote_36 : decode (m_code mX10_couldVote) 36 = .ok (.iadd, 1) := by decide +kernel
theorem dX10_couldVote_37 : decode (m_code mX10_couldVote) 37 = .ok (.iaload, 1) := by decide +kernel
theorem dX10_couldVote_38 : decode (m_code mX10_couldVote) 38 = .ok (.if_icmp .le 25, 3) := by decide +kernel
theorem dX10_couldVote_41 : decode (m_code mX10_couldVote) 41 = .ok (.aload_n 0, 1) := by decide +kernel
theorem dX10_couldVote_42 : decode (m_code mX10_couldVote) 42 = .ok (.iload_n 2, 1) := by decide +kernel
theorem dX10_couldVote_43 : decode (m_code mX10_couldVote) 43 = .ok (.invokevirtual 58, 3) := by decide +kernel
theorem dX10_couldVote_46 : decode (m_code mX10_couldVote) 46 = .ok (.aload_n 0, 1) := by decide +kernel
theorem dX10_couldVote_47 : decode (m_code mX10_couldVote) 47 = .ok (.getfield 7, 3) := by decide +kernel
theorem dX10_couldVote_50 : decode (m_code mX10_couldVote) 50 = .ok (.sipush 216, 3) := by decide +kernel
theorem dX10_couldVote_53 : decode (m_code mX10_couldVote) 53 = .ok (.iload_n 2, 1) := by decide +kernel
theorem dX10_couldVote_54 : decode (m_code mX10_couldVote) 54 = .ok (.iadd, 1) := by decide +kernel
theorem dX10_couldVote_55 : decode (m_code mX10_couldVote) 55 = .ok (.iaload, 1) := by decide +kernel
theorem dX10_couldVote_56 : decode (m_code mX10_couldVote) 56 = .ok (.if_icmp .ne 7, 3) := by decide +kernel
theorem dX10_couldVote_59 : decode (m_code mX10_couldVote) 59 = .ok (.iconst 1, 1) := by decide +kernel
theorem dX10_couldVote_60 : decode (m_code mX10_couldVote) 60 = .ok (.goto 4, 3) := by decide +kernel
theorem dX10_couldVote_63 : decode (m_code mX10_couldVote) 63 = .ok (.iconst 0, 1) := by decide +kernel
theorem dX10_couldVote_64 : decode (m_code mX10_couldVote) 64 = .ok (.ireturn, 1) := by decide +kernel
theorem dX10_givesBlock_0 : decode (m_code mX10_givesBlock) 0 = .ok (.aload_n 0, 1) := by decide +kernel
theorem dX10_givesBlock_1 : decode (m_code mX10_givesBlock) 1 = .ok (.iload_n 1, 1) := by decide +kernel
theorem dX10_givesBlock_2 : decode (m_code mX10_givesBlock) 2 = .ok (.invokevirtual 54, 3) := by decide +kernel
theorem dX10_givesBlock_5 : decode (m_code mX10_givesBlock) 5 = .ok (.istore_n 3, 1) := by decide +kernel
theorem dX10_givesBlock_6 : decode (m_code mX10_givesBlock) 6 = .ok (.iconst 0, 1) := by decide +kernel
theorem dX10_givesBlock_7 : decode (m_code mX10_givesBlock) 7 = .ok (.istore 4, 2) := by decide +kernel
theorem dX10_givesBlock_9 : decode (m_code mX10_givesBlock) 9 = .ok (.iconst 0, 1) := by decide +kernel
theorem dX10_givesBlock_10 : decode (m_code mX10_givesBlock) 10 = .ok (.istore 5, 2) := by decide +kernel
theorem dX10_givesBlock_12 : decode (m_code mX10_givesBlock) 12 = .ok (.iconst 0, 1) := by decide +kernel
theorem dX10_givesBlock_13 : decode (m_code mX10_givesBlock) 13 = .ok (.istore 6, 2) := by decide +kernel
theorem dX10_givesBlock_15 : decode (m_code mX10_givesBlock) 15 = .ok (.iload 6, 2) := by decide +kernel
theorem dX10_givesBlock_17 : decode (m_code mX10_givesBlock) 17 = .ok (.aload_n 0, 1) := by decide +kernel
theorem dX10_givesBlock_18 : decode (m_code mX10_givesBlock) 18 = .ok (.getfield 7, 3) := by decide +kernel
theorem dX10_givesBlock_21 : decode (m_code mX10_givesBlock) 21 = .ok (.iload_n 3, 1) := by decide +kernel
theorem dX10_givesBlock_22 : decode (m_code mX10_givesBlock) 22 = .ok (.bipush 10, 2) := by decide +kernel
theorem dX10_givesBlock_24 : decode (m_code mX10_givesBlock) 24 = .ok (.iadd, 1) := by decide +kernel
theorem dX10_givesBlock_25 : decode (m_code mX10_givesBlock) 25 = .ok (.iaload, 1) := by decide +kernel
theorem dX10_givesBlock_26 : decode (m_code mX10_givesBlock) 26 = .ok (.if_icmp .ge 92, 3) := by decide +kernel
theorem dX10_givesBlock_29 : decode (m_code mX10_givesBlock) 29 = .ok (.aload_n 0, 1) := by decide +kernel
theorem dX10_givesBlock_30 : decode (m_code mX10_givesBlock) 30 = .ok (.getfield 7, 3) := by decide +kernel
theorem dX10_givesBlock_33 : decode (m_code mX10_givesBlock) 33 = .ok (.iload_n 3, 1) := by decide +kernel
theorem dX10_givesBlock_34 : decode (m_code mX10_givesBlock) 34 = .ok (.bipush 112, 2) := by decide +kernel
theorem dX10_givesBlock_36 : decode (m_code mX10_givesBlock) 36 = .ok (.iadd, 1) := by decide +kernel
theorem dX10_givesBlock_37 : decode (m_code mX10_givesBlock) 37 = .ok (.iload 6, 2) := by decide +kernel
theorem dX10_givesBlock_39 : decode (m_code mX10_givesBlock) 39 = .ok (.iadd, 1) := by decide +kernel
theorem dX10_givesBlock_40 : decode (m_code mX10_givesBlock) 40 = .ok (.iaload, 1) := by decide +kernel
theorem dX10_givesBlock_41 : decode (m_code mX10_givesBlock) 41 = .ok (.istore 7, 2) := by decide +kernel
theorem dX10_givesBlock_43 : decode (m_code mX10_givesBlock) 43 = .ok (.iload 7, 2) := by decide +kernel
theorem dX10_givesBlock_45 : decode (m_code mX10_givesBlock) 45 = .ok (.iload_n 2, 1) := by decide +kernel
theorem dX10_givesBlock_46 : decode (m_code mX10_givesBlock) 46 = .ok (.if_icmp .ne 6, 3) := by decide +kernel
theorem dX10_givesBlock_49 : decode (m_code mX10_givesBlock) 49 = .ok (.iconst 1, 1) := by decide +kernel
theorem dX10_givesBlock_50 : decode (m_code mX10_givesBlock) 50 = .ok (.istore 4, 2) := by decide +kernel
theorem dX10_givesBlock_52 : decode (m_code mX10_givesBlock) 52 = .ok (.iload 7, 2) := by decide +kernel
theorem dX10_givesBlock_54 : decode (m_code mX10_givesBlock) 54 = .ok (.iload_n 2, 1) := by decide +kernel
theorem dX10_givesBlock_55 : decode (m_code mX10_givesBlock) 55 = .ok (.if_icmp .eq 57, 3) := by decide +kernel
theorem dX10_givesBlock_58 : decode (m_code mX10_givesBlock) 58 = .ok (.iload 5, 2) := by decide +kernel
theorem dX10_givesBlock_60 : decode (m_code mX10_givesBlock) 60 = .ok (.ifCond .ne 52, 3) := by decide +kernel
theorem dX10_givesBlock_63 : decode (m_code mX10_givesBlock) 63 = .ok (.aload_n 0, 1) := by decide +kernel
theorem dX10_givesBlock_64 : decode (m_code mX10_givesBlock) 64 = .ok (.getfield 7, 3) := by decide +kernel
theorem dX10_givesBlock_67 : decode (m_code mX10_givesBlock) 67 = .ok (.bipush 16, 2) := by decide +kernel
theorem dX10_givesBlock_69 : decode (m_code mX10_givesBlock) 69 = .ok (.iload 7, 2) := by decide +kernel
theorem dX10_givesBlock_71 : decode (m_code mX10_givesBlock) 71 = .ok (.iadd, 1) := by decide +kernel
theorem dX10_givesBlock_72 : decode (m_code mX10_givesBlock) 72 = .ok (.iaload, 1) := by decide +kernel
theorem dX10_givesBlock_73 : decode (m_code mX10_givesBlock) 73 = .ok (.aload_n 0, 1) := by decide +kernel
theorem dX10_givesBlock_74 : decode (m_code mX10_givesBlock) 74 = .ok (.getfield 7, 3) := by decide +kernel
theorem dX10_givesBlock_77 : decode (m_code mX10_givesBlock) 77 = .ok (.bipush 16, 2) := by decide +kernel
theorem dX10_givesBlock_79 : decode (m_code mX10_givesBlock) 79 = .ok (.iload_n 2, 1) := by decide +kernel
theorem dX10_givesBlock_80 : decode (m_code mX10_givesBlock) 80 = .ok (.iadd, 1) := by decide +kernel
theorem dX10_givesBlock_81 : decode (m_code mX10_givesBlock) 81 = .ok (.iaload, 1) := by decide +kernel
theorem dX10_givesBlock_82 : decode (m_code mX10_givesBlock) 82 = .ok (.if_icmp .eq 6, 3) := by decide +kernel
theorem dX10_givesBlock_85 : decode (m_code mX10_givesBlock) 85 = .ok (.goto 27, 3) := by decide +kernel
theorem dX10_givesBlock_88 : decode (m_code mX10_givesBlock) 88 = .ok (.aload_n 0, 1) := by decide +kernel
theorem dX10_givesBlock_89 : decode (m_code mX10_givesBlock) 89 = .ok (.iconst 1, 1) := by decide +kernel
theorem dX10_givesBlock_90 : decode (m_code mX10_givesBlock) 90 = .ok (.aload_n 0, 1) := by decide +kernel
theorem dX10_givesBlock_91 : decode (m_code mX10_givesBlock) 91 = .ok (.getfield 7, 3) := by decide +kernel
theorem dX10_givesBlock_94 : decode (m_code mX10_givesBlock) 94 = .ok (.sipush 416, 3) := by decide +kernel
theorem dX10_givesBlock_97 : decode (m_code mX10_givesBlock) 97 = .ok (.iload_n 2, 1) := by decide +kernel
theorem dX10_givesBlock_98 : decode (m_code mX10_givesBlock) 98 = .ok (.iadd, 1) := by decide +kernel
theorem dX10_givesBlock_99 : decode (m_code mX10_givesBlock) 99 = .ok (.iaload, 1) := by decide +kernel
theorem dX10_givesBlock_100 : decode (m_code mX10_givesBlock) 100 = .ok (.iconst 1, 1) := by decide +kernel
theorem dX10_givesBlock_101 : decode (m_code mX10_givesBlock) 101 = .ok (.isub, 1) := by decide +kernel
theorem dX10_givesBlock_102 : decode (m_code mX10_givesBlock) 102 = .ok (.iload_n 1, 1) := by decide +kernel
theorem dX10_givesBlock_103 : decode (m_code mX10_givesBlock) 103 = .ok (.iload 7, 2) := by decide +kernel
theorem dX10_givesBlock_105 : decode (m_code mX10_givesBlock) 105 = .ok (.iload_n 2, 1) := by decide +kernel
theorem dX10_givesBlock_106 : decode (m_code mX10_givesBlock) 106 = .ok (.invokevirtual 110, 3) := by decide +kernel
theorem dX10_givesBlock_109 : decode (m_code mX10_givesBlock) 109 = .ok (.iconst 1, 1) := by decide +kernel
theorem dX10_givesBlock_110 : decode (m_code mX10_givesBlock) 110 = .ok (.istore 5, 2) := by decide +kernel
theorem dX10_givesBlock_112 : decode (m_code mX10_givesBlock) 112 = .ok (.iinc 6 1, 3) := by decide +kernel
theorem dX10_givesBlock_115 : decode (m_code mX10_givesBlock) 115 = .ok (.goto (-100), 3) := by decide +kernel
theorem dX10_givesBlock_118 : decode (m_code mX10_givesBlock) 118 = .ok (.iload 4, 2) := by decide +kernel
theorem dX10_givesBlock_120 : decode (m_code mX10_givesBlock) 120 = .ok (.ifCond .eq 4, 3) := by decide +kernel
theorem dX10_givesBlock_123 : decode (m_code mX10_givesBlock) 123 = .ok (.return_, 1) := by decide +kernel
theorem dX10_givesBlock_124 : decode (m_code mX10_givesBlock) 124 = .ok (.aload_n 0, 1) := by decide +kernel
theorem dX10_givesBlock_125 : decode (m_code mX10_givesBlock) 125 = .ok (.getfield 7, 3) := by decide +kernel
theorem dX10_givesBlock_128 : decode (m_code mX10_givesBlock) 128 = .ok (.iload_n 3, 1) := by decide +kernel
theorem dX10_givesBlock_129 : decode (m_code mX10_givesBlock) 129 = .ok (.bipush 112, 2) := by decide +kernel
theorem dX10_givesBlock_131 : decode (m_code mX10_givesBlock) 131 = .ok (.iadd, 1) := by decide +kernel
theorem dX10_givesBlock_132 : decode (m_code mX10_givesBlock) 132 = .ok (.aload_n 0, 1) := by decide +kernel
theorem dX10_givesBlock_133 : decode (m_code mX10_givesBlock) 133 = .ok (.getfield 7, 3) := by decide +kernel
theorem dX10_givesBlock_136 : decode (m_code mX10_givesBlock) 136 = .ok (.iload_n 3, 1) := by decide +kernel
theorem dX10_givesBlock_137 : decode (m_code mX10_givesBlock) 137 = .ok (.bipush 10, 2) := by decide +kernel
theorem dX10_givesBlock_139 : decode (m_code mX10_givesBlock) 139 = .ok (.iadd, 1) := by decide +kernel
theorem dX10_givesBlock_140 : decode (m_code mX10_givesBlock) 140 = .ok (.iaload, 1) := by decide +kernel
theorem dX10_givesBlock_141 : decode (m_code mX10_givesBlock) 141 = .ok (.iadd, 1) := by decide +kernel
theorem dX10_givesBlock_142 : decode (m_code mX10_givesBlock) 142 = .ok (.iload_n 2, 1) := by decide +kernel
theorem dX10_givesBlock_143 : decode (m_code mX10_givesBlock) 143 = .ok (.iastore, 1) := by decide +kernel
theorem dX10_givesBlock_144 : decode (m_code mX10_givesBlock) 144 = .ok (.aload_n 0, 1) := by decide +kernel
theorem dX10_givesBlock_145 : decode (m_code mX10_givesBlock) 145 = .ok (.getfield 7, 3) := by decide +kernel
theorem dX10_givesBlock_148 : decode (m_code mX10_givesBlock) 148 = .ok (.iload_n 3, 1) := by decide +kernel
theorem dX10_givesBlock_149 : decode (m_code mX10_givesBlock) 149 = .ok (.bipush 10, 2) := by decide +kernel
theorem dX10_givesBlock_151 : decode (m_code mX10_givesBlock) 151 = .ok (.iadd, 1) := by decide +kernel
theorem dX10_givesBlock_152 : decode (m_code mX10_givesBlock) 152 = .ok (.aload_n 0, 1) := by decide +kernel
theorem dX10_givesBlock_153 : decode (m_code mX10_givesBlock) 153 = .ok (.getfield 7, 3) := by decide +kernel
theorem dX10_givesBlock_156 : decode (m_code mX10_givesBlock) 156 = .ok (.iload_n 3, 1) := by decide +kernel
theorem dX10_givesBlock_157 : decode (m_code mX10_givesBlock) 157 = .ok (.bipush 10, 2) := by decide +kernel
theorem dX10_givesBlock_159 : decode (m_code mX10_givesBlock) 159 = .ok (.iadd, 1) := by decide +kernel
theorem dX10_givesBlock_160 : decode (m_code mX10_givesBlock) 160 = .ok (.iaload, 1) := by decide +kernel
theorem dX10_givesBlock_161 : decode (m_code mX10_givesBlock) 161 = .ok (.iconst 1, 1) := by decide +kernel
theorem dX10_givesBlock_162 : decode (m_code mX10_givesBlock) 162 = .ok (.iadd, 1) := by decide +kernel
theorem dX10_givesBlock_163 : decode (m_code mX10_givesBlock) 163 = .ok (.iastore, 1) := by decide +kernel
theorem dX10_givesBlock_164 : decode (m_code mX10_givesBlock) 164 = .ok (.return_, 1) := by decide +kernel
theorem dX10_comesToView_0 : decode (m_code mX10_comesToView) 0 = .ok (.aload_n 0, 1) := by decide +kernel
theorem dX10_comesToView_1 : decode (m_code mX10_comesToView) 1 = .ok (.getfield 7, 3) := by decide +kernel
theorem dX10_comesToView_4 : decode (m_code mX10_comesToView) 4 = .ok (.bipush 16, 2) := by decide +kernel
theorem dX10_comesToView_6 : decode (m_code mX10_comesToView) 6 = .ok (.iload_n 2, 1) := by decide +kernel
theorem dX10_comesToView_7 : decode (m_code mX10_comesToView) 7 = .ok (.iadd, 1) := by decide +kernel
theorem dX10_comesToView_8 : decode (m_code mX10_comesToView) 8 = .ok (.iaload, 1) := by decide +kernel
theorem dX10_comesToView_9 : decode (m_code mX10_comesToView) 9 = .ok (.iconst 1, 1) := by decide +kernel
theorem dX10_comesToView_10 : decode (m_code mX10_comesToView) 10 = .ok (.isub, 1) := by decide +kernel
theorem dX10_comesToView_11 : decode (m_code mX10_comesToView) 11 = .ok (.istore_n 3, 1) := by decide +kernel
theorem dX10_comesToView_12 : decode (m_code mX10_comesToView) 12 = .ok (.aload_n 0, 1) := by decide +kernel
theorem dX10_comesToView_13 : decode (m_code mX10_comesToView) 13 = .ok (.getfield 7, 3) := by decide +kernel
theorem dX10_comesToView_16 : decode (m_code mX10_comesToView) 16 = .ok (.bipush 16, 2) := by decide +kernel
theorem dX10_comesToView_18 : decode (m_code mX10_comesToView) 18 = .ok (.iload_n 2, 1) := by decide +kernel
theorem dX10_comesToView_19 : decode (m_code mX10_comesToView) 19 = .ok (.iadd, 1) := by decide +kernel
theorem dX10_comesToView_20 : decode (m_code mX10_comesToView) 20 = .ok (.iaload, 1) := by decide +kernel
theorem dX10_comesToView_21 : decode (m_code mX10_comesToView) 21 = .ok (.aload_n 0, 1) := by decide +kernel
theorem dX10_comesToView_22 : decode (m_code mX10_comesToView) 22 = .ok (.iload_n 1, 1) := by decide +kernel
theorem dX10_comesToView_23 : decode (m_code mX10_comesToView) 23 = .ok (.invokevirtual 104, 3) := by decide +kernel
theorem dX10_comesToView_26 : decode (m_code mX10_comesToView) 26 = .ok (.if_icmp .gt 4, 3) := by decide +kernel
theorem dX10_comesToView_29 : decode (m_code mX10_comesToView) 29 = .ok (.return_, 1) := by decide +kernel
theorem dX10_comesToView_30 : decode (m_code mX10_comesToView) 30 = .ok (.aload_n 0, 1) := by decide +kernel
theorem dX10_comesToView_31 : decode (m_code mX10_comesToView) 31 = .ok (.getfield 7, 3) := by decide +kernel
theorem dX10_comesToView_34 : decode (m_code mX10_comesToView) 34 = .ok (.bipush 16, 2) := by decide +kernel
theorem dX10_comesToView_36 : decode (m_code mX10_comesToView) 36 = .ok (.aload_n 0, 1) := by decide +kernel
theorem dX10_comesToView_37 : decode (m_code mX10_comesToView) 37 = .ok (.getfield 7, 3) := by decide +kernel
theorem dX10_comesToView_40 : decode (m_code mX10_comesToView) 40 = .ok (.sipush 216, 3) := by decide +kernel
theorem dX10_comesToView_43 : decode (m_code mX10_comesToView) 43 = .ok (.iload_n 2, 1) := by decide +kernel
theorem dX10_comesToView_44 : decode (m_code mX10_comesToView) 44 = .ok (.iadd, 1) := by decide +kernel
theorem dX10_comesToView_45 : decode (m_code mX10_comesToView) 45 = .ok (.iaload, 1) := by decide +kernel
theorem dX10_comesToView_46 : decode (m_code mX10_comesToView) 46 = .ok (.iadd, 1) := by decide +kernel
theorem dX10_comesToView_47 : decode (m_code mX10_comesToView) 47 = .ok (.iaload, 1) := by decide +kernel
theorem dX10_comesToView_48 : decode (m_code mX10_comesToView) 48 = .ok (.iload_n 3, 1) := by decide +kernel
theorem dX10_comesToView_49 : decode (m_code mX10_comesToView) 49 = .ok (.if_icmp .eq 34, 3) := by decide +kernel
theorem dX10_comesToView_52 : decode (m_code mX10_comesToView) 52 = .ok (.aload_n 0, 1) := by decide +kernel
theorem dX10_comesToView_53 : decode (m_code mX10_comesToView) 53 = .ok (.getfield 7, 3) := by decide +kernel
theorem dX10_comesToView_56 : decode (m_code mX10_comesToView) 56 = .ok (.sipush 616, 3) := by decide +kernel
theorem dX10_comesToView_59 : decode (m_code mX10_comesToView) 59 = .ok (.iload_n 2, 1) := by decide +kernel
theorem dX10_comesToView_60 : decode (m_code mX10_comesToView) 60 = .ok (.iadd, 1) := by decide +kernel
theorem dX10_comesToView_61 : decode (m_code mX10_comesToView) 61 = .ok (.iaload, 1) := by decide +kernel
theorem dX10_comesToView_62 : decode (m_code mX10_comesToView) 62 = .ok (.iconst 1, 1) := by decide +kernel
theorem dX10_comesToView_63 : decode (m_code mX10_comesToView) 63 = .ok (.if_icmp .eq 20, 3) := by decide +kernel
theorem dX10_comesToView_66 : decode (m_code mX10_comesToView) 66 = .ok (.aload_n 0, 1) := by decide +kernel
theorem dX10_comesToView_67 : decode (m_code mX10_comesToView) 67 = .ok (.getfield 7, 3) := by decide +kernel
theorem dX10_comesToView_70 : decode (m_code mX10_comesToView) 70 = .ok (.aload_n 0, 1) := by decide +kernel
theorem dX10_comesToView_71 : decode (m_code mX10_comesToView) 71 = .ok (.iload_n 1, 1) := by decide +kernel
theorem dX10_comesToView_72 : decode (m_code mX10_comesToView) 72 = .ok (.invokevirtual 54, 3) := by decide +kernel
theorem dX10_comesToView_75 : decode (m_code mX10_comesToView) 75 = .ok (.bipush 7, 2) := by decide +kernel
theorem dX10_comesToView_77 : decode (m_code mX10_comesToView) 77 = .ok (.iadd, 1) := by decide +kernel
theorem dX10_comesToView_78 : decode (m_code mX10_comesToView) 78 = .ok (.iaload, 1) := by decide +kernel
theorem dX10_comesToView_79 : decode (m_code mX10_comesToView) 79 = .ok (.iload_n 3, 1) := by decide +kernel
theorem dX10_comesToView_80 : decode (m_code mX10_comesToView) 80 = .ok (.if_icmp .lt 17, 3) := by decide +kernel
theorem dX10_comesToView_83 : decode (m_code mX10_comesToView) 83 = .ok (.aload_n 0, 1) := by decide +kernel
theorem dX10_comesToView_84 : decode (m_code mX10_comesToView) 84 = .ok (.iload_n 1, 1) := by decide +kernel
theorem dX10_comesToView_85 : decode (m_code mX10_comesToView) 85 = .ok (.aload_n 0, 1) := by decide +kernel
theorem dX10_comesToView_86 : decode (m_code mX10_comesToView) 86 = .ok (.getfield 7, 3) := by decide +kernel
theorem dX10_comesToView_89 : decode (m_code mX10_comesToView) 89 = .ok (.bipush 16, 2) := by decide +kernel
theorem dX10_comesToView_91 : decode (m_code mX10_comesToView) 91 = .ok (.iload_n 2, 1) := by decide +kernel
theorem dX10_comesToView_92 : decode (m_code mX10_comesToView) 92 = .ok (.iadd, 1) := by decide +kernel
theorem dX10_comesToView_93 : decode (m_code mX10_comesToView) 93 = .ok (.iaload, 1) := by decide +kernel
theorem dX10_comesToView_94 : decode (m_code mX10_comesToView) 94 = .ok (.invokevirtual 107, 3) := by decide +kernel
theorem dX10_comesToView_97 : decode (m_code mX10_comesToView) 97 = .ok (.return_, 1) := by decide +kernel
theorem dX10_hearsBlock_0 : decode (m_code mX10_hearsBlock) 0 = .ok (.aload_n 0, 1) := by decide +kernel
theorem dX10_hearsBlock_1 : decode (m_code mX10_hearsBlock) 1 = .ok (.iload_n 1, 1) := by decide +kernel
theorem dX10_hearsBlock_2 : decode (m_code mX10_hearsBlock) 2 = .ok (.iload_n 2, 1) := by decide +kernel
theorem dX10_hearsBlock_3 : decode (m_code mX10_hearsBlock) 3 = .ok (.invokevirtual 113, 3) := by decide +kernel
theorem dX10_hearsBlock_6 : decode (m_code mX10_hearsBlock) 6 = .ok (.aload_n 0, 1) := by decide +kernel
theorem dX10_hearsBlock_7 : decode (m_code mX10_hearsBlock) 7 = .ok (.iload_n 1, 1) := by decide +kernel
theorem dX10_hearsBlock_8 : decode (m_code mX10_hearsBlock) 8 = .ok (.aload_n 0, 1) := by decide +kernel
theorem dX10_hearsBlock_9 : decode (m_code mX10_hearsBlock) 9 = .ok (.getfield 7, 3) := by decide +kernel
theorem dX10_hearsBlock_12 : decode (m_code mX10_hearsBlock) 12 = .ok (.sipush 216, 3) := by decide +kernel
theorem dX10_hearsBlock_15 : decode (m_code mX10_hearsBlock) 15 = .ok (.iload_n 2, 1) := by decide +kernel
theorem dX10_hearsBlock_16 : decode (m_code mX10_hearsBlock) 16 = .ok (.iadd, 1) := by decide +kernel
theorem dX10_hearsBlock_17 : decode (m_code mX10_hearsBlock) 17 = .ok (.iaload, 1) := by decide +kernel
theorem dX10_hearsBlock_18 : decode (m_code mX10_hearsBlock) 18 = .ok (.invokevirtual 116, 3) := by decide +kernel
theorem dX10_hearsBlock_21 : decode (m_code mX10_hearsBlock) 21 = .ok (.aload_n 0, 1) := by decide +kernel
theorem dX10_hearsBlock_22 : decode (m_code mX10_hearsBlock) 22 = .ok (.iload_n 1, 1) := by decide +kernel
theorem dX10_hearsBlock_23 : decode (m_code mX10_hearsBlock) 23 = .ok (.iload_n 2, 1) := by decide +kernel
theorem dX10_hearsBlock_24 : decode (m_code mX10_hearsBlock) 24 = .ok (.invokevirtual 119, 3) := by decide +kernel
theorem dX10_hearsBlock_27 : decode (m_code mX10_hearsBlock) 27 = .ok (.aload_n 0, 1) := by decide +kernel
theorem dX10_hearsBlock_28 : decode (m_code mX10_hearsBlock) 28 = .ok (.iload_n 1, 1) := by decide +kernel
theorem dX10_hearsBlock_29 : decode (m_code mX10_hearsBlock) 29 = .ok (.iload_n 2, 1) := by decide +kernel
theorem dX10_hearsBlock_30 : decode (m_code mX10_hearsBlock) 30 = .ok (.invokevirtual 122, 3) := by decide +kernel
theorem dX10_hearsBlock_33 : decode (m_code mX10_hearsBlock) 33 = .ok (.ifCond .ne 4, 3) := by decide +kernel
theorem dX10_hearsBlock_36 : decode (m_code mX10_hearsBlock) 36 = .ok (.return_, 1) := by decide +kernel
theorem dX10_hearsBlock_37 : decode (m_code mX10_hearsBlock) 37 = .ok (.aload_n 0, 1) := by decide +kernel
theorem dX10_hearsBlock_38 : decode (m_code mX10_hearsBlock) 38 = .ok (.iload_n 1, 1) := by decide +kernel
theorem dX10_hearsBlock_39 : decode (m_code mX10_hearsBlock) 39 = .ok (.iload_n 2, 1) := by decide +kernel
theorem dX10_hearsBlock_40 : decode (m_code mX10_hearsBlock) 40 = .ok (.invokevirtual 125, 3) := by decide +kernel
theorem dX10_hearsBlock_43 : decode (m_code mX10_hearsBlock) 43 = .ok (.ifCond .ne 11, 3) := by decide +kernel
theorem dX10_hearsBlock_46 : decode (m_code mX10_hearsBlock) 46 = .ok (.aload_n 0, 1) := by decide +kernel
theorem dX10_hearsBlock_47 : decode (m_code mX10_hearsBlock) 47 = .ok (.iconst 1, 1) := by decide +kernel
theorem dX10_hearsBlock_48 : decode (m_code mX10_hearsBlock) 48 = .ok (.iload_n 1, 1) := by decide +kernel
theorem dX10_hearsBlock_49 : decode (m_code mX10_hearsBlock) 49 = .ok (.iload_n 2, 1) := by decide +kernel
theorem dX10_hearsBlock_50 : decode (m_code mX10_hearsBlock) 50 = .ok (.invokevirtual 96, 3) := by decide +kernel
theorem dX10_hearsBlock_53 : decode (m_code mX10_hearsBlock) 53 = .ok (.return_, 1) := by decide +kernel
theorem dX10_hearsBlock_54 : decode (m_code mX10_hearsBlock) 54 = .ok (.aload_n 0, 1) := by decide +kernel
theorem dX10_hearsBlock_55 : decode (m_code mX10_hearsBlock) 55 = .ok (.getfield 7, 3) := by decide +kernel
theorem dX10_hearsBlock_58 : decode (m_code mX10_hearsBlock) 58 = .ok (.aload_n 0, 1) := by decide +kernel
theorem dX10_hearsBlock_59 : decode (m_code mX10_hearsBlock) 59 = .ok (.iload_n 1, 1) := by decide +kernel
theorem dX10_hearsBlock_60 : decode (m_code mX10_hearsBlock) 60 = .ok (.invokevirtual 54, 3) := by decide +kernel
theorem dX10_hearsBlock_63 : decode (m_code mX10_hearsBlock) 63 = .ok (.iconst 2, 1) := by decide +kernel
theorem dX10_hearsBlock_64 : decode (m_code mX10_hearsBlock) 64 = .ok (.iadd, 1) := by decide +kernel
theorem dX10_hearsBlock_65 : decode (m_code mX10_hearsBlock) 65 = .ok (.aload_n 0, 1) := by decide +kernel
theorem dX10_hearsBlock_66 : decode (m_code mX10_hearsBlock) 66 = .ok (.getfield 7, 3) := by decide +kernel
theorem dX10_hearsBlock_69 : decode (m_code mX10_hearsBlock) 69 = .ok (.bipush 16, 2) := by decide +kernel
theorem dX10_hearsBlock_71 : decode (m_code mX10_hearsBlock) 71 = .ok (.iload_n 2, 1) := by decide +kernel
theorem dX10_hearsBlock_72 : decode (m_code mX10_hearsBlock) 72 = .ok (.iadd, 1) := by decide +kernel
theorem dX10_hearsBlock_73 : decode (m_code mX10_hearsBlock) 73 = .ok (.iaload, 1) := by decide +kernel
theorem dX10_hearsBlock_74 : decode (m_code mX10_hearsBlock) 74 = .ok (.iastore, 1) := by decide +kernel
theorem dX10_hearsBlock_75 : decode (m_code mX10_hearsBlock) 75 = .ok (.aload_n 0, 1) := by decide +kernel
theorem dX10_hearsBlock_76 : decode (m_code mX10_hearsBlock) 76 = .ok (.iconst 0, 1) := by decide +kernel
theorem dX10_hearsBlock_77 : decode (m_code mX10_hearsBlock) 77 = .ok (.iload_n 1, 1) := by decide +kernel
theorem dX10_hearsBlock_78 : decode (m_code mX10_hearsBlock) 78 = .ok (.iload_n 2, 1) := by decide +kernel
theorem dX10_hearsBlock_79 : decode (m_code mX10_hearsBlock) 79 = .ok (.invokevirtual 96, 3) := by decide +kernel
theorem dX10_hearsBlock_82 : decode (m_code mX10_hearsBlock) 82 = .ok (.aload_n 0, 1) := by decide +kernel
theorem dX10_hearsBlock_83 : decode (m_code mX10_hearsBlock) 83 = .ok (.iload_n 1, 1) := by decide +kernel
theorem dX10_hearsBlock_84 : decode (m_code mX10_hearsBlock) 84 = .ok (.aload_n 0, 1) := by decide +kernel
theorem dX10_hearsBlock_85 : decode (m_code mX10_hearsBlock) 85 = .ok (.aload_n 0, 1) := by decide +kernel
theorem dX10_hearsBlock_86 : decode (m_code mX10_hearsBlock) 86 = .ok (.getfield 7, 3) := by decide +kernel
theorem dX10_hearsBlock_89 : decode (m_code mX10_hearsBlock) 89 = .ok (.bipush 16, 2) := by decide +kernel
theorem dX10_hearsBlock_91 : decode (m_code mX10_hearsBlock) 91 = .ok (.iload_n 2, 1) := by decide +kernel
theorem dX10_hearsBlock_92 : decode (m_code mX10_hearsBlock) 92 = .ok (.iadd, 1) := by decide +kernel
theorem dX10_hearsBlock_93 : decode (m_code mX10_hearsBlock) 93 = .ok (.iaload, 1) := by decide +kernel
theorem dX10_hearsBlock_94 : decode (m_code mX10_hearsBlock) 94 = .ok (.iconst 1, 1) := by decide +kernel
theorem dX10_hearsBlock_95 : decode (m_code mX10_hearsBlock) 95 = .ok (.iadd, 1) := by decide +kernel
theorem dX10_hearsBlock_96 : decode (m_code mX10_hearsBlock) 96 = .ok (.invokevirtual 128, 3) := by decide +kernel
theorem dX10_hearsBlock_99 : decode (m_code mX10_hearsBlock) 99 = .ok (.iconst 2, 1) := by decide +kernel
theorem dX10_hearsBlock_100 : decode (m_code mX10_hearsBlock) 100 = .ok (.iload_n 2, 1) := by decide +kernel
theorem dX10_hearsBlock_101 : decode (m_code mX10_hearsBlock) 101 = .ok (.iconst (-1), 1) := by decide +kernel
theorem dX10_hearsBlock_102 : decode (m_code mX10_hearsBlock) 102 = .ok (.invokevirtual 86, 3) := by decide +kernel
theorem dX10_hearsBlock_105 : decode (m_code mX10_hearsBlock) 105 = .ok (.return_, 1) := by decide +kernel
theorem dX10_hearsMark_0 : decode (m_code mX10_hearsMark) 0 = .ok (.aload_n 0, 1) := by decide +kernel
theorem dX10_hearsMark_1 : decode (m_code mX10_hearsMark) 1 = .ok (.iload_n 1, 1) := by decide +kernel
theorem dX10_hearsMark_2 : decode (m_code mX10_hearsMark) 2 = .ok (.invokevirtual 54, 3) := by decide +kernel
theorem dX10_hearsMark_5 : decode (m_code mX10_hearsMark) 5 = .ok (.istore 4, 2) := by decide +kernel
theorem dX10_hearsMark_7 : decode (m_code mX10_hearsMark) 7 = .ok (.aload_n 0, 1) := by decide +kernel
theorem dX10_hearsMark_8 : decode (m_code mX10_hearsMark) 8 = .ok (.aload_n 0, 1) := by decide +kernel
theorem dX10_hearsMark_9 : decode (m_code mX10_hearsMark) 9 = .ok (.getfield 7, 3) := by decide +kernel
theorem dX10_hearsMark_12 : decode (m_code mX10_hearsMark) 12 = .ok (.bipush 16, 2) := by decide +kernel
theorem dX10_hearsMark_14 : decode (m_code mX10_hearsMark) 14 = .ok (.iload_n 3, 1) := by decide +kernel
theorem dX10_hearsMark_15 : decode (m_code mX10_hearsMark) 15 = .ok (.iadd, 1) := by decide +kernel
theorem dX10_hearsMark_16 : decode (m_code mX10_hearsMark) 16 = .ok (.iaload, 1) := by decide +kernel
theorem dX10_hearsMark_17 : decode (m_code mX10_hearsMark) 17 = .ok (.iconst 1, 1) := by decide +kernel
theorem dX10_hearsMark_18 : decode (m_code mX10_hearsMark) 18 = .ok (.iadd, 1) := by decide +kernel
theorem dX10_hearsMark_19 : decode (m_code mX10_hearsMark) 19 = .ok (.invokevirtual 128, 3) := by decide +kernel
theorem dX10_hearsMark_22 : decode (m_code mX10_hearsMark) 22 = .ok (.iload_n 1, 1) := by decide +kernel
theorem dX10_hearsMark_23 : decode (m_code mX10_hearsMark) 23 = .ok (.if_icmp .ne 24, 3) := by decide +kernel
theorem dX10_hearsMark_26 : decode (m_code mX10_hearsMark) 26 = .ok (.aload_n 0, 1) := by decide +kernel
theorem dX10_hearsMark_27 : decode (m_code mX10_hearsMark) 27 = .ok (.aload_n 0, 1) := by decide +kernel
theorem dX10_hearsMark_28 : decode (m_code mX10_hearsMark) 28 = .ok (.getfield 7, 3) := by decide +kernel
theorem dX10_hearsMark_31 : decode (m_code mX10_hearsMark) 31 = .ok (.iload 4, 2) := by decide +kernel
theorem dX10_hearsMark_33 : decode (m_code mX10_hearsMark) 33 = .ok (.sipush 212, 3) := by decide +kernel
theorem dX10_hearsMark_36 : decode (m_code mX10_hearsMark) 36 = .ok (.iadd, 1) := by decide +kernel
theorem dX10_hearsMark_37 : decode (m_code mX10_hearsMark) 37 = .ok (.iload_n 3, 1) := by decide +kernel
theorem dX10_hearsMark_38 : decode (m_code mX10_hearsMark) 38 = .ok (.iadd, 1) := by decide +kernel
theorem dX10_hearsMark_39 : decode (m_code mX10_hearsMark) 39 = .ok (.iaload, 1) := by decide +kernel
theorem dX10_hearsMark_40 : decode (m_code mX10_hearsMark) 40 = .ok (.iload_n 2, 1) := by decide +kernel
theorem dX10_hearsMark_41 : decode (m_code mX10_hearsMark) 41 = .ok (.invokevirtual 79, 3) := by decide +kernel
theorem dX10_hearsMark_44 : decode (m_code mX10_hearsMark) 44 = .ok (.ifCond .eq 4, 3) := by decide +kernel
theorem dX10_hearsMark_47 : decode (m_code mX10_hearsMark) 47 = .ok (.return_, 1) := by decide +kernel
theorem dX10_hearsMark_48 : decode (m_code mX10_hearsMark) 48 = .ok (.iconst 0, 1) := by decide +kernel
theorem dX10_hearsMark_49 : decode (m_code mX10_hearsMark) 49 = .ok (.istore 5, 2) := by decide +kernel
theorem dX10_hearsMark_51 : decode (m_code mX10_hearsMark) 51 = .ok (.iload 5, 2) := by decide +kernel
theorem dX10_hearsMark_53 : decode (m_code mX10_hearsMark) 53 = .ok (.aload_n 0, 1) := by decide +kernel
theorem dX10_hearsMark_54 : decode (m_code mX10_hearsMark) 54 = .ok (.invokevirtual 51, 3) := by decide +kernel
theorem dX10_hearsMark_57 : decode (m_code mX10_hearsMark) 57 = .ok (.if_icmp .ge 62, 3) := by decide +kernel
theorem dX10_hearsMark_60 : decode (m_code mX10_hearsMark) 60 = .ok (.iload 5, 2) := by decide +kernel
theorem dX10_hearsMark_62 : decode (m_code mX10_hearsMark) 62 = .ok (.iload_n 3, 1) := by decide +kernel
theorem dX10_hearsMark_63 : decode (m_code mX10_hearsMark) 63 = .ok (.if_icmp .eq 47, 3) := by decide +kernel
theorem dX10_hearsMark_66 : decode (m_code mX10_hearsMark) 66 = .ok (.aload_n 0, 1) := by decide +kernel
theorem dX10_hearsMark_67 : decode (m_code mX10_hearsMark) 67 = .ok (.getfield 7, 3) := by decide +kernel
theorem dX10_hearsMark_70 : decode (m_code mX10_hearsMark) 70 = .ok (.bipush 16, 2) := by decide +kernel
theorem dX10_hearsMark_72 : decode (m_code mX10_hearsMark) 72 = .ok (.iload 5, 2) := by decide +kernel
theorem dX10_hearsMark_74 : decode (m_code mX10_hearsMark) 74 = .ok (.iadd, 1) := by decide +kernel
theorem dX10_hearsMark_75 : decode (m_code mX10_hearsMark) 75 = .ok (.iaload, 1) := by decide +kernel
theorem dX10_hearsMark_76 : decode (m_code mX10_hearsMark) 76 = .ok (.aload_n 0, 1) := by decide +kernel
theorem dX10_hearsMark_77 : decode (m_code mX10_hearsMark) 77 = .ok (.getfield 7, 3) := by decide +kernel
theorem dX10_hearsMark_80 : decode (m_code mX10_hearsMark) 80 = .ok (.bipush 16, 2) := by decide +kernel
theorem dX10_hearsMark_82 : decode (m_code mX10_hearsMark) 82 = .ok (.iload_n 3, 1) := by decide +kernel
theorem dX10_hearsMark_83 : decode (m_code mX10_hearsMark) 83 = .ok (.iadd, 1) := by decide +kernel
theorem dX10_hearsMark_84 : decode (m_code mX10_hearsMark) 84 = .ok (.iaload, 1) := by decide +kernel
theorem dX10_hearsMark_85 : decode (m_code mX10_hearsMark) 85 = .ok (.if_icmp .ne 25, 3) := by decide +kernel
theorem dX10_hearsMark_88 : decode (m_code mX10_hearsMark) 88 = .ok (.aload_n 0, 1) := by decide +kernel
theorem dX10_hearsMark_89 : decode (m_code mX10_hearsMark) 89 = .ok (.aload_n 0, 1) := by decide +kernel
theorem dX10_hearsMark_90 : decode (m_code mX10_hearsMark) 90 = .ok (.getfield 7, 3) := by decide +kernel
theorem dX10_hearsMark_93 : decode (m_code mX10_hearsMark) 93 = .ok (.iload 4, 2) := by decide +kernel
theorem dX10_hearsMark_95 : decode (m_code mX10_hearsMark) 95 = .ok (.sipush 212, 3) := by decide +kernel
theorem dX10_hearsMark_98 : decode (m_code mX10_hearsMark) 98 = .ok (.iadd, 1) := by decide +kernel
theorem dX10_hearsMark_99 : decode (m_code mX10_hearsMark) 99 = .ok (.iload 5, 2) := by decide +kernel
theorem dX10_hearsMark_101 : decode (m_code mX10_hearsMark) 101 = .ok (.iadd, 1) := by decide +kernel
theorem dX10_hearsMark_102 : decode (m_code mX10_hearsMark) 102 = .ok (.iaload, 1) := by decide +kernel
theorem dX10_hearsMark_103 : decode (m_code mX10_hearsMark) 103 = .ok (.iload_n 2, 1) := by decide +kernel
theorem dX10_hearsMark_104 : decode (m_code mX10_hearsMark) 104 = .ok (.invokevirtual 79, 3) := by decide +kernel
theorem dX10_hearsMark_107 : decode (m_code mX10_hearsMark) 107 = .ok (.ifCond .ne 12, 3) := by decide +kernel
theorem dX10_hearsMark_110 : decode (m_code mX10_hearsMark) 110 = .ok (.iload 5, 2) := by decide +kernel
theorem dX10_hearsMark_112 : decode (m_code mX10_hearsMark) 112 = .ok (.iconst 1, 1) := by decide +kernel
theorem dX10_hearsMark_113 : decode (m_code mX10_hearsMark) 113 = .ok (.iadd, 1) := by decide +kernel
theorem dX10_hearsMark_114 : decode (m_code mX10_hearsMark) 114 = .ok (.istore 5, 2) := by decide +kernel
theorem dX10_hearsMark_116 : decode (m_code mX10_hearsMark) 116 = .ok (.goto (-65), 3) := by decide +kernel
theorem dX10_hearsMark_119 : decode (m_code mX10_hearsMark) 119 = .ok (.iload 5, 2) := by decide +kernel
theorem dX10_hearsMark_121 : decode (m_code mX10_hearsMark) 121 = .ok (.aload_n 0, 1) := by decide +kernel
theorem dX10_hearsMark_122 : decode (m_code mX10_hearsMark) 122 = .ok (.invokevirtual 51, 3) := by decide +kernel
theorem dX10_hearsMark_125 : decode (m_code mX10_hearsMark) 125 = .ok (.if_icmp .ge 13, 3) := by decide +kernel
theorem dX10_hearsMark_128 : decode (m_code mX10_hearsMark) 128 = .ok (.aload_n 0, 1) := by decide +kernel
theorem dX10_hearsMark_129 : decode (m_code mX10_hearsMark) 129 = .ok (.iconst 2, 1) := by decide +kernel
theorem dX10_hearsMark_130 : decode (m_code mX10_hearsMark) 130 = .ok (.iload_n 2, 1) := by decide +kernel
theorem dX10_hearsMark_131 : decode (m_code mX10_hearsMark) 131 = .ok (.iload_n 1, 1) := by decide +kernel
theorem dX10_hearsMark_132 : decode (m_code mX10_hearsMark) 132 = .ok (.iload 5, 2) := by decide +kernel
theorem dX10_hearsMark_134 : decode (m_code mX10_hearsMark) 134 = .ok (.iload_n 3, 1) := by decide +kernel
theorem dX10_hearsMark_135 : decode (m_code mX10_hearsMark) 135 = .ok (.invokevirtual 110, 3) := by decide +kernel
theorem dX10_hearsMark_138 : decode (m_code mX10_hearsMark) 138 = .ok (.aload_n 0, 1) := by decide +kernel
theorem dX10_hearsMark_139 : decode (m_code mX10_hearsMark) 139 = .ok (.getfield 7, 3) := by decide +kernel
theorem dX10_hearsMark_142 : decode (m_code mX10_hearsMark) 142 = .ok (.iload 4, 2) := by decide +kernel
theorem dX10_hearsMark_144 : decode (m_code mX10_hearsMark) 144 = .ok (.sipush 212, 3) := by decide +kernel
theorem dX10_hearsMark_147 : decode (m_code mX10_hearsMark) 147 = .ok (.iadd, 1) := by decide +kernel
theorem dX10_hearsMark_148 : decode (m_code mX10_hearsMark) 148 = .ok (.iload_n 3, 1) := by decide +kernel
theorem dX10_hearsMark_149 : decode (m_code mX10_hearsMark) 149 = .ok (.iadd, 1) := by decide +kernel
theorem dX10_hearsMark_150 : decode (m_code mX10_hearsMark) 150 = .ok (.aload_n 0, 1) := by decide +kernel
theorem dX10_hearsMark_151 : decode (m_code mX10_hearsMark) 151 = .ok (.getfield 7, 3) := by decide +kernel
theorem dX10_hearsMark_154 : decode (m_code mX10_hearsMark) 154 = .ok (.iload 4, 2) := by decide +kernel
theorem dX10_hearsMark_156 : decode (m_code mX10_hearsMark) 156 = .ok (.sipush 212, 3) := by decide +kernel
theorem dX10_hearsMark_159 : decode (m_code mX10_hearsMark) 159 = .ok (.iadd, 1) := by decide +kernel
theorem dX10_hearsMark_160 : decode (m_code mX10_hearsMark) 160 = .ok (.iload_n 3, 1) := by decide +kernel
theorem dX10_hearsMark_161 : decode (m_code mX10_hearsMark) 161 = .ok (.iadd, 1) := by decide +kernel
theorem dX10_hearsMark_162 : decode (m_code mX10_hearsMark) 162 = .ok (.iaload, 1) := by decide +kernel
theorem dX10_hearsMark_163 : decode (m_code mX10_hearsMark) 163 = .ok (.iconst 1, 1) := by decide +kernel
theorem dX10_hearsMark_164 : decode (m_code mX10_hearsMark) 164 = .ok (.iload_n 2, 1) := by decide +kernel
theorem dX10_hearsMark_165 : decode (m_code mX10_hearsMark) 165 = .ok (.ishl, 1) := by decide +kernel
theorem dX10_hearsMark_166 : decode (m_code mX10_hearsMark) 166 = .ok (.ior, 1) := by decide +kernel
theorem dX10_hearsMark_167 : decode (m_code mX10_hearsMark) 167 = .ok (.iastore, 1) := by decide +kernel
theorem dX10_hearsMark_168 : decode (m_code mX10_hearsMark) 168 = .ok (.aload_n 0, 1) := by decide +kernel
theorem dX10_hearsMark_169 : decode (m_code mX10_hearsMark) 169 = .ok (.aload_n 0, 1) := by decide +kernel
theorem dX10_hearsMark_170 : decode (m_code mX10_hearsMark) 170 = .ok (.getfield 7, 3) := by decide +kernel
theorem dX10_hearsMark_173 : decode (m_code mX10_hearsMark) 173 = .ok (.iload 4, 2) := by decide +kernel
theorem dX10_hearsMark_175 : decode (m_code mX10_hearsMark) 175 = .ok (.sipush 212, 3) := by decide +kernel
theorem dX10_hearsMark_178 : decode (m_code mX10_hearsMark) 178 = .ok (.iadd, 1) := by decide +kernel
theorem dX10_hearsMark_179 : decode (m_code mX10_hearsMark) 179 = .ok (.iload_n 3, 1) := by decide +kernel
theorem dX10_hearsMark_180 : decode (m_code mX10_hearsMark) 180 = .ok (.iadd, 1) := by decide +kernel
theorem dX10_hearsMark_181 : decode (m_code mX10_hearsMark) 181 = .ok (.iaload, 1) := by decide +kernel
theorem dX10_hearsMark_182 : decode (m_code mX10_hearsMark) 182 = .ok (.invokevirtual 131, 3) := by decide +kernel
theorem dX10_hearsMark_185 : decode (m_code mX10_hearsMark) 185 = .ok (.aload_n 0, 1) := by decide +kernel
theorem dX10_hearsMark_186 : decode (m_code mX10_hearsMark) 186 = .ok (.invokevirtual 134, 3) := by decide +kernel
theorem dX10_hearsMark_189 : decode (m_code mX10_hearsMark) 189 = .ok (.if_icmp .eq 4, 3) := by decide +kernel
theorem dX10_hearsMark_192 : decode (m_code mX10_hearsMark) 192 = .ok (.return_, 1) := by decide +kernel
theorem dX10_hearsMark_193 : decode (m_code mX10_hearsMark) 193 = .ok (.aload_n 0, 1) := by decide +kernel
theorem dX10_hearsMark_194 : decode (m_code mX10_hearsMark) 194 = .ok (.getfield 7, 3) := by decide +kernel
theorem dX10_hearsMark_197 : decode (m_code mX10_hearsMark) 197 = .ok (.sipush 716, 3) := by decide +kernel
theorem dX10_hearsMark_200 : decode (m_code mX10_hearsMark) 200 = .ok (.iload_n 3, 1) := by decide +kernel
theorem dX10_hearsMark_201 : decode (m_code mX10_hearsMark) 201 = .ok (.iadd, 1) := by decide +kernel
theorem dX10_hearsMark_202 : decode (m_code mX10_hearsMark) 202 = .ok (.iconst 1, 1) := by decide +kernel
theorem dX10_hearsMark_203 : decode (m_code mX10_hearsMark) 203 = .ok (.iastore, 1) := by decide +kernel
theorem dX10_hearsMark_204 : decode (m_code mX10_hearsMark) 204 = .ok (.aload_n 0, 1) := by decide +kernel
theorem dX10_hearsMark_205 : decode (m_code mX10_hearsMark) 205 = .ok (.iconst 2, 1) := by decide +kernel
theorem dX10_hearsMark_206 : decode (m_code mX10_hearsMark) 206 = .ok (.iload_n 1, 1) := by decide +kernel
theorem dX10_hearsMark_207 : decode (m_code mX10_hearsMark) 207 = .ok (.iload_n 3, 1) := by decide +kernel
theorem dX10_hearsMark_208 : decode (m_code mX10_hearsMark) 208 = .ok (.invokevirtual 96, 3) := by decide +kernel
theorem dX10_hearsMark_211 : decode (m_code mX10_hearsMark) 211 = .ok (.aload_n 0, 1) := by decide +kernel
theorem dX10_hearsMark_212 : decode (m_code mX10_hearsMark) 212 = .ok (.iload_n 1, 1) := by decide +kernel
theorem dX10_hearsMark_213 : decode (m_code mX10_hearsMark) 213 = .ok (.iload_n 3, 1) := by decide +kernel
theorem dX10_hearsMark_214 : decode (m_code mX10_hearsMark) 214 = .ok (.invokevirtual 116, 3) := by decide +kernel
theorem dX10_hearsMark_217 : decode (m_code mX10_hearsMark) 217 = .ok (.aload_n 0, 1) := by decide +kernel
theorem dX10_hearsMark_218 : decode (m_code mX10_hearsMark) 218 = .ok (.iload_n 1, 1) := by decide +kernel
theorem dX10_hearsMark_219 : decode (m_code mX10_hearsMark) 219 = .ok (.invokevirtual 104, 3) := by decide +kernel
theorem dX10_hearsMark_222 : decode (m_code mX10_hearsMark) 222 = .ok (.aload_n 0, 1) := by decide +kernel
theorem dX10_hearsMark_223 : decode (m_code mX10_hearsMark) 223 = .ok (.getfield 7, 3) := by decide +kernel
theorem dX10_hearsMark_226 : decode (m_code mX10_hearsMark) 226 = .ok (.bipush 16, 2) := by decide +kernel
theorem dX10_hearsMark_228 : decode (m_code mX10_hearsMark) 228 = .ok (.iload_n 3, 1) := by decide +kernel
theorem dX10_hearsMark_229 : decode (m_code mX10_hearsMark) 229 = .ok (.iadd, 1) := by decide +kernel
theorem dX10_hearsMark_230 : decode (m_code mX10_hearsMark) 230 = .ok (.iaload, 1) := by decide +kernel
theorem dX10_hearsMark_231 : decode (m_code mX10_hearsMark) 231 = .ok (.if_icmp .gt 19, 3) := by decide +kernel
theorem dX10_hearsMark_234 : decode (m_code mX10_hearsMark) 234 = .ok (.aload_n 0, 1) := by decide +kernel
theorem dX10_hearsMark_235 : decode (m_code mX10_hearsMark) 235 = .ok (.iload_n 1, 1) := by decide +kernel
theorem dX10_hearsMark_236 : decode (m_code mX10_hearsMark) 236 = .ok (.aload_n 0, 1) := by decide +kernel
theorem dX10_hearsMark_237 : decode (m_code mX10_hearsMark) 237 = .ok (.getfield 7, 3) := by decide +kernel
theorem dX10_hearsMark_240 : decode (m_code mX10_hearsMark) 240 = .ok (.bipush 16, 2) := by decide +kernel
theorem dX10_hearsMark_242 : decode (m_code mX10_hearsMark) 242 = .ok (.iload_n 3, 1) := by decide +kernel
theorem dX10_hearsMark_243 : decode (m_code mX10_hearsMark) 243 = .ok (.iadd, 1) := by decide +kernel
theorem dX10_hearsMark_244 : decode (m_code mX10_hearsMark) 244 = .ok (.iaload, 1) := by decide +kernel
theorem dX10_hearsMark_245 : decode (m_code mX10_hearsMark) 245 = .ok (.iconst 1, 1) := by decide +kernel
theorem dX10_hearsMark_246 : decode (m_code mX10_hearsMark) 246 = .ok (.iadd, 1) := by decide +kernel
theorem dX10_hearsMark_247 : decode (m_code mX10_hearsMark) 247 = .ok (.invokevirtual 107, 3) := by decide +kernel
theorem dX10_hearsMark_250 : decode (m_code mX10_hearsMark) 250 = .ok (.return_, 1) := by decide +kernel
theorem dX10_hearsTimeout_0 : decode (m_code mX10_hearsTimeout) 0 = .ok (.aload_n 0, 1) := by decide +kernel
theorem dX10_hearsTimeout_1 : decode (m_code mX10_hearsTimeout) 1 = .ok (.iload_n 1, 1) := by decide +kernel
theorem dX10_hearsTimeout_2 : decode (m_code mX10_hearsTimeout) 2 = .ok (.invokevirtual 54, 3) := by decide +kernel
theorem dX10_hearsTimeout_5 : decode (m_code mX10_hearsTimeout) 5 = .ok (.istore 5, 2) := by decide +kernel
theorem dX10_hearsTimeout_7 : decode (m_code mX10_hearsTimeout) 7 = .ok (.aload_n 0, 1) := by decide +kernel
theorem dX10_hearsTimeout_8 : decode (m_code mX10_hearsTimeout) 8 = .ok (.iload_n 1, 1) := by decide +kernel
theorem dX10_hearsTimeout_9 : decode (m_code mX10_hearsTimeout) 9 = .ok (.iload 4, 2) := by decide +kernel
theorem dX10_hearsTimeout_11 : decode (m_code mX10_hearsTimeout) 11 = .ok (.invokevirtual 116, 3) := by decide +kernel
theorem dX10_hearsTimeout_14 : decode (m_code mX10_hearsTimeout) 14 = .ok (.aload_n 0, 1) := by decide +kernel
theorem dX10_hearsTimeout_15 : decode (m_code mX10_hearsTimeout) 15 = .ok (.aload_n 0, 1) := by decide +kernel
theorem dX10_hearsTimeout_16 : decode (m_code mX10_hearsTimeout) 16 = .ok (.getfield 7, 3) := by decide +kernel
theorem dX10_hearsTimeout_19 : decode (m_code mX10_hearsTimeout) 19 = .ok (.iload 5, 2) := by decide +kernel
theorem dX10_hearsTimeout_21 : decode (m_code mX10_hearsTimeout) 21 = .ok (.sipush 312, 3) := by decide +kernel
theorem dX10_hearsTimeout_24 : decode (m_code mX10_hearsTimeout) 24 = .ok (.iadd, 1) := by decide +kernel
theorem dX10_hearsTimeout_25 : decode (m_code mX10_hearsTimeout) 25 = .ok (.iload_n 3, 1) := by decide +kernel
theorem dX10_hearsTimeout_26 : decode (m_code mX10_hearsTimeout) 26 = .ok (.iadd, 1) := by decide +kernel
theorem dX10_hearsTimeout_27 : decode (m_code mX10_hearsTimeout) 27 = .ok (.iaload, 1) := by decide +kernel
theorem dX10_hearsTimeout_28 : decode (m_code mX10_hearsTimeout) 28 = .ok (.iload_n 2, 1) := by decide +kernel
theorem dX10_hearsTimeout_29 : decode (m_code mX10_hearsTimeout) 29 = .ok (.invokevirtual 79, 3) := by decide +kernel
theorem dX10_hearsTimeout_32 : decode (m_code mX10_hearsTimeout) 32 = .ok (.ifCond .eq 4, 3) := by decide +kernel
theorem dX10_hearsTimeout_35 : decode (m_code mX10_hearsTimeout) 35 = .ok (.return_, 1) := by decide +kernel
theorem dX10_hearsTimeout_36 : decode (m_code mX10_hearsTimeout) 36 = .ok (.aload_n 0, 1) := by decide +kernel
theorem dX10_hearsTimeout_37 : decode (m_code mX10_hearsTimeout) 37 = .ok (.getfield 7, 3) := by decide +kernel
theorem dX10_hearsTimeout_40 : decode (m_code mX10_hearsTimeout) 40 = .ok (.iload 5, 2) := by decide +kernel
theorem dX10_hearsTimeout_42 : decode (m_code mX10_hearsTimeout) 42 = .ok (.sipush 312, 3) := by decide +kernel
theorem dX10_hearsTimeout_45 : decode (m_code mX10_hearsTimeout) 45 = .ok (.iadd, 1) := by decide +kernel
theorem dX10_hearsTimeout_46 : decode (m_code mX10_hearsTimeout) 46 = .ok (.iload_n 3, 1) := by decide +kernel
theorem dX10_hearsTimeout_47 : decode (m_code mX10_hearsTimeout) 47 = .ok (.iadd, 1) := by decide +kernel
theorem dX10_hearsTimeout_48 : decode (m_code mX10_hearsTimeout) 48 = .ok (.aload_n 0, 1) := by decide +kernel
theorem dX10_hearsTimeout_49 : decode (m_code mX10_hearsTimeout) 49 = .ok (.getfield 7, 3) := by decide +kernel
theorem dX10_hearsTimeout_52 : decode (m_code mX10_hearsTimeout) 52 = .ok (.iload 5, 2) := by decide +kernel
theorem dX10_hearsTimeout_54 : decode (m_code mX10_hearsTimeout) 54 = .ok (.sipush 312, 3) := by decide +kernel
theorem dX10_hearsTimeout_57 : decode (m_code mX10_hearsTimeout) 57 = .ok (.iadd, 1) := by decide +kernel
theorem dX10_hearsTimeout_58 : decode (m_code mX10_hearsTimeout) 58 = .ok (.iload_n 3, 1) := by decide +kernel
theorem dX10_hearsTimeout_59 : decode (m_code mX10_hearsTimeout) 59 = .ok (.iadd, 1) := by decide +kernel
theorem dX10_hearsTimeout_60 : decode (m_code mX10_hearsTimeout) 60 = .ok (.iaload, 1) := by decide +kernel
theorem dX10_hearsTimeout_61 : decode (m_code mX10_hearsTimeout) 61 = .ok (.iconst 1, 1) := by decide +kernel
theorem dX10_hearsTimeout_62 : decode (m_code mX10_hearsTimeout) 62 = .ok (.iload_n 2, 1) := by decide +kernel
theorem dX10_hearsTimeout_63 : decode (m_code mX10_hearsTimeout) 63 = .ok (.ishl, 1) := by decide +kernel
theorem dX10_hearsTimeout_64 : decode (m_code mX10_hearsTimeout) 64 = .ok (.ior, 1) := by decide +kernel
theorem dX10_hearsTimeout_65 : decode (m_code mX10_hearsTimeout) 65 = .ok (.iastore, 1) := by decide +kernel
theorem dX10_hearsTimeout_66 : decode (m_code mX10_hearsTimeout) 66 = .ok (.aload_n 0, 1) := by decide +kernel
theorem dX10_hearsTimeout_67 : decode (m_code mX10_hearsTimeout) 67 = .ok (.aload_n 0, 1) := by decide +kernel
theorem dX10_hearsTimeout_68 : decode (m_code mX10_hearsTimeout) 68 = .ok (.getfield 7, 3) := by decide +kernel
theorem dX10_hearsTimeout_71 : decode (m_code mX10_hearsTimeout) 71 = .ok (.iload 5, 2) := by decide +kernel
theorem dX10_hearsTimeout_73 : decode (m_code mX10_hearsTimeout) 73 = .ok (.sipush 312, 3) := by decide +kernel
theorem dX10_hearsTimeout_76 : decode (m_code mX10_hearsTimeout) 76 = .ok (.iadd, 1) := by decide +kernel
theorem dX10_hearsTimeout_77 : decode (m_code mX10_hearsTimeout) 77 = .ok (.iload_n 3, 1) := by decide +kernel
theorem dX10_hearsTimeout_78 : decode (m_code mX10_hearsTimeout) 78 = .ok (.iadd, 1) := by decide +kernel
theorem dX10_hearsTimeout_79 : decode (m_code mX10_hearsTimeout) 79 = .ok (.iaload, 1) := by decide +kernel
theorem dX10_hearsTimeout_80 : decode (m_code mX10_hearsTimeout) 80 = .ok (.invokevirtual 131, 3) := by decide +kernel
theorem dX10_hearsTimeout_83 : decode (m_code mX10_hearsTimeout) 83 = .ok (.aload_n 0, 1) := by decide +kernel
theorem dX10_hearsTimeout_84 : decode (m_code mX10_hearsTimeout) 84 = .ok (.invokevirtual 134, 3) := by decide +kernel
theorem dX10_hearsTimeout_87 : decode (m_code mX10_hearsTimeout) 87 = .ok (.if_icmp .ne 9, 3) := by decide +kernel
theorem dX10_hearsTimeout_90 : decode (m_code mX10_hearsTimeout) 90 = .ok (.aload_n 0, 1) := by decide +kernel
theorem dX10_hearsTimeout_91 : decode (m_code mX10_hearsTimeout) 91 = .ok (.iload_n 1, 1) := by decide +kernel
theorem dX10_hearsTimeout_92 : decode (m_code mX10_hearsTimeout) 92 = .ok (.iload_n 3, 1) := by decide +kernel
theorem dX10_hearsTimeout_93 : decode (m_code mX10_hearsTimeout) 93 = .ok (.invokevirtual 137, 3) := by decide +kernel
theorem dX10_hearsTimeout_96 : decode (m_code mX10_hearsTimeout) 96 = .ok (.return_, 1) := by decide +kernel
theorem dX10_isDelivered_0 : decode (m_code mX10_isDelivered) 0 = .ok (.aload_n 0, 1) := by decide +kernel
theorem dX10_isDelivered_1 : decode (m_code mX10_isDelivered) 1 = .ok (.getfield 7, 3) := by decide +kernel
theorem dX10_isDelivered_4 : decode (m_code mX10_isDelivered) 4 = .ok (.bipush 6, 2) := by decide +kernel
theorem dX10_isDelivered_6 : decode (m_code mX10_isDelivered) 6 = .ok (.aload_n 0, 1) := by decide +kernel
theorem dX10_isDelivered_7 : decode (m_code mX10_isDelivered) 7 = .ok (.getfield 7, 3) := by decide +kernel
theorem dX10_isDelivered_10 : decode (m_code mX10_isDelivered) 10 = .ok (.bipush 6, 2) := by decide +kernel
theorem dX10_isDelivered_12 : decode (m_code mX10_isDelivered) 12 = .ok (.iaload, 1) := by decide +kernel
theorem dX10_isDelivered_13 : decode (m_code mX10_isDelivered) 13 = .ok (.iconst 1, 1) := by decide +kernel
theorem dX10_isDelivered_14 : decode (m_code mX10_isDelivered) 14 = .ok (.iadd, 1) := by decide +kernel
theorem dX10_isDelivered_15 : decode (m_code mX10_isDelivered) 15 = .ok (.iastore, 1) := by decide +kernel
theorem dX10_isDelivered_16 : decode (m_code mX10_isDelivered) 16 = .ok (.aload_n 0, 1) := by decide +kernel
theorem dX10_isDelivered_17 : decode (m_code mX10_isDelivered) 17 = .ok (.getfield 16, 3) := by decide +kernel
theorem dX10_isDelivered_20 : decode (m_code mX10_isDelivered) 20 = .ok (.iconst 1, 1) := by decide +kernel
theorem dX10_isDelivered_21 : decode (m_code mX10_isDelivered) 21 = .ok (.iaload, 1) := by decide +kernel
theorem dX10_isDelivered_22 : decode (m_code mX10_isDelivered) 22 = .ok (.istore_n 1, 1) := by decide +kernel
theorem dX10_isDelivered_23 : decode (m_code mX10_isDelivered) 23 = .ok (.aload_n 0, 1) := by decide +kernel
theorem dX10_isDelivered_24 : decode (m_code mX10_isDelivered) 24 = .ok (.iload_n 1, 1) := by decide +kernel
theorem dX10_isDelivered_25 : decode (m_code mX10_isDelivered) 25 = .ok (.invokevirtual 140, 3) := by decide +kernel
theorem dX10_isDelivered_28 : decode (m_code mX10_isDelivered) 28 = .ok (.ifCond .eq 4, 3) := by decide +kernel
theorem dX10_isDelivered_31 : decode (m_code mX10_isDelivered) 31 = .ok (.return_, 1) := by decide +kernel
theorem dX10_isDelivered_32 : decode (m_code mX10_isDelivered) 32 = .ok (.aload_n 0, 1) := by decide +kernel
theorem dX10_isDelivered_33 : decode (m_code mX10_isDelivered) 33 = .ok (.getfield 16, 3) := by decide +kernel
theorem dX10_isDelivered_36 : decode (m_code mX10_isDelivered) 36 = .ok (.iconst 2, 1) := by decide +kernel
theorem dX10_isDelivered_37 : decode (m_code mX10_isDelivered) 37 = .ok (.iaload, 1) := by decide +kernel
theorem dX10_isDelivered_38 : decode (m_code mX10_isDelivered) 38 = .ok (.iconst 1, 1) := by decide +kernel
theorem dX10_isDelivered_39 : decode (m_code mX10_isDelivered) 39 = .ok (.if_icmp .ne 14, 3) := by decide +kernel
theorem dX10_isDelivered_42 : decode (m_code mX10_isDelivered) 42 = .ok (.aload_n 0, 1) := by decide +kernel
theorem dX10_isDelivered_43 : decode (m_code mX10_isDelivered) 43 = .ok (.iload_n 1, 1) := by decide +kernel
theorem dX10_isDelivered_44 : decode (m_code mX10_isDelivered) 44 = .ok (.aload_n 0, 1) := by decide +kernel
theorem dX10_isDelivered_45 : decode (m_code mX10_isDelivered) 45 = .ok (.getfield 16, 3) := by decide +kernel
theorem dX10_isDelivered_48 : decode (m_code mX10_isDelivered) 48 = .ok (.iconst 3, 1) := by decide +kernel
theorem dX10_isDelivered_49 : decode (m_code mX10_isDelivered) 49 = .ok (.iaload, 1) := by decide +kernel
theorem dX10_isDelivered_50 : decode (m_code mX10_isDelivered) 50 = .ok (.invokevirtual 143, 3) := by decide +kernel
theorem dX10_isDelivered_53 : decode (m_code mX10_isDelivered) 53 = .ok (.aload_n 0, 1) := by decide +kernel
theorem dX10_isDelivered_54 : decode (m_code mX10_isDelivered) 54 = .ok (.getfield 16, 3) := by decide +kernel
theorem dX10_isDelivered_57 : decode (m_code mX10_isDelivered) 57 = .ok (.iconst 2, 1) := by decide +kernel
theorem dX10_isDelivered_58 : decode (m_code mX10_isDelivered) 58 = .ok (.iaload, 1) := by decide +kernel
theorem dX10_isDelivered_59 : decode (m_code mX10_isDelivered) 59 = .ok (.iconst 2, 1) := by decide +kernel
theorem dX10_isDelivered_60 : decode (m_code mX10_isDelivered) 60 = .ok (.if_icmp .ne 20, 3) := by decide +kernel
theorem dX10_isDelivered_63 : decode (m_code mX10_isDelivered) 63 = .ok (.aload_n 0, 1) := by decide +kernel
theorem dX10_isDelivered_64 : decode (m_code mX10_isDelivered) 64 = .ok (.iload_n 1, 1) := by decide +kernel
theorem dX10_isDelivered_65 : decode (m_code mX10_isDelivered) 65 = .ok (.aload_n 0, 1) := by decide +kernel
theorem dX10_isDelivered_66 : decode (m_code mX10_isDelivered) 66 = .ok (.getfield 16, 3) := by decide +kernel
theorem dX10_isDelivered_69 : decode (m_code mX10_isDelivered) 69 = .ok (.iconst 0, 1) := by decide +kernel
theorem dX10_isDelivered_70 : decode (m_code mX10_isDelivered) 70 = .ok (.iaload, 1) := by decide +kernel
theorem dX10_isDelivered_71 : decode (m_code mX10_isDelivered) 71 = .ok (.aload_n 0, 1) := by decide +kernel
theorem dX10_isDelivered_72 : decode (m_code mX10_isDelivered) 72 = .ok (.getfield 16, 3) := by decide +kernel
theorem dX10_isDelivered_75 : decode (m_code mX10_isDelivered) 75 = .ok (.iconst 3, 1) := by decide +kernel
theorem dX10_isDelivered_76 : decode (m_code mX10_isDelivered) 76 = .ok (.iaload, 1) := by decide +kernel
theorem dX10_isDelivered_77 : decode (m_code mX10_isDelivered) 77 = .ok (.invokevirtual 146, 3) := by decide +kernel
theorem dX10_isDelivered_80 : decode (m_code mX10_isDelivered) 80 = .ok (.aload_n 0, 1) := by decide +kernel
theorem dX10_isDelivered_81 : decode (m_code mX10_isDelivered) 81 = .ok (.getfield 16, 3) := by decide +kernel
theorem dX10_isDelivered_84 : decode (m_code mX10_isDelivered) 84 = .ok (.iconst 2, 1) := by decide +kernel
theorem dX10_isDelivered_85 : decode (m_code mX10_isDelivered) 85 = .ok (.iaload, 1) := by decide +kernel
theorem dX10_isDelivered_86 : decode (m_code mX10_isDelivered) 86 = .ok (.iconst 3, 1) := by decide +kernel
theorem dX10_isDelivered_87 : decode (m_code mX10_isDelivered) 87 = .ok (.if_icmp .ne 28, 3) := by decide +kernel
theorem dX10_isDelivered_90 : decode (m_code mX10_isDelivered) 90 = .ok (.aload_n 0, 1) := by decide +kernel
theorem dX10_isDelivered_91 : decode (m_code mX10_isDelivered) 91 = .ok (.iload_n 1, 1) := by decide +kernel
theorem dX10_isDelivered_92 : decode (m_code mX10_isDelivered) 92 = .ok (.aload_n 0, 1) := by decide +kernel
theorem dX10_isDelivered_93 : decode (m_code mX10_isDelivered) 93 = .ok (.getfield 16, 3) := by decide +kernel
theorem dX10_isDelivered_96 : decode (m_code mX10_isDelivered) 96 = .ok (.iconst 0, 1) := by decide +kernel
theorem dX10_isDelivered_97 : decode (m_code mX10_isDelivered) 97 = .ok (.iaload, 1) := by decide +kernel
theorem dX10_isDelivered_98 : decode (m_code mX10_isDelivered) 98 = .ok (.aload_n 0, 1) := by decide +kernel
theorem dX10_isDelivered_99 : decode (m_code mX10_isDelivered) 99 = .ok (.getfield 16, 3) := by decide +kernel
theorem dX10_isDelivered_102 : decode (m_code mX10_isDelivered) 102 = .ok (.iconst 3, 1) := by decide +kernel
theorem dX10_isDelivered_103 : decode (m_code mX10_isDelivered) 103 = .ok (.iaload, 1) := by decide +kernel
theorem dX10_isDelivered_104 : decode (m_code mX10_isDelivered) 104 = .ok (.aload_n 0, 1) := by decide +kernel
theorem dX10_isDelivered_105 : decode (m_code mX10_isDelivered) 105 = .ok (.getfield 16, 3) := by decide +kernel
theorem dX10_isDelivered_108 : decode (m_code mX10_isDelivered) 108 = .ok (.iconst 4, 1) := by decide +kernel
theorem dX10_isDelivered_109 : decode (m_code mX10_isDelivered) 109 = .ok (.iaload, 1) := by decide +kernel
theorem dX10_isDelivered_110 : decode (m_code mX10_isDelivered) 110 = .ok (.iconst 1, 1) := by decide +kernel
theorem dX10_isDelivered_111 : decode (m_code mX10_isDelivered) 111 = .ok (.isub, 1) := by decide +kernel
theorem dX10_isDelivered_112 : decode (m_code mX10_isDelivered) 112 = .ok (.invokevirtual 149, 3) := by decide +kernel
theorem dX10_isDelivered_115 : decode (m_code mX10_isDelivered) 115 = .ok (.return_, 1) := by decide +kernel
